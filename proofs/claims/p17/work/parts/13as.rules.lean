section
theorem d_RR_takeOperator_0 : decode y_RR_takeOperator.2.1 0 = .ok (.aload_n 0, 1) := dc9_42 (by decide +kernel)
theorem d_RR_takeOperator_1 : decode y_RR_takeOperator.2.1 1 = .ok (.getfield 40, 3) := dc9_180 (by decide +kernel)
theorem d_RR_takeOperator_4 : decode y_RR_takeOperator.2.1 4 = .ok (.getfield 69, 3) := dc9_180 (by decide +kernel)
theorem d_RR_takeOperator_7 : decode y_RR_takeOperator.2.1 7 = .ok (.aload_n 0, 1) := dc9_42 (by decide +kernel)
theorem d_RR_takeOperator_8 : decode y_RR_takeOperator.2.1 8 = .ok (.getfield 48, 3) := dc9_180 (by decide +kernel)
theorem d_RR_takeOperator_11 : decode y_RR_takeOperator.2.1 11 = .ok (.iaload, 1) := dc9_46 (by decide +kernel)
theorem d_RR_takeOperator_12 : decode y_RR_takeOperator.2.1 12 = .ok (.istore_n 2, 1) := dc9_61 (by decide +kernel)
theorem d_RR_takeOperator_13 : decode y_RR_takeOperator.2.1 13 = .ok (.iload_n 2, 1) := dc9_28 (by decide +kernel)
theorem d_RR_takeOperator_14 : decode y_RR_takeOperator.2.1 14 = .ok (.invokestatic 132, 3) := dc9_184 (by decide +kernel)
theorem d_RR_takeOperator_17 : decode y_RR_takeOperator.2.1 17 = .ok (.istore_n 3, 1) := dc9_62 (by decide +kernel)
theorem d_RR_takeOperator_18 : decode y_RR_takeOperator.2.1 18 = .ok (.iload_n 3, 1) := dc9_29 (by decide +kernel)
theorem d_RR_takeOperator_19 : decode y_RR_takeOperator.2.1 19 = .ok (.iconst 4, 1) := dc9_7 (by decide +kernel)
theorem d_RR_takeOperator_20 : decode y_RR_takeOperator.2.1 20 = .ok (.if_icmp .ne 9, 3) := dc9_160 (by decide +kernel)
theorem d_RR_takeOperator_23 : decode y_RR_takeOperator.2.1 23 = .ok (.iload_n 3, 1) := dc9_29 (by decide +kernel)
theorem d_RR_takeOperator_24 : decode y_RR_takeOperator.2.1 24 = .ok (.iconst 1, 1) := dc9_4 (by decide +kernel)
theorem d_RR_takeOperator_25 : decode y_RR_takeOperator.2.1 25 = .ok (.iadd, 1) := dc9_96 (by decide +kernel)
theorem d_RR_takeOperator_26 : decode y_RR_takeOperator.2.1 26 = .ok (.goto 8, 3) := dc9_167 (by decide +kernel)
theorem d_RR_takeOperator_29 : decode y_RR_takeOperator.2.1 29 = .ok (.iload_n 3, 1) := dc9_29 (by decide +kernel)
theorem d_RR_takeOperator_30 : decode y_RR_takeOperator.2.1 30 = .ok (.iconst 1, 1) := dc9_4 (by decide +kernel)
theorem d_RR_takeOperator_31 : decode y_RR_takeOperator.2.1 31 = .ok (.invokestatic 148, 3) := dc9_184 (by decide +kernel)
theorem d_RR_takeOperator_34 : decode y_RR_takeOperator.2.1 34 = .ok (.istore 4, 2) := dc9_54 (by decide +kernel)
theorem d_RR_takeOperator_36 : decode y_RR_takeOperator.2.1 36 = .ok (.aload_n 0, 1) := dc9_42 (by decide +kernel)
theorem d_RR_takeOperator_37 : decode y_RR_takeOperator.2.1 37 = .ok (.getfield 87, 3) := dc9_180 (by decide +kernel)
theorem d_RR_takeOperator_40 : decode y_RR_takeOperator.2.1 40 = .ok (.ifCond .le 39, 3) := dc9_158 (by decide +kernel)
theorem d_RR_takeOperator_43 : decode y_RR_takeOperator.2.1 43 = .ok (.aload_n 0, 1) := dc9_42 (by decide +kernel)
theorem d_RR_takeOperator_44 : decode y_RR_takeOperator.2.1 44 = .ok (.getfield 11, 3) := dc9_180 (by decide +kernel)
theorem d_RR_takeOperator_47 : decode y_RR_takeOperator.2.1 47 = .ok (.aload_n 0, 1) := dc9_42 (by decide +kernel)
theorem d_RR_takeOperator_48 : decode y_RR_takeOperator.2.1 48 = .ok (.getfield 87, 3) := dc9_180 (by decide +kernel)
theorem d_RR_takeOperator_51 : decode y_RR_takeOperator.2.1 51 = .ok (.iconst 1, 1) := dc9_4 (by decide +kernel)
theorem d_RR_takeOperator_52 : decode y_RR_takeOperator.2.1 52 = .ok (.isub, 1) := dc9_100 (by decide +kernel)
theorem d_RR_takeOperator_53 : decode y_RR_takeOperator.2.1 53 = .ok (.iaload, 1) := dc9_46 (by decide +kernel)
theorem d_RR_takeOperator_79 : decode y_RR_takeOperator.2.1 79 = .ok (.iload_n 3, 1) := dc9_29 (by decide +kernel)
theorem d_RR_takeOperator_80 : decode y_RR_takeOperator.2.1 80 = .ok (.ifCond .le 10, 3) := dc9_158 (by decide +kernel)
theorem d_RR_takeOperator_90 : decode y_RR_takeOperator.2.1 90 = .ok (.iload_n 2, 1) := dc9_28 (by decide +kernel)
theorem d_RR_takeOperator_91 : decode y_RR_takeOperator.2.1 91 = .ok (.bipush 33, 2) := dc9_16 (by decide +kernel)
theorem d_RR_takeOperator_83 : decode y_RR_takeOperator.2.1 83 = .ok (.aload_n 0, 1) := dc9_42 (by decide +kernel)
theorem d_RR_takeOperator_84 : decode y_RR_takeOperator.2.1 84 = .ok (.iload_n 2, 1) := dc9_28 (by decide +kernel)
theorem d_RR_takeOperator_85 : decode y_RR_takeOperator.2.1 85 = .ok (.iload_n 3, 1) := dc9_29 (by decide +kernel)
theorem d_RR_takeOperator_93 : decode y_RR_takeOperator.2.1 93 = .ok (.if_icmp .ne 19, 3) := dc9_160 (by decide +kernel)
theorem d_RR_takeOperator_96 : decode y_RR_takeOperator.2.1 96 = .ok (.aload_n 0, 1) := dc9_42 (by decide +kernel)
theorem d_RR_takeOperator_97 : decode y_RR_takeOperator.2.1 97 = .ok (.getfield 87, 3) := dc9_180 (by decide +kernel)
theorem d_RR_takeOperator_100 : decode y_RR_takeOperator.2.1 100 = .ok (.ifCond .gt 7, 3) := dc9_157 (by decide +kernel)
theorem d_RR_takeOperator_103 : decode y_RR_takeOperator.2.1 103 = .ok (.iload_n 1, 1) := dc9_27 (by decide +kernel)
theorem d_RR_takeOperator_104 : decode y_RR_takeOperator.2.1 104 = .ok (.ifCond .eq 8, 3) := dc9_153 (by decide +kernel)
theorem d_RR_takeOperator_107 : decode y_RR_takeOperator.2.1 107 = .ok (.aload_n 0, 1) := dc9_42 (by decide +kernel)
theorem d_RR_takeOperator_108 : decode y_RR_takeOperator.2.1 108 = .ok (.invokevirtual 156, 3) := dc9_182 (by decide +kernel)
theorem d_RR_takeOperator_111 : decode y_RR_takeOperator.2.1 111 = .ok (.ireturn, 1) := dc9_172 (by decide +kernel)
theorem d_RR_takeOperator_86 : decode y_RR_takeOperator.2.1 86 = .ok (.invokevirtual 153, 3) := dc9_182 (by decide +kernel)
theorem d_RR_takeOperator_89 : decode y_RR_takeOperator.2.1 89 = .ok (.ireturn, 1) := dc9_172 (by decide +kernel)
theorem d_RR_takeOperator_54 : decode y_RR_takeOperator.2.1 54 = .ok (.invokestatic 132, 3) := dc9_184 (by decide +kernel)
theorem d_RR_takeOperator_57 : decode y_RR_takeOperator.2.1 57 = .ok (.iload 4, 2) := dc9_21 (by decide +kernel)
theorem d_RR_takeOperator_59 : decode y_RR_takeOperator.2.1 59 = .ok (.if_icmp .lt 20, 3) := dc9_161 (by decide +kernel)
theorem d_RR_takeOperator_62 : decode y_RR_takeOperator.2.1 62 = .ok (.aload_n 0, 1) := dc9_42 (by decide +kernel)
theorem d_RR_takeOperator_63 : decode y_RR_takeOperator.2.1 63 = .ok (.dup, 1) := dc9_89 (by decide +kernel)
theorem d_RR_takeOperator_64 : decode y_RR_takeOperator.2.1 64 = .ok (.getfield 87, 3) := dc9_180 (by decide +kernel)
theorem d_RR_takeOperator_67 : decode y_RR_takeOperator.2.1 67 = .ok (.iconst 1, 1) := dc9_4 (by decide +kernel)
theorem d_RR_takeOperator_68 : decode y_RR_takeOperator.2.1 68 = .ok (.isub, 1) := dc9_100 (by decide +kernel)
theorem d_RR_takeOperator_69 : decode y_RR_takeOperator.2.1 69 = .ok (.putfield 87, 3) := dc9_181 (by decide +kernel)
theorem d_RR_takeOperator_72 : decode y_RR_takeOperator.2.1 72 = .ok (.aload_n 0, 1) := dc9_42 (by decide +kernel)
theorem d_RR_takeOperator_73 : decode y_RR_takeOperator.2.1 73 = .ok (.invokevirtual 107, 3) := dc9_182 (by decide +kernel)
theorem d_RR_takeOperator_76 : decode y_RR_takeOperator.2.1 76 = .ok (.goto (-40), 3) := dc9_167 (by decide +kernel)
theorem d_RR_takeOperator_112 : decode y_RR_takeOperator.2.1 112 = .ok (.aload_n 0, 1) := dc9_42 (by decide +kernel)
theorem d_RR_takeOperator_113 : decode y_RR_takeOperator.2.1 113 = .ok (.getfield 87, 3) := dc9_180 (by decide +kernel)
theorem d_RR_takeOperator_116 : decode y_RR_takeOperator.2.1 116 = .ok (.ifCond .le 36, 3) := dc9_158 (by decide +kernel)
theorem d_RR_takeOperator_119 : decode y_RR_takeOperator.2.1 119 = .ok (.aload_n 0, 1) := dc9_42 (by decide +kernel)
theorem d_RR_takeOperator_120 : decode y_RR_takeOperator.2.1 120 = .ok (.getfield 11, 3) := dc9_180 (by decide +kernel)
theorem d_RR_takeOperator_123 : decode y_RR_takeOperator.2.1 123 = .ok (.aload_n 0, 1) := dc9_42 (by decide +kernel)
theorem d_RR_takeOperator_124 : decode y_RR_takeOperator.2.1 124 = .ok (.getfield 87, 3) := dc9_180 (by decide +kernel)
theorem d_RR_takeOperator_127 : decode y_RR_takeOperator.2.1 127 = .ok (.iconst 1, 1) := dc9_4 (by decide +kernel)
theorem d_RR_takeOperator_128 : decode y_RR_takeOperator.2.1 128 = .ok (.isub, 1) := dc9_100 (by decide +kernel)
theorem d_RR_takeOperator_129 : decode y_RR_takeOperator.2.1 129 = .ok (.iaload, 1) := dc9_46 (by decide +kernel)
theorem d_RR_takeOperator_130 : decode y_RR_takeOperator.2.1 130 = .ok (.bipush 42, 2) := dc9_16 (by decide +kernel)
theorem d_RR_takeOperator_132 : decode y_RR_takeOperator.2.1 132 = .ok (.if_icmp .ne 20, 3) := dc9_160 (by decide +kernel)
theorem d_RR_takeOperator_135 : decode y_RR_takeOperator.2.1 135 = .ok (.aload_n 0, 1) := dc9_42 (by decide +kernel)
theorem d_RR_takeOperator_136 : decode y_RR_takeOperator.2.1 136 = .ok (.dup, 1) := dc9_89 (by decide +kernel)
theorem d_RR_takeOperator_137 : decode y_RR_takeOperator.2.1 137 = .ok (.getfield 87, 3) := dc9_180 (by decide +kernel)
theorem d_RR_takeOperator_140 : decode y_RR_takeOperator.2.1 140 = .ok (.iconst 1, 1) := dc9_4 (by decide +kernel)
theorem d_RR_takeOperator_141 : decode y_RR_takeOperator.2.1 141 = .ok (.isub, 1) := dc9_100 (by decide +kernel)
theorem d_RR_takeOperator_142 : decode y_RR_takeOperator.2.1 142 = .ok (.putfield 87, 3) := dc9_181 (by decide +kernel)
theorem d_RR_takeOperator_145 : decode y_RR_takeOperator.2.1 145 = .ok (.aload_n 0, 1) := dc9_42 (by decide +kernel)
theorem d_RR_takeOperator_152 : decode y_RR_takeOperator.2.1 152 = .ok (.aload_n 0, 1) := dc9_42 (by decide +kernel)
theorem d_RR_takeOperator_153 : decode y_RR_takeOperator.2.1 153 = .ok (.getfield 87, 3) := dc9_180 (by decide +kernel)
theorem d_RR_takeOperator_156 : decode y_RR_takeOperator.2.1 156 = .ok (.ifCond .ne 7, 3) := dc9_154 (by decide +kernel)
theorem d_RR_takeOperator_159 : decode y_RR_takeOperator.2.1 159 = .ok (.iconst 1, 1) := dc9_4 (by decide +kernel)
theorem d_RR_takeOperator_160 : decode y_RR_takeOperator.2.1 160 = .ok (.goto 14, 3) := dc9_167 (by decide +kernel)
theorem d_RR_takeOperator_163 : decode y_RR_takeOperator.2.1 163 = .ok (.aload_n 0, 1) := dc9_42 (by decide +kernel)
theorem d_RR_takeOperator_164 : decode y_RR_takeOperator.2.1 164 = .ok (.iload_n 2, 1) := dc9_28 (by decide +kernel)
theorem d_RR_takeOperator_165 : decode y_RR_takeOperator.2.1 165 = .ok (.aload_n 0, 1) := dc9_42 (by decide +kernel)
theorem d_RR_takeOperator_166 : decode y_RR_takeOperator.2.1 166 = .ok (.getfield 87, 3) := dc9_180 (by decide +kernel)
theorem d_RR_takeOperator_169 : decode y_RR_takeOperator.2.1 169 = .ok (.iconst 1, 1) := dc9_4 (by decide +kernel)
theorem d_RR_takeOperator_170 : decode y_RR_takeOperator.2.1 170 = .ok (.isub, 1) := dc9_100 (by decide +kernel)
theorem d_RR_takeOperator_174 : decode y_RR_takeOperator.2.1 174 = .ok (.ireturn, 1) := dc9_172 (by decide +kernel)
theorem d_RR_takeOperator_171 : decode y_RR_takeOperator.2.1 171 = .ok (.invokevirtual 159, 3) := dc9_182 (by decide +kernel)
theorem d_RR_takeOperator_146 : decode y_RR_takeOperator.2.1 146 = .ok (.invokevirtual 107, 3) := dc9_182 (by decide +kernel)
theorem d_RR_takeOperator_149 : decode y_RR_takeOperator.2.1 149 = .ok (.goto (-37), 3) := dc9_167 (by decide +kernel)
def h_RR_takeOperator_36 (G : mG) (d : Nat) (a0 : Nat) (l1 : Int) (l2 : Int) (l3 : Int) (l4 : Int) (M : mM) (Q : Int → mM → Prop) : Prop := mWm G y_RR_takeOperator (d + 1) 36 [vr a0, vi l1, vi l2, vi l3, vi l4] [] M (fun r9 M9 => ∃ x9, r9 = some (vi x9) ∧ Q x9 M9)
def h_RR_takeOperator_112 (G : mG) (d : Nat) (a0 : Nat) (l2 : Int) (M : mM) (Q : Int → mM → Prop) : Prop := mWm G y_RR_takeOperator (d + 1) 112 [vr a0, vd, vi l2, vd, vd] [] M (fun r9 M9 => ∃ x9, r9 = some (vi x9) ∧ Q x9 M9)
theorem k_RR_takeOperator {G : mG} {d : Nat} {a0 : Nat} {l1 : Int} {M : mM} {Q : Int → mM → Prop} (hO : mOk M) (hi_l1 : i32 l1)
    (h : mK M a0 = 4 ∧ mK M (mR M a0 0) = 2 ∧ mK M (mR M (mR M a0 0) 3) = 30 ∧ ((0 : Int) ≤ mI M a0 2 ∧ mI M a0 2 < (mN M (mR M (mR M a0 0) 3) : Int)) ∧ Ci G y_RR_level d [vi (mI M (mR M (mR M a0 0) 3) (Int.toNat (mI M a0 2)))] M (fun x6 M5 => i32 x6 ∧ mOk M5 ∧ (∀ v9 : Int, v9 = (if (x6 = 4) then x6 + 1 else (if x6 < 1 then 1 else x6)) → h_RR_takeOperator_36 G d a0 l1 (mI M (mR M (mR M a0 0) 3) (Int.toNat (mI M a0 2))) x6 v9 M5 Q))) :
    Ci G y_RR_takeOperator (d + 1) [vr a0, vi l1] M Q := by
  refine wm_open (y := y_RR_takeOperator) rfl (Nat.le_of_ble_eq_true rfl) (L := [vr a0, vi l1, vd, vd, vd]) rfl ?_
  obtain ⟨h1, h⟩ := h
  obtain ⟨h2, h⟩ := h
  obtain ⟨h3, h⟩ := h
  obtain ⟨h4, h⟩ := h
  refine wm_aload_n d_RR_takeOperator_0 rfl rfl ?_
  refine gf_RR_40 rfl d_RR_takeOperator_1 h1 ?_
  refine gf_RR_69 rfl d_RR_takeOperator_4 h2 ?_
  refine wm_aload_n d_RR_takeOperator_7 rfl rfl ?_
  refine gf_RR_48 rfl d_RR_takeOperator_8 h1 ?_
  refine wm_iald d_RR_takeOperator_11 h3 h4 ?_
  refine wm_istore_n d_RR_takeOperator_12 rfl (by decide) (L' := [vr a0, vi l1, vi (mI M (mR M (mR M a0 0) 3) (Int.toNat (mI M a0 2))), vd, vd]) rfl ?_
  refine wm_iload_n d_RR_takeOperator_13 rfl rfl ?_
  refine cf_RR_132 rfl d_RR_takeOperator_14 (Nat.le_of_ble_eq_true rfl) (Ci.mono h (fun x6 M5 h => ?_))
  obtain ⟨h7, hOM5, h⟩ := h
  refine wm_istore_n d_RR_takeOperator_17 rfl (by decide) (L' := [vr a0, vi l1, vi (mI M (mR M (mR M a0 0) 3) (Int.toNat (mI M a0 2))), vi x6, vd]) rfl ?_
  refine wm_iload_n d_RR_takeOperator_18 rfl rfl ?_
  refine wm_iconst d_RR_takeOperator_19 ?_
  have hJ : ∀ v9 : Int, v9 = (if (x6 = 4) then x6 + 1 else (if x6 < 1 then 1 else x6)) → mWm G y_RR_takeOperator (d + 1) 34 [vr a0, vi l1, vi (mI M (mR M (mR M a0 0) 3) (Int.toNat (mI M a0 2))), vi x6, vd] [vi v9] M5 (fun r9 M9 => ∃ x9, r9 = some (vi x9) ∧ Q x9 M9) := by
    intro v9 e11
    have h := h v9 e11
    refine wm_istore d_RR_takeOperator_34 (by decide) (L' := [vr a0, vi l1, vi (mI M (mR M (mR M a0 0) 3) (Int.toNat (mI M a0 2))), vi x6, vi v9]) rfl ?_
    exact h
  clear h
  refine wm_icmp_ne (tgt := 29) d_RR_takeOperator_20 rfl h7 ⟨by decide, by decide⟩ (fun c8 => ?_) (fun c8 => ?_)
  · refine wm_iload_n d_RR_takeOperator_29 rfl rfl ?_
    refine wm_iconst d_RR_takeOperator_30 ?_
    refine wm_mmax k4_219 (Nat.le_of_ble_eq_true rfl) h7 ⟨by decide, by decide⟩ d_RR_takeOperator_31 ?_
    exact hJ (if x6 < 1 then 1 else x6) (if_neg c8).symm
  · replace c8 := Classical.not_not.mp c8
    refine wm_iload_n d_RR_takeOperator_23 rfl rfl ?_
    refine wm_iconst d_RR_takeOperator_24 ?_
    refine wm_iadd d_RR_takeOperator_25 ?_
    refine wm_goto (tgt := 34) d_RR_takeOperator_26 rfl ?_
    exact hJ (x6 + 1) (if_pos c8).symm
theorem k_RR_takeOperator_36 {G : mG} {d : Nat} {a0 : Nat} {l1 : Int} {l2 : Int} {l3 : Int} {l4 : Int} {M : mM} {Q : Int → mM → Prop} (hO : mOk M) (hi_l1 : i32 l1) (hi_l2 : i32 l2) (hi_l3 : i32 l3) (hi_l4 : i32 l4)
    (h : mK M a0 = 4 ∧ ((mI M a0 12 ≤ 0) → (((l3 ≤ 0) → ((((l2 = 33) ∧ ((0 < mI M a0 12) ∨ (¬ (l1 = 0)))) → (Ci G y_RR_takeAsk d [vr a0] M (fun x27 M26 => i32 x27 ∧ mOk M26 ∧ (Q x27 M26)))) ∧ (¬ ((l2 = 33) ∧ ((0 < mI M a0 12) ∨ (¬ (l1 = 0)))) → (h_RR_takeOperator_112 G d a0 l2 M Q)))) ∧ (¬ (l3 ≤ 0) → (Ci G y_RR_takeSign d [vr a0, vi l2, vi l3] M (fun x35 M34 => i32 x35 ∧ mOk M34 ∧ (Q x35 M34)))))) ∧ (¬ (mI M a0 12 ≤ 0) → (mK M (mR M a0 8) = 30 ∧ ((0 : Int) ≤ (mI M a0 12) - 1 ∧ (mI M a0 12) - 1 < (mN M (mR M a0 8) : Int)) ∧ Ci G y_RR_level d [vi (mI M (mR M a0 8) (Int.toNat ((mI M a0 12) - 1)))] M (fun x40 M39 => i32 x40 ∧ mOk M39 ∧ (((x40 < l4) → (((l3 ≤ 0) → (((l2 = 33) → mK M39 a0 = 4) ∧ (((l2 = 33) ∧ ((0 < mI M39 a0 12) ∨ (¬ (l1 = 0)))) → (mK M39 a0 = 4 ∧ Ci G y_RR_takeAsk d [vr a0] M39 (fun x58 M57 => i32 x58 ∧ mOk M57 ∧ (Q x58 M57)))) ∧ (¬ ((l2 = 33) ∧ ((0 < mI M39 a0 12) ∨ (¬ (l1 = 0)))) → (h_RR_takeOperator_112 G d a0 l2 M39 Q)))) ∧ (¬ (l3 ≤ 0) → (mK M39 a0 = 4 ∧ Ci G y_RR_takeSign d [vr a0, vi l2, vi l3] M39 (fun x68 M67 => i32 x68 ∧ mOk M67 ∧ (Q x68 M67)))))) ∧ (¬ (x40 < l4) → (mK M39 a0 = 4 ∧ i32 ((mI M39 a0 12) - 1) ∧ ∀ M72, M72 = mUI M39 a0 12 ((mI M39 a0 12) - 1) → Cv G y_RR_group d [vr a0] M72 (fun M74 => mOk M74 ∧ (h_RR_takeOperator_36 G d a0 l1 l2 l3 l4 M74 Q))))))))) :
    h_RR_takeOperator_36 G d a0 l1 l2 l3 l4 M Q := by
  unfold h_RR_takeOperator_36
  obtain ⟨h13, h⟩ := h
  refine wm_aload_n d_RR_takeOperator_36 rfl rfl ?_
  refine gf_RR_87 rfl d_RR_takeOperator_37 h13 ?_
  refine wm_if_le (tgt := 79) d_RR_takeOperator_40 rfl (hO _ _).1 (fun c15 => ?_) (fun c15 => ?_)
  · replace h := h.1 c15
    refine wm_iload_n d_RR_takeOperator_79 rfl rfl ?_
    refine wm_if_le (tgt := 90) d_RR_takeOperator_80 rfl hi_l3 (fun c20 => ?_) (fun c20 => ?_)
    · replace h := h.1 c20
      refine wm_iload_n d_RR_takeOperator_90 rfl rfl ?_
      refine wm_bipush d_RR_takeOperator_91 (by decide) ?_
      have hE0 : ((l2 = 33) ∧ ((0 < mI M a0 12) ∨ (¬ (l1 = 0)))) → mWm G y_RR_takeOperator (d + 1) 107 [vr a0, vi l1, vi l2, vi l3, vi l4] [] M (fun r9 M9 => ∃ x9, r9 = some (vi x9) ∧ Q x9 M9) := by
        intro q25
        have h := h.1 q25
        refine wm_aload_n d_RR_takeOperator_107 rfl rfl ?_
        refine cf_RR_156 rfl d_RR_takeOperator_108 h13 (Nat.le_of_ble_eq_true rfl) (Ci.mono h (fun x27 M26 h => ?_))
        obtain ⟨h28, hOM26, h⟩ := h
        refine wm_ireturn d_RR_takeOperator_111 rfl rfl ?_
        exact ⟨_, rfl, h⟩
      have hE1 : ¬ ((l2 = 33) ∧ ((0 < mI M a0 12) ∨ (¬ (l1 = 0)))) → mWm G y_RR_takeOperator (d + 1) 112 [vr a0, vi l1, vi l2, vi l3, vi l4] [] M (fun r9 M9 => ∃ x9, r9 = some (vi x9) ∧ Q x9 M9) := by
        intro q29
        have h := h.2 q29
        refine wm_less (L' := [vr a0, vd, vi l2, vd, vd]) ⟨Or.inr rfl, Or.inl rfl, Or.inr rfl, Or.inl rfl, Or.inl rfl, trivial⟩ ?_
        exact h
      clear h
      refine wm_icmp_ne (tgt := 112) d_RR_takeOperator_93 rfl hi_l2 ⟨by decide, by decide⟩ (fun c23 => ?_) (fun c23 => ?_)
      · exact hE1 (fun z33 => c23 z33.1)
      · replace c23 := Classical.not_not.mp c23
        refine wm_aload_n d_RR_takeOperator_96 rfl rfl ?_
        refine gf_RR_87 rfl d_RR_takeOperator_97 h13 ?_
        refine wm_if_gt (tgt := 107) d_RR_takeOperator_100 rfl (hO _ _).1 (fun c22 => ?_) (fun c22 => ?_)
        · exact hE0 ⟨c23, (Or.inl c22)⟩
        · refine wm_iload_n d_RR_takeOperator_103 rfl rfl ?_
          refine wm_if_eq (tgt := 112) d_RR_takeOperator_104 rfl hi_l1 (fun c21 => ?_) (fun c21 => ?_)
          · exact hE1 (fun z30 => (fun z31 => Or.elim z31 c22 (fun z32 => z32 c21)) z30.2)
          · exact hE0 ⟨c23, (Or.inr c21)⟩
    · replace h := h.2 c20
      refine wm_aload_n d_RR_takeOperator_83 rfl rfl ?_
      refine wm_iload_n d_RR_takeOperator_84 rfl rfl ?_
      refine wm_iload_n d_RR_takeOperator_85 rfl rfl ?_
      refine cf_RR_153 rfl d_RR_takeOperator_86 h13 (Nat.le_of_ble_eq_true rfl) (Ci.mono h (fun x35 M34 h => ?_))
      obtain ⟨h36, hOM34, h⟩ := h
      refine wm_ireturn d_RR_takeOperator_89 rfl rfl ?_
      exact ⟨_, rfl, h⟩
  · replace h := h.2 c15
    obtain ⟨h37, h⟩ := h
    obtain ⟨h38, h⟩ := h
    refine wm_aload_n d_RR_takeOperator_43 rfl rfl ?_
    refine gf_RR_11 rfl d_RR_takeOperator_44 h13 ?_
    refine wm_aload_n d_RR_takeOperator_47 rfl rfl ?_
    refine gf_RR_87 rfl d_RR_takeOperator_48 h13 ?_
    refine wm_iconst d_RR_takeOperator_51 ?_
    refine wm_isub d_RR_takeOperator_52 ?_
    refine wm_iald d_RR_takeOperator_53 h37 h38 ?_
    refine cf_RR_132 rfl d_RR_takeOperator_54 (Nat.le_of_ble_eq_true rfl) (Ci.mono h (fun x40 M39 h => ?_))
    obtain ⟨h41, hOM39, h⟩ := h
    refine wm_iload d_RR_takeOperator_57 rfl ?_
    refine wm_icmp_lt (tgt := 79) d_RR_takeOperator_59 rfl h41 hi_l4 (fun c43 => ?_) (fun c43 => ?_)
    · replace h := h.1 c43
      refine wm_iload_n d_RR_takeOperator_79 rfl rfl ?_
      refine wm_if_le (tgt := 90) d_RR_takeOperator_80 rfl hi_l3 (fun c49 => ?_) (fun c49 => ?_)
      · replace h := h.1 c49
        refine wm_iload_n d_RR_takeOperator_90 rfl rfl ?_
        refine wm_bipush d_RR_takeOperator_91 (by decide) ?_
        obtain ⟨s54, h⟩ := h
        have hE0 : ((l2 = 33) ∧ ((0 < mI M39 a0 12) ∨ (¬ (l1 = 0)))) → mWm G y_RR_takeOperator (d + 1) 107 [vr a0, vi l1, vi l2, vi l3, vi l4] [] M39 (fun r9 M9 => ∃ x9, r9 = some (vi x9) ∧ Q x9 M9) := by
          intro q55
          have h := h.1 q55
          obtain ⟨h56, h⟩ := h
          refine wm_aload_n d_RR_takeOperator_107 rfl rfl ?_
          refine cf_RR_156 rfl d_RR_takeOperator_108 h56 (Nat.le_of_ble_eq_true rfl) (Ci.mono h (fun x58 M57 h => ?_))
          obtain ⟨h59, hOM57, h⟩ := h
          refine wm_ireturn d_RR_takeOperator_111 rfl rfl ?_
          exact ⟨_, rfl, h⟩
        have hE1 : ¬ ((l2 = 33) ∧ ((0 < mI M39 a0 12) ∨ (¬ (l1 = 0)))) → mWm G y_RR_takeOperator (d + 1) 112 [vr a0, vi l1, vi l2, vi l3, vi l4] [] M39 (fun r9 M9 => ∃ x9, r9 = some (vi x9) ∧ Q x9 M9) := by
          intro q60
          have h := h.2 q60
          refine wm_less (L' := [vr a0, vd, vi l2, vd, vd]) ⟨Or.inr rfl, Or.inl rfl, Or.inr rfl, Or.inl rfl, Or.inl rfl, trivial⟩ ?_
          exact h
        clear h
        have s61 := s54
        refine wm_icmp_ne (tgt := 112) d_RR_takeOperator_93 rfl hi_l2 ⟨by decide, by decide⟩ (fun c53 => ?_) (fun c53 => ?_)
        · exact hE1 (fun z65 => c53 z65.1)
        · replace c53 := Classical.not_not.mp c53
          have s61 := s61 c53
          have h50 := s61
          refine wm_aload_n d_RR_takeOperator_96 rfl rfl ?_
          refine gf_RR_87 rfl d_RR_takeOperator_97 h50 ?_
          refine wm_if_gt (tgt := 107) d_RR_takeOperator_100 rfl (hOM39 _ _).1 (fun c52 => ?_) (fun c52 => ?_)
          · exact hE0 ⟨c53, (Or.inl c52)⟩
          · refine wm_iload_n d_RR_takeOperator_103 rfl rfl ?_
            refine wm_if_eq (tgt := 112) d_RR_takeOperator_104 rfl hi_l1 (fun c51 => ?_) (fun c51 => ?_)
            · exact hE1 (fun z62 => (fun z63 => Or.elim z63 c52 (fun z64 => z64 c51)) z62.2)
            · exact hE0 ⟨c53, (Or.inr c51)⟩
      · replace h := h.2 c49
        obtain ⟨h66, h⟩ := h
        refine wm_aload_n d_RR_takeOperator_83 rfl rfl ?_
        refine wm_iload_n d_RR_takeOperator_84 rfl rfl ?_
        refine wm_iload_n d_RR_takeOperator_85 rfl rfl ?_
        refine cf_RR_153 rfl d_RR_takeOperator_86 h66 (Nat.le_of_ble_eq_true rfl) (Ci.mono h (fun x68 M67 h => ?_))
        obtain ⟨h69, hOM67, h⟩ := h
        refine wm_ireturn d_RR_takeOperator_89 rfl rfl ?_
        exact ⟨_, rfl, h⟩
    · replace h := h.2 c43
      obtain ⟨h70, h⟩ := h
      obtain ⟨h71, h⟩ := h
      obtain ⟨M72, e73⟩ : ∃ M72, M72 = mUI M39 a0 12 ((mI M39 a0 12) - 1) := ⟨_, rfl⟩
      replace h := h M72 e73
      refine wm_aload_n d_RR_takeOperator_62 rfl rfl ?_
      refine wm_dup d_RR_takeOperator_63 rfl ?_
      refine gf_RR_87 rfl d_RR_takeOperator_64 h70 ?_
      refine wm_iconst d_RR_takeOperator_67 ?_
      refine wm_isub d_RR_takeOperator_68 ?_
      have hOM72 : mOk M72 := by rw [e73]; exact mOk_UI hOM39 h71
      refine pf_RR_87 rfl d_RR_takeOperator_69 h70 h71 e73 ?_
      refine wm_aload_n d_RR_takeOperator_72 rfl rfl ?_
      refine cf_RR_107 rfl d_RR_takeOperator_73 (by rw [e73]; exact h70) (Nat.le_of_ble_eq_true rfl) (Cv.mono h (fun M74 h => ?_))
      obtain ⟨hOM74, h⟩ := h
      refine wm_goto (tgt := 36) d_RR_takeOperator_76 rfl ?_
      exact h
theorem k_RR_takeOperator_112 {G : mG} {d : Nat} {a0 : Nat} {l2 : Int} {M : mM} {Q : Int → mM → Prop} (hO : mOk M) (hi_l2 : i32 l2)
    (h : mK M a0 = 4 ∧ (¬ (mI M a0 12 ≤ 0) → (mK M (mR M a0 8) = 30 ∧ ((0 : Int) ≤ (mI M a0 12) - 1 ∧ (mI M a0 12) - 1 < (mN M (mR M a0 8) : Int)))) ∧ (((mI M a0 12 ≤ 0) ∨ (¬ (mI M (mR M a0 8) (Int.toNat ((mI M a0 12) - 1)) = 42))) → (((mI M a0 12 = 0) → (Q 1 M)) ∧ (¬ (mI M a0 12 = 0) → (Ci G y_RR_closeInner d [vr a0, vi l2, vi ((mI M a0 12) - 1)] M (fun x88 M87 => i32 x88 ∧ mOk M87 ∧ (Q x88 M87)))))) ∧ (¬ ((mI M a0 12 ≤ 0) ∨ (¬ (mI M (mR M a0 8) (Int.toNat ((mI M a0 12) - 1)) = 42))) → (i32 ((mI M a0 12) - 1) ∧ ∀ M92, M92 = mUI M a0 12 ((mI M a0 12) - 1) → Cv G y_RR_group d [vr a0] M92 (fun M94 => mOk M94 ∧ (h_RR_takeOperator_112 G d a0 l2 M94 Q))))) :
    h_RR_takeOperator_112 G d a0 l2 M Q := by
  unfold h_RR_takeOperator_112
  obtain ⟨h77, h⟩ := h
  refine wm_aload_n d_RR_takeOperator_112 rfl rfl ?_
  refine gf_RR_87 rfl d_RR_takeOperator_113 h77 ?_
  obtain ⟨s82, h⟩ := h
  have hE0 : ((mI M a0 12 ≤ 0) ∨ (¬ (mI M (mR M a0 8) (Int.toNat ((mI M a0 12) - 1)) = 42))) → mWm G y_RR_takeOperator (d + 1) 152 [vr a0, vd, vi l2, vd, vd] [] M (fun r9 M9 => ∃ x9, r9 = some (vi x9) ∧ Q x9 M9) := by
    intro q83
    have h := h.1 q83
    refine wm_aload_n d_RR_takeOperator_152 rfl rfl ?_
    refine gf_RR_87 rfl d_RR_takeOperator_153 h77 ?_
    refine wm_if_ne (tgt := 163) d_RR_takeOperator_156 rfl (hO _ _).1 (fun c86 => ?_) (fun c86 => ?_)
    · replace h := h.2 c86
      refine wm_aload_n d_RR_takeOperator_163 rfl rfl ?_
      refine wm_iload_n d_RR_takeOperator_164 rfl rfl ?_
      refine wm_aload_n d_RR_takeOperator_165 rfl rfl ?_
      refine gf_RR_87 rfl d_RR_takeOperator_166 h77 ?_
      refine wm_iconst d_RR_takeOperator_169 ?_
      refine wm_isub d_RR_takeOperator_170 ?_
      refine cf_RR_159 rfl d_RR_takeOperator_171 h77 (Nat.le_of_ble_eq_true rfl) (Ci.mono h (fun x88 M87 h => ?_))
      obtain ⟨h89, hOM87, h⟩ := h
      refine wm_ireturn d_RR_takeOperator_174 rfl rfl ?_
      exact ⟨_, rfl, h⟩
    · replace c86 := Classical.not_not.mp c86
      replace h := h.1 c86
      refine wm_iconst d_RR_takeOperator_159 ?_
      refine wm_goto (tgt := 174) d_RR_takeOperator_160 rfl ?_
      refine wm_ireturn d_RR_takeOperator_174 rfl rfl ?_
      exact ⟨_, rfl, h⟩
  have hE1 : ¬ ((mI M a0 12 ≤ 0) ∨ (¬ (mI M (mR M a0 8) (Int.toNat ((mI M a0 12) - 1)) = 42))) → mWm G y_RR_takeOperator (d + 1) 135 [vr a0, vd, vi l2, vd, vd] [] M (fun r9 M9 => ∃ x9, r9 = some (vi x9) ∧ Q x9 M9) := by
    intro q90
    have h := h.2 q90
    obtain ⟨h91, h⟩ := h
    obtain ⟨M92, e93⟩ : ∃ M92, M92 = mUI M a0 12 ((mI M a0 12) - 1) := ⟨_, rfl⟩
    replace h := h M92 e93
    refine wm_aload_n d_RR_takeOperator_135 rfl rfl ?_
    refine wm_dup d_RR_takeOperator_136 rfl ?_
    refine gf_RR_87 rfl d_RR_takeOperator_137 h77 ?_
    refine wm_iconst d_RR_takeOperator_140 ?_
    refine wm_isub d_RR_takeOperator_141 ?_
    have hOM92 : mOk M92 := by rw [e93]; exact mOk_UI hO h91
    refine pf_RR_87 rfl d_RR_takeOperator_142 h77 h91 e93 ?_
    refine wm_aload_n d_RR_takeOperator_145 rfl rfl ?_
    refine cf_RR_107 rfl d_RR_takeOperator_146 (by rw [e93]; exact h77) (Nat.le_of_ble_eq_true rfl) (Cv.mono h (fun M94 h => ?_))
    obtain ⟨hOM94, h⟩ := h
    refine wm_goto (tgt := 112) d_RR_takeOperator_149 rfl ?_
    exact h
  clear h
  have s97 := s82
  refine wm_if_le (tgt := 152) d_RR_takeOperator_116 rfl (hO _ _).1 (fun c81 => ?_) (fun c81 => ?_)
  · exact hE0 (Or.inl c81)
  · have s97 := s97 c81
    obtain ⟨h78, h79⟩ := s97
    refine wm_aload_n d_RR_takeOperator_119 rfl rfl ?_
    refine gf_RR_11 rfl d_RR_takeOperator_120 h77 ?_
    refine wm_aload_n d_RR_takeOperator_123 rfl rfl ?_
    refine gf_RR_87 rfl d_RR_takeOperator_124 h77 ?_
    refine wm_iconst d_RR_takeOperator_127 ?_
    refine wm_isub d_RR_takeOperator_128 ?_
    refine wm_iald d_RR_takeOperator_129 h78 h79 ?_
    refine wm_bipush d_RR_takeOperator_130 (by decide) ?_
    refine wm_icmp_ne (tgt := 152) d_RR_takeOperator_132 rfl (hO _ _).1 ⟨by decide, by decide⟩ (fun c80 => ?_) (fun c80 => ?_)
    · exact hE0 (Or.inr c80)
    · replace c80 := Classical.not_not.mp c80
      exact hE1 (fun z98 => Or.elim z98 c81 (fun z99 => z99 c80))
theorem d_RR_takeSign_0 : decode y_RR_takeSign.2.1 0 = .ok (.iload_n 2, 1) := dc9_28 (by decide +kernel)
theorem d_RR_takeSign_1 : decode y_RR_takeSign.2.1 1 = .ok (.iconst 4, 1) := dc9_7 (by decide +kernel)
theorem d_RR_takeSign_2 : decode y_RR_takeSign.2.1 2 = .ok (.if_icmp .ne 30, 3) := dc9_160 (by decide +kernel)
theorem d_RR_takeSign_5 : decode y_RR_takeSign.2.1 5 = .ok (.aload_n 0, 1) := dc9_42 (by decide +kernel)
theorem d_RR_takeSign_6 : decode y_RR_takeSign.2.1 6 = .ok (.getfield 87, 3) := dc9_180 (by decide +kernel)
theorem d_RR_takeSign_9 : decode y_RR_takeSign.2.1 9 = .ok (.ifCond .le 23, 3) := dc9_158 (by decide +kernel)
theorem d_RR_takeSign_12 : decode y_RR_takeSign.2.1 12 = .ok (.aload_n 0, 1) := dc9_42 (by decide +kernel)
theorem d_RR_takeSign_13 : decode y_RR_takeSign.2.1 13 = .ok (.getfield 11, 3) := dc9_180 (by decide +kernel)
theorem d_RR_takeSign_16 : decode y_RR_takeSign.2.1 16 = .ok (.aload_n 0, 1) := dc9_42 (by decide +kernel)
theorem d_RR_takeSign_17 : decode y_RR_takeSign.2.1 17 = .ok (.getfield 87, 3) := dc9_180 (by decide +kernel)
theorem d_RR_takeSign_20 : decode y_RR_takeSign.2.1 20 = .ok (.iconst 1, 1) := dc9_4 (by decide +kernel)
theorem d_RR_takeSign_21 : decode y_RR_takeSign.2.1 21 = .ok (.isub, 1) := dc9_100 (by decide +kernel)
theorem d_RR_takeSign_22 : decode y_RR_takeSign.2.1 22 = .ok (.iaload, 1) := dc9_46 (by decide +kernel)
theorem d_RR_takeSign_32 : decode y_RR_takeSign.2.1 32 = .ok (.aload_n 0, 1) := dc9_42 (by decide +kernel)
theorem d_RR_takeSign_33 : decode y_RR_takeSign.2.1 33 = .ok (.iload_n 1, 1) := dc9_27 (by decide +kernel)
theorem d_RR_takeSign_34 : decode y_RR_takeSign.2.1 34 = .ok (.aload_n 0, 1) := dc9_42 (by decide +kernel)
theorem d_RR_takeSign_35 : decode y_RR_takeSign.2.1 35 = .ok (.invokevirtual 83, 3) := dc9_182 (by decide +kernel)
theorem d_RR_takeSign_38 : decode y_RR_takeSign.2.1 38 = .ok (.iload_n 1, 1) := dc9_27 (by decide +kernel)
theorem d_RR_takeSign_39 : decode y_RR_takeSign.2.1 39 = .ok (.bipush 30, 2) := dc9_16 (by decide +kernel)
theorem d_RR_takeSign_41 : decode y_RR_takeSign.2.1 41 = .ok (.if_icmp .eq 9, 3) := dc9_159 (by decide +kernel)
theorem d_RR_takeSign_50 : decode y_RR_takeSign.2.1 50 = .ok (.aload_n 0, 1) := dc9_42 (by decide +kernel)
theorem d_RR_takeSign_51 : decode y_RR_takeSign.2.1 51 = .ok (.getfield 44, 3) := dc9_180 (by decide +kernel)
theorem d_RR_takeSign_54 : decode y_RR_takeSign.2.1 54 = .ok (.iload_n 1, 1) := dc9_27 (by decide +kernel)
theorem d_RR_takeSign_55 : decode y_RR_takeSign.2.1 55 = .ok (.iconst 0, 1) := dc9_3 (by decide +kernel)
theorem d_RR_takeSign_44 : decode y_RR_takeSign.2.1 44 = .ok (.iload_n 1, 1) := dc9_27 (by decide +kernel)
theorem d_RR_takeSign_45 : decode y_RR_takeSign.2.1 45 = .ok (.bipush 31, 2) := dc9_16 (by decide +kernel)
theorem d_RR_takeSign_47 : decode y_RR_takeSign.2.1 47 = .ok (.if_icmp .ne 15, 3) := dc9_160 (by decide +kernel)
theorem d_RR_takeSign_62 : decode y_RR_takeSign.2.1 62 = .ok (.iconst (-1), 1) := dc9_2 (by decide +kernel)
theorem d_RR_takeSign_56 : decode y_RR_takeSign.2.1 56 = .ok (.invokevirtual 135, 3) := dc9_182 (by decide +kernel)
theorem d_RR_takeSign_59 : decode y_RR_takeSign.2.1 59 = .ok (.goto 4, 3) := dc9_167 (by decide +kernel)
theorem d_RR_takeSign_63 : decode y_RR_takeSign.2.1 63 = .ok (.invokevirtual 144, 3) := dc9_182 (by decide +kernel)
theorem d_RR_takeSign_66 : decode y_RR_takeSign.2.1 66 = .ok (.iconst 0, 1) := dc9_3 (by decide +kernel)
theorem d_RR_takeSign_67 : decode y_RR_takeSign.2.1 67 = .ok (.ireturn, 1) := dc9_172 (by decide +kernel)
theorem d_RR_takeSign_23 : decode y_RR_takeSign.2.1 23 = .ok (.invokestatic 132, 3) := dc9_184 (by decide +kernel)
theorem d_RR_takeSign_26 : decode y_RR_takeSign.2.1 26 = .ok (.iconst 4, 1) := dc9_7 (by decide +kernel)
theorem d_RR_takeSign_27 : decode y_RR_takeSign.2.1 27 = .ok (.if_icmp .ne 5, 3) := dc9_160 (by decide +kernel)
theorem d_RR_takeSign_30 : decode y_RR_takeSign.2.1 30 = .ok (.iconst 2, 1) := dc9_5 (by decide +kernel)
theorem d_RR_takeSign_31 : decode y_RR_takeSign.2.1 31 = .ok (.ireturn, 1) := dc9_172 (by decide +kernel)
theorem k_RR_takeSign {G : mG} {d : Nat} {a0 : Nat} {l1 : Int} {l2 : Int} {M : mM} {Q : Int → mM → Prop} (hO : mOk M) (hi_l1 : i32 l1) (hi_l2 : i32 l2)
    (h : ((l2 = 4) → mK M a0 = 4) ∧ (((¬ (l2 = 4)) ∨ (mI M a0 12 ≤ 0)) → (mK M a0 = 4 ∧ Ci G y_RR_here d [vr a0] M (fun x8 M7 => i32 x8 ∧ mOk M7 ∧ ((((l1 = 30) ∨ (l1 = 31)) → (mK M7 a0 = 4 ∧ mK M7 (mR M7 a0 1) = 6 ∧ Ci G y_Pr_add d [vr (mR M7 a0 1), vi l1, vi 0] M7 (fun x19 M18 => i32 x19 ∧ mOk M18 ∧ (mK M18 a0 = 4 ∧ Cv G y_RR_push d [vr a0, vi l1, vi x8, vi x19] M18 (fun M22 => mOk M22 ∧ (Q 0 M22)))))) ∧ (¬ ((l1 = 30) ∨ (l1 = 31)) → (mK M7 a0 = 4 ∧ Cv G y_RR_push d [vr a0, vi l1, vi x8, vi (-1)] M7 (fun M27 => mOk M27 ∧ (Q 0 M27)))))))) ∧ (¬ ((¬ (l2 = 4)) ∨ (mI M a0 12 ≤ 0)) → (mK M a0 = 4 ∧ mK M (mR M a0 8) = 30 ∧ ((0 : Int) ≤ (mI M a0 12) - 1 ∧ (mI M a0 12) - 1 < (mN M (mR M a0 8) : Int)) ∧ Ci G y_RR_level d [vi (mI M (mR M a0 8) (Int.toNat ((mI M a0 12) - 1)))] M (fun x37 M36 => i32 x37 ∧ mOk M36 ∧ (((x37 = 4) → (Q 2 M36)) ∧ (¬ (x37 = 4) → (mK M36 a0 = 4 ∧ Ci G y_RR_here d [vr a0] M36 (fun x43 M42 => i32 x43 ∧ mOk M42 ∧ ((((l1 = 30) ∨ (l1 = 31)) → (mK M42 a0 = 4 ∧ mK M42 (mR M42 a0 1) = 6 ∧ Ci G y_Pr_add d [vr (mR M42 a0 1), vi l1, vi 0] M42 (fun x54 M53 => i32 x54 ∧ mOk M53 ∧ (mK M53 a0 = 4 ∧ Cv G y_RR_push d [vr a0, vi l1, vi x43, vi x54] M53 (fun M57 => mOk M57 ∧ (Q 0 M57)))))) ∧ (¬ ((l1 = 30) ∨ (l1 = 31)) → (mK M42 a0 = 4 ∧ Cv G y_RR_push d [vr a0, vi l1, vi x43, vi (-1)] M42 (fun M62 => mOk M62 ∧ (Q 0 M62))))))))))))) :
    Ci G y_RR_takeSign (d + 1) [vr a0, vi l1, vi l2] M Q := by
  refine wm_open (y := y_RR_takeSign) rfl (Nat.le_of_ble_eq_true rfl) (L := [vr a0, vi l1, vi l2]) rfl ?_
  refine wm_iload_n d_RR_takeSign_0 rfl rfl ?_
  refine wm_iconst d_RR_takeSign_1 ?_
  obtain ⟨s4, h⟩ := h
  have hE0 : ((¬ (l2 = 4)) ∨ (mI M a0 12 ≤ 0)) → mWm G y_RR_takeSign (d + 1) 32 [vr a0, vi l1, vi l2] [] M (fun r9 M9 => ∃ x9, r9 = some (vi x9) ∧ Q x9 M9) := by
    intro q5
    have h := h.1 q5
    obtain ⟨h6, h⟩ := h
    refine wm_aload_n d_RR_takeSign_32 rfl rfl ?_
    refine wm_iload_n d_RR_takeSign_33 rfl rfl ?_
    refine wm_aload_n d_RR_takeSign_34 rfl rfl ?_
    refine cf_RR_83 rfl d_RR_takeSign_35 h6 (Nat.le_of_ble_eq_true rfl) (Ci.mono h (fun x8 M7 h => ?_))
    obtain ⟨h9, hOM7, h⟩ := h
    refine wm_iload_n d_RR_takeSign_38 rfl rfl ?_
    refine wm_bipush d_RR_takeSign_39 (by decide) ?_
    have hE0 : ((l1 = 30) ∨ (l1 = 31)) → mWm G y_RR_takeSign (d + 1) 50 [vr a0, vi l1, vi l2] [vi x8, vi l1, vr a0] M7 (fun r9 M9 => ∃ x9, r9 = some (vi x9) ∧ Q x9 M9) := by
      intro q15
      have h := h.1 q15
      obtain ⟨h16, h⟩ := h
      obtain ⟨h17, h⟩ := h
      refine wm_aload_n d_RR_takeSign_50 rfl rfl ?_
      refine gf_RR_44 rfl d_RR_takeSign_51 h16 ?_
      refine wm_iload_n d_RR_takeSign_54 rfl rfl ?_
      refine wm_iconst d_RR_takeSign_55 ?_
      refine cf_RR_135 rfl d_RR_takeSign_56 h17 (Nat.le_of_ble_eq_true rfl) (Ci.mono h (fun x19 M18 h => ?_))
      obtain ⟨h20, hOM18, h⟩ := h
      obtain ⟨h21, h⟩ := h
      refine wm_goto (tgt := 63) d_RR_takeSign_59 rfl ?_
      refine cf_RR_144 rfl d_RR_takeSign_63 h21 (Nat.le_of_ble_eq_true rfl) (Cv.mono h (fun M22 h => ?_))
      obtain ⟨hOM22, h⟩ := h
      refine wm_iconst d_RR_takeSign_66 ?_
      refine wm_ireturn d_RR_takeSign_67 rfl rfl ?_
      exact ⟨_, rfl, h⟩
    have hE1 : ¬ ((l1 = 30) ∨ (l1 = 31)) → mWm G y_RR_takeSign (d + 1) 62 [vr a0, vi l1, vi l2] [vi x8, vi l1, vr a0] M7 (fun r9 M9 => ∃ x9, r9 = some (vi x9) ∧ Q x9 M9) := by
      intro q25
      have h := h.2 q25
      obtain ⟨h26, h⟩ := h
      refine wm_iconst d_RR_takeSign_62 ?_
      refine cf_RR_144 rfl d_RR_takeSign_63 h26 (Nat.le_of_ble_eq_true rfl) (Cv.mono h (fun M27 h => ?_))
      obtain ⟨hOM27, h⟩ := h
      refine wm_iconst d_RR_takeSign_66 ?_
      refine wm_ireturn d_RR_takeSign_67 rfl rfl ?_
      exact ⟨_, rfl, h⟩
    clear h
    refine wm_icmp_eq (tgt := 50) d_RR_takeSign_41 rfl hi_l1 ⟨by decide, by decide⟩ (fun c13 => ?_) (fun c13 => ?_)
    · exact hE0 (Or.inl c13)
    · refine wm_iload_n d_RR_takeSign_44 rfl rfl ?_
      refine wm_bipush d_RR_takeSign_45 (by decide) ?_
      refine wm_icmp_ne (tgt := 62) d_RR_takeSign_47 rfl hi_l1 ⟨by decide, by decide⟩ (fun c12 => ?_) (fun c12 => ?_)
      · exact hE1 (fun z30 => Or.elim z30 c13 c12)
      · replace c12 := Classical.not_not.mp c12
        exact hE0 (Or.inr c12)
  have hE1 : ¬ ((¬ (l2 = 4)) ∨ (mI M a0 12 ≤ 0)) → mWm G y_RR_takeSign (d + 1) 12 [vr a0, vi l1, vi l2] [] M (fun r9 M9 => ∃ x9, r9 = some (vi x9) ∧ Q x9 M9) := by
    intro q32
    have h := h.2 q32
    obtain ⟨h33, h⟩ := h
    obtain ⟨h34, h⟩ := h
    obtain ⟨h35, h⟩ := h
    refine wm_aload_n d_RR_takeSign_12 rfl rfl ?_
    refine gf_RR_11 rfl d_RR_takeSign_13 h33 ?_
    refine wm_aload_n d_RR_takeSign_16 rfl rfl ?_
    refine gf_RR_87 rfl d_RR_takeSign_17 h33 ?_
    refine wm_iconst d_RR_takeSign_20 ?_
    refine wm_isub d_RR_takeSign_21 ?_
    refine wm_iald d_RR_takeSign_22 h34 h35 ?_
    refine cf_RR_132 rfl d_RR_takeSign_23 (Nat.le_of_ble_eq_true rfl) (Ci.mono h (fun x37 M36 h => ?_))
    obtain ⟨h38, hOM36, h⟩ := h
    refine wm_iconst d_RR_takeSign_26 ?_
    refine wm_icmp_ne (tgt := 32) d_RR_takeSign_27 rfl h38 ⟨by decide, by decide⟩ (fun c40 => ?_) (fun c40 => ?_)
    · replace h := h.2 c40
      obtain ⟨h41, h⟩ := h
      refine wm_aload_n d_RR_takeSign_32 rfl rfl ?_
      refine wm_iload_n d_RR_takeSign_33 rfl rfl ?_
      refine wm_aload_n d_RR_takeSign_34 rfl rfl ?_
      refine cf_RR_83 rfl d_RR_takeSign_35 h41 (Nat.le_of_ble_eq_true rfl) (Ci.mono h (fun x43 M42 h => ?_))
      obtain ⟨h44, hOM42, h⟩ := h
      refine wm_iload_n d_RR_takeSign_38 rfl rfl ?_
      refine wm_bipush d_RR_takeSign_39 (by decide) ?_
      have hE0 : ((l1 = 30) ∨ (l1 = 31)) → mWm G y_RR_takeSign (d + 1) 50 [vr a0, vi l1, vi l2] [vi x43, vi l1, vr a0] M42 (fun r9 M9 => ∃ x9, r9 = some (vi x9) ∧ Q x9 M9) := by
        intro q50
        have h := h.1 q50
        obtain ⟨h51, h⟩ := h
        obtain ⟨h52, h⟩ := h
        refine wm_aload_n d_RR_takeSign_50 rfl rfl ?_
        refine gf_RR_44 rfl d_RR_takeSign_51 h51 ?_
        refine wm_iload_n d_RR_takeSign_54 rfl rfl ?_
        refine wm_iconst d_RR_takeSign_55 ?_
        refine cf_RR_135 rfl d_RR_takeSign_56 h52 (Nat.le_of_ble_eq_true rfl) (Ci.mono h (fun x54 M53 h => ?_))
        obtain ⟨h55, hOM53, h⟩ := h
        obtain ⟨h56, h⟩ := h
        refine wm_goto (tgt := 63) d_RR_takeSign_59 rfl ?_
        refine cf_RR_144 rfl d_RR_takeSign_63 h56 (Nat.le_of_ble_eq_true rfl) (Cv.mono h (fun M57 h => ?_))
        obtain ⟨hOM57, h⟩ := h
        refine wm_iconst d_RR_takeSign_66 ?_
        refine wm_ireturn d_RR_takeSign_67 rfl rfl ?_
        exact ⟨_, rfl, h⟩
      have hE1 : ¬ ((l1 = 30) ∨ (l1 = 31)) → mWm G y_RR_takeSign (d + 1) 62 [vr a0, vi l1, vi l2] [vi x43, vi l1, vr a0] M42 (fun r9 M9 => ∃ x9, r9 = some (vi x9) ∧ Q x9 M9) := by
        intro q60
        have h := h.2 q60
        obtain ⟨h61, h⟩ := h
        refine wm_iconst d_RR_takeSign_62 ?_
        refine cf_RR_144 rfl d_RR_takeSign_63 h61 (Nat.le_of_ble_eq_true rfl) (Cv.mono h (fun M62 h => ?_))
        obtain ⟨hOM62, h⟩ := h
        refine wm_iconst d_RR_takeSign_66 ?_
        refine wm_ireturn d_RR_takeSign_67 rfl rfl ?_
        exact ⟨_, rfl, h⟩
      clear h
      refine wm_icmp_eq (tgt := 50) d_RR_takeSign_41 rfl hi_l1 ⟨by decide, by decide⟩ (fun c48 => ?_) (fun c48 => ?_)
      · exact hE0 (Or.inl c48)
      · refine wm_iload_n d_RR_takeSign_44 rfl rfl ?_
        refine wm_bipush d_RR_takeSign_45 (by decide) ?_
        refine wm_icmp_ne (tgt := 62) d_RR_takeSign_47 rfl hi_l1 ⟨by decide, by decide⟩ (fun c47 => ?_) (fun c47 => ?_)
        · exact hE1 (fun z65 => Or.elim z65 c48 c47)
        · replace c47 := Classical.not_not.mp c47
          exact hE0 (Or.inr c47)
    · replace c40 := Classical.not_not.mp c40
      replace h := h.1 c40
      refine wm_iconst d_RR_takeSign_30 ?_
      refine wm_ireturn d_RR_takeSign_31 rfl rfl ?_
      exact ⟨_, rfl, h⟩
  clear h
  have s67 := s4
  refine wm_icmp_ne (tgt := 32) d_RR_takeSign_2 rfl hi_l2 ⟨by decide, by decide⟩ (fun c3 => ?_) (fun c3 => ?_)
  · exact hE0 (Or.inl c3)
  · replace c3 := Classical.not_not.mp c3
    have s67 := s67 c3
    have h1 := s67
    refine wm_aload_n d_RR_takeSign_5 rfl rfl ?_
    refine gf_RR_87 rfl d_RR_takeSign_6 h1 ?_
    refine wm_if_le (tgt := 32) d_RR_takeSign_9 rfl (hO _ _).1 (fun c2 => ?_) (fun c2 => ?_)
    · exact hE0 (Or.inr c2)
    · exact hE1 (fun z68 => Or.elim z68 (fun w => w c3) c2)
theorem d_RR_takeAsk_0 : decode y_RR_takeAsk.2.1 0 = .ok (.aload_n 0, 1) := dc9_42 (by decide +kernel)
theorem d_RR_takeAsk_1 : decode y_RR_takeAsk.2.1 1 = .ok (.getfield 58, 3) := dc9_180 (by decide +kernel)
theorem d_RR_takeAsk_4 : decode y_RR_takeAsk.2.1 4 = .ok (.bipush 40, 2) := dc9_16 (by decide +kernel)
theorem d_RR_takeAsk_6 : decode y_RR_takeAsk.2.1 6 = .ok (.if_icmp .ge 13, 3) := dc9_162 (by decide +kernel)
theorem d_RR_takeAsk_9 : decode y_RR_takeAsk.2.1 9 = .ok (.aload_n 0, 1) := dc9_42 (by decide +kernel)
theorem d_RR_takeAsk_10 : decode y_RR_takeAsk.2.1 10 = .ok (.getfield 87, 3) := dc9_180 (by decide +kernel)
theorem d_RR_takeAsk_13 : decode y_RR_takeAsk.2.1 13 = .ok (.sipush 336, 3) := dc9_17 (by decide +kernel)
theorem d_RR_takeAsk_16 : decode y_RR_takeAsk.2.1 16 = .ok (.if_icmp .lt 5, 3) := dc9_161 (by decide +kernel)
theorem d_RR_takeAsk_21 : decode y_RR_takeAsk.2.1 21 = .ok (.aload_n 0, 1) := dc9_42 (by decide +kernel)
theorem d_RR_takeAsk_22 : decode y_RR_takeAsk.2.1 22 = .ok (.dup, 1) := dc9_89 (by decide +kernel)
theorem d_RR_takeAsk_23 : decode y_RR_takeAsk.2.1 23 = .ok (.getfield 58, 3) := dc9_180 (by decide +kernel)
theorem d_RR_takeAsk_26 : decode y_RR_takeAsk.2.1 26 = .ok (.iconst 1, 1) := dc9_4 (by decide +kernel)
theorem d_RR_takeAsk_27 : decode y_RR_takeAsk.2.1 27 = .ok (.iadd, 1) := dc9_96 (by decide +kernel)
theorem d_RR_takeAsk_28 : decode y_RR_takeAsk.2.1 28 = .ok (.putfield 58, 3) := dc9_181 (by decide +kernel)
theorem d_RR_takeAsk_31 : decode y_RR_takeAsk.2.1 31 = .ok (.aload_n 0, 1) := dc9_42 (by decide +kernel)
theorem d_RR_takeAsk_19 : decode y_RR_takeAsk.2.1 19 = .ok (.iconst 2, 1) := dc9_5 (by decide +kernel)
theorem d_RR_takeAsk_20 : decode y_RR_takeAsk.2.1 20 = .ok (.ireturn, 1) := dc9_172 (by decide +kernel)
theorem d_RR_takeAsk_32 : decode y_RR_takeAsk.2.1 32 = .ok (.invokevirtual 162, 3) := dc9_182 (by decide +kernel)
theorem d_RR_takeAsk_35 : decode y_RR_takeAsk.2.1 35 = .ok (.ifCond .eq 7, 3) := dc9_153 (by decide +kernel)
theorem d_RR_takeAsk_42 : decode y_RR_takeAsk.2.1 42 = .ok (.iconst 1, 1) := dc9_4 (by decide +kernel)
theorem d_RR_takeAsk_38 : decode y_RR_takeAsk.2.1 38 = .ok (.iconst 0, 1) := dc9_3 (by decide +kernel)
theorem d_RR_takeAsk_39 : decode y_RR_takeAsk.2.1 39 = .ok (.goto 4, 3) := dc9_167 (by decide +kernel)
theorem d_RR_takeAsk_43 : decode y_RR_takeAsk.2.1 43 = .ok (.istore_n 1, 1) := dc9_60 (by decide +kernel)
theorem d_RR_takeAsk_44 : decode y_RR_takeAsk.2.1 44 = .ok (.aload_n 0, 1) := dc9_42 (by decide +kernel)
theorem d_RR_takeAsk_45 : decode y_RR_takeAsk.2.1 45 = .ok (.bipush 33, 2) := dc9_16 (by decide +kernel)
theorem d_RR_takeAsk_47 : decode y_RR_takeAsk.2.1 47 = .ok (.aload_n 0, 1) := dc9_42 (by decide +kernel)
theorem d_RR_takeAsk_48 : decode y_RR_takeAsk.2.1 48 = .ok (.invokevirtual 83, 3) := dc9_182 (by decide +kernel)
theorem d_RR_takeAsk_51 : decode y_RR_takeAsk.2.1 51 = .ok (.aload_n 0, 1) := dc9_42 (by decide +kernel)
theorem d_RR_takeAsk_52 : decode y_RR_takeAsk.2.1 52 = .ok (.getfield 44, 3) := dc9_180 (by decide +kernel)
theorem d_RR_takeAsk_55 : decode y_RR_takeAsk.2.1 55 = .ok (.bipush 33, 2) := dc9_16 (by decide +kernel)
theorem d_RR_takeAsk_57 : decode y_RR_takeAsk.2.1 57 = .ok (.iconst 0, 1) := dc9_3 (by decide +kernel)
theorem d_RR_takeAsk_58 : decode y_RR_takeAsk.2.1 58 = .ok (.invokevirtual 135, 3) := dc9_182 (by decide +kernel)
theorem d_RR_takeAsk_61 : decode y_RR_takeAsk.2.1 61 = .ok (.invokevirtual 144, 3) := dc9_182 (by decide +kernel)
theorem d_RR_takeAsk_64 : decode y_RR_takeAsk.2.1 64 = .ok (.aload_n 0, 1) := dc9_42 (by decide +kernel)
theorem d_RR_takeAsk_65 : decode y_RR_takeAsk.2.1 65 = .ok (.getfield 21, 3) := dc9_180 (by decide +kernel)
theorem d_RR_takeAsk_68 : decode y_RR_takeAsk.2.1 68 = .ok (.aload_n 0, 1) := dc9_42 (by decide +kernel)
theorem d_RR_takeAsk_69 : decode y_RR_takeAsk.2.1 69 = .ok (.getfield 87, 3) := dc9_180 (by decide +kernel)
theorem d_RR_takeAsk_72 : decode y_RR_takeAsk.2.1 72 = .ok (.iconst 1, 1) := dc9_4 (by decide +kernel)
theorem d_RR_takeAsk_73 : decode y_RR_takeAsk.2.1 73 = .ok (.isub, 1) := dc9_100 (by decide +kernel)
theorem d_RR_takeAsk_74 : decode y_RR_takeAsk.2.1 74 = .ok (.iload_n 1, 1) := dc9_27 (by decide +kernel)
theorem d_RR_takeAsk_75 : decode y_RR_takeAsk.2.1 75 = .ok (.iastore, 1) := dc9_79 (by decide +kernel)
theorem d_RR_takeAsk_76 : decode y_RR_takeAsk.2.1 76 = .ok (.iconst 0, 1) := dc9_3 (by decide +kernel)
theorem d_RR_takeAsk_77 : decode y_RR_takeAsk.2.1 77 = .ok (.ireturn, 1) := dc9_172 (by decide +kernel)
theorem k_RR_takeAsk {G : mG} {d : Nat} {a0 : Nat} {M : mM} {Q : Int → mM → Prop} (hO : mOk M)
    (h : mK M a0 = 4 ∧ (((40 ≤ mI M a0 5) ∨ (¬ (mI M a0 12 < 336))) → (Q 2 M)) ∧ (¬ ((40 ≤ mI M a0 5) ∨ (¬ (mI M a0 12 < 336))) → (i32 ((mI M a0 5) + 1) ∧ ∀ M8, M8 = mUI M a0 5 ((mI M a0 5) + 1) → Ci G y_RR_popKind d [vr a0] M8 (fun x11 M10 => i32 x11 ∧ mOk M10 ∧ (∀ v14 : Int, v14 = (if (x11 = 0) then 1 else 0) → mK M10 a0 = 4 ∧ Ci G y_RR_here d [vr a0] M10 (fun x21 M20 => i32 x21 ∧ mOk M20 ∧ (mK M20 a0 = 4 ∧ mK M20 (mR M20 a0 1) = 6 ∧ Ci G y_Pr_add d [vr (mR M20 a0 1), vi 33, vi 0] M20 (fun x26 M25 => i32 x26 ∧ mOk M25 ∧ (mK M25 a0 = 4 ∧ Cv G y_RR_push d [vr a0, vi 33, vi x21, vi x26] M25 (fun M29 => mOk M29 ∧ (mK M29 a0 = 4 ∧ mK M29 (mR M29 a0 11) = 30 ∧ ((0 : Int) ≤ (mI M29 a0 12) - 1 ∧ (mI M29 a0 12) - 1 < (mN M29 (mR M29 a0 11) : Int)) ∧ ∀ M35, M35 = mUI M29 (mR M29 a0 11) (Int.toNat ((mI M29 a0 12) - 1)) v14 → Q 0 M35))))))))))) :
    Ci G y_RR_takeAsk (d + 1) [vr a0] M Q := by
  refine wm_open (y := y_RR_takeAsk) rfl (Nat.le_of_ble_eq_true rfl) (L := [vr a0, vd]) rfl ?_
  obtain ⟨h1, h⟩ := h
  refine wm_aload_n d_RR_takeAsk_0 rfl rfl ?_
  refine gf_RR_58 rfl d_RR_takeAsk_1 h1 ?_
  refine wm_bipush d_RR_takeAsk_4 (by decide) ?_
  have hE0 : ((40 ≤ mI M a0 5) ∨ (¬ (mI M a0 12 < 336))) → mWm G y_RR_takeAsk (d + 1) 19 [vr a0, vd] [] M (fun r9 M9 => ∃ x9, r9 = some (vi x9) ∧ Q x9 M9) := by
    intro q5
    have h := h.1 q5
    refine wm_iconst d_RR_takeAsk_19 ?_
    refine wm_ireturn d_RR_takeAsk_20 rfl rfl ?_
    exact ⟨_, rfl, h⟩
  have hE1 : ¬ ((40 ≤ mI M a0 5) ∨ (¬ (mI M a0 12 < 336))) → mWm G y_RR_takeAsk (d + 1) 21 [vr a0, vd] [] M (fun r9 M9 => ∃ x9, r9 = some (vi x9) ∧ Q x9 M9) := by
    intro q6
    have h := h.2 q6
    obtain ⟨h7, h⟩ := h
    obtain ⟨M8, e9⟩ : ∃ M8, M8 = mUI M a0 5 ((mI M a0 5) + 1) := ⟨_, rfl⟩
    replace h := h M8 e9
    refine wm_aload_n d_RR_takeAsk_21 rfl rfl ?_
    refine wm_dup d_RR_takeAsk_22 rfl ?_
    refine gf_RR_58 rfl d_RR_takeAsk_23 h1 ?_
    refine wm_iconst d_RR_takeAsk_26 ?_
    refine wm_iadd d_RR_takeAsk_27 ?_
    have hOM8 : mOk M8 := by rw [e9]; exact mOk_UI hO h7
    refine pf_RR_58 rfl d_RR_takeAsk_28 h1 h7 e9 ?_
    refine wm_aload_n d_RR_takeAsk_31 rfl rfl ?_
    refine cf_RR_162 rfl d_RR_takeAsk_32 (by rw [e9]; exact h1) (Nat.le_of_ble_eq_true rfl) (Ci.mono h (fun x11 M10 h => ?_))
    obtain ⟨h12, hOM10, h⟩ := h
    have hJ : ∀ v14 : Int, v14 = (if (x11 = 0) then 1 else 0) → mWm G y_RR_takeAsk (d + 1) 43 [vr a0, vd] [vi v14] M10 (fun r9 M9 => ∃ x9, r9 = some (vi x9) ∧ Q x9 M9) := by
      intro v14 e16
      have h := h v14 e16
      have h17 : i32 v14 := by rw [e16]; (repeat' split) <;> first | exact ⟨by decide, by decide⟩ | exact ⟨by decide, by decide⟩
      have h18 : (v14 = 0 ∨ v14 = 1) := by rw [e16]; (repeat' split) <;> decide
      obtain ⟨h19, h⟩ := h
      refine wm_istore_n d_RR_takeAsk_43 rfl (by decide) (L' := [vr a0, vi v14]) rfl ?_
      refine wm_aload_n d_RR_takeAsk_44 rfl rfl ?_
      refine wm_bipush d_RR_takeAsk_45 (by decide) ?_
      refine wm_aload_n d_RR_takeAsk_47 rfl rfl ?_
      refine cf_RR_83 rfl d_RR_takeAsk_48 h19 (Nat.le_of_ble_eq_true rfl) (Ci.mono h (fun x21 M20 h => ?_))
      obtain ⟨h22, hOM20, h⟩ := h
      obtain ⟨h23, h⟩ := h
      obtain ⟨h24, h⟩ := h
      refine wm_aload_n d_RR_takeAsk_51 rfl rfl ?_
      refine gf_RR_44 rfl d_RR_takeAsk_52 h23 ?_
      refine wm_bipush d_RR_takeAsk_55 (by decide) ?_
      refine wm_iconst d_RR_takeAsk_57 ?_
      refine cf_RR_135 rfl d_RR_takeAsk_58 h24 (Nat.le_of_ble_eq_true rfl) (Ci.mono h (fun x26 M25 h => ?_))
      obtain ⟨h27, hOM25, h⟩ := h
      obtain ⟨h28, h⟩ := h
      refine cf_RR_144 rfl d_RR_takeAsk_61 h28 (Nat.le_of_ble_eq_true rfl) (Cv.mono h (fun M29 h => ?_))
      obtain ⟨hOM29, h⟩ := h
      obtain ⟨h32, h⟩ := h
      obtain ⟨h33, h⟩ := h
      obtain ⟨h34, h⟩ := h
      obtain ⟨M35, e36⟩ : ∃ M35, M35 = mUI M29 (mR M29 a0 11) (Int.toNat ((mI M29 a0 12) - 1)) v14 := ⟨_, rfl⟩
      replace h := h M35 e36
      refine wm_aload_n d_RR_takeAsk_64 rfl rfl ?_
      refine gf_RR_21 rfl d_RR_takeAsk_65 h32 ?_
      refine wm_aload_n d_RR_takeAsk_68 rfl rfl ?_
      refine gf_RR_87 rfl d_RR_takeAsk_69 h32 ?_
      refine wm_iconst d_RR_takeAsk_72 ?_
      refine wm_isub d_RR_takeAsk_73 ?_
      refine wm_iload_n d_RR_takeAsk_74 rfl rfl ?_
      have hOM35 : mOk M35 := by rw [e36]; exact mOk_UI hOM29 h17
      refine wm_iastE d_RR_takeAsk_75 h33 h34 h17 e36 ?_
      refine wm_iconst d_RR_takeAsk_76 ?_
      refine wm_ireturn d_RR_takeAsk_77 rfl rfl ?_
      exact ⟨_, rfl, h⟩
    clear h
    refine wm_if_eq (tgt := 42) d_RR_takeAsk_35 rfl h12 (fun c13 => ?_) (fun c13 => ?_)
    · refine wm_iconst d_RR_takeAsk_42 ?_
      exact hJ 1 (if_pos c13).symm
    · refine wm_iconst d_RR_takeAsk_38 ?_
      refine wm_goto (tgt := 43) d_RR_takeAsk_39 rfl ?_
      exact hJ 0 (if_neg c13).symm
  clear h
  refine wm_icmp_ge (tgt := 19) d_RR_takeAsk_6 rfl (hO _ _).1 ⟨by decide, by decide⟩ (fun c3 => ?_) (fun c3 => ?_)
  · exact hE0 (Or.inl c3)
  · refine wm_aload_n d_RR_takeAsk_9 rfl rfl ?_
    refine gf_RR_87 rfl d_RR_takeAsk_10 h1 ?_
    refine wm_sipush d_RR_takeAsk_13 (by decide) ?_
    refine wm_icmp_lt (tgt := 21) d_RR_takeAsk_16 rfl (hO _ _).1 ⟨by decide, by decide⟩ (fun c2 => ?_) (fun c2 => ?_)
    · exact hE1 (fun z38 => Or.elim z38 c3 (fun z39 => z39 c2))
    · exact hE0 (Or.inr c2)
theorem d_RR_closeInner_0 : decode y_RR_closeInner.2.1 0 = .ok (.aload_n 0, 1) := dc9_42 (by decide +kernel)
theorem d_RR_closeInner_1 : decode y_RR_closeInner.2.1 1 = .ok (.getfield 11, 3) := dc9_180 (by decide +kernel)
theorem d_RR_closeInner_4 : decode y_RR_closeInner.2.1 4 = .ok (.iload_n 2, 1) := dc9_28 (by decide +kernel)
theorem d_RR_closeInner_5 : decode y_RR_closeInner.2.1 5 = .ok (.iaload, 1) := dc9_46 (by decide +kernel)
theorem d_RR_closeInner_6 : decode y_RR_closeInner.2.1 6 = .ok (.bipush 33, 2) := dc9_16 (by decide +kernel)
theorem d_RR_closeInner_8 : decode y_RR_closeInner.2.1 8 = .ok (.if_icmp .ne 7, 3) := dc9_160 (by decide +kernel)
theorem d_RR_closeInner_11 : decode y_RR_closeInner.2.1 11 = .ok (.iconst 1, 1) := dc9_4 (by decide +kernel)
theorem d_RR_closeInner_12 : decode y_RR_closeInner.2.1 12 = .ok (.goto 4, 3) := dc9_167 (by decide +kernel)
theorem d_RR_closeInner_15 : decode y_RR_closeInner.2.1 15 = .ok (.iconst 0, 1) := dc9_3 (by decide +kernel)
theorem d_RR_closeInner_16 : decode y_RR_closeInner.2.1 16 = .ok (.istore_n 3, 1) := dc9_62 (by decide +kernel)
theorem d_RR_closeInner_17 : decode y_RR_closeInner.2.1 17 = .ok (.aload_n 0, 1) := dc9_42 (by decide +kernel)
theorem d_RR_closeInner_18 : decode y_RR_closeInner.2.1 18 = .ok (.getfield 11, 3) := dc9_180 (by decide +kernel)
theorem d_RR_closeInner_21 : decode y_RR_closeInner.2.1 21 = .ok (.iload_n 2, 1) := dc9_28 (by decide +kernel)
theorem d_RR_closeInner_22 : decode y_RR_closeInner.2.1 22 = .ok (.iaload, 1) := dc9_46 (by decide +kernel)
theorem d_RR_closeInner_23 : decode y_RR_closeInner.2.1 23 = .ok (.bipush 15, 2) := dc9_16 (by decide +kernel)
theorem d_RR_closeInner_25 : decode y_RR_closeInner.2.1 25 = .ok (.if_icmp .eq 14, 3) := dc9_159 (by decide +kernel)
theorem d_RR_closeInner_39 : decode y_RR_closeInner.2.1 39 = .ok (.iconst 1, 1) := dc9_4 (by decide +kernel)
theorem d_RR_closeInner_40 : decode y_RR_closeInner.2.1 40 = .ok (.goto 4, 3) := dc9_167 (by decide +kernel)
theorem d_RR_closeInner_28 : decode y_RR_closeInner.2.1 28 = .ok (.aload_n 0, 1) := dc9_42 (by decide +kernel)
theorem d_RR_closeInner_29 : decode y_RR_closeInner.2.1 29 = .ok (.getfield 11, 3) := dc9_180 (by decide +kernel)
theorem d_RR_closeInner_32 : decode y_RR_closeInner.2.1 32 = .ok (.iload_n 2, 1) := dc9_28 (by decide +kernel)
theorem d_RR_closeInner_33 : decode y_RR_closeInner.2.1 33 = .ok (.iaload, 1) := dc9_46 (by decide +kernel)
theorem d_RR_closeInner_34 : decode y_RR_closeInner.2.1 34 = .ok (.bipush 16, 2) := dc9_16 (by decide +kernel)
theorem d_RR_closeInner_36 : decode y_RR_closeInner.2.1 36 = .ok (.if_icmp .ne 7, 3) := dc9_160 (by decide +kernel)
theorem d_RR_closeInner_43 : decode y_RR_closeInner.2.1 43 = .ok (.iconst 0, 1) := dc9_3 (by decide +kernel)
theorem d_RR_closeInner_44 : decode y_RR_closeInner.2.1 44 = .ok (.istore 4, 2) := dc9_54 (by decide +kernel)
theorem d_RR_closeInner_46 : decode y_RR_closeInner.2.1 46 = .ok (.iload_n 3, 1) := dc9_29 (by decide +kernel)
theorem d_RR_closeInner_47 : decode y_RR_closeInner.2.1 47 = .ok (.ifCond .eq 9, 3) := dc9_153 (by decide +kernel)
theorem d_RR_closeInner_56 : decode y_RR_closeInner.2.1 56 = .ok (.iload 4, 2) := dc9_21 (by decide +kernel)
theorem d_RR_closeInner_58 : decode y_RR_closeInner.2.1 58 = .ok (.ifCond .eq 13, 3) := dc9_153 (by decide +kernel)
theorem d_RR_closeInner_71 : decode y_RR_closeInner.2.1 71 = .ok (.iconst 0, 1) := dc9_3 (by decide +kernel)
theorem d_RR_closeInner_61 : decode y_RR_closeInner.2.1 61 = .ok (.iload_n 1, 1) := dc9_27 (by decide +kernel)
theorem d_RR_closeInner_62 : decode y_RR_closeInner.2.1 62 = .ok (.bipush 36, 2) := dc9_16 (by decide +kernel)
theorem d_RR_closeInner_64 : decode y_RR_closeInner.2.1 64 = .ok (.if_icmp .ne 7, 3) := dc9_160 (by decide +kernel)
theorem d_RR_closeInner_67 : decode y_RR_closeInner.2.1 67 = .ok (.iconst 1, 1) := dc9_4 (by decide +kernel)
theorem d_RR_closeInner_68 : decode y_RR_closeInner.2.1 68 = .ok (.goto 4, 3) := dc9_167 (by decide +kernel)
theorem d_RR_closeInner_50 : decode y_RR_closeInner.2.1 50 = .ok (.iload_n 1, 1) := dc9_27 (by decide +kernel)
theorem d_RR_closeInner_51 : decode y_RR_closeInner.2.1 51 = .ok (.bipush 34, 2) := dc9_16 (by decide +kernel)
theorem d_RR_closeInner_53 : decode y_RR_closeInner.2.1 53 = .ok (.if_icmp .eq 14, 3) := dc9_159 (by decide +kernel)
theorem d_RR_closeInner_72 : decode y_RR_closeInner.2.1 72 = .ok (.istore 5, 2) := dc9_54 (by decide +kernel)
theorem d_RR_closeInner_74 : decode y_RR_closeInner.2.1 74 = .ok (.iload 5, 2) := dc9_21 (by decide +kernel)
theorem d_RR_closeInner_76 : decode y_RR_closeInner.2.1 76 = .ok (.ifCond .ne 15, 3) := dc9_154 (by decide +kernel)
theorem d_RR_closeInner_79 : decode y_RR_closeInner.2.1 79 = .ok (.iload_n 3, 1) := dc9_29 (by decide +kernel)
theorem d_RR_closeInner_80 : decode y_RR_closeInner.2.1 80 = .ok (.ifCond .ne 9, 3) := dc9_154 (by decide +kernel)
theorem d_RR_closeInner_83 : decode y_RR_closeInner.2.1 83 = .ok (.iload_n 1, 1) := dc9_27 (by decide +kernel)
theorem d_RR_closeInner_84 : decode y_RR_closeInner.2.1 84 = .ok (.bipush 38, 2) := dc9_16 (by decide +kernel)
theorem d_RR_closeInner_86 : decode y_RR_closeInner.2.1 86 = .ok (.if_icmp .eq 5, 3) := dc9_159 (by decide +kernel)
theorem d_RR_closeInner_91 : decode y_RR_closeInner.2.1 91 = .ok (.iload_n 3, 1) := dc9_29 (by decide +kernel)
theorem d_RR_closeInner_92 : decode y_RR_closeInner.2.1 92 = .ok (.ifCond .eq 73, 3) := dc9_153 (by decide +kernel)
theorem d_RR_closeInner_95 : decode y_RR_closeInner.2.1 95 = .ok (.aload_n 0, 1) := dc9_42 (by decide +kernel)
theorem d_RR_closeInner_96 : decode y_RR_closeInner.2.1 96 = .ok (.getfield 21, 3) := dc9_180 (by decide +kernel)
theorem d_RR_closeInner_99 : decode y_RR_closeInner.2.1 99 = .ok (.iload_n 2, 1) := dc9_28 (by decide +kernel)
theorem d_RR_closeInner_100 : decode y_RR_closeInner.2.1 100 = .ok (.dup2, 1) := dc9_92 (by decide +kernel)
theorem d_RR_closeInner_101 : decode y_RR_closeInner.2.1 101 = .ok (.iaload, 1) := dc9_46 (by decide +kernel)
theorem d_RR_closeInner_102 : decode y_RR_closeInner.2.1 102 = .ok (.aload_n 0, 1) := dc9_42 (by decide +kernel)
theorem d_RR_closeInner_103 : decode y_RR_closeInner.2.1 103 = .ok (.invokevirtual 162, 3) := dc9_182 (by decide +kernel)
theorem d_RR_closeInner_106 : decode y_RR_closeInner.2.1 106 = .ok (.ifCond .eq 7, 3) := dc9_153 (by decide +kernel)
theorem d_RR_closeInner_113 : decode y_RR_closeInner.2.1 113 = .ok (.iconst 0, 1) := dc9_3 (by decide +kernel)
theorem d_RR_closeInner_109 : decode y_RR_closeInner.2.1 109 = .ok (.iconst 4, 1) := dc9_7 (by decide +kernel)
theorem d_RR_closeInner_110 : decode y_RR_closeInner.2.1 110 = .ok (.goto 4, 3) := dc9_167 (by decide +kernel)
theorem d_RR_closeInner_114 : decode y_RR_closeInner.2.1 114 = .ok (.ior, 1) := dc9_128 (by decide +kernel)
theorem d_RR_closeInner_115 : decode y_RR_closeInner.2.1 115 = .ok (.iastore, 1) := dc9_79 (by decide +kernel)
theorem d_RR_closeInner_116 : decode y_RR_closeInner.2.1 116 = .ok (.aload_n 0, 1) := dc9_42 (by decide +kernel)
theorem d_RR_closeInner_117 : decode y_RR_closeInner.2.1 117 = .ok (.getfield 44, 3) := dc9_180 (by decide +kernel)
theorem d_RR_closeInner_120 : decode y_RR_closeInner.2.1 120 = .ok (.bipush 42, 2) := dc9_16 (by decide +kernel)
theorem d_RR_closeInner_122 : decode y_RR_closeInner.2.1 122 = .ok (.iconst 0, 1) := dc9_3 (by decide +kernel)
theorem d_RR_closeInner_123 : decode y_RR_closeInner.2.1 123 = .ok (.invokevirtual 135, 3) := dc9_182 (by decide +kernel)
theorem d_RR_closeInner_126 : decode y_RR_closeInner.2.1 126 = .ok (.istore 6, 2) := dc9_54 (by decide +kernel)
theorem d_RR_closeInner_128 : decode y_RR_closeInner.2.1 128 = .ok (.aload_n 0, 1) := dc9_42 (by decide +kernel)
theorem d_RR_closeInner_129 : decode y_RR_closeInner.2.1 129 = .ok (.getfield 44, 3) := dc9_180 (by decide +kernel)
theorem d_RR_closeInner_132 : decode y_RR_closeInner.2.1 132 = .ok (.getfield 165, 3) := dc9_180 (by decide +kernel)
theorem d_RR_closeInner_135 : decode y_RR_closeInner.2.1 135 = .ok (.aload_n 0, 1) := dc9_42 (by decide +kernel)
theorem d_RR_closeInner_136 : decode y_RR_closeInner.2.1 136 = .ok (.getfield 18, 3) := dc9_180 (by decide +kernel)
theorem d_RR_closeInner_139 : decode y_RR_closeInner.2.1 139 = .ok (.iload_n 2, 1) := dc9_28 (by decide +kernel)
theorem d_RR_closeInner_140 : decode y_RR_closeInner.2.1 140 = .ok (.iaload, 1) := dc9_46 (by decide +kernel)
theorem d_RR_closeInner_141 : decode y_RR_closeInner.2.1 141 = .ok (.aload_n 0, 1) := dc9_42 (by decide +kernel)
theorem d_RR_closeInner_142 : decode y_RR_closeInner.2.1 142 = .ok (.getfield 44, 3) := dc9_180 (by decide +kernel)
theorem d_RR_closeInner_145 : decode y_RR_closeInner.2.1 145 = .ok (.getfield 168, 3) := dc9_180 (by decide +kernel)
theorem d_RR_closeInner_148 : decode y_RR_closeInner.2.1 148 = .ok (.iastore, 1) := dc9_79 (by decide +kernel)
theorem d_RR_closeInner_149 : decode y_RR_closeInner.2.1 149 = .ok (.aload_n 0, 1) := dc9_42 (by decide +kernel)
theorem d_RR_closeInner_150 : decode y_RR_closeInner.2.1 150 = .ok (.getfield 18, 3) := dc9_180 (by decide +kernel)
theorem d_RR_closeInner_153 : decode y_RR_closeInner.2.1 153 = .ok (.iload_n 2, 1) := dc9_28 (by decide +kernel)
theorem d_RR_closeInner_154 : decode y_RR_closeInner.2.1 154 = .ok (.iload 6, 2) := dc9_21 (by decide +kernel)
theorem d_RR_closeInner_156 : decode y_RR_closeInner.2.1 156 = .ok (.iastore, 1) := dc9_79 (by decide +kernel)
theorem d_RR_closeInner_157 : decode y_RR_closeInner.2.1 157 = .ok (.aload_n 0, 1) := dc9_42 (by decide +kernel)
theorem d_RR_closeInner_158 : decode y_RR_closeInner.2.1 158 = .ok (.getfield 11, 3) := dc9_180 (by decide +kernel)
theorem d_RR_closeInner_161 : decode y_RR_closeInner.2.1 161 = .ok (.iload_n 2, 1) := dc9_28 (by decide +kernel)
theorem d_RR_closeInner_162 : decode y_RR_closeInner.2.1 162 = .ok (.bipush 42, 2) := dc9_16 (by decide +kernel)
theorem d_RR_closeInner_164 : decode y_RR_closeInner.2.1 164 = .ok (.iastore, 1) := dc9_79 (by decide +kernel)
theorem d_RR_closeInner_89 : decode y_RR_closeInner.2.1 89 = .ok (.iconst 2, 1) := dc9_5 (by decide +kernel)
theorem d_RR_closeInner_90 : decode y_RR_closeInner.2.1 90 = .ok (.ireturn, 1) := dc9_172 (by decide +kernel)
theorem d_RR_closeInner_165 : decode y_RR_closeInner.2.1 165 = .ok (.iload 4, 2) := dc9_21 (by decide +kernel)
theorem d_RR_closeInner_167 : decode y_RR_closeInner.2.1 167 = .ok (.ifCond .eq 57, 3) := dc9_153 (by decide +kernel)
theorem d_RR_closeInner_170 : decode y_RR_closeInner.2.1 170 = .ok (.aload_n 0, 1) := dc9_42 (by decide +kernel)
theorem d_RR_closeInner_171 : decode y_RR_closeInner.2.1 171 = .ok (.getfield 21, 3) := dc9_180 (by decide +kernel)
theorem d_RR_closeInner_174 : decode y_RR_closeInner.2.1 174 = .ok (.iload_n 2, 1) := dc9_28 (by decide +kernel)
theorem d_RR_closeInner_175 : decode y_RR_closeInner.2.1 175 = .ok (.iaload, 1) := dc9_46 (by decide +kernel)
theorem d_RR_closeInner_176 : decode y_RR_closeInner.2.1 176 = .ok (.iconst 2, 1) := dc9_5 (by decide +kernel)
theorem d_RR_closeInner_177 : decode y_RR_closeInner.2.1 177 = .ok (.iand, 1) := dc9_126 (by decide +kernel)
theorem d_RR_closeInner_178 : decode y_RR_closeInner.2.1 178 = .ok (.ifCond .eq 23, 3) := dc9_153 (by decide +kernel)
theorem d_RR_closeInner_181 : decode y_RR_closeInner.2.1 181 = .ok (.aload_n 0, 1) := dc9_42 (by decide +kernel)
theorem d_RR_closeInner_182 : decode y_RR_closeInner.2.1 182 = .ok (.getfield 44, 3) := dc9_180 (by decide +kernel)
theorem d_RR_closeInner_185 : decode y_RR_closeInner.2.1 185 = .ok (.aload_n 0, 1) := dc9_42 (by decide +kernel)
theorem d_RR_closeInner_186 : decode y_RR_closeInner.2.1 186 = .ok (.getfield 11, 3) := dc9_180 (by decide +kernel)
theorem d_RR_closeInner_189 : decode y_RR_closeInner.2.1 189 = .ok (.iload_n 2, 1) := dc9_28 (by decide +kernel)
theorem d_RR_closeInner_190 : decode y_RR_closeInner.2.1 190 = .ok (.iaload, 1) := dc9_46 (by decide +kernel)
theorem d_RR_closeInner_191 : decode y_RR_closeInner.2.1 191 = .ok (.aload_n 0, 1) := dc9_42 (by decide +kernel)
theorem d_RR_closeInner_192 : decode y_RR_closeInner.2.1 192 = .ok (.getfield 15, 3) := dc9_180 (by decide +kernel)
theorem d_RR_closeInner_195 : decode y_RR_closeInner.2.1 195 = .ok (.iload_n 2, 1) := dc9_28 (by decide +kernel)
theorem d_RR_closeInner_196 : decode y_RR_closeInner.2.1 196 = .ok (.iaload, 1) := dc9_46 (by decide +kernel)
theorem d_RR_closeInner_224 : decode y_RR_closeInner.2.1 224 = .ok (.iload 4, 2) := dc9_21 (by decide +kernel)
theorem d_RR_closeInner_226 : decode y_RR_closeInner.2.1 226 = .ok (.ifCond .eq 35, 3) := dc9_153 (by decide +kernel)
theorem d_RR_closeInner_229 : decode y_RR_closeInner.2.1 229 = .ok (.iload 5, 2) := dc9_21 (by decide +kernel)
theorem d_RR_closeInner_231 : decode y_RR_closeInner.2.1 231 = .ok (.ifCond .ne 30, 3) := dc9_154 (by decide +kernel)
theorem d_RR_closeInner_234 : decode y_RR_closeInner.2.1 234 = .ok (.aload_n 0, 1) := dc9_42 (by decide +kernel)
theorem d_RR_closeInner_235 : decode y_RR_closeInner.2.1 235 = .ok (.getfield 21, 3) := dc9_180 (by decide +kernel)
theorem d_RR_closeInner_238 : decode y_RR_closeInner.2.1 238 = .ok (.iload_n 2, 1) := dc9_28 (by decide +kernel)
theorem d_RR_closeInner_239 : decode y_RR_closeInner.2.1 239 = .ok (.iaload, 1) := dc9_46 (by decide +kernel)
theorem d_RR_closeInner_240 : decode y_RR_closeInner.2.1 240 = .ok (.iconst 1, 1) := dc9_4 (by decide +kernel)
theorem d_RR_closeInner_241 : decode y_RR_closeInner.2.1 241 = .ok (.iand, 1) := dc9_126 (by decide +kernel)
theorem d_RR_closeInner_242 : decode y_RR_closeInner.2.1 242 = .ok (.ifCond .eq 14, 3) := dc9_153 (by decide +kernel)
theorem d_RR_closeInner_245 : decode y_RR_closeInner.2.1 245 = .ok (.aload_n 0, 1) := dc9_42 (by decide +kernel)
theorem d_RR_closeInner_246 : decode y_RR_closeInner.2.1 246 = .ok (.iconst 3, 1) := dc9_6 (by decide +kernel)
theorem d_RR_closeInner_247 : decode y_RR_closeInner.2.1 247 = .ok (.aload_n 0, 1) := dc9_42 (by decide +kernel)
theorem d_RR_closeInner_248 : decode y_RR_closeInner.2.1 248 = .ok (.getfield 15, 3) := dc9_180 (by decide +kernel)
theorem d_RR_closeInner_251 : decode y_RR_closeInner.2.1 251 = .ok (.iload_n 2, 1) := dc9_28 (by decide +kernel)
theorem d_RR_closeInner_252 : decode y_RR_closeInner.2.1 252 = .ok (.iaload, 1) := dc9_46 (by decide +kernel)
theorem d_RR_closeInner_261 : decode y_RR_closeInner.2.1 261 = .ok (.iload 5, 2) := dc9_21 (by decide +kernel)
theorem d_RR_closeInner_263 : decode y_RR_closeInner.2.1 263 = .ok (.ifCond .ne 23, 3) := dc9_154 (by decide +kernel)
theorem d_RR_closeInner_266 : decode y_RR_closeInner.2.1 266 = .ok (.aload_n 0, 1) := dc9_42 (by decide +kernel)
theorem d_RR_closeInner_267 : decode y_RR_closeInner.2.1 267 = .ok (.dup, 1) := dc9_89 (by decide +kernel)
theorem d_RR_closeInner_268 : decode y_RR_closeInner.2.1 268 = .ok (.getfield 87, 3) := dc9_180 (by decide +kernel)
theorem d_RR_closeInner_271 : decode y_RR_closeInner.2.1 271 = .ok (.iconst 1, 1) := dc9_4 (by decide +kernel)
theorem d_RR_closeInner_272 : decode y_RR_closeInner.2.1 272 = .ok (.isub, 1) := dc9_100 (by decide +kernel)
theorem d_RR_closeInner_273 : decode y_RR_closeInner.2.1 273 = .ok (.putfield 87, 3) := dc9_181 (by decide +kernel)
theorem d_RR_closeInner_276 : decode y_RR_closeInner.2.1 276 = .ok (.aload_n 0, 1) := dc9_42 (by decide +kernel)
theorem d_RR_closeInner_277 : decode y_RR_closeInner.2.1 277 = .ok (.dup, 1) := dc9_89 (by decide +kernel)
theorem d_RR_closeInner_278 : decode y_RR_closeInner.2.1 278 = .ok (.getfield 58, 3) := dc9_180 (by decide +kernel)
theorem d_RR_closeInner_281 : decode y_RR_closeInner.2.1 281 = .ok (.iconst 1, 1) := dc9_4 (by decide +kernel)
theorem d_RR_closeInner_282 : decode y_RR_closeInner.2.1 282 = .ok (.isub, 1) := dc9_100 (by decide +kernel)
theorem d_RR_closeInner_283 : decode y_RR_closeInner.2.1 283 = .ok (.putfield 58, 3) := dc9_181 (by decide +kernel)
theorem d_RR_closeInner_253 : decode y_RR_closeInner.2.1 253 = .ok (.invokevirtual 114, 3) := dc9_182 (by decide +kernel)
theorem d_RR_closeInner_197 : decode y_RR_closeInner.2.1 197 = .ok (.invokevirtual 135, 3) := dc9_182 (by decide +kernel)
theorem d_RR_closeInner_200 : decode y_RR_closeInner.2.1 200 = .ok (.pop, 1) := dc9_87 (by decide +kernel)
theorem d_RR_closeInner_201 : decode y_RR_closeInner.2.1 201 = .ok (.aload_n 0, 1) := dc9_42 (by decide +kernel)
theorem d_RR_closeInner_202 : decode y_RR_closeInner.2.1 202 = .ok (.getfield 21, 3) := dc9_180 (by decide +kernel)
theorem d_RR_closeInner_205 : decode y_RR_closeInner.2.1 205 = .ok (.iload_n 2, 1) := dc9_28 (by decide +kernel)
theorem d_RR_closeInner_206 : decode y_RR_closeInner.2.1 206 = .ok (.dup2, 1) := dc9_92 (by decide +kernel)
theorem d_RR_closeInner_207 : decode y_RR_closeInner.2.1 207 = .ok (.iaload, 1) := dc9_46 (by decide +kernel)
theorem d_RR_closeInner_208 : decode y_RR_closeInner.2.1 208 = .ok (.iconst 2, 1) := dc9_5 (by decide +kernel)
theorem d_RR_closeInner_209 : decode y_RR_closeInner.2.1 209 = .ok (.aload_n 0, 1) := dc9_42 (by decide +kernel)
theorem d_RR_closeInner_210 : decode y_RR_closeInner.2.1 210 = .ok (.invokevirtual 162, 3) := dc9_182 (by decide +kernel)
theorem d_RR_closeInner_213 : decode y_RR_closeInner.2.1 213 = .ok (.ifCond .eq 7, 3) := dc9_153 (by decide +kernel)
theorem d_RR_closeInner_220 : decode y_RR_closeInner.2.1 220 = .ok (.iconst 0, 1) := dc9_3 (by decide +kernel)
theorem d_RR_closeInner_216 : decode y_RR_closeInner.2.1 216 = .ok (.iconst 1, 1) := dc9_4 (by decide +kernel)
theorem d_RR_closeInner_217 : decode y_RR_closeInner.2.1 217 = .ok (.goto 4, 3) := dc9_167 (by decide +kernel)
theorem d_RR_closeInner_221 : decode y_RR_closeInner.2.1 221 = .ok (.ior, 1) := dc9_128 (by decide +kernel)
theorem d_RR_closeInner_222 : decode y_RR_closeInner.2.1 222 = .ok (.ior, 1) := dc9_128 (by decide +kernel)
theorem d_RR_closeInner_223 : decode y_RR_closeInner.2.1 223 = .ok (.iastore, 1) := dc9_79 (by decide +kernel)
theorem d_RR_closeInner_256 : decode y_RR_closeInner.2.1 256 = .ok (.aload_n 0, 1) := dc9_42 (by decide +kernel)
theorem d_RR_closeInner_257 : decode y_RR_closeInner.2.1 257 = .ok (.iconst 0, 1) := dc9_3 (by decide +kernel)
theorem d_RR_closeInner_258 : decode y_RR_closeInner.2.1 258 = .ok (.invokevirtual 140, 3) := dc9_182 (by decide +kernel)
theorem d_RR_closeInner_286 : decode y_RR_closeInner.2.1 286 = .ok (.aload_n 0, 1) := dc9_42 (by decide +kernel)
theorem d_RR_closeInner_287 : decode y_RR_closeInner.2.1 287 = .ok (.iload 5, 2) := dc9_21 (by decide +kernel)
theorem d_RR_closeInner_289 : decode y_RR_closeInner.2.1 289 = .ok (.putfield 93, 3) := dc9_181 (by decide +kernel)
theorem d_RR_closeInner_292 : decode y_RR_closeInner.2.1 292 = .ok (.aload_n 0, 1) := dc9_42 (by decide +kernel)
theorem d_RR_closeInner_293 : decode y_RR_closeInner.2.1 293 = .ok (.dup, 1) := dc9_89 (by decide +kernel)
theorem d_RR_closeInner_294 : decode y_RR_closeInner.2.1 294 = .ok (.getfield 48, 3) := dc9_180 (by decide +kernel)
theorem d_RR_closeInner_297 : decode y_RR_closeInner.2.1 297 = .ok (.iconst 1, 1) := dc9_4 (by decide +kernel)
theorem d_RR_closeInner_298 : decode y_RR_closeInner.2.1 298 = .ok (.iadd, 1) := dc9_96 (by decide +kernel)
theorem d_RR_closeInner_299 : decode y_RR_closeInner.2.1 299 = .ok (.putfield 48, 3) := dc9_181 (by decide +kernel)
theorem d_RR_closeInner_302 : decode y_RR_closeInner.2.1 302 = .ok (.iconst 0, 1) := dc9_3 (by decide +kernel)
theorem d_RR_closeInner_303 : decode y_RR_closeInner.2.1 303 = .ok (.ireturn, 1) := dc9_172 (by decide +kernel)
def h_RR_closeInner_165 (G : mG) (d : Nat) (a0 : Nat) (l2 : Int) (l4 : Int) (l5 : Int) (M : mM) (Q : Int → mM → Prop) : Prop := mWm G y_RR_closeInner (d + 1) 165 [vr a0, vd, vi l2, vd, vi l4, vi l5, vd] [] M (fun r9 M9 => ∃ x9, r9 = some (vi x9) ∧ Q x9 M9)
def h_RR_closeInner_201 (G : mG) (d : Nat) (a0 : Nat) (l2 : Int) (l4 : Int) (l5 : Int) (M : mM) (Q : Int → mM → Prop) : Prop := mWm G y_RR_closeInner (d + 1) 201 [vr a0, vd, vi l2, vd, vi l4, vi l5, vd] [] M (fun r9 M9 => ∃ x9, r9 = some (vi x9) ∧ Q x9 M9)
def h_RR_closeInner_256 (G : mG) (d : Nat) (a0 : Nat) (l5 : Int) (M : mM) (Q : Int → mM → Prop) : Prop := mWm G y_RR_closeInner (d + 1) 256 [vr a0, vd, vd, vd, vd, vi l5, vd] [] M (fun r9 M9 => ∃ x9, r9 = some (vi x9) ∧ Q x9 M9)
def h_RR_closeInner_286 (G : mG) (d : Nat) (a0 : Nat) (l5 : Int) (M : mM) (Q : Int → mM → Prop) : Prop := mWm G y_RR_closeInner (d + 1) 286 [vr a0, vd, vd, vd, vd, vi l5, vd] [] M (fun r9 M9 => ∃ x9, r9 = some (vi x9) ∧ Q x9 M9)
theorem k_RR_closeInner {G : mG} {d : Nat} {a0 : Nat} {l1 : Int} {l2 : Int} {M : mM} {Q : Int → mM → Prop} (hO : mOk M) (hi_l1 : i32 l1) (hi_l2 : i32 l2)
    (h : mK M a0 = 4 ∧ mK M (mR M a0 8) = 30 ∧ ((0 : Int) ≤ l2 ∧ l2 < (mN M (mR M a0 8) : Int)) ∧ ∀ v5 : Int, v5 = (if (mI M (mR M a0 8) (Int.toNat l2) = 33) then 1 else 0) → ((0 : Int) ≤ l2 ∧ l2 < (mN M (mR M a0 8) : Int)) ∧ (¬ (mI M (mR M a0 8) (Int.toNat l2) = 15) → ((0 : Int) ≤ l2 ∧ l2 < (mN M (mR M a0 8) : Int))) ∧ ∀ v14 : Int, v14 = (if ((mI M (mR M a0 8) (Int.toNat l2) = 15) ∨ (mI M (mR M a0 8) (Int.toNat l2) = 16)) then 1 else 0) → ∀ v25 : Int, v25 = (if (((v5 = 0) ∧ ((v14 = 0) ∨ (¬ (l1 = 36)))) ∨ ((¬ (v5 = 0)) ∧ ((¬ (l1 = 34)) ∧ ((v14 = 0) ∨ (¬ (l1 = 36)))))) then 0 else 1) → (((¬ (v25 = 0)) ∨ ((v5 = 0) ∧ (l1 = 38))) → (((v5 = 0) → (h_RR_closeInner_165 G d a0 l2 v14 v25 M Q)) ∧ (¬ (v5 = 0) → (mK M (mR M a0 11) = 30 ∧ ((0 : Int) ≤ l2 ∧ l2 < (mN M (mR M a0 11) : Int)) ∧ Ci G y_RR_popKind d [vr a0] M (fun x40 M39 => i32 x40 ∧ mOk M39 ∧ (∀ v43 : Int, v43 = (if (x40 = 0) then 0 else 4) → mK M39 (mR M a0 11) = 30 ∧ ((0 : Int) ≤ l2 ∧ l2 < (mN M39 (mR M a0 11) : Int)) ∧ ∀ M49, M49 = mUI M39 (mR M a0 11) (Int.toNat l2) (orI (mI M (mR M a0 11) (Int.toNat l2)) v43) → mK M49 a0 = 4 ∧ mK M49 (mR M49 a0 1) = 6 ∧ Ci G y_Pr_add d [vr (mR M49 a0 1), vi 42, vi 0] M49 (fun x54 M53 => i32 x54 ∧ mOk M53 ∧ (mK M53 a0 = 4 ∧ mK M53 (mR M53 a0 1) = 6 ∧ mK M53 (mR M53 a0 10) = 30 ∧ ((0 : Int) ≤ l2 ∧ l2 < (mN M53 (mR M53 a0 10) : Int)) ∧ mK M53 (mR M53 (mR M53 a0 1) 1) = 30 ∧ ((0 : Int) ≤ mI M53 (mR M53 a0 10) (Int.toNat l2) ∧ mI M53 (mR M53 a0 10) (Int.toNat l2) < (mN M53 (mR M53 (mR M53 a0 1) 1) : Int)) ∧ ∀ M62, M62 = mUI M53 (mR M53 (mR M53 a0 1) 1) (Int.toNat (mI M53 (mR M53 a0 10) (Int.toNat l2))) (mI M53 (mR M53 a0 1) 2) → mK M62 (mR M62 a0 10) = 30 ∧ ((0 : Int) ≤ l2 ∧ l2 < (mN M62 (mR M62 a0 10) : Int)) ∧ ∀ M66, M66 = mUI M62 (mR M62 a0 10) (Int.toNat l2) x54 → mK M66 (mR M66 a0 8) = 30 ∧ ((0 : Int) ≤ l2 ∧ l2 < (mN M66 (mR M66 a0 8) : Int)) ∧ ∀ M70, M70 = mUI M66 (mR M66 a0 8) (Int.toNat l2) 42 → h_RR_closeInner_165 G d a0 l2 v14 v25 M70 Q)))))))) ∧ (¬ ((¬ (v25 = 0)) ∨ ((v5 = 0) ∧ (l1 = 38))) → (Q 2 M))) :
    Ci G y_RR_closeInner (d + 1) [vr a0, vi l1, vi l2] M Q := by
  refine wm_open (y := y_RR_closeInner) rfl (Nat.le_of_ble_eq_true rfl) (L := [vr a0, vi l1, vi l2, vd, vd, vd, vd]) rfl ?_
  obtain ⟨h1, h⟩ := h
  obtain ⟨h2, h⟩ := h
  obtain ⟨h3, h⟩ := h
  refine wm_aload_n d_RR_closeInner_0 rfl rfl ?_
  refine gf_RR_11 rfl d_RR_closeInner_1 h1 ?_
  refine wm_iload_n d_RR_closeInner_4 rfl rfl ?_
  refine wm_iald d_RR_closeInner_5 h2 h3 ?_
  refine wm_bipush d_RR_closeInner_6 (by decide) ?_
  have hJ : ∀ v5 : Int, v5 = (if (mI M (mR M a0 8) (Int.toNat l2) = 33) then 1 else 0) → mWm G y_RR_closeInner (d + 1) 16 [vr a0, vi l1, vi l2, vd, vd, vd, vd] [vi v5] M (fun r9 M9 => ∃ x9, r9 = some (vi x9) ∧ Q x9 M9) := by
    intro v5 e7
    have h := h v5 e7
    have h8 : i32 v5 := by rw [e7]; (repeat' split) <;> first | exact ⟨by decide, by decide⟩ | exact ⟨by decide, by decide⟩
    have h9 : (v5 = 0 ∨ v5 = 1) := by rw [e7]; (repeat' split) <;> decide
    obtain ⟨h10, h⟩ := h
    refine wm_istore_n d_RR_closeInner_16 rfl (by decide) (L' := [vr a0, vi l1, vi l2, vi v5, vd, vd, vd]) rfl ?_
    refine wm_aload_n d_RR_closeInner_17 rfl rfl ?_
    refine gf_RR_11 rfl d_RR_closeInner_18 h1 ?_
    refine wm_iload_n d_RR_closeInner_21 rfl rfl ?_
    refine wm_iald d_RR_closeInner_22 h2 h10 ?_
    refine wm_bipush d_RR_closeInner_23 (by decide) ?_
    obtain ⟨s15, h⟩ := h
    have hJ : ∀ v14 : Int, v14 = (if ((mI M (mR M a0 8) (Int.toNat l2) = 15) ∨ (mI M (mR M a0 8) (Int.toNat l2) = 16)) then 1 else 0) → mWm G y_RR_closeInner (d + 1) 44 [vr a0, vi l1, vi l2, vi v5, vd, vd, vd] [vi v14] M (fun r9 M9 => ∃ x9, r9 = some (vi x9) ∧ Q x9 M9) := by
      intro v14 e16
      have h := h v14 e16
      have h17 : i32 v14 := by rw [e16]; (repeat' split) <;> first | exact ⟨by decide, by decide⟩ | exact ⟨by decide, by decide⟩
      have h18 : (v14 = 0 ∨ v14 = 1) := by rw [e16]; (repeat' split) <;> decide
      refine wm_istore d_RR_closeInner_44 (by decide) (L' := [vr a0, vi l1, vi l2, vi v5, vi v14, vd, vd]) rfl ?_
      refine wm_iload_n d_RR_closeInner_46 rfl rfl ?_
      have hJ : ∀ v25 : Int, v25 = (if (((v5 = 0) ∧ ((v14 = 0) ∨ (¬ (l1 = 36)))) ∨ ((¬ (v5 = 0)) ∧ ((¬ (l1 = 34)) ∧ ((v14 = 0) ∨ (¬ (l1 = 36)))))) then 0 else 1) → mWm G y_RR_closeInner (d + 1) 72 [vr a0, vi l1, vi l2, vi v5, vi v14, vd, vd] [vi v25] M (fun r9 M9 => ∃ x9, r9 = some (vi x9) ∧ Q x9 M9) := by
        intro v25 e27
        have h := h v25 e27
        have h28 : i32 v25 := by rw [e27]; (repeat' split) <;> first | exact ⟨by decide, by decide⟩ | exact ⟨by decide, by decide⟩
        have h29 : (v25 = 0 ∨ v25 = 1) := by rw [e27]; (repeat' split) <;> decide
        refine wm_istore d_RR_closeInner_72 (by decide) (L' := [vr a0, vi l1, vi l2, vi v5, vi v14, vi v25, vd]) rfl ?_
        refine wm_iload d_RR_closeInner_74 rfl ?_
        have hE0 : ((¬ (v25 = 0)) ∨ ((v5 = 0) ∧ (l1 = 38))) → mWm G y_RR_closeInner (d + 1) 91 [vr a0, vi l1, vi l2, vi v5, vi v14, vi v25, vd] [] M (fun r9 M9 => ∃ x9, r9 = some (vi x9) ∧ Q x9 M9) := by
          intro q34
          have h := h.1 q34
          refine wm_iload_n d_RR_closeInner_91 rfl rfl ?_
          refine wm_if_eq (tgt := 165) d_RR_closeInner_92 rfl h8 (fun c36 => ?_) (fun c36 => ?_)
          · replace h := h.1 c36
            refine wm_less (L' := [vr a0, vd, vi l2, vd, vi v14, vi v25, vd]) ⟨Or.inr rfl, Or.inl rfl, Or.inr rfl, Or.inl rfl, Or.inr rfl, Or.inr rfl, Or.inl rfl, trivial⟩ ?_
            exact h
          · replace h := h.2 c36
            obtain ⟨h37, h⟩ := h
            obtain ⟨h38, h⟩ := h
            refine wm_aload_n d_RR_closeInner_95 rfl rfl ?_
            refine gf_RR_21 rfl d_RR_closeInner_96 h1 ?_
            refine wm_iload_n d_RR_closeInner_99 rfl rfl ?_
            refine wm_dup2 d_RR_closeInner_100 rfl rfl ?_
            refine wm_iald d_RR_closeInner_101 h37 h38 ?_
            refine wm_aload_n d_RR_closeInner_102 rfl rfl ?_
            refine cf_RR_162 rfl d_RR_closeInner_103 h1 (Nat.le_of_ble_eq_true rfl) (Ci.mono h (fun x40 M39 h => ?_))
            obtain ⟨h41, hOM39, h⟩ := h
            have hJ : ∀ v43 : Int, v43 = (if (x40 = 0) then 0 else 4) → mWm G y_RR_closeInner (d + 1) 114 [vr a0, vd, vi l2, vd, vi v14, vi v25, vd] [vi v43, vi (mI M (mR M a0 11) (Int.toNat l2)), vi l2, vr (mR M a0 11)] M39 (fun r9 M9 => ∃ x9, r9 = some (vi x9) ∧ Q x9 M9) := by
              intro v43 e45
              have h := h v43 e45
              have h46 : i32 v43 := by rw [e45]; (repeat' split) <;> first | exact ⟨by decide, by decide⟩ | exact ⟨by decide, by decide⟩
              obtain ⟨h47, h⟩ := h
              obtain ⟨h48, h⟩ := h
              obtain ⟨M49, e50⟩ : ∃ M49, M49 = mUI M39 (mR M a0 11) (Int.toNat l2) (orI (mI M (mR M a0 11) (Int.toNat l2)) v43) := ⟨_, rfl⟩
              replace h := h M49 e50
              obtain ⟨h51, h⟩ := h
              obtain ⟨h52, h⟩ := h
              refine wm_ior d_RR_closeInner_114 ?_
              have hOM49 : mOk M49 := by rw [e50]; exact mOk_UI hOM39 (m_i32 _)
              refine wm_iastE d_RR_closeInner_115 h47 h48 (m_i32 _) e50 ?_
              refine wm_aload_n d_RR_closeInner_116 rfl rfl ?_
              refine gf_RR_44 rfl d_RR_closeInner_117 h51 ?_
              refine wm_bipush d_RR_closeInner_120 (by decide) ?_
              refine wm_iconst d_RR_closeInner_122 ?_
              refine cf_RR_135 rfl d_RR_closeInner_123 h52 (Nat.le_of_ble_eq_true rfl) (Ci.mono h (fun x54 M53 h => ?_))
              obtain ⟨h55, hOM53, h⟩ := h
              obtain ⟨h56, h⟩ := h
              obtain ⟨h57, h⟩ := h
              obtain ⟨h58, h⟩ := h
              obtain ⟨h59, h⟩ := h
              obtain ⟨h60, h⟩ := h
              obtain ⟨h61, h⟩ := h
              obtain ⟨M62, e63⟩ : ∃ M62, M62 = mUI M53 (mR M53 (mR M53 a0 1) 1) (Int.toNat (mI M53 (mR M53 a0 10) (Int.toNat l2))) (mI M53 (mR M53 a0 1) 2) := ⟨_, rfl⟩
              replace h := h M62 e63
              obtain ⟨h64, h⟩ := h
              obtain ⟨h65, h⟩ := h
              obtain ⟨M66, e67⟩ : ∃ M66, M66 = mUI M62 (mR M62 a0 10) (Int.toNat l2) x54 := ⟨_, rfl⟩
              replace h := h M66 e67
              obtain ⟨h68, h⟩ := h
              obtain ⟨h69, h⟩ := h
              obtain ⟨M70, e71⟩ : ∃ M70, M70 = mUI M66 (mR M66 a0 8) (Int.toNat l2) 42 := ⟨_, rfl⟩
              replace h := h M70 e71
              refine wm_istore d_RR_closeInner_126 (by decide) (L' := [vr a0, vd, vi l2, vd, vi v14, vi v25, vi x54]) rfl ?_
              refine wm_aload_n d_RR_closeInner_128 rfl rfl ?_
              refine gf_RR_44 rfl d_RR_closeInner_129 h56 ?_
              refine gf_RR_165 rfl d_RR_closeInner_132 h57 ?_
              refine wm_aload_n d_RR_closeInner_135 rfl rfl ?_
              refine gf_RR_18 rfl d_RR_closeInner_136 h56 ?_
              refine wm_iload_n d_RR_closeInner_139 rfl rfl ?_
              refine wm_iald d_RR_closeInner_140 h58 h59 ?_
              refine wm_aload_n d_RR_closeInner_141 rfl rfl ?_
              refine gf_RR_44 rfl d_RR_closeInner_142 h56 ?_
              refine gf_RR_168 rfl d_RR_closeInner_145 h57 ?_
              have hOM62 : mOk M62 := by rw [e63]; exact mOk_UI hOM53 (hOM53 _ _).1
              refine wm_iastE d_RR_closeInner_148 h60 h61 (hOM53 _ _).1 e63 ?_
              refine wm_aload_n d_RR_closeInner_149 rfl rfl ?_
              refine gf_RR_18 rfl d_RR_closeInner_150 (by rw [e63]; exact h56) ?_
              refine wm_iload_n d_RR_closeInner_153 rfl rfl ?_
              refine wm_iload d_RR_closeInner_154 rfl ?_
              have hOM66 : mOk M66 := by rw [e67]; exact mOk_UI hOM62 h55
              refine wm_iastE d_RR_closeInner_156 h64 h65 h55 e67 ?_
              refine wm_aload_n d_RR_closeInner_157 rfl rfl ?_
              refine gf_RR_11 rfl d_RR_closeInner_158 (by rw [e67, e63]; exact h56) ?_
              refine wm_iload_n d_RR_closeInner_161 rfl rfl ?_
              refine wm_bipush d_RR_closeInner_162 (by decide) ?_
              have hOM70 : mOk M70 := by rw [e71]; exact mOk_UI hOM66 ⟨by decide, by decide⟩
              refine wm_iastE d_RR_closeInner_164 h68 h69 ⟨by decide, by decide⟩ e71 ?_
              refine wm_less (L' := [vr a0, vd, vi l2, vd, vi v14, vi v25, vd]) ⟨Or.inr rfl, Or.inl rfl, Or.inr rfl, Or.inl rfl, Or.inr rfl, Or.inr rfl, Or.inl rfl, trivial⟩ ?_
              exact h
            clear h
            refine wm_if_eq (tgt := 113) d_RR_closeInner_106 rfl h41 (fun c42 => ?_) (fun c42 => ?_)
            · refine wm_iconst d_RR_closeInner_113 ?_
              refine wm_less (L' := [vr a0, vd, vi l2, vd, vi v14, vi v25, vd]) ⟨Or.inr rfl, Or.inl rfl, Or.inr rfl, Or.inl rfl, Or.inr rfl, Or.inr rfl, Or.inl rfl, trivial⟩ ?_
              exact hJ 0 (if_pos c42).symm
            · refine wm_iconst d_RR_closeInner_109 ?_
              refine wm_goto (tgt := 114) d_RR_closeInner_110 rfl ?_
              refine wm_less (L' := [vr a0, vd, vi l2, vd, vi v14, vi v25, vd]) ⟨Or.inr rfl, Or.inl rfl, Or.inr rfl, Or.inl rfl, Or.inr rfl, Or.inr rfl, Or.inl rfl, trivial⟩ ?_
              exact hJ 4 (if_neg c42).symm
        have hE1 : ¬ ((¬ (v25 = 0)) ∨ ((v5 = 0) ∧ (l1 = 38))) → mWm G y_RR_closeInner (d + 1) 89 [vr a0, vi l1, vi l2, vi v5, vi v14, vi v25, vd] [] M (fun r9 M9 => ∃ x9, r9 = some (vi x9) ∧ Q x9 M9) := by
          intro q73
          have h := h.2 q73
          refine wm_iconst d_RR_closeInner_89 ?_
          refine wm_ireturn d_RR_closeInner_90 rfl rfl ?_
          exact ⟨_, rfl, h⟩
        clear h
        refine wm_if_ne (tgt := 91) d_RR_closeInner_76 rfl h28 (fun c32 => ?_) (fun c32 => ?_)
        · exact hE0 (Or.inl c32)
        · replace c32 := Classical.not_not.mp c32
          refine wm_iload_n d_RR_closeInner_79 rfl rfl ?_
          refine wm_if_ne (tgt := 89) d_RR_closeInner_80 rfl h8 (fun c31 => ?_) (fun c31 => ?_)
          · exact hE1 (fun z77 => Or.elim z77 (fun w => w c32) (fun z78 => c31 z78.1))
          · replace c31 := Classical.not_not.mp c31
            refine wm_iload_n d_RR_closeInner_83 rfl rfl ?_
            refine wm_bipush d_RR_closeInner_84 (by decide) ?_
            refine wm_icmp_eq (tgt := 91) d_RR_closeInner_86 rfl hi_l1 ⟨by decide, by decide⟩ (fun c30 => ?_) (fun c30 => ?_)
            · exact hE0 (Or.inr ⟨c31, c30⟩)
            · exact hE1 (fun z74 => Or.elim z74 (fun w => w c32) (fun z75 => c30 z75.2))
      clear h
      refine wm_if_eq (tgt := 56) d_RR_closeInner_47 rfl h8 (fun c19 => ?_) (fun c19 => ?_)
      · refine wm_iload d_RR_closeInner_56 rfl ?_
        refine wm_if_eq (tgt := 71) d_RR_closeInner_58 rfl h17 (fun c20 => ?_) (fun c20 => ?_)
        · refine wm_iconst d_RR_closeInner_71 ?_
          exact hJ 0 (if_pos (Or.inl ⟨c19, (Or.inl c20)⟩)).symm
        · refine wm_iload_n d_RR_closeInner_61 rfl rfl ?_
          refine wm_bipush d_RR_closeInner_62 (by decide) ?_
          refine wm_icmp_ne (tgt := 71) d_RR_closeInner_64 rfl hi_l1 ⟨by decide, by decide⟩ (fun c21 => ?_) (fun c21 => ?_)
          · refine wm_iconst d_RR_closeInner_71 ?_
            exact hJ 0 (if_pos (Or.inl ⟨c19, (Or.inr c21)⟩)).symm
          · replace c21 := Classical.not_not.mp c21
            refine wm_iconst d_RR_closeInner_67 ?_
            refine wm_goto (tgt := 72) d_RR_closeInner_68 rfl ?_
            exact hJ 1 (if_neg (fun z79 => Or.elim z79 (fun w => (fun z80 => Or.elim z80 c20 (fun z81 => z81 c21)) w.2) (fun w => w.1 c19))).symm
      · refine wm_iload_n d_RR_closeInner_50 rfl rfl ?_
        refine wm_bipush d_RR_closeInner_51 (by decide) ?_
        refine wm_icmp_eq (tgt := 67) d_RR_closeInner_53 rfl hi_l1 ⟨by decide, by decide⟩ (fun c22 => ?_) (fun c22 => ?_)
        · refine wm_iconst d_RR_closeInner_67 ?_
          refine wm_goto (tgt := 72) d_RR_closeInner_68 rfl ?_
          exact hJ 1 (if_neg (fun z82 => Or.elim z82 (fun w => c19 w.1) (fun w => (fun z83 => z83.1 c22) w.2))).symm
        · refine wm_iload d_RR_closeInner_56 rfl ?_
          refine wm_if_eq (tgt := 71) d_RR_closeInner_58 rfl h17 (fun c23 => ?_) (fun c23 => ?_)
          · refine wm_iconst d_RR_closeInner_71 ?_
            exact hJ 0 (if_pos (Or.inr ⟨c19, ⟨c22, (Or.inl c23)⟩⟩)).symm
          · refine wm_iload_n d_RR_closeInner_61 rfl rfl ?_
            refine wm_bipush d_RR_closeInner_62 (by decide) ?_
            refine wm_icmp_ne (tgt := 71) d_RR_closeInner_64 rfl hi_l1 ⟨by decide, by decide⟩ (fun c24 => ?_) (fun c24 => ?_)
            · refine wm_iconst d_RR_closeInner_71 ?_
              exact hJ 0 (if_pos (Or.inr ⟨c19, ⟨c22, (Or.inr c24)⟩⟩)).symm
            · replace c24 := Classical.not_not.mp c24
              refine wm_iconst d_RR_closeInner_67 ?_
              refine wm_goto (tgt := 72) d_RR_closeInner_68 rfl ?_
              exact hJ 1 (if_neg (fun z84 => Or.elim z84 (fun w => c19 w.1) (fun w => (fun z85 => (fun z86 => Or.elim z86 c23 (fun z87 => z87 c24)) z85.2) w.2))).symm
    clear h
    have s88 := s15
    refine wm_icmp_eq (tgt := 39) d_RR_closeInner_25 rfl (hO _ _).1 ⟨by decide, by decide⟩ (fun c11 => ?_) (fun c11 => ?_)
    · refine wm_iconst d_RR_closeInner_39 ?_
      refine wm_goto (tgt := 44) d_RR_closeInner_40 rfl ?_
      exact hJ 1 (if_pos (Or.inl c11)).symm
    · have s88 := s88 c11
      have h12 := s88
      refine wm_aload_n d_RR_closeInner_28 rfl rfl ?_
      refine gf_RR_11 rfl d_RR_closeInner_29 h1 ?_
      refine wm_iload_n d_RR_closeInner_32 rfl rfl ?_
      refine wm_iald d_RR_closeInner_33 h2 h12 ?_
      refine wm_bipush d_RR_closeInner_34 (by decide) ?_
      refine wm_icmp_ne (tgt := 43) d_RR_closeInner_36 rfl (hO _ _).1 ⟨by decide, by decide⟩ (fun c13 => ?_) (fun c13 => ?_)
      · refine wm_iconst d_RR_closeInner_43 ?_
        exact hJ 0 (if_neg (fun z89 => Or.elim z89 c11 c13)).symm
      · replace c13 := Classical.not_not.mp c13
        refine wm_iconst d_RR_closeInner_39 ?_
        refine wm_goto (tgt := 44) d_RR_closeInner_40 rfl ?_
        exact hJ 1 (if_pos (Or.inr c13)).symm
  clear h
  refine wm_icmp_ne (tgt := 15) d_RR_closeInner_8 rfl (hO _ _).1 ⟨by decide, by decide⟩ (fun c4 => ?_) (fun c4 => ?_)
  · refine wm_iconst d_RR_closeInner_15 ?_
    exact hJ 0 (if_neg c4).symm
  · replace c4 := Classical.not_not.mp c4
    refine wm_iconst d_RR_closeInner_11 ?_
    refine wm_goto (tgt := 16) d_RR_closeInner_12 rfl ?_
    exact hJ 1 (if_pos c4).symm
theorem k_RR_closeInner_165 {G : mG} {d : Nat} {a0 : Nat} {l2 : Int} {l4 : Int} {l5 : Int} {M : mM} {Q : Int → mM → Prop} (hO : mOk M) (hi_l2 : i32 l2) (hi_l4 : i32 l4) (hi_l5 : i32 l5)
    (h : ((l4 = 0) → ((((l4 = 0) ∨ (¬ (l5 = 0))) → (((l5 = 0) → (mK M a0 = 4 ∧ i32 ((mI M a0 12) - 1) ∧ ∀ M110, M110 = mUI M a0 12 ((mI M a0 12) - 1) → i32 ((mI M110 a0 5) - 1) ∧ ∀ M113, M113 = mUI M110 a0 5 ((mI M110 a0 5) - 1) → h_RR_closeInner_286 G d a0 l5 M113 Q)) ∧ (¬ (l5 = 0) → (h_RR_closeInner_286 G d a0 l5 M Q)))) ∧ (¬ ((l4 = 0) ∨ (¬ (l5 = 0))) → (mK M a0 = 4 ∧ mK M (mR M a0 11) = 30 ∧ ((0 : Int) ≤ l2 ∧ l2 < (mN M (mR M a0 11) : Int)) ∧ ((andI (mI M (mR M a0 11) (Int.toNat l2)) 1 = 0) → (h_RR_closeInner_256 G d a0 l5 M Q)) ∧ (¬ (andI (mI M (mR M a0 11) (Int.toNat l2)) 1 = 0) → (mK M (mR M a0 9) = 30 ∧ ((0 : Int) ≤ l2 ∧ l2 < (mN M (mR M a0 9) : Int)) ∧ Cv G y_RR_note d [vr a0, vi 3, vi (mI M (mR M a0 9) (Int.toNat l2))] M (fun M123 => mOk M123 ∧ (h_RR_closeInner_256 G d a0 l5 M123 Q)))))))) ∧ (¬ (l4 = 0) → (mK M a0 = 4 ∧ mK M (mR M a0 11) = 30 ∧ ((0 : Int) ≤ l2 ∧ l2 < (mN M (mR M a0 11) : Int)) ∧ ((andI (mI M (mR M a0 11) (Int.toNat l2)) 2 = 0) → (h_RR_closeInner_201 G d a0 l2 l4 l5 M Q)) ∧ (¬ (andI (mI M (mR M a0 11) (Int.toNat l2)) 2 = 0) → (mK M (mR M a0 8) = 30 ∧ ((0 : Int) ≤ l2 ∧ l2 < (mN M (mR M a0 8) : Int)) ∧ mK M (mR M a0 9) = 30 ∧ ((0 : Int) ≤ l2 ∧ l2 < (mN M (mR M a0 9) : Int)) ∧ mK M (mR M a0 1) = 6 ∧ Ci G y_Pr_add d [vr (mR M a0 1), vi (mI M (mR M a0 8) (Int.toNat l2)), vi (mI M (mR M a0 9) (Int.toNat l2))] M (fun x139 M138 => i32 x139 ∧ mOk M138 ∧ (h_RR_closeInner_201 G d a0 l2 l4 l5 M138 Q))))))) :
    h_RR_closeInner_165 G d a0 l2 l4 l5 M Q := by
  unfold h_RR_closeInner_165
  refine wm_iload d_RR_closeInner_165 rfl ?_
  refine wm_if_eq (tgt := 224) d_RR_closeInner_167 rfl hi_l4 (fun c97 => ?_) (fun c97 => ?_)
  · replace h := h.1 c97
    refine wm_iload d_RR_closeInner_224 rfl ?_
    have hE0 : ((l4 = 0) ∨ (¬ (l5 = 0))) → mWm G y_RR_closeInner (d + 1) 261 [vr a0, vd, vi l2, vd, vi l4, vi l5, vd] [] M (fun r9 M9 => ∃ x9, r9 = some (vi x9) ∧ Q x9 M9) := by
      intro q105
      have h := h.1 q105
      refine wm_iload d_RR_closeInner_261 rfl ?_
      refine wm_if_ne (tgt := 286) d_RR_closeInner_263 rfl hi_l5 (fun c107 => ?_) (fun c107 => ?_)
      · replace h := h.2 c107
        refine wm_less (L' := [vr a0, vd, vd, vd, vd, vi l5, vd]) ⟨Or.inr rfl, Or.inl rfl, Or.inl rfl, Or.inl rfl, Or.inl rfl, Or.inr rfl, Or.inl rfl, trivial⟩ ?_
        exact h
      · replace c107 := Classical.not_not.mp c107
        replace h := h.1 c107
        obtain ⟨h108, h⟩ := h
        obtain ⟨h109, h⟩ := h
        obtain ⟨M110, e111⟩ : ∃ M110, M110 = mUI M a0 12 ((mI M a0 12) - 1) := ⟨_, rfl⟩
        replace h := h M110 e111
        obtain ⟨h112, h⟩ := h
        obtain ⟨M113, e114⟩ : ∃ M113, M113 = mUI M110 a0 5 ((mI M110 a0 5) - 1) := ⟨_, rfl⟩
        replace h := h M113 e114
        refine wm_aload_n d_RR_closeInner_266 rfl rfl ?_
        refine wm_dup d_RR_closeInner_267 rfl ?_
        refine gf_RR_87 rfl d_RR_closeInner_268 h108 ?_
        refine wm_iconst d_RR_closeInner_271 ?_
        refine wm_isub d_RR_closeInner_272 ?_
        have hOM110 : mOk M110 := by rw [e111]; exact mOk_UI hO h109
        refine pf_RR_87 rfl d_RR_closeInner_273 h108 h109 e111 ?_
        refine wm_aload_n d_RR_closeInner_276 rfl rfl ?_
        refine wm_dup d_RR_closeInner_277 rfl ?_
        refine gf_RR_58 rfl d_RR_closeInner_278 (by rw [e111]; exact h108) ?_
        refine wm_iconst d_RR_closeInner_281 ?_
        refine wm_isub d_RR_closeInner_282 ?_
        have hOM113 : mOk M113 := by rw [e114]; exact mOk_UI hOM110 h112
        refine pf_RR_58 rfl d_RR_closeInner_283 (by rw [e111]; exact h108) h112 e114 ?_
        refine wm_less (L' := [vr a0, vd, vd, vd, vd, vi l5, vd]) ⟨Or.inr rfl, Or.inl rfl, Or.inl rfl, Or.inl rfl, Or.inl rfl, Or.inr rfl, Or.inl rfl, trivial⟩ ?_
        exact h
    have hE1 : ¬ ((l4 = 0) ∨ (¬ (l5 = 0))) → mWm G y_RR_closeInner (d + 1) 234 [vr a0, vd, vi l2, vd, vi l4, vi l5, vd] [] M (fun r9 M9 => ∃ x9, r9 = some (vi x9) ∧ Q x9 M9) := by
      intro q115
      have h := h.2 q115
      obtain ⟨h116, h⟩ := h
      obtain ⟨h117, h⟩ := h
      obtain ⟨h118, h⟩ := h
      refine wm_aload_n d_RR_closeInner_234 rfl rfl ?_
      refine gf_RR_21 rfl d_RR_closeInner_235 h116 ?_
      refine wm_iload_n d_RR_closeInner_238 rfl rfl ?_
      refine wm_iald d_RR_closeInner_239 h117 h118 ?_
      refine wm_iconst d_RR_closeInner_240 ?_
      refine wm_iand d_RR_closeInner_241 ?_
      refine wm_if_eq (tgt := 256) d_RR_closeInner_242 rfl (m_i32 _) (fun c120 => ?_) (fun c120 => ?_)
      · replace h := h.1 c120
        refine wm_less (L' := [vr a0, vd, vd, vd, vd, vi l5, vd]) ⟨Or.inr rfl, Or.inl rfl, Or.inl rfl, Or.inl rfl, Or.inl rfl, Or.inr rfl, Or.inl rfl, trivial⟩ ?_
        exact h
      · replace h := h.2 c120
        obtain ⟨h121, h⟩ := h
        obtain ⟨h122, h⟩ := h
        refine wm_aload_n d_RR_closeInner_245 rfl rfl ?_
        refine wm_iconst d_RR_closeInner_246 ?_
        refine wm_aload_n d_RR_closeInner_247 rfl rfl ?_
        refine gf_RR_15 rfl d_RR_closeInner_248 h116 ?_
        refine wm_iload_n d_RR_closeInner_251 rfl rfl ?_
        refine wm_iald d_RR_closeInner_252 h121 h122 ?_
        refine cf_RR_114 rfl d_RR_closeInner_253 h116 (Nat.le_of_ble_eq_true rfl) (Cv.mono h (fun M123 h => ?_))
        obtain ⟨hOM123, h⟩ := h
        refine wm_less (L' := [vr a0, vd, vd, vd, vd, vi l5, vd]) ⟨Or.inr rfl, Or.inl rfl, Or.inl rfl, Or.inl rfl, Or.inl rfl, Or.inr rfl, Or.inl rfl, trivial⟩ ?_
        exact h
    clear h
    refine wm_if_eq (tgt := 261) d_RR_closeInner_226 rfl hi_l4 (fun c103 => ?_) (fun c103 => ?_)
    · exact hE0 (Or.inl c103)
    · refine wm_iload d_RR_closeInner_229 rfl ?_
      refine wm_if_ne (tgt := 261) d_RR_closeInner_231 rfl hi_l5 (fun c102 => ?_) (fun c102 => ?_)
      · exact hE0 (Or.inr c102)
      · replace c102 := Classical.not_not.mp c102
        exact hE1 (fun z126 => Or.elim z126 c103 (fun z127 => z127 c102))
  · replace h := h.2 c97
    obtain ⟨h128, h⟩ := h
    obtain ⟨h129, h⟩ := h
    obtain ⟨h130, h⟩ := h
    refine wm_aload_n d_RR_closeInner_170 rfl rfl ?_
    refine gf_RR_21 rfl d_RR_closeInner_171 h128 ?_
    refine wm_iload_n d_RR_closeInner_174 rfl rfl ?_
    refine wm_iald d_RR_closeInner_175 h129 h130 ?_
    refine wm_iconst d_RR_closeInner_176 ?_
    refine wm_iand d_RR_closeInner_177 ?_
    refine wm_if_eq (tgt := 201) d_RR_closeInner_178 rfl (m_i32 _) (fun c132 => ?_) (fun c132 => ?_)
    · replace h := h.1 c132
      exact h
    · replace h := h.2 c132
      obtain ⟨h133, h⟩ := h
      obtain ⟨h134, h⟩ := h
      obtain ⟨h135, h⟩ := h
      obtain ⟨h136, h⟩ := h
      obtain ⟨h137, h⟩ := h
      refine wm_aload_n d_RR_closeInner_181 rfl rfl ?_
      refine gf_RR_44 rfl d_RR_closeInner_182 h128 ?_
      refine wm_aload_n d_RR_closeInner_185 rfl rfl ?_
      refine gf_RR_11 rfl d_RR_closeInner_186 h128 ?_
      refine wm_iload_n d_RR_closeInner_189 rfl rfl ?_
      refine wm_iald d_RR_closeInner_190 h133 h134 ?_
      refine wm_aload_n d_RR_closeInner_191 rfl rfl ?_
      refine gf_RR_15 rfl d_RR_closeInner_192 h128 ?_
      refine wm_iload_n d_RR_closeInner_195 rfl rfl ?_
      refine wm_iald d_RR_closeInner_196 h135 h136 ?_
      refine cf_RR_135 rfl d_RR_closeInner_197 h137 (Nat.le_of_ble_eq_true rfl) (Ci.mono h (fun x139 M138 h => ?_))
      obtain ⟨h140, hOM138, h⟩ := h
      refine wm_pop d_RR_closeInner_200 rfl ?_
      exact h
theorem k_RR_closeInner_201 {G : mG} {d : Nat} {a0 : Nat} {l2 : Int} {l4 : Int} {l5 : Int} {M : mM} {Q : Int → mM → Prop} (hO : mOk M) (hi_l2 : i32 l2) (hi_l4 : i32 l4) (hi_l5 : i32 l5)
    (h : mK M a0 = 4 ∧ mK M (mR M a0 11) = 30 ∧ ((0 : Int) ≤ l2 ∧ l2 < (mN M (mR M a0 11) : Int)) ∧ Ci G y_RR_popKind d [vr a0] M (fun x145 M144 => i32 x145 ∧ mOk M144 ∧ (∀ v148 : Int, v148 = (if (x145 = 0) then 0 else 1) → mK M144 (mR M a0 11) = 30 ∧ ((0 : Int) ≤ l2 ∧ l2 < (mN M144 (mR M a0 11) : Int)) ∧ ∀ M155, M155 = mUI M144 (mR M a0 11) (Int.toNat l2) (orI (mI M (mR M a0 11) (Int.toNat l2)) (orI 2 v148)) → (((l4 = 0) ∨ (¬ (l5 = 0))) → (((l5 = 0) → (mK M155 a0 = 4 ∧ i32 ((mI M155 a0 12) - 1) ∧ ∀ M169, M169 = mUI M155 a0 12 ((mI M155 a0 12) - 1) → i32 ((mI M169 a0 5) - 1) ∧ ∀ M172, M172 = mUI M169 a0 5 ((mI M169 a0 5) - 1) → h_RR_closeInner_286 G d a0 l5 M172 Q)) ∧ (¬ (l5 = 0) → (h_RR_closeInner_286 G d a0 l5 M155 Q)))) ∧ (¬ ((l4 = 0) ∨ (¬ (l5 = 0))) → (mK M155 a0 = 4 ∧ mK M155 (mR M155 a0 11) = 30 ∧ ((0 : Int) ≤ l2 ∧ l2 < (mN M155 (mR M155 a0 11) : Int)) ∧ ((andI (mI M155 (mR M155 a0 11) (Int.toNat l2)) 1 = 0) → (h_RR_closeInner_256 G d a0 l5 M155 Q)) ∧ (¬ (andI (mI M155 (mR M155 a0 11) (Int.toNat l2)) 1 = 0) → (mK M155 (mR M155 a0 9) = 30 ∧ ((0 : Int) ≤ l2 ∧ l2 < (mN M155 (mR M155 a0 9) : Int)) ∧ Cv G y_RR_note d [vr a0, vi 3, vi (mI M155 (mR M155 a0 9) (Int.toNat l2))] M155 (fun M182 => mOk M182 ∧ (h_RR_closeInner_256 G d a0 l5 M182 Q))))))))) :
    h_RR_closeInner_201 G d a0 l2 l4 l5 M Q := by
  unfold h_RR_closeInner_201
  obtain ⟨h141, h⟩ := h
  obtain ⟨h142, h⟩ := h
  obtain ⟨h143, h⟩ := h
  refine wm_aload_n d_RR_closeInner_201 rfl rfl ?_
  refine gf_RR_21 rfl d_RR_closeInner_202 h141 ?_
  refine wm_iload_n d_RR_closeInner_205 rfl rfl ?_
  refine wm_dup2 d_RR_closeInner_206 rfl rfl ?_
  refine wm_iald d_RR_closeInner_207 h142 h143 ?_
  refine wm_iconst d_RR_closeInner_208 ?_
  refine wm_aload_n d_RR_closeInner_209 rfl rfl ?_
  refine cf_RR_162 rfl d_RR_closeInner_210 h141 (Nat.le_of_ble_eq_true rfl) (Ci.mono h (fun x145 M144 h => ?_))
  obtain ⟨h146, hOM144, h⟩ := h
  have hJ : ∀ v148 : Int, v148 = (if (x145 = 0) then 0 else 1) → mWm G y_RR_closeInner (d + 1) 221 [vr a0, vd, vi l2, vd, vi l4, vi l5, vd] [vi v148, vi 2, vi (mI M (mR M a0 11) (Int.toNat l2)), vi l2, vr (mR M a0 11)] M144 (fun r9 M9 => ∃ x9, r9 = some (vi x9) ∧ Q x9 M9) := by
    intro v148 e150
    have h := h v148 e150
    have h151 : i32 v148 := by rw [e150]; (repeat' split) <;> first | exact ⟨by decide, by decide⟩ | exact ⟨by decide, by decide⟩
    have h152 : (v148 = 0 ∨ v148 = 1) := by rw [e150]; (repeat' split) <;> decide
    obtain ⟨h153, h⟩ := h
    obtain ⟨h154, h⟩ := h
    obtain ⟨M155, e156⟩ : ∃ M155, M155 = mUI M144 (mR M a0 11) (Int.toNat l2) (orI (mI M (mR M a0 11) (Int.toNat l2)) (orI 2 v148)) := ⟨_, rfl⟩
    replace h := h M155 e156
    refine wm_ior d_RR_closeInner_221 ?_
    refine wm_ior d_RR_closeInner_222 ?_
    have hOM155 : mOk M155 := by rw [e156]; exact mOk_UI hOM144 (m_i32 _)
    refine wm_iastE d_RR_closeInner_223 h153 h154 (m_i32 _) e156 ?_
    refine wm_iload d_RR_closeInner_224 rfl ?_
    have hE0 : ((l4 = 0) ∨ (¬ (l5 = 0))) → mWm G y_RR_closeInner (d + 1) 261 [vr a0, vd, vi l2, vd, vi l4, vi l5, vd] [] M155 (fun r9 M9 => ∃ x9, r9 = some (vi x9) ∧ Q x9 M9) := by
      intro q164
      have h := h.1 q164
      refine wm_iload d_RR_closeInner_261 rfl ?_
      refine wm_if_ne (tgt := 286) d_RR_closeInner_263 rfl hi_l5 (fun c166 => ?_) (fun c166 => ?_)
      · replace h := h.2 c166
        refine wm_less (L' := [vr a0, vd, vd, vd, vd, vi l5, vd]) ⟨Or.inr rfl, Or.inl rfl, Or.inl rfl, Or.inl rfl, Or.inl rfl, Or.inr rfl, Or.inl rfl, trivial⟩ ?_
        exact h
      · replace c166 := Classical.not_not.mp c166
        replace h := h.1 c166
        obtain ⟨h167, h⟩ := h
        obtain ⟨h168, h⟩ := h
        obtain ⟨M169, e170⟩ : ∃ M169, M169 = mUI M155 a0 12 ((mI M155 a0 12) - 1) := ⟨_, rfl⟩
        replace h := h M169 e170
        obtain ⟨h171, h⟩ := h
        obtain ⟨M172, e173⟩ : ∃ M172, M172 = mUI M169 a0 5 ((mI M169 a0 5) - 1) := ⟨_, rfl⟩
        replace h := h M172 e173
        refine wm_aload_n d_RR_closeInner_266 rfl rfl ?_
        refine wm_dup d_RR_closeInner_267 rfl ?_
        refine gf_RR_87 rfl d_RR_closeInner_268 h167 ?_
        refine wm_iconst d_RR_closeInner_271 ?_
        refine wm_isub d_RR_closeInner_272 ?_
        have hOM169 : mOk M169 := by rw [e170]; exact mOk_UI hOM155 h168
        refine pf_RR_87 rfl d_RR_closeInner_273 h167 h168 e170 ?_
        refine wm_aload_n d_RR_closeInner_276 rfl rfl ?_
        refine wm_dup d_RR_closeInner_277 rfl ?_
        refine gf_RR_58 rfl d_RR_closeInner_278 (by rw [e170]; exact h167) ?_
        refine wm_iconst d_RR_closeInner_281 ?_
        refine wm_isub d_RR_closeInner_282 ?_
        have hOM172 : mOk M172 := by rw [e173]; exact mOk_UI hOM169 h171
        refine pf_RR_58 rfl d_RR_closeInner_283 (by rw [e170]; exact h167) h171 e173 ?_
        refine wm_less (L' := [vr a0, vd, vd, vd, vd, vi l5, vd]) ⟨Or.inr rfl, Or.inl rfl, Or.inl rfl, Or.inl rfl, Or.inl rfl, Or.inr rfl, Or.inl rfl, trivial⟩ ?_
        exact h
    have hE1 : ¬ ((l4 = 0) ∨ (¬ (l5 = 0))) → mWm G y_RR_closeInner (d + 1) 234 [vr a0, vd, vi l2, vd, vi l4, vi l5, vd] [] M155 (fun r9 M9 => ∃ x9, r9 = some (vi x9) ∧ Q x9 M9) := by
      intro q174
      have h := h.2 q174
      obtain ⟨h175, h⟩ := h
      obtain ⟨h176, h⟩ := h
      obtain ⟨h177, h⟩ := h
      refine wm_aload_n d_RR_closeInner_234 rfl rfl ?_
      refine gf_RR_21 rfl d_RR_closeInner_235 h175 ?_
      refine wm_iload_n d_RR_closeInner_238 rfl rfl ?_
      refine wm_iald d_RR_closeInner_239 h176 h177 ?_
      refine wm_iconst d_RR_closeInner_240 ?_
      refine wm_iand d_RR_closeInner_241 ?_
      refine wm_if_eq (tgt := 256) d_RR_closeInner_242 rfl (m_i32 _) (fun c179 => ?_) (fun c179 => ?_)
      · replace h := h.1 c179
        refine wm_less (L' := [vr a0, vd, vd, vd, vd, vi l5, vd]) ⟨Or.inr rfl, Or.inl rfl, Or.inl rfl, Or.inl rfl, Or.inl rfl, Or.inr rfl, Or.inl rfl, trivial⟩ ?_
        exact h
      · replace h := h.2 c179
        obtain ⟨h180, h⟩ := h
        obtain ⟨h181, h⟩ := h
        refine wm_aload_n d_RR_closeInner_245 rfl rfl ?_
        refine wm_iconst d_RR_closeInner_246 ?_
        refine wm_aload_n d_RR_closeInner_247 rfl rfl ?_
        refine gf_RR_15 rfl d_RR_closeInner_248 h175 ?_
        refine wm_iload_n d_RR_closeInner_251 rfl rfl ?_
        refine wm_iald d_RR_closeInner_252 h180 h181 ?_
        refine cf_RR_114 rfl d_RR_closeInner_253 h175 (Nat.le_of_ble_eq_true rfl) (Cv.mono h (fun M182 h => ?_))
        obtain ⟨hOM182, h⟩ := h
        refine wm_less (L' := [vr a0, vd, vd, vd, vd, vi l5, vd]) ⟨Or.inr rfl, Or.inl rfl, Or.inl rfl, Or.inl rfl, Or.inl rfl, Or.inr rfl, Or.inl rfl, trivial⟩ ?_
        exact h
    clear h
    refine wm_if_eq (tgt := 261) d_RR_closeInner_226 rfl hi_l4 (fun c162 => ?_) (fun c162 => ?_)
    · exact hE0 (Or.inl c162)
    · refine wm_iload d_RR_closeInner_229 rfl ?_
      refine wm_if_ne (tgt := 261) d_RR_closeInner_231 rfl hi_l5 (fun c161 => ?_) (fun c161 => ?_)
      · exact hE0 (Or.inr c161)
      · replace c161 := Classical.not_not.mp c161
        exact hE1 (fun z185 => Or.elim z185 c162 (fun z186 => z186 c161))
  clear h
  refine wm_if_eq (tgt := 220) d_RR_closeInner_213 rfl h146 (fun c147 => ?_) (fun c147 => ?_)
  · refine wm_iconst d_RR_closeInner_220 ?_
    exact hJ 0 (if_pos c147).symm
  · refine wm_iconst d_RR_closeInner_216 ?_
    refine wm_goto (tgt := 221) d_RR_closeInner_217 rfl ?_
    exact hJ 1 (if_neg c147).symm
theorem k_RR_closeInner_256 {G : mG} {d : Nat} {a0 : Nat} {l5 : Int} {M : mM} {Q : Int → mM → Prop} (hO : mOk M) (hi_l5 : i32 l5)
    (h : mK M a0 = 4 ∧ Cv G y_RR_pushKind d [vr a0, vi 0] M (fun M189 => mOk M189 ∧ (((l5 = 0) → (mK M189 a0 = 4 ∧ i32 ((mI M189 a0 12) - 1) ∧ ∀ M196, M196 = mUI M189 a0 12 ((mI M189 a0 12) - 1) → i32 ((mI M196 a0 5) - 1) ∧ ∀ M199, M199 = mUI M196 a0 5 ((mI M196 a0 5) - 1) → h_RR_closeInner_286 G d a0 l5 M199 Q)) ∧ (¬ (l5 = 0) → (h_RR_closeInner_286 G d a0 l5 M189 Q))))) :
    h_RR_closeInner_256 G d a0 l5 M Q := by
  unfold h_RR_closeInner_256
  obtain ⟨h188, h⟩ := h
  refine wm_aload_n d_RR_closeInner_256 rfl rfl ?_
  refine wm_iconst d_RR_closeInner_257 ?_
  refine cf_RR_140 rfl d_RR_closeInner_258 h188 (Nat.le_of_ble_eq_true rfl) (Cv.mono h (fun M189 h => ?_))
  obtain ⟨hOM189, h⟩ := h
  refine wm_iload d_RR_closeInner_261 rfl ?_
  refine wm_if_ne (tgt := 286) d_RR_closeInner_263 rfl hi_l5 (fun c193 => ?_) (fun c193 => ?_)
  · replace h := h.2 c193
    exact h
  · replace c193 := Classical.not_not.mp c193
    replace h := h.1 c193
    obtain ⟨h194, h⟩ := h
    obtain ⟨h195, h⟩ := h
    obtain ⟨M196, e197⟩ : ∃ M196, M196 = mUI M189 a0 12 ((mI M189 a0 12) - 1) := ⟨_, rfl⟩
    replace h := h M196 e197
    obtain ⟨h198, h⟩ := h
    obtain ⟨M199, e200⟩ : ∃ M199, M199 = mUI M196 a0 5 ((mI M196 a0 5) - 1) := ⟨_, rfl⟩
    replace h := h M199 e200
    refine wm_aload_n d_RR_closeInner_266 rfl rfl ?_
    refine wm_dup d_RR_closeInner_267 rfl ?_
    refine gf_RR_87 rfl d_RR_closeInner_268 h194 ?_
    refine wm_iconst d_RR_closeInner_271 ?_
    refine wm_isub d_RR_closeInner_272 ?_
    have hOM196 : mOk M196 := by rw [e197]; exact mOk_UI hOM189 h195
    refine pf_RR_87 rfl d_RR_closeInner_273 h194 h195 e197 ?_
    refine wm_aload_n d_RR_closeInner_276 rfl rfl ?_
    refine wm_dup d_RR_closeInner_277 rfl ?_
    refine gf_RR_58 rfl d_RR_closeInner_278 (by rw [e197]; exact h194) ?_
    refine wm_iconst d_RR_closeInner_281 ?_
    refine wm_isub d_RR_closeInner_282 ?_
    have hOM199 : mOk M199 := by rw [e200]; exact mOk_UI hOM196 h198
    refine pf_RR_58 rfl d_RR_closeInner_283 (by rw [e197]; exact h194) h198 e200 ?_
    exact h
theorem k_RR_closeInner_286 {G : mG} {d : Nat} {a0 : Nat} {l5 : Int} {M : mM} {Q : Int → mM → Prop} (hO : mOk M) (hi_l5 : i32 l5)
    (h : mK M a0 = 4 ∧ (l5 = 0 ∨ l5 = 1) ∧ ∀ M203, M203 = mUI M a0 7 l5 → i32 ((mI M203 a0 2) + 1) ∧ ∀ M206, M206 = mUI M203 a0 2 ((mI M203 a0 2) + 1) → Q 0 M206) :
    h_RR_closeInner_286 G d a0 l5 M Q := by
  unfold h_RR_closeInner_286
  obtain ⟨h201, h⟩ := h
  obtain ⟨h202, h⟩ := h
  obtain ⟨M203, e204⟩ : ∃ M203, M203 = mUI M a0 7 l5 := ⟨_, rfl⟩
  replace h := h M203 e204
  obtain ⟨h205, h⟩ := h
  obtain ⟨M206, e207⟩ : ∃ M206, M206 = mUI M203 a0 2 ((mI M203 a0 2) + 1) := ⟨_, rfl⟩
  replace h := h M206 e207
  refine wm_aload_n d_RR_closeInner_286 rfl rfl ?_
  refine wm_iload d_RR_closeInner_287 rfl ?_
  have hOM203 : mOk M203 := by rw [e204]; exact mOk_UI hO (m_b32 h202)
  refine pf_RR_93 rfl d_RR_closeInner_289 h201 h202 e204 ?_
  refine wm_aload_n d_RR_closeInner_292 rfl rfl ?_
  refine wm_dup d_RR_closeInner_293 rfl ?_
  refine gf_RR_48 rfl d_RR_closeInner_294 (by rw [e204]; exact h201) ?_
  refine wm_iconst d_RR_closeInner_297 ?_
  refine wm_iadd d_RR_closeInner_298 ?_
  have hOM206 : mOk M206 := by rw [e207]; exact mOk_UI hOM203 h205
  refine pf_RR_48 rfl d_RR_closeInner_299 (by rw [e204]; exact h201) h205 e207 ?_
  refine wm_iconst d_RR_closeInner_302 ?_
  refine wm_ireturn d_RR_closeInner_303 rfl rfl ?_
  exact ⟨_, rfl, h⟩
theorem d_RR_group_0 : decode y_RR_group.2.1 0 = .ok (.aload_n 0, 1) := dc9_42 (by decide +kernel)
theorem d_RR_group_1 : decode y_RR_group.2.1 1 = .ok (.getfield 11, 3) := dc9_180 (by decide +kernel)
theorem d_RR_group_4 : decode y_RR_group.2.1 4 = .ok (.aload_n 0, 1) := dc9_42 (by decide +kernel)
theorem d_RR_group_5 : decode y_RR_group.2.1 5 = .ok (.getfield 87, 3) := dc9_180 (by decide +kernel)
theorem d_RR_group_8 : decode y_RR_group.2.1 8 = .ok (.iaload, 1) := dc9_46 (by decide +kernel)
theorem d_RR_group_9 : decode y_RR_group.2.1 9 = .ok (.istore_n 1, 1) := dc9_60 (by decide +kernel)
theorem d_RR_group_10 : decode y_RR_group.2.1 10 = .ok (.aload_n 0, 1) := dc9_42 (by decide +kernel)
theorem d_RR_group_11 : decode y_RR_group.2.1 11 = .ok (.invokevirtual 162, 3) := dc9_182 (by decide +kernel)
theorem d_RR_group_14 : decode y_RR_group.2.1 14 = .ok (.istore_n 2, 1) := dc9_61 (by decide +kernel)
theorem d_RR_group_15 : decode y_RR_group.2.1 15 = .ok (.iload_n 1, 1) := dc9_27 (by decide +kernel)
theorem d_RR_group_16 : decode y_RR_group.2.1 16 = .ok (.invokestatic 132, 3) := dc9_184 (by decide +kernel)
theorem d_RR_group_19 : decode y_RR_group.2.1 19 = .ok (.iconst 4, 1) := dc9_7 (by decide +kernel)
theorem d_RR_group_20 : decode y_RR_group.2.1 20 = .ok (.if_icmp .gt 7, 3) := dc9_163 (by decide +kernel)
theorem d_RR_group_27 : decode y_RR_group.2.1 27 = .ok (.iconst 0, 1) := dc9_3 (by decide +kernel)
theorem d_RR_group_23 : decode y_RR_group.2.1 23 = .ok (.iconst 1, 1) := dc9_4 (by decide +kernel)
theorem d_RR_group_24 : decode y_RR_group.2.1 24 = .ok (.goto 4, 3) := dc9_167 (by decide +kernel)
theorem d_RR_group_28 : decode y_RR_group.2.1 28 = .ok (.istore_n 3, 1) := dc9_62 (by decide +kernel)
theorem d_RR_group_29 : decode y_RR_group.2.1 29 = .ok (.iload_n 1, 1) := dc9_27 (by decide +kernel)
theorem d_RR_group_30 : decode y_RR_group.2.1 30 = .ok (.tableswitch 204 19 42 #[186, 204, 204, 204, 204, 186, 204, 204, 204, 204, 204, 165, 165, 204, 204, 204, 204, 204, 204, 204, 204, 110, 126, 132], 110) := by decide +kernel
theorem d_RR_group_216 : decode y_RR_group.2.1 216 = .ok (.aload_n 0, 1) := dc9_42 (by decide +kernel)
theorem d_RR_group_217 : decode y_RR_group.2.1 217 = .ok (.invokevirtual 162, 3) := dc9_182 (by decide +kernel)
theorem d_RR_group_220 : decode y_RR_group.2.1 220 = .ok (.iload_n 2, 1) := dc9_28 (by decide +kernel)
theorem d_RR_group_221 : decode y_RR_group.2.1 221 = .ok (.if_icmp .ne 7, 3) := dc9_160 (by decide +kernel)
theorem d_RR_group_224 : decode y_RR_group.2.1 224 = .ok (.iconst 1, 1) := dc9_4 (by decide +kernel)
theorem d_RR_group_225 : decode y_RR_group.2.1 225 = .ok (.goto 4, 3) := dc9_167 (by decide +kernel)
theorem d_RR_group_228 : decode y_RR_group.2.1 228 = .ok (.iconst 0, 1) := dc9_3 (by decide +kernel)
theorem d_RR_group_229 : decode y_RR_group.2.1 229 = .ok (.istore 4, 2) := dc9_54 (by decide +kernel)
theorem d_RR_group_231 : decode y_RR_group.2.1 231 = .ok (.goto 21, 3) := dc9_167 (by decide +kernel)
theorem d_RR_group_195 : decode y_RR_group.2.1 195 = .ok (.aload_n 0, 1) := dc9_42 (by decide +kernel)
theorem d_RR_group_196 : decode y_RR_group.2.1 196 = .ok (.invokevirtual 162, 3) := dc9_182 (by decide +kernel)
theorem d_RR_group_199 : decode y_RR_group.2.1 199 = .ok (.ifCond .eq 11, 3) := dc9_153 (by decide +kernel)
theorem d_RR_group_210 : decode y_RR_group.2.1 210 = .ok (.iconst 0, 1) := dc9_3 (by decide +kernel)
theorem d_RR_group_202 : decode y_RR_group.2.1 202 = .ok (.iload_n 2, 1) := dc9_28 (by decide +kernel)
theorem d_RR_group_203 : decode y_RR_group.2.1 203 = .ok (.ifCond .eq 7, 3) := dc9_153 (by decide +kernel)
theorem d_RR_group_206 : decode y_RR_group.2.1 206 = .ok (.iconst 1, 1) := dc9_4 (by decide +kernel)
theorem d_RR_group_207 : decode y_RR_group.2.1 207 = .ok (.goto 4, 3) := dc9_167 (by decide +kernel)
theorem d_RR_group_211 : decode y_RR_group.2.1 211 = .ok (.istore 4, 2) := dc9_54 (by decide +kernel)
theorem d_RR_group_213 : decode y_RR_group.2.1 213 = .ok (.goto 39, 3) := dc9_167 (by decide +kernel)
theorem d_RR_group_140 : decode y_RR_group.2.1 140 = .ok (.iload_n 2, 1) := dc9_28 (by decide +kernel)
theorem d_RR_group_141 : decode y_RR_group.2.1 141 = .ok (.ifCond .ne 7, 3) := dc9_154 (by decide +kernel)
theorem d_RR_group_144 : decode y_RR_group.2.1 144 = .ok (.iconst 1, 1) := dc9_4 (by decide +kernel)
theorem d_RR_group_145 : decode y_RR_group.2.1 145 = .ok (.goto 4, 3) := dc9_167 (by decide +kernel)
theorem d_RR_group_148 : decode y_RR_group.2.1 148 = .ok (.iconst 0, 1) := dc9_3 (by decide +kernel)
theorem d_RR_group_149 : decode y_RR_group.2.1 149 = .ok (.istore 4, 2) := dc9_54 (by decide +kernel)
theorem d_RR_group_151 : decode y_RR_group.2.1 151 = .ok (.iconst 0, 1) := dc9_3 (by decide +kernel)
theorem d_RR_group_152 : decode y_RR_group.2.1 152 = .ok (.istore_n 3, 1) := dc9_62 (by decide +kernel)
theorem d_RR_group_153 : decode y_RR_group.2.1 153 = .ok (.goto 99, 3) := dc9_167 (by decide +kernel)
theorem d_RR_group_156 : decode y_RR_group.2.1 156 = .ok (.iload_n 2, 1) := dc9_28 (by decide +kernel)
theorem d_RR_group_157 : decode y_RR_group.2.1 157 = .ok (.istore 4, 2) := dc9_54 (by decide +kernel)
theorem d_RR_group_159 : decode y_RR_group.2.1 159 = .ok (.goto 93, 3) := dc9_167 (by decide +kernel)
theorem d_RR_group_162 : decode y_RR_group.2.1 162 = .ok (.aload_n 0, 1) := dc9_42 (by decide +kernel)
theorem d_RR_group_163 : decode y_RR_group.2.1 163 = .ok (.getfield 21, 3) := dc9_180 (by decide +kernel)
theorem d_RR_group_166 : decode y_RR_group.2.1 166 = .ok (.aload_n 0, 1) := dc9_42 (by decide +kernel)
theorem d_RR_group_167 : decode y_RR_group.2.1 167 = .ok (.getfield 87, 3) := dc9_180 (by decide +kernel)
theorem d_RR_group_170 : decode y_RR_group.2.1 170 = .ok (.iaload, 1) := dc9_46 (by decide +kernel)
theorem d_RR_group_171 : decode y_RR_group.2.1 171 = .ok (.iload_n 2, 1) := dc9_28 (by decide +kernel)
theorem d_RR_group_172 : decode y_RR_group.2.1 172 = .ok (.ifCond .eq 7, 3) := dc9_153 (by decide +kernel)
theorem d_RR_group_179 : decode y_RR_group.2.1 179 = .ok (.iconst 0, 1) := dc9_3 (by decide +kernel)
theorem d_RR_group_175 : decode y_RR_group.2.1 175 = .ok (.iconst 4, 1) := dc9_7 (by decide +kernel)
theorem d_RR_group_176 : decode y_RR_group.2.1 176 = .ok (.goto 4, 3) := dc9_167 (by decide +kernel)
theorem d_RR_group_180 : decode y_RR_group.2.1 180 = .ok (.if_icmp .ne 7, 3) := dc9_160 (by decide +kernel)
theorem d_RR_group_183 : decode y_RR_group.2.1 183 = .ok (.iconst 1, 1) := dc9_4 (by decide +kernel)
theorem d_RR_group_184 : decode y_RR_group.2.1 184 = .ok (.goto 4, 3) := dc9_167 (by decide +kernel)
theorem d_RR_group_187 : decode y_RR_group.2.1 187 = .ok (.iconst 0, 1) := dc9_3 (by decide +kernel)
theorem d_RR_group_188 : decode y_RR_group.2.1 188 = .ok (.istore 4, 2) := dc9_54 (by decide +kernel)
theorem d_RR_group_190 : decode y_RR_group.2.1 190 = .ok (.iload_n 2, 1) := dc9_28 (by decide +kernel)
theorem d_RR_group_191 : decode y_RR_group.2.1 191 = .ok (.istore_n 3, 1) := dc9_62 (by decide +kernel)
theorem d_RR_group_192 : decode y_RR_group.2.1 192 = .ok (.goto 60, 3) := dc9_167 (by decide +kernel)
theorem d_RR_group_234 : decode y_RR_group.2.1 234 = .ok (.aload_n 0, 1) := dc9_42 (by decide +kernel)
theorem d_RR_group_235 : decode y_RR_group.2.1 235 = .ok (.invokevirtual 162, 3) := dc9_182 (by decide +kernel)
theorem d_RR_group_238 : decode y_RR_group.2.1 238 = .ok (.ifCond .ne 11, 3) := dc9_154 (by decide +kernel)
theorem d_RR_group_241 : decode y_RR_group.2.1 241 = .ok (.iload_n 2, 1) := dc9_28 (by decide +kernel)
theorem d_RR_group_242 : decode y_RR_group.2.1 242 = .ok (.ifCond .ne 7, 3) := dc9_154 (by decide +kernel)
theorem d_RR_group_245 : decode y_RR_group.2.1 245 = .ok (.iconst 1, 1) := dc9_4 (by decide +kernel)
theorem d_RR_group_246 : decode y_RR_group.2.1 246 = .ok (.goto 4, 3) := dc9_167 (by decide +kernel)
theorem d_RR_group_249 : decode y_RR_group.2.1 249 = .ok (.iconst 0, 1) := dc9_3 (by decide +kernel)
theorem d_RR_group_250 : decode y_RR_group.2.1 250 = .ok (.istore 4, 2) := dc9_54 (by decide +kernel)
theorem d_RR_group_252 : decode y_RR_group.2.1 252 = .ok (.iload 4, 2) := dc9_21 (by decide +kernel)
theorem d_RR_group_254 : decode y_RR_group.2.1 254 = .ok (.ifCond .ne 17, 3) := dc9_154 (by decide +kernel)
theorem d_RR_group_257 : decode y_RR_group.2.1 257 = .ok (.aload_n 0, 1) := dc9_42 (by decide +kernel)
theorem d_RR_group_258 : decode y_RR_group.2.1 258 = .ok (.iconst 3, 1) := dc9_6 (by decide +kernel)
theorem d_RR_group_259 : decode y_RR_group.2.1 259 = .ok (.aload_n 0, 1) := dc9_42 (by decide +kernel)
theorem d_RR_group_260 : decode y_RR_group.2.1 260 = .ok (.getfield 15, 3) := dc9_180 (by decide +kernel)
theorem d_RR_group_263 : decode y_RR_group.2.1 263 = .ok (.aload_n 0, 1) := dc9_42 (by decide +kernel)
theorem d_RR_group_264 : decode y_RR_group.2.1 264 = .ok (.getfield 87, 3) := dc9_180 (by decide +kernel)
theorem d_RR_group_267 : decode y_RR_group.2.1 267 = .ok (.iaload, 1) := dc9_46 (by decide +kernel)
theorem d_RR_group_268 : decode y_RR_group.2.1 268 = .ok (.invokevirtual 114, 3) := dc9_182 (by decide +kernel)
theorem d_RR_group_271 : decode y_RR_group.2.1 271 = .ok (.aload_n 0, 1) := dc9_42 (by decide +kernel)
theorem d_RR_group_272 : decode y_RR_group.2.1 272 = .ok (.iload_n 3, 1) := dc9_29 (by decide +kernel)
theorem d_RR_group_273 : decode y_RR_group.2.1 273 = .ok (.invokevirtual 140, 3) := dc9_182 (by decide +kernel)
theorem d_RR_group_276 : decode y_RR_group.2.1 276 = .ok (.iload_n 1, 1) := dc9_27 (by decide +kernel)
theorem d_RR_group_277 : decode y_RR_group.2.1 277 = .ok (.bipush 40, 2) := dc9_16 (by decide +kernel)
theorem d_RR_group_279 : decode y_RR_group.2.1 279 = .ok (.if_icmp .eq 15, 3) := dc9_159 (by decide +kernel)
theorem d_RR_group_294 : decode y_RR_group.2.1 294 = .ok (.aload_n 0, 1) := dc9_42 (by decide +kernel)
theorem d_RR_group_295 : decode y_RR_group.2.1 295 = .ok (.dup, 1) := dc9_89 (by decide +kernel)
theorem d_RR_group_296 : decode y_RR_group.2.1 296 = .ok (.getfield 58, 3) := dc9_180 (by decide +kernel)
theorem d_RR_group_299 : decode y_RR_group.2.1 299 = .ok (.iconst 1, 1) := dc9_4 (by decide +kernel)
theorem d_RR_group_300 : decode y_RR_group.2.1 300 = .ok (.isub, 1) := dc9_100 (by decide +kernel)
theorem d_RR_group_301 : decode y_RR_group.2.1 301 = .ok (.putfield 58, 3) := dc9_181 (by decide +kernel)
theorem d_RR_group_282 : decode y_RR_group.2.1 282 = .ok (.iload_n 1, 1) := dc9_27 (by decide +kernel)
theorem d_RR_group_283 : decode y_RR_group.2.1 283 = .ok (.bipush 41, 2) := dc9_16 (by decide +kernel)
theorem d_RR_group_285 : decode y_RR_group.2.1 285 = .ok (.if_icmp .eq 9, 3) := dc9_159 (by decide +kernel)
theorem d_RR_group_288 : decode y_RR_group.2.1 288 = .ok (.iload_n 1, 1) := dc9_27 (by decide +kernel)
theorem d_RR_group_289 : decode y_RR_group.2.1 289 = .ok (.bipush 42, 2) := dc9_16 (by decide +kernel)
theorem d_RR_group_291 : decode y_RR_group.2.1 291 = .ok (.if_icmp .ne 13, 3) := dc9_160 (by decide +kernel)
theorem d_RR_group_304 : decode y_RR_group.2.1 304 = .ok (.aload_n 0, 1) := dc9_42 (by decide +kernel)
theorem d_RR_group_305 : decode y_RR_group.2.1 305 = .ok (.getfield 18, 3) := dc9_180 (by decide +kernel)
theorem d_RR_group_308 : decode y_RR_group.2.1 308 = .ok (.aload_n 0, 1) := dc9_42 (by decide +kernel)
theorem d_RR_group_309 : decode y_RR_group.2.1 309 = .ok (.getfield 87, 3) := dc9_180 (by decide +kernel)
theorem d_RR_group_312 : decode y_RR_group.2.1 312 = .ok (.iaload, 1) := dc9_46 (by decide +kernel)
theorem d_RR_group_313 : decode y_RR_group.2.1 313 = .ok (.iconst (-1), 1) := dc9_2 (by decide +kernel)
theorem d_RR_group_314 : decode y_RR_group.2.1 314 = .ok (.if_icmp .eq 30, 3) := dc9_159 (by decide +kernel)
theorem d_RR_group_344 : decode y_RR_group.2.1 344 = .ok (.aload_n 0, 1) := dc9_42 (by decide +kernel)
theorem d_RR_group_345 : decode y_RR_group.2.1 345 = .ok (.getfield 44, 3) := dc9_180 (by decide +kernel)
theorem d_RR_group_348 : decode y_RR_group.2.1 348 = .ok (.iload_n 1, 1) := dc9_27 (by decide +kernel)
theorem d_RR_group_349 : decode y_RR_group.2.1 349 = .ok (.aload_n 0, 1) := dc9_42 (by decide +kernel)
theorem d_RR_group_350 : decode y_RR_group.2.1 350 = .ok (.getfield 15, 3) := dc9_180 (by decide +kernel)
theorem d_RR_group_353 : decode y_RR_group.2.1 353 = .ok (.aload_n 0, 1) := dc9_42 (by decide +kernel)
theorem d_RR_group_354 : decode y_RR_group.2.1 354 = .ok (.getfield 87, 3) := dc9_180 (by decide +kernel)
theorem d_RR_group_357 : decode y_RR_group.2.1 357 = .ok (.iaload, 1) := dc9_46 (by decide +kernel)
theorem d_RR_group_317 : decode y_RR_group.2.1 317 = .ok (.aload_n 0, 1) := dc9_42 (by decide +kernel)
theorem d_RR_group_318 : decode y_RR_group.2.1 318 = .ok (.getfield 44, 3) := dc9_180 (by decide +kernel)
theorem d_RR_group_321 : decode y_RR_group.2.1 321 = .ok (.getfield 165, 3) := dc9_180 (by decide +kernel)
theorem d_RR_group_324 : decode y_RR_group.2.1 324 = .ok (.aload_n 0, 1) := dc9_42 (by decide +kernel)
theorem d_RR_group_325 : decode y_RR_group.2.1 325 = .ok (.getfield 18, 3) := dc9_180 (by decide +kernel)
theorem d_RR_group_328 : decode y_RR_group.2.1 328 = .ok (.aload_n 0, 1) := dc9_42 (by decide +kernel)
theorem d_RR_group_329 : decode y_RR_group.2.1 329 = .ok (.getfield 87, 3) := dc9_180 (by decide +kernel)
theorem d_RR_group_332 : decode y_RR_group.2.1 332 = .ok (.iaload, 1) := dc9_46 (by decide +kernel)
theorem d_RR_group_333 : decode y_RR_group.2.1 333 = .ok (.aload_n 0, 1) := dc9_42 (by decide +kernel)
theorem d_RR_group_334 : decode y_RR_group.2.1 334 = .ok (.getfield 44, 3) := dc9_180 (by decide +kernel)
theorem d_RR_group_337 : decode y_RR_group.2.1 337 = .ok (.getfield 168, 3) := dc9_180 (by decide +kernel)
theorem d_RR_group_340 : decode y_RR_group.2.1 340 = .ok (.iastore, 1) := dc9_79 (by decide +kernel)
theorem d_RR_group_341 : decode y_RR_group.2.1 341 = .ok (.goto 21, 3) := dc9_167 (by decide +kernel)
theorem d_RR_group_358 : decode y_RR_group.2.1 358 = .ok (.invokevirtual 135, 3) := dc9_182 (by decide +kernel)
theorem d_RR_group_361 : decode y_RR_group.2.1 361 = .ok (.pop, 1) := dc9_87 (by decide +kernel)
theorem d_RR_group_362 : decode y_RR_group.2.1 362 = .ok (.return_, 1) := dc9_177 (by decide +kernel)
def h_RR_group_252 (G : mG) (d : Nat) (a0 : Nat) (l1 : Int) (l3 : Int) (l4 : Int) (M : mM) (Q : mM → Prop) : Prop := mWm G y_RR_group (d + 1) 252 [vr a0, vi l1, vd, vi l3, vi l4] [] M (fun r9 M9 => r9 = none ∧ Q M9)
def h_RR_group_271 (G : mG) (d : Nat) (a0 : Nat) (l1 : Int) (l3 : Int) (M : mM) (Q : mM → Prop) : Prop := mWm G y_RR_group (d + 1) 271 [vr a0, vi l1, vd, vi l3, vd] [] M (fun r9 M9 => r9 = none ∧ Q M9)
def h_RR_group_362 (G : mG) (d : Nat) (M : mM) (Q : mM → Prop) : Prop := mWm G y_RR_group (d + 1) 362 [vd, vd, vd, vd, vd] [] M (fun r9 M9 => r9 = none ∧ Q M9)
theorem k_RR_group {G : mG} {d : Nat} {a0 : Nat} {M : mM} {Q : mM → Prop} (hO : mOk M)
    (h : mK M a0 = 4 ∧ mK M (mR M a0 8) = 30 ∧ ((0 : Int) ≤ mI M a0 12 ∧ mI M a0 12 < (mN M (mR M a0 8) : Int)) ∧ Ci G y_RR_popKind d [vr a0] M (fun x5 M4 => i32 x5 ∧ mOk M4 ∧ (Ci G y_RR_level d [vi (mI M (mR M a0 8) (Int.toNat (mI M a0 12)))] M4 (fun x8 M7 => i32 x8 ∧ mOk M7 ∧ (∀ v11 : Int, v11 = (if (4 < x8) then 0 else 1) → ((mI M (mR M a0 8) (Int.toNat (mI M a0 12)) = 19 ∨ mI M (mR M a0 8) (Int.toNat (mI M a0 12)) = 24) → (mK M7 a0 = 4 ∧ Ci G y_RR_popKind d [vr a0] M7 (fun x21 M20 => i32 x21 ∧ mOk M20 ∧ (∀ v24 : Int, v24 = (if (x21 = x5) then 1 else 0) → h_RR_group_252 G d a0 (mI M (mR M a0 8) (Int.toNat (mI M a0 12))) v11 v24 M20 Q)))) ∧ (¬ (mI M (mR M a0 8) (Int.toNat (mI M a0 12)) = 19 ∨ mI M (mR M a0 8) (Int.toNat (mI M a0 12)) = 24) → (((mI M (mR M a0 8) (Int.toNat (mI M a0 12)) = 30 ∨ mI M (mR M a0 8) (Int.toNat (mI M a0 12)) = 31) → (mK M7 a0 = 4 ∧ Ci G y_RR_popKind d [vr a0] M7 (fun x34 M33 => i32 x34 ∧ mOk M33 ∧ (∀ v38 : Int, v38 = (if ((x34 = 0) ∨ (x5 = 0)) then 0 else 1) → h_RR_group_252 G d a0 (mI M (mR M a0 8) (Int.toNat (mI M a0 12))) v11 v38 M33 Q)))) ∧ (¬ (mI M (mR M a0 8) (Int.toNat (mI M a0 12)) = 30 ∨ mI M (mR M a0 8) (Int.toNat (mI M a0 12)) = 31) → (((mI M (mR M a0 8) (Int.toNat (mI M a0 12)) = 40) → (∀ v48 : Int, v48 = (if (x5 = 0) then 1 else 0) → h_RR_group_252 G d a0 (mI M (mR M a0 8) (Int.toNat (mI M a0 12))) 0 v48 M7 Q)) ∧ (¬ (mI M (mR M a0 8) (Int.toNat (mI M a0 12)) = 40) → (((mI M (mR M a0 8) (Int.toNat (mI M a0 12)) = 41) → (h_RR_group_252 G d a0 (mI M (mR M a0 8) (Int.toNat (mI M a0 12))) v11 x5 M7 Q)) ∧ (¬ (mI M (mR M a0 8) (Int.toNat (mI M a0 12)) = 41) → (((mI M (mR M a0 8) (Int.toNat (mI M a0 12)) = 42) → (mK M7 a0 = 4 ∧ mK M7 (mR M7 a0 11) = 30 ∧ ((0 : Int) ≤ mI M7 a0 12 ∧ mI M7 a0 12 < (mN M7 (mR M7 a0 11) : Int)) ∧ ∀ v62 : Int, v62 = (if (x5 = 0) then 0 else 4) → ∀ v67 : Int, v67 = (if (mI M7 (mR M7 a0 11) (Int.toNat (mI M7 a0 12)) = v62) then 1 else 0) → h_RR_group_252 G d a0 (mI M (mR M a0 8) (Int.toNat (mI M a0 12))) x5 v67 M7 Q)) ∧ (¬ (mI M (mR M a0 8) (Int.toNat (mI M a0 12)) = 42) → (mK M7 a0 = 4 ∧ Ci G y_RR_popKind d [vr a0] M7 (fun x76 M75 => i32 x76 ∧ mOk M75 ∧ (∀ v80 : Int, v80 = (if ((x76 = 0) ∧ (x5 = 0)) then 1 else 0) → h_RR_group_252 G d a0 (mI M (mR M a0 8) (Int.toNat (mI M a0 12))) v11 v80 M75 Q))))))))))))))))) :
    Cv G y_RR_group (d + 1) [vr a0] M Q := by
  refine wm_open (y := y_RR_group) rfl (Nat.le_of_ble_eq_true rfl) (L := [vr a0, vd, vd, vd, vd]) rfl ?_
  obtain ⟨h1, h⟩ := h
  obtain ⟨h2, h⟩ := h
  obtain ⟨h3, h⟩ := h
  refine wm_aload_n d_RR_group_0 rfl rfl ?_
  refine gf_RR_11 rfl d_RR_group_1 h1 ?_
  refine wm_aload_n d_RR_group_4 rfl rfl ?_
  refine gf_RR_87 rfl d_RR_group_5 h1 ?_
  refine wm_iald d_RR_group_8 h2 h3 ?_
  refine wm_istore_n d_RR_group_9 rfl (by decide) (L' := [vr a0, vi (mI M (mR M a0 8) (Int.toNat (mI M a0 12))), vd, vd, vd]) rfl ?_
  refine wm_aload_n d_RR_group_10 rfl rfl ?_
  refine cf_RR_162 rfl d_RR_group_11 h1 (Nat.le_of_ble_eq_true rfl) (Ci.mono h (fun x5 M4 h => ?_))
  obtain ⟨h6, hOM4, h⟩ := h
  refine wm_istore_n d_RR_group_14 rfl (by decide) (L' := [vr a0, vi (mI M (mR M a0 8) (Int.toNat (mI M a0 12))), vi x5, vd, vd]) rfl ?_
  refine wm_iload_n d_RR_group_15 rfl rfl ?_
  refine cf_RR_132 rfl d_RR_group_16 (Nat.le_of_ble_eq_true rfl) (Ci.mono h (fun x8 M7 h => ?_))
  obtain ⟨h9, hOM7, h⟩ := h
  refine wm_iconst d_RR_group_19 ?_
  have hJ : ∀ v11 : Int, v11 = (if (4 < x8) then 0 else 1) → mWm G y_RR_group (d + 1) 28 [vr a0, vi (mI M (mR M a0 8) (Int.toNat (mI M a0 12))), vi x5, vd, vd] [vi v11] M7 (fun r9 M9 => r9 = none ∧ Q M9) := by
    intro v11 e13
    have h := h v11 e13
    have h14 : i32 v11 := by rw [e13]; (repeat' split) <;> first | exact ⟨by decide, by decide⟩ | exact ⟨by decide, by decide⟩
    have h15 : (v11 = 0 ∨ v11 = 1) := by rw [e13]; (repeat' split) <;> decide
    refine wm_istore_n d_RR_group_28 rfl (by decide) (L' := [vr a0, vi (mI M (mR M a0 8) (Int.toNat (mI M a0 12))), vi x5, vi v11, vd]) rfl ?_
    refine wm_iload_n d_RR_group_29 rfl rfl ?_
    by_cases c18 : mI M (mR M a0 8) (Int.toNat (mI M a0 12)) = 19 ∨ mI M (mR M a0 8) (Int.toNat (mI M a0 12)) = 24
    · replace h := h.1 c18
      refine wm_tableIn (tgt := 216) (off := 186) d_RR_group_30 (hO _ _).1 (by omega) (by omega) (by rcases c18 with q9 | q9 <;> (rw [q9]; rfl)) rfl ?_
      obtain ⟨h19, h⟩ := h
      refine wm_aload_n d_RR_group_216 rfl rfl ?_
      refine cf_RR_162 rfl d_RR_group_217 h19 (Nat.le_of_ble_eq_true rfl) (Ci.mono h (fun x21 M20 h => ?_))
      obtain ⟨h22, hOM20, h⟩ := h
      refine wm_iload_n d_RR_group_220 rfl rfl ?_
      have hJ : ∀ v24 : Int, v24 = (if (x21 = x5) then 1 else 0) → mWm G y_RR_group (d + 1) 229 [vr a0, vi (mI M (mR M a0 8) (Int.toNat (mI M a0 12))), vd, vi v11, vd] [vi v24] M20 (fun r9 M9 => r9 = none ∧ Q M9) := by
        intro v24 e26
        have h := h v24 e26
        have h27 : i32 v24 := by rw [e26]; (repeat' split) <;> first | exact ⟨by decide, by decide⟩ | exact ⟨by decide, by decide⟩
        have h28 : (v24 = 0 ∨ v24 = 1) := by rw [e26]; (repeat' split) <;> decide
        refine wm_istore d_RR_group_229 (by decide) (L' := [vr a0, vi (mI M (mR M a0 8) (Int.toNat (mI M a0 12))), vd, vi v11, vi v24]) rfl ?_
        refine wm_goto (tgt := 252) d_RR_group_231 rfl ?_
        exact h
      clear h
      refine wm_icmp_ne (tgt := 228) d_RR_group_221 rfl h22 h6 (fun c23 => ?_) (fun c23 => ?_)
      · refine wm_iconst d_RR_group_228 ?_
        refine wm_less (L' := [vr a0, vi (mI M (mR M a0 8) (Int.toNat (mI M a0 12))), vd, vi v11, vd]) ⟨Or.inr rfl, Or.inr rfl, Or.inl rfl, Or.inr rfl, Or.inl rfl, trivial⟩ ?_
        exact hJ 0 (if_neg c23).symm
      · replace c23 := Classical.not_not.mp c23
        refine wm_iconst d_RR_group_224 ?_
        refine wm_goto (tgt := 229) d_RR_group_225 rfl ?_
        refine wm_less (L' := [vr a0, vi (mI M (mR M a0 8) (Int.toNat (mI M a0 12))), vd, vi v11, vd]) ⟨Or.inr rfl, Or.inr rfl, Or.inl rfl, Or.inr rfl, Or.inl rfl, trivial⟩ ?_
        exact hJ 1 (if_pos c23).symm
    · replace h := h.2 c18
      by_cases c31 : mI M (mR M a0 8) (Int.toNat (mI M a0 12)) = 30 ∨ mI M (mR M a0 8) (Int.toNat (mI M a0 12)) = 31
      · replace h := h.1 c31
        refine wm_tableIn (tgt := 195) (off := 165) d_RR_group_30 (hO _ _).1 (by omega) (by omega) (by rcases c31 with q9 | q9 <;> (rw [q9]; rfl)) rfl ?_
        obtain ⟨h32, h⟩ := h
        refine wm_aload_n d_RR_group_195 rfl rfl ?_
        refine cf_RR_162 rfl d_RR_group_196 h32 (Nat.le_of_ble_eq_true rfl) (Ci.mono h (fun x34 M33 h => ?_))
        obtain ⟨h35, hOM33, h⟩ := h
        have hJ : ∀ v38 : Int, v38 = (if ((x34 = 0) ∨ (x5 = 0)) then 0 else 1) → mWm G y_RR_group (d + 1) 211 [vr a0, vi (mI M (mR M a0 8) (Int.toNat (mI M a0 12))), vd, vi v11, vd] [vi v38] M33 (fun r9 M9 => r9 = none ∧ Q M9) := by
          intro v38 e40
          have h := h v38 e40
          have h41 : i32 v38 := by rw [e40]; (repeat' split) <;> first | exact ⟨by decide, by decide⟩ | exact ⟨by decide, by decide⟩
          have h42 : (v38 = 0 ∨ v38 = 1) := by rw [e40]; (repeat' split) <;> decide
          refine wm_istore d_RR_group_211 (by decide) (L' := [vr a0, vi (mI M (mR M a0 8) (Int.toNat (mI M a0 12))), vd, vi v11, vi v38]) rfl ?_
          refine wm_goto (tgt := 252) d_RR_group_213 rfl ?_
          exact h
        clear h
        refine wm_if_eq (tgt := 210) d_RR_group_199 rfl h35 (fun c36 => ?_) (fun c36 => ?_)
        · refine wm_iconst d_RR_group_210 ?_
          refine wm_less (L' := [vr a0, vi (mI M (mR M a0 8) (Int.toNat (mI M a0 12))), vd, vi v11, vd]) ⟨Or.inr rfl, Or.inr rfl, Or.inl rfl, Or.inr rfl, Or.inl rfl, trivial⟩ ?_
          exact hJ 0 (if_pos (Or.inl c36)).symm
        · refine wm_iload_n d_RR_group_202 rfl rfl ?_
          refine wm_if_eq (tgt := 210) d_RR_group_203 rfl h6 (fun c37 => ?_) (fun c37 => ?_)
          · refine wm_iconst d_RR_group_210 ?_
            refine wm_less (L' := [vr a0, vi (mI M (mR M a0 8) (Int.toNat (mI M a0 12))), vd, vi v11, vd]) ⟨Or.inr rfl, Or.inr rfl, Or.inl rfl, Or.inr rfl, Or.inl rfl, trivial⟩ ?_
            exact hJ 0 (if_pos (Or.inr c37)).symm
          · refine wm_iconst d_RR_group_206 ?_
            refine wm_goto (tgt := 211) d_RR_group_207 rfl ?_
            refine wm_less (L' := [vr a0, vi (mI M (mR M a0 8) (Int.toNat (mI M a0 12))), vd, vi v11, vd]) ⟨Or.inr rfl, Or.inr rfl, Or.inl rfl, Or.inr rfl, Or.inl rfl, trivial⟩ ?_
            exact hJ 1 (if_neg (fun z43 => Or.elim z43 c36 c37)).symm
      · replace h := h.2 c31
        by_cases c46 : mI M (mR M a0 8) (Int.toNat (mI M a0 12)) = 40
        · replace h := h.1 c46
          refine wm_tableIn (tgt := 140) (off := 110) d_RR_group_30 (hO _ _).1 (by omega) (by omega) (by rw [c46]; rfl) rfl ?_
          refine wm_iload_n d_RR_group_140 rfl rfl ?_
          have hJ : ∀ v48 : Int, v48 = (if (x5 = 0) then 1 else 0) → mWm G y_RR_group (d + 1) 149 [vr a0, vi (mI M (mR M a0 8) (Int.toNat (mI M a0 12))), vd, vd, vd] [vi v48] M7 (fun r9 M9 => r9 = none ∧ Q M9) := by
            intro v48 e50
            have h := h v48 e50
            have h51 : i32 v48 := by rw [e50]; (repeat' split) <;> first | exact ⟨by decide, by decide⟩ | exact ⟨by decide, by decide⟩
            have h52 : (v48 = 0 ∨ v48 = 1) := by rw [e50]; (repeat' split) <;> decide
            refine wm_istore d_RR_group_149 (by decide) (L' := [vr a0, vi (mI M (mR M a0 8) (Int.toNat (mI M a0 12))), vd, vd, vi v48]) rfl ?_
            refine wm_iconst d_RR_group_151 ?_
            refine wm_istore_n d_RR_group_152 rfl (by decide) (L' := [vr a0, vi (mI M (mR M a0 8) (Int.toNat (mI M a0 12))), vd, vi 0, vi v48]) rfl ?_
            refine wm_goto (tgt := 252) d_RR_group_153 rfl ?_
            exact h
          clear h
          refine wm_if_ne (tgt := 148) d_RR_group_141 rfl h6 (fun c47 => ?_) (fun c47 => ?_)
          · refine wm_iconst d_RR_group_148 ?_
            refine wm_less (L' := [vr a0, vi (mI M (mR M a0 8) (Int.toNat (mI M a0 12))), vd, vd, vd]) ⟨Or.inr rfl, Or.inr rfl, Or.inl rfl, Or.inl rfl, Or.inl rfl, trivial⟩ ?_
            exact hJ 0 (if_neg c47).symm
          · replace c47 := Classical.not_not.mp c47
            refine wm_iconst d_RR_group_144 ?_
            refine wm_goto (tgt := 149) d_RR_group_145 rfl ?_
            refine wm_less (L' := [vr a0, vi (mI M (mR M a0 8) (Int.toNat (mI M a0 12))), vd, vd, vd]) ⟨Or.inr rfl, Or.inr rfl, Or.inl rfl, Or.inl rfl, Or.inl rfl, trivial⟩ ?_
            exact hJ 1 (if_pos c47).symm
        · replace h := h.2 c46
          by_cases c55 : mI M (mR M a0 8) (Int.toNat (mI M a0 12)) = 41
          · replace h := h.1 c55
            refine wm_tableIn (tgt := 156) (off := 126) d_RR_group_30 (hO _ _).1 (by omega) (by omega) (by rw [c55]; rfl) rfl ?_
            refine wm_iload_n d_RR_group_156 rfl rfl ?_
            refine wm_istore d_RR_group_157 (by decide) (L' := [vr a0, vi (mI M (mR M a0 8) (Int.toNat (mI M a0 12))), vi x5, vi v11, vi x5]) rfl ?_
            refine wm_goto (tgt := 252) d_RR_group_159 rfl ?_
            refine wm_less (L' := [vr a0, vi (mI M (mR M a0 8) (Int.toNat (mI M a0 12))), vd, vi v11, vi x5]) ⟨Or.inr rfl, Or.inr rfl, Or.inl rfl, Or.inr rfl, Or.inr rfl, trivial⟩ ?_
            exact h
          · replace h := h.2 c55
            by_cases c57 : mI M (mR M a0 8) (Int.toNat (mI M a0 12)) = 42
            · replace h := h.1 c57
              refine wm_tableIn (tgt := 162) (off := 132) d_RR_group_30 (hO _ _).1 (by omega) (by omega) (by rw [c57]; rfl) rfl ?_
              obtain ⟨h58, h⟩ := h
              obtain ⟨h59, h⟩ := h
              obtain ⟨h60, h⟩ := h
              refine wm_aload_n d_RR_group_162 rfl rfl ?_
              refine gf_RR_21 rfl d_RR_group_163 h58 ?_
              refine wm_aload_n d_RR_group_166 rfl rfl ?_
              refine gf_RR_87 rfl d_RR_group_167 h58 ?_
              refine wm_iald d_RR_group_170 h59 h60 ?_
              refine wm_iload_n d_RR_group_171 rfl rfl ?_
              have hJ : ∀ v62 : Int, v62 = (if (x5 = 0) then 0 else 4) → mWm G y_RR_group (d + 1) 180 [vr a0, vi (mI M (mR M a0 8) (Int.toNat (mI M a0 12))), vi x5, vd, vd] [vi v62, vi (mI M7 (mR M7 a0 11) (Int.toNat (mI M7 a0 12)))] M7 (fun r9 M9 => r9 = none ∧ Q M9) := by
                intro v62 e64
                have h := h v62 e64
                have h65 : i32 v62 := by rw [e64]; (repeat' split) <;> first | exact ⟨by decide, by decide⟩ | exact ⟨by decide, by decide⟩
                have hJ : ∀ v67 : Int, v67 = (if (mI M7 (mR M7 a0 11) (Int.toNat (mI M7 a0 12)) = v62) then 1 else 0) → mWm G y_RR_group (d + 1) 188 [vr a0, vi (mI M (mR M a0 8) (Int.toNat (mI M a0 12))), vi x5, vd, vd] [vi v67] M7 (fun r9 M9 => r9 = none ∧ Q M9) := by
                  intro v67 e69
                  have h := h v67 e69
                  have h70 : i32 v67 := by rw [e69]; (repeat' split) <;> first | exact ⟨by decide, by decide⟩ | exact ⟨by decide, by decide⟩
                  have h71 : (v67 = 0 ∨ v67 = 1) := by rw [e69]; (repeat' split) <;> decide
                  refine wm_istore d_RR_group_188 (by decide) (L' := [vr a0, vi (mI M (mR M a0 8) (Int.toNat (mI M a0 12))), vi x5, vd, vi v67]) rfl ?_
                  refine wm_iload_n d_RR_group_190 rfl rfl ?_
                  refine wm_istore_n d_RR_group_191 rfl (by decide) (L' := [vr a0, vi (mI M (mR M a0 8) (Int.toNat (mI M a0 12))), vi x5, vi x5, vi v67]) rfl ?_
                  refine wm_goto (tgt := 252) d_RR_group_192 rfl ?_
                  refine wm_less (L' := [vr a0, vi (mI M (mR M a0 8) (Int.toNat (mI M a0 12))), vd, vi x5, vi v67]) ⟨Or.inr rfl, Or.inr rfl, Or.inl rfl, Or.inr rfl, Or.inr rfl, trivial⟩ ?_
                  exact h
                clear h
                refine wm_icmp_ne (tgt := 187) d_RR_group_180 rfl (hOM7 _ _).1 h65 (fun c66 => ?_) (fun c66 => ?_)
                · refine wm_iconst d_RR_group_187 ?_
                  exact hJ 0 (if_neg c66).symm
                · replace c66 := Classical.not_not.mp c66
                  refine wm_iconst d_RR_group_183 ?_
                  refine wm_goto (tgt := 188) d_RR_group_184 rfl ?_
                  exact hJ 1 (if_pos c66).symm
              clear h
              refine wm_if_eq (tgt := 179) d_RR_group_172 rfl h6 (fun c61 => ?_) (fun c61 => ?_)
              · refine wm_iconst d_RR_group_179 ?_
                refine wm_less (L' := [vr a0, vi (mI M (mR M a0 8) (Int.toNat (mI M a0 12))), vi x5, vd, vd]) ⟨Or.inr rfl, Or.inr rfl, Or.inr rfl, Or.inl rfl, Or.inl rfl, trivial⟩ ?_
                exact hJ 0 (if_pos c61).symm
              · refine wm_iconst d_RR_group_175 ?_
                refine wm_goto (tgt := 180) d_RR_group_176 rfl ?_
                refine wm_less (L' := [vr a0, vi (mI M (mR M a0 8) (Int.toNat (mI M a0 12))), vi x5, vd, vd]) ⟨Or.inr rfl, Or.inr rfl, Or.inr rfl, Or.inl rfl, Or.inl rfl, trivial⟩ ?_
                exact hJ 4 (if_neg c61).symm
            · replace h := h.2 c57
              refine wm_tableD (tgt := 234) (off := 204) d_RR_group_30 (hO _ _).1 (if q8 : 19 ≤ mI M (mR M a0 8) (Int.toNat (mI M a0 12)) ∧ mI M (mR M a0 8) (Int.toNat (mI M a0 12)) ≤ 42 then Or.inr ⟨q8.1, q8.2, by
      have q9 : mI M (mR M a0 8) (Int.toNat (mI M a0 12)) = 20 ∨ mI M (mR M a0 8) (Int.toNat (mI M a0 12)) = 21 ∨ mI M (mR M a0 8) (Int.toNat (mI M a0 12)) = 22 ∨ mI M (mR M a0 8) (Int.toNat (mI M a0 12)) = 23 ∨ mI M (mR M a0 8) (Int.toNat (mI M a0 12)) = 25 ∨ mI M (mR M a0 8) (Int.toNat (mI M a0 12)) = 26 ∨ mI M (mR M a0 8) (Int.toNat (mI M a0 12)) = 27 ∨ mI M (mR M a0 8) (Int.toNat (mI M a0 12)) = 28 ∨ mI M (mR M a0 8) (Int.toNat (mI M a0 12)) = 29 ∨ mI M (mR M a0 8) (Int.toNat (mI M a0 12)) = 32 ∨ mI M (mR M a0 8) (Int.toNat (mI M a0 12)) = 33 ∨ mI M (mR M a0 8) (Int.toNat (mI M a0 12)) = 34 ∨ mI M (mR M a0 8) (Int.toNat (mI M a0 12)) = 35 ∨ mI M (mR M a0 8) (Int.toNat (mI M a0 12)) = 36 ∨ mI M (mR M a0 8) (Int.toNat (mI M a0 12)) = 37 ∨ mI M (mR M a0 8) (Int.toNat (mI M a0 12)) = 38 ∨ mI M (mR M a0 8) (Int.toNat (mI M a0 12)) = 39 := by omega
      rcases q9 with q9 | q9 | q9 | q9 | q9 | q9 | q9 | q9 | q9 | q9 | q9 | q9 | q9 | q9 | q9 | q9 | q9 <;> (rw [q9]; rfl)⟩ else Or.inl (by omega)) rfl ?_
              obtain ⟨h74, h⟩ := h
              refine wm_aload_n d_RR_group_234 rfl rfl ?_
              refine cf_RR_162 rfl d_RR_group_235 h74 (Nat.le_of_ble_eq_true rfl) (Ci.mono h (fun x76 M75 h => ?_))
              obtain ⟨h77, hOM75, h⟩ := h
              have hJ : ∀ v80 : Int, v80 = (if ((x76 = 0) ∧ (x5 = 0)) then 1 else 0) → mWm G y_RR_group (d + 1) 250 [vr a0, vi (mI M (mR M a0 8) (Int.toNat (mI M a0 12))), vd, vi v11, vd] [vi v80] M75 (fun r9 M9 => r9 = none ∧ Q M9) := by
                intro v80 e82
                have h := h v80 e82
                have h83 : i32 v80 := by rw [e82]; (repeat' split) <;> first | exact ⟨by decide, by decide⟩ | exact ⟨by decide, by decide⟩
                have h84 : (v80 = 0 ∨ v80 = 1) := by rw [e82]; (repeat' split) <;> decide
                refine wm_istore d_RR_group_250 (by decide) (L' := [vr a0, vi (mI M (mR M a0 8) (Int.toNat (mI M a0 12))), vd, vi v11, vi v80]) rfl ?_
                exact h
              clear h
              refine wm_if_ne (tgt := 249) d_RR_group_238 rfl h77 (fun c78 => ?_) (fun c78 => ?_)
              · refine wm_iconst d_RR_group_249 ?_
                refine wm_less (L' := [vr a0, vi (mI M (mR M a0 8) (Int.toNat (mI M a0 12))), vd, vi v11, vd]) ⟨Or.inr rfl, Or.inr rfl, Or.inl rfl, Or.inr rfl, Or.inl rfl, trivial⟩ ?_
                exact hJ 0 (if_neg (fun z87 => c78 z87.1)).symm
              · replace c78 := Classical.not_not.mp c78
                refine wm_iload_n d_RR_group_241 rfl rfl ?_
                refine wm_if_ne (tgt := 249) d_RR_group_242 rfl h6 (fun c79 => ?_) (fun c79 => ?_)
                · refine wm_iconst d_RR_group_249 ?_
                  refine wm_less (L' := [vr a0, vi (mI M (mR M a0 8) (Int.toNat (mI M a0 12))), vd, vi v11, vd]) ⟨Or.inr rfl, Or.inr rfl, Or.inl rfl, Or.inr rfl, Or.inl rfl, trivial⟩ ?_
                  exact hJ 0 (if_neg (fun z85 => c79 z85.2)).symm
                · replace c79 := Classical.not_not.mp c79
                  refine wm_iconst d_RR_group_245 ?_
                  refine wm_goto (tgt := 250) d_RR_group_246 rfl ?_
                  refine wm_less (L' := [vr a0, vi (mI M (mR M a0 8) (Int.toNat (mI M a0 12))), vd, vi v11, vd]) ⟨Or.inr rfl, Or.inr rfl, Or.inl rfl, Or.inr rfl, Or.inl rfl, trivial⟩ ?_
                  exact hJ 1 (if_pos ⟨c78, c79⟩).symm
  clear h
  refine wm_icmp_gt (tgt := 27) d_RR_group_20 rfl h9 ⟨by decide, by decide⟩ (fun c10 => ?_) (fun c10 => ?_)
  · refine wm_iconst d_RR_group_27 ?_
    exact hJ 0 (if_pos c10).symm
  · refine wm_iconst d_RR_group_23 ?_
    refine wm_goto (tgt := 28) d_RR_group_24 rfl ?_
    exact hJ 1 (if_neg c10).symm
theorem k_RR_group_252 {G : mG} {d : Nat} {a0 : Nat} {l1 : Int} {l3 : Int} {l4 : Int} {M : mM} {Q : mM → Prop} (hO : mOk M) (hi_l1 : i32 l1) (hi_l3 : i32 l3) (hi_l4 : i32 l4)
    (h : ((l4 = 0) → (mK M a0 = 4 ∧ mK M (mR M a0 9) = 30 ∧ ((0 : Int) ≤ mI M a0 12 ∧ mI M a0 12 < (mN M (mR M a0 9) : Int)) ∧ Cv G y_RR_note d [vr a0, vi 3, vi (mI M (mR M a0 9) (Int.toNat (mI M a0 12)))] M (fun M94 => mOk M94 ∧ (h_RR_group_271 G d a0 l1 l3 M94 Q)))) ∧ (¬ (l4 = 0) → (h_RR_group_271 G d a0 l1 l3 M Q))) :
    h_RR_group_252 G d a0 l1 l3 l4 M Q := by
  unfold h_RR_group_252
  refine wm_iload d_RR_group_252 rfl ?_
  refine wm_if_ne (tgt := 271) d_RR_group_254 rfl hi_l4 (fun c90 => ?_) (fun c90 => ?_)
  · replace h := h.2 c90
    refine wm_less (L' := [vr a0, vi l1, vd, vi l3, vd]) ⟨Or.inr rfl, Or.inr rfl, Or.inl rfl, Or.inr rfl, Or.inl rfl, trivial⟩ ?_
    exact h
  · replace c90 := Classical.not_not.mp c90
    replace h := h.1 c90
    obtain ⟨h91, h⟩ := h
    obtain ⟨h92, h⟩ := h
    obtain ⟨h93, h⟩ := h
    refine wm_aload_n d_RR_group_257 rfl rfl ?_
    refine wm_iconst d_RR_group_258 ?_
    refine wm_aload_n d_RR_group_259 rfl rfl ?_
    refine gf_RR_15 rfl d_RR_group_260 h91 ?_
    refine wm_aload_n d_RR_group_263 rfl rfl ?_
    refine gf_RR_87 rfl d_RR_group_264 h91 ?_
    refine wm_iald d_RR_group_267 h92 h93 ?_
    refine cf_RR_114 rfl d_RR_group_268 h91 (Nat.le_of_ble_eq_true rfl) (Cv.mono h (fun M94 h => ?_))
    obtain ⟨hOM94, h⟩ := h
    refine wm_less (L' := [vr a0, vi l1, vd, vi l3, vd]) ⟨Or.inr rfl, Or.inr rfl, Or.inl rfl, Or.inr rfl, Or.inl rfl, trivial⟩ ?_
    exact h
theorem k_RR_group_271 {G : mG} {d : Nat} {a0 : Nat} {l1 : Int} {l3 : Int} {M : mM} {Q : mM → Prop} (hO : mOk M) (hi_l1 : i32 l1) (hi_l3 : i32 l3)
    (h : mK M a0 = 4 ∧ Cv G y_RR_pushKind d [vr a0, vi l3] M (fun M98 => mOk M98 ∧ ((((l1 = 40) → (mK M98 a0 = 4 ∧ i32 ((mI M98 a0 5) - 1))) ∧ (¬ (l1 = 40) → (((l1 = 41) → (mK M98 a0 = 4 ∧ i32 ((mI M98 a0 5) - 1))) ∧ (¬ (l1 = 41) → ((l1 = 42) → (mK M98 a0 = 4 ∧ i32 ((mI M98 a0 5) - 1))))))) ∧ ∀ M110 : mM, M110 = (if ((l1 = 40) ∨ ((l1 = 41) ∨ (l1 = 42))) then (mUI M98 a0 5 ((mI M98 a0 5) - 1)) else M98) → mOk M110 ∧ mK M110 a0 = 4 ∧ mK M110 (mR M110 a0 10) = 30 ∧ ((0 : Int) ≤ mI M110 a0 12 ∧ mI M110 a0 12 < (mN M110 (mR M110 a0 10) : Int)) ∧ ((mI M110 (mR M110 a0 10) (Int.toNat (mI M110 a0 12)) = (-1)) → (mK M110 (mR M110 a0 9) = 30 ∧ ((0 : Int) ≤ mI M110 a0 12 ∧ mI M110 a0 12 < (mN M110 (mR M110 a0 9) : Int)) ∧ mK M110 (mR M110 a0 1) = 6 ∧ Ci G y_Pr_add d [vr (mR M110 a0 1), vi l1, vi (mI M110 (mR M110 a0 9) (Int.toNat (mI M110 a0 12)))] M110 (fun x127 M126 => i32 x127 ∧ mOk M126 ∧ (h_RR_group_362 G d  M126 Q)))) ∧ (¬ (mI M110 (mR M110 a0 10) (Int.toNat (mI M110 a0 12)) = (-1)) → (mK M110 (mR M110 a0 1) = 6 ∧ ((0 : Int) ≤ mI M110 a0 12 ∧ mI M110 a0 12 < (mN M110 (mR M110 a0 10) : Int)) ∧ mK M110 (mR M110 (mR M110 a0 1) 1) = 30 ∧ ((0 : Int) ≤ mI M110 (mR M110 a0 10) (Int.toNat (mI M110 a0 12)) ∧ mI M110 (mR M110 a0 10) (Int.toNat (mI M110 a0 12)) < (mN M110 (mR M110 (mR M110 a0 1) 1) : Int)) ∧ ∀ M133, M133 = mUI M110 (mR M110 (mR M110 a0 1) 1) (Int.toNat (mI M110 (mR M110 a0 10) (Int.toNat (mI M110 a0 12)))) (mI M110 (mR M110 a0 1) 2) → h_RR_group_362 G d  M133 Q))))) :
    h_RR_group_271 G d a0 l1 l3 M Q := by
  unfold h_RR_group_271
  obtain ⟨h97, h⟩ := h
  refine wm_aload_n d_RR_group_271 rfl rfl ?_
  refine wm_iload_n d_RR_group_272 rfl rfl ?_
  refine cf_RR_140 rfl d_RR_group_273 h97 (Nat.le_of_ble_eq_true rfl) (Cv.mono h (fun M98 h => ?_))
  obtain ⟨hOM98, h⟩ := h
  refine wm_iload_n d_RR_group_276 rfl rfl ?_
  refine wm_bipush d_RR_group_277 (by decide) ?_
  obtain ⟨s111, h⟩ := h
  have hJ : ∀ M110 : mM, M110 = (if ((l1 = 40) ∨ ((l1 = 41) ∨ (l1 = 42))) then (mUI M98 a0 5 ((mI M98 a0 5) - 1)) else M98) → mWm G y_RR_group (d + 1) 304 [vr a0, vi l1, vd, vd, vd] [] M110 (fun r9 M9 => r9 = none ∧ Q M9) := by
    intro M110 e112
    have h := h M110 e112
    have h113 : mK M110 = mK M98 := by rw [e112]; (repeat' split) <;> rfl
    obtain ⟨hOM110, h⟩ := h
    obtain ⟨h114, h⟩ := h
    obtain ⟨h115, h⟩ := h
    obtain ⟨h116, h⟩ := h
    refine wm_aload_n d_RR_group_304 rfl rfl ?_
    refine gf_RR_18 rfl d_RR_group_305 h114 ?_
    refine wm_aload_n d_RR_group_308 rfl rfl ?_
    refine gf_RR_87 rfl d_RR_group_309 h114 ?_
    refine wm_iald d_RR_group_312 h115 h116 ?_
    refine wm_iconst d_RR_group_313 ?_
    refine wm_icmp_eq (tgt := 344) d_RR_group_314 rfl (hOM110 _ _).1 ⟨by decide, by decide⟩ (fun c122 => ?_) (fun c122 => ?_)
    · replace h := h.1 c122
      obtain ⟨h123, h⟩ := h
      obtain ⟨h124, h⟩ := h
      obtain ⟨h125, h⟩ := h
      refine wm_aload_n d_RR_group_344 rfl rfl ?_
      refine gf_RR_44 rfl d_RR_group_345 h114 ?_
      refine wm_iload_n d_RR_group_348 rfl rfl ?_
      refine wm_aload_n d_RR_group_349 rfl rfl ?_
      refine gf_RR_15 rfl d_RR_group_350 h114 ?_
      refine wm_aload_n d_RR_group_353 rfl rfl ?_
      refine gf_RR_87 rfl d_RR_group_354 h114 ?_
      refine wm_iald d_RR_group_357 h123 h124 ?_
      refine cf_RR_135 rfl d_RR_group_358 h125 (Nat.le_of_ble_eq_true rfl) (Ci.mono h (fun x127 M126 h => ?_))
      obtain ⟨h128, hOM126, h⟩ := h
      refine wm_pop d_RR_group_361 rfl ?_
      refine wm_less (L' := [vd, vd, vd, vd, vd]) ⟨Or.inl rfl, Or.inl rfl, Or.inl rfl, Or.inl rfl, Or.inl rfl, trivial⟩ ?_
      exact h
    · replace h := h.2 c122
      obtain ⟨h129, h⟩ := h
      obtain ⟨h130, h⟩ := h
      obtain ⟨h131, h⟩ := h
      obtain ⟨h132, h⟩ := h
      obtain ⟨M133, e134⟩ : ∃ M133, M133 = mUI M110 (mR M110 (mR M110 a0 1) 1) (Int.toNat (mI M110 (mR M110 a0 10) (Int.toNat (mI M110 a0 12)))) (mI M110 (mR M110 a0 1) 2) := ⟨_, rfl⟩
      replace h := h M133 e134
      refine wm_aload_n d_RR_group_317 rfl rfl ?_
      refine gf_RR_44 rfl d_RR_group_318 h114 ?_
      refine gf_RR_165 rfl d_RR_group_321 h129 ?_
      refine wm_aload_n d_RR_group_324 rfl rfl ?_
      refine gf_RR_18 rfl d_RR_group_325 h114 ?_
      refine wm_aload_n d_RR_group_328 rfl rfl ?_
      refine gf_RR_87 rfl d_RR_group_329 h114 ?_
      refine wm_iald d_RR_group_332 h115 h130 ?_
      refine wm_aload_n d_RR_group_333 rfl rfl ?_
      refine gf_RR_44 rfl d_RR_group_334 h114 ?_
      refine gf_RR_168 rfl d_RR_group_337 h129 ?_
      have hOM133 : mOk M133 := by rw [e134]; exact mOk_UI hOM110 (hOM110 _ _).1
      refine wm_iastE d_RR_group_340 h131 h132 (hOM110 _ _).1 e134 ?_
      refine wm_goto (tgt := 362) d_RR_group_341 rfl ?_
      refine wm_less (L' := [vd, vd, vd, vd, vd]) ⟨Or.inl rfl, Or.inl rfl, Or.inl rfl, Or.inl rfl, Or.inl rfl, trivial⟩ ?_
      exact h
  clear h
  obtain ⟨s135, s136⟩ := s111
  refine wm_icmp_eq (tgt := 294) d_RR_group_279 rfl hi_l1 ⟨by decide, by decide⟩ (fun c101 => ?_) (fun c101 => ?_)
  · have s135 := s135 c101
    obtain ⟨h102, h103⟩ := s135
    refine wm_aload_n d_RR_group_294 rfl rfl ?_
    refine wm_dup d_RR_group_295 rfl ?_
    refine gf_RR_58 rfl d_RR_group_296 h102 ?_
    refine wm_iconst d_RR_group_299 ?_
    refine wm_isub d_RR_group_300 ?_
    refine pf_RR_58 rfl d_RR_group_301 h102 h103 rfl ?_
    refine wm_less (L' := [vr a0, vi l1, vd, vd, vd]) ⟨Or.inr rfl, Or.inr rfl, Or.inl rfl, Or.inl rfl, Or.inl rfl, trivial⟩ ?_
    exact hJ (mUI M98 a0 5 ((mI M98 a0 5) - 1)) (if_pos (Or.inl c101)).symm
  · have s136 := s136 c101
    obtain ⟨s137, s138⟩ := s136
    refine wm_iload_n d_RR_group_282 rfl rfl ?_
    refine wm_bipush d_RR_group_283 (by decide) ?_
    refine wm_icmp_eq (tgt := 294) d_RR_group_285 rfl hi_l1 ⟨by decide, by decide⟩ (fun c104 => ?_) (fun c104 => ?_)
    · have s137 := s137 c104
      obtain ⟨h105, h106⟩ := s137
      refine wm_aload_n d_RR_group_294 rfl rfl ?_
      refine wm_dup d_RR_group_295 rfl ?_
      refine gf_RR_58 rfl d_RR_group_296 h105 ?_
      refine wm_iconst d_RR_group_299 ?_
      refine wm_isub d_RR_group_300 ?_
      refine pf_RR_58 rfl d_RR_group_301 h105 h106 rfl ?_
      refine wm_less (L' := [vr a0, vi l1, vd, vd, vd]) ⟨Or.inr rfl, Or.inr rfl, Or.inl rfl, Or.inl rfl, Or.inl rfl, trivial⟩ ?_
      exact hJ (mUI M98 a0 5 ((mI M98 a0 5) - 1)) (if_pos (Or.inr (Or.inl c104))).symm
    · have s138 := s138 c104
      have s139 := s138
      refine wm_iload_n d_RR_group_288 rfl rfl ?_
      refine wm_bipush d_RR_group_289 (by decide) ?_
      refine wm_icmp_ne (tgt := 304) d_RR_group_291 rfl hi_l1 ⟨by decide, by decide⟩ (fun c107 => ?_) (fun c107 => ?_)
      · refine wm_less (L' := [vr a0, vi l1, vd, vd, vd]) ⟨Or.inr rfl, Or.inr rfl, Or.inl rfl, Or.inl rfl, Or.inl rfl, trivial⟩ ?_
        exact hJ M98 (if_neg (fun z140 => Or.elim z140 c101 (fun z141 => Or.elim z141 c104 c107))).symm
      · replace c107 := Classical.not_not.mp c107
        have s139 := s139 c107
        obtain ⟨h108, h109⟩ := s139
        refine wm_aload_n d_RR_group_294 rfl rfl ?_
        refine wm_dup d_RR_group_295 rfl ?_
        refine gf_RR_58 rfl d_RR_group_296 h108 ?_
        refine wm_iconst d_RR_group_299 ?_
        refine wm_isub d_RR_group_300 ?_
        refine pf_RR_58 rfl d_RR_group_301 h108 h109 rfl ?_
        refine wm_less (L' := [vr a0, vi l1, vd, vd, vd]) ⟨Or.inr rfl, Or.inr rfl, Or.inl rfl, Or.inl rfl, Or.inl rfl, trivial⟩ ?_
        exact hJ (mUI M98 a0 5 ((mI M98 a0 5) - 1)) (if_pos (Or.inr (Or.inr c107))).symm
theorem k_RR_group_362 {G : mG} {d : Nat} {M : mM} {Q : mM → Prop} (hO : mOk M)
    (h : Q M) :
    h_RR_group_362 G d  M Q := by
  unfold h_RR_group_362
  refine wm_return d_RR_group_362 rfl ?_
  exact ⟨rfl, h⟩
end
section
theorem d_Sc_init_0 : decode y_Sc_init.2.1 0 = .ok (.aload_n 0, 1) := dc9_42 (by decide +kernel)
theorem d_Sc_init_1 : decode y_Sc_init.2.1 1 = .ok (.invokespecial 3, 3) := dc9_183 (by decide +kernel)
theorem d_Sc_init_4 : decode y_Sc_init.2.1 4 = .ok (.aload_n 0, 1) := dc9_42 (by decide +kernel)
theorem d_Sc_init_5 : decode y_Sc_init.2.1 5 = .ok (.new 9, 3) := dc9_187 (by decide +kernel)
theorem d_Sc_init_8 : decode y_Sc_init.2.1 8 = .ok (.dup, 1) := dc9_89 (by decide +kernel)
theorem d_Sc_init_9 : decode y_Sc_init.2.1 9 = .ok (.invokespecial 11, 3) := dc9_183 (by decide +kernel)
theorem d_Sc_init_12 : decode y_Sc_init.2.1 12 = .ok (.putfield 12, 3) := dc9_181 (by decide +kernel)
theorem d_Sc_init_15 : decode y_Sc_init.2.1 15 = .ok (.aload_n 0, 1) := dc9_42 (by decide +kernel)
theorem d_Sc_init_16 : decode y_Sc_init.2.1 16 = .ok (.new 9, 3) := dc9_187 (by decide +kernel)
theorem d_Sc_init_19 : decode y_Sc_init.2.1 19 = .ok (.dup, 1) := dc9_89 (by decide +kernel)
theorem d_Sc_init_20 : decode y_Sc_init.2.1 20 = .ok (.invokespecial 11, 3) := dc9_183 (by decide +kernel)
theorem d_Sc_init_23 : decode y_Sc_init.2.1 23 = .ok (.putfield 18, 3) := dc9_181 (by decide +kernel)
theorem d_Sc_init_26 : decode y_Sc_init.2.1 26 = .ok (.aload_n 0, 1) := dc9_42 (by decide +kernel)
theorem d_Sc_init_27 : decode y_Sc_init.2.1 27 = .ok (.new 9, 3) := dc9_187 (by decide +kernel)
theorem d_Sc_init_30 : decode y_Sc_init.2.1 30 = .ok (.dup, 1) := dc9_89 (by decide +kernel)
theorem d_Sc_init_31 : decode y_Sc_init.2.1 31 = .ok (.invokespecial 11, 3) := dc9_183 (by decide +kernel)
theorem d_Sc_init_34 : decode y_Sc_init.2.1 34 = .ok (.putfield 21, 3) := dc9_181 (by decide +kernel)
theorem d_Sc_init_37 : decode y_Sc_init.2.1 37 = .ok (.aload_n 0, 1) := dc9_42 (by decide +kernel)
theorem d_Sc_init_38 : decode y_Sc_init.2.1 38 = .ok (.new 9, 3) := dc9_187 (by decide +kernel)
theorem d_Sc_init_41 : decode y_Sc_init.2.1 41 = .ok (.dup, 1) := dc9_89 (by decide +kernel)
theorem d_Sc_init_42 : decode y_Sc_init.2.1 42 = .ok (.invokespecial 11, 3) := dc9_183 (by decide +kernel)
theorem d_Sc_init_45 : decode y_Sc_init.2.1 45 = .ok (.putfield 24, 3) := dc9_181 (by decide +kernel)
theorem d_Sc_init_48 : decode y_Sc_init.2.1 48 = .ok (.aload_n 0, 1) := dc9_42 (by decide +kernel)
theorem d_Sc_init_49 : decode y_Sc_init.2.1 49 = .ok (.new 9, 3) := dc9_187 (by decide +kernel)
theorem d_Sc_init_52 : decode y_Sc_init.2.1 52 = .ok (.dup, 1) := dc9_89 (by decide +kernel)
theorem d_Sc_init_53 : decode y_Sc_init.2.1 53 = .ok (.invokespecial 11, 3) := dc9_183 (by decide +kernel)
theorem d_Sc_init_56 : decode y_Sc_init.2.1 56 = .ok (.putfield 27, 3) := dc9_181 (by decide +kernel)
theorem d_Sc_init_59 : decode y_Sc_init.2.1 59 = .ok (.aload_n 0, 1) := dc9_42 (by decide +kernel)
theorem d_Sc_init_60 : decode y_Sc_init.2.1 60 = .ok (.new 9, 3) := dc9_187 (by decide +kernel)
theorem d_Sc_init_63 : decode y_Sc_init.2.1 63 = .ok (.dup, 1) := dc9_89 (by decide +kernel)
theorem d_Sc_init_64 : decode y_Sc_init.2.1 64 = .ok (.invokespecial 11, 3) := dc9_183 (by decide +kernel)
theorem d_Sc_init_67 : decode y_Sc_init.2.1 67 = .ok (.putfield 30, 3) := dc9_181 (by decide +kernel)
theorem d_Sc_init_70 : decode y_Sc_init.2.1 70 = .ok (.aload_n 0, 1) := dc9_42 (by decide +kernel)
theorem d_Sc_init_71 : decode y_Sc_init.2.1 71 = .ok (.iconst 4, 1) := dc9_7 (by decide +kernel)
theorem d_Sc_init_72 : decode y_Sc_init.2.1 72 = .ok (.newarray .long, 2) := by decide +kernel
theorem d_Sc_init_74 : decode y_Sc_init.2.1 74 = .ok (.putfield 33, 3) := dc9_181 (by decide +kernel)
theorem d_Sc_init_77 : decode y_Sc_init.2.1 77 = .ok (.aload_n 0, 1) := dc9_42 (by decide +kernel)
theorem d_Sc_init_78 : decode y_Sc_init.2.1 78 = .ok (.new 9, 3) := dc9_187 (by decide +kernel)
theorem d_Sc_init_81 : decode y_Sc_init.2.1 81 = .ok (.dup, 1) := dc9_89 (by decide +kernel)
theorem d_Sc_init_82 : decode y_Sc_init.2.1 82 = .ok (.invokespecial 11, 3) := dc9_183 (by decide +kernel)
theorem d_Sc_init_85 : decode y_Sc_init.2.1 85 = .ok (.putfield 37, 3) := dc9_181 (by decide +kernel)
theorem d_Sc_init_88 : decode y_Sc_init.2.1 88 = .ok (.aload_n 0, 1) := dc9_42 (by decide +kernel)
theorem d_Sc_init_89 : decode y_Sc_init.2.1 89 = .ok (.new 9, 3) := dc9_187 (by decide +kernel)
theorem d_Sc_init_92 : decode y_Sc_init.2.1 92 = .ok (.dup, 1) := dc9_89 (by decide +kernel)
theorem d_Sc_init_93 : decode y_Sc_init.2.1 93 = .ok (.invokespecial 11, 3) := dc9_183 (by decide +kernel)
theorem d_Sc_init_96 : decode y_Sc_init.2.1 96 = .ok (.putfield 40, 3) := dc9_181 (by decide +kernel)
theorem d_Sc_init_99 : decode y_Sc_init.2.1 99 = .ok (.aload_n 0, 1) := dc9_42 (by decide +kernel)
theorem d_Sc_init_100 : decode y_Sc_init.2.1 100 = .ok (.new 43, 3) := dc9_187 (by decide +kernel)
theorem d_Sc_init_103 : decode y_Sc_init.2.1 103 = .ok (.dup, 1) := dc9_89 (by decide +kernel)
theorem d_Sc_init_104 : decode y_Sc_init.2.1 104 = .ok (.invokespecial 45, 3) := dc9_183 (by decide +kernel)
theorem d_Sc_init_107 : decode y_Sc_init.2.1 107 = .ok (.putfield 46, 3) := dc9_181 (by decide +kernel)
theorem d_Sc_init_110 : decode y_Sc_init.2.1 110 = .ok (.aload_n 0, 1) := dc9_42 (by decide +kernel)
theorem d_Sc_init_111 : decode y_Sc_init.2.1 111 = .ok (.new 43, 3) := dc9_187 (by decide +kernel)
theorem d_Sc_init_114 : decode y_Sc_init.2.1 114 = .ok (.dup, 1) := dc9_89 (by decide +kernel)
theorem d_Sc_init_115 : decode y_Sc_init.2.1 115 = .ok (.invokespecial 45, 3) := dc9_183 (by decide +kernel)
theorem d_Sc_init_118 : decode y_Sc_init.2.1 118 = .ok (.putfield 50, 3) := dc9_181 (by decide +kernel)
theorem d_Sc_init_121 : decode y_Sc_init.2.1 121 = .ok (.return_, 1) := dc9_177 (by decide +kernel)
theorem k_Sc_init {G : mG} {d : Nat} {a0 : Nat} {M : mM} {Q : mM → Prop} (hO : mOk M)
    (h : 0 < a0 ∧ ∀ M2, M2 = mNew M 10 0 2 → Cv G y_Na_init d [vr (mZ M)] M2 (fun M4 => mOk M4 ∧ (mK M4 a0 = 9 ∧ ∀ M8, M8 = mUR M4 a0 0 (mZ M) → ∀ M10, M10 = mNew M8 10 0 2 → Cv G y_Na_init d [vr (mZ M8)] M10 (fun M12 => mOk M12 ∧ (mK M12 a0 = 9 ∧ ∀ M16, M16 = mUR M12 a0 1 (mZ M8) → ∀ M18, M18 = mNew M16 10 0 2 → Cv G y_Na_init d [vr (mZ M16)] M18 (fun M20 => mOk M20 ∧ (mK M20 a0 = 9 ∧ ∀ M24, M24 = mUR M20 a0 2 (mZ M16) → ∀ M26, M26 = mNew M24 10 0 2 → Cv G y_Na_init d [vr (mZ M24)] M26 (fun M28 => mOk M28 ∧ (mK M28 a0 = 9 ∧ ∀ M32, M32 = mUR M28 a0 3 (mZ M24) → ∀ M34, M34 = mNew M32 10 0 2 → Cv G y_Na_init d [vr (mZ M32)] M34 (fun M36 => mOk M36 ∧ (mK M36 a0 = 9 ∧ ∀ M40, M40 = mUR M36 a0 4 (mZ M32) → ∀ M42, M42 = mNew M40 10 0 2 → Cv G y_Na_init d [vr (mZ M40)] M42 (fun M44 => mOk M44 ∧ (mK M44 a0 = 9 ∧ ∀ M48, M48 = mUR M44 a0 5 (mZ M40) → ∀ M50, M50 = mNew M48 33 4 4 → mK M50 a0 = 9 ∧ ∀ M53, M53 = mUR M50 a0 6 (mZ M48) → ∀ M55, M55 = mNew M53 10 0 2 → Cv G y_Na_init d [vr (mZ M53)] M55 (fun M57 => mOk M57 ∧ (mK M57 a0 = 9 ∧ ∀ M61, M61 = mUR M57 a0 7 (mZ M53) → ∀ M63, M63 = mNew M61 10 0 2 → Cv G y_Na_init d [vr (mZ M61)] M63 (fun M65 => mOk M65 ∧ (mK M65 a0 = 9 ∧ ∀ M69, M69 = mUR M65 a0 8 (mZ M61) → ∀ M71, M71 = mNew M69 11 0 3 → Cv G y_Fr_init d [vr (mZ M69)] M71 (fun M73 => mOk M73 ∧ (mK M73 a0 = 9 ∧ ∀ M77, M77 = mUR M73 a0 9 (mZ M69) → ∀ M79, M79 = mNew M77 11 0 3 → Cv G y_Fr_init d [vr (mZ M77)] M79 (fun M81 => mOk M81 ∧ (mK M81 a0 = 9 ∧ ∀ M85, M85 = mUR M81 a0 10 (mZ M77) → Q M85))))))))))))))))))))) :
    Cv G y_Sc_init (d + 1) [vr a0] M Q := by
  refine wm_open (y := y_Sc_init) rfl (Nat.le_of_ble_eq_true rfl) (L := [vr a0]) rfl ?_
  obtain ⟨h1, h⟩ := h
  obtain ⟨M2, e3⟩ : ∃ M2, M2 = mNew M 10 0 2 := ⟨_, rfl⟩
  replace h := h M2 e3
  refine wm_aload_n d_Sc_init_0 rfl rfl ?_
  refine wm_objInit trivial k2_232 kO_inst kO_code (Nat.le_of_ble_eq_true rfl) d_Sc_init_1 h1 ?_
  refine wm_aload_n d_Sc_init_4 rfl rfl ?_
  have hOM2 : mOk M2 := by rw [e3]; exact mOk_New hO
  refine nf_Sc_9 rfl d_Sc_init_5 e3 ?_
  refine wm_dup d_Sc_init_8 rfl ?_
  refine cf_Sc_11 rfl d_Sc_init_9 (by rw [e3]; exact if_pos rfl) (Nat.le_of_ble_eq_true rfl) (Cv.mono h (fun M4 h => ?_))
  obtain ⟨hOM4, h⟩ := h
  obtain ⟨h7, h⟩ := h
  obtain ⟨M8, e9⟩ : ∃ M8, M8 = mUR M4 a0 0 (mZ M) := ⟨_, rfl⟩
  replace h := h M8 e9
  obtain ⟨M10, e11⟩ : ∃ M10, M10 = mNew M8 10 0 2 := ⟨_, rfl⟩
  replace h := h M10 e11
  have hOM8 : mOk M8 := by rw [e9]; exact mOk_UR hOM4
  refine pf_Sc_12 rfl rfl d_Sc_init_12 h7 e9 ?_
  refine wm_aload_n d_Sc_init_15 rfl rfl ?_
  have hOM10 : mOk M10 := by rw [e11]; exact mOk_New hOM8
  refine nf_Sc_9 rfl d_Sc_init_16 e11 ?_
  refine wm_dup d_Sc_init_19 rfl ?_
  refine cf_Sc_11 rfl d_Sc_init_20 (by rw [e11]; exact if_pos rfl) (Nat.le_of_ble_eq_true rfl) (Cv.mono h (fun M12 h => ?_))
  obtain ⟨hOM12, h⟩ := h
  obtain ⟨h15, h⟩ := h
  obtain ⟨M16, e17⟩ : ∃ M16, M16 = mUR M12 a0 1 (mZ M8) := ⟨_, rfl⟩
  replace h := h M16 e17
  obtain ⟨M18, e19⟩ : ∃ M18, M18 = mNew M16 10 0 2 := ⟨_, rfl⟩
  replace h := h M18 e19
  have hOM16 : mOk M16 := by rw [e17]; exact mOk_UR hOM12
  refine pf_Sc_18 rfl rfl d_Sc_init_23 h15 e17 ?_
  refine wm_aload_n d_Sc_init_26 rfl rfl ?_
  have hOM18 : mOk M18 := by rw [e19]; exact mOk_New hOM16
  refine nf_Sc_9 rfl d_Sc_init_27 e19 ?_
  refine wm_dup d_Sc_init_30 rfl ?_
  refine cf_Sc_11 rfl d_Sc_init_31 (by rw [e19]; exact if_pos rfl) (Nat.le_of_ble_eq_true rfl) (Cv.mono h (fun M20 h => ?_))
  obtain ⟨hOM20, h⟩ := h
  obtain ⟨h23, h⟩ := h
  obtain ⟨M24, e25⟩ : ∃ M24, M24 = mUR M20 a0 2 (mZ M16) := ⟨_, rfl⟩
  replace h := h M24 e25
  obtain ⟨M26, e27⟩ : ∃ M26, M26 = mNew M24 10 0 2 := ⟨_, rfl⟩
  replace h := h M26 e27
  have hOM24 : mOk M24 := by rw [e25]; exact mOk_UR hOM20
  refine pf_Sc_21 rfl rfl d_Sc_init_34 h23 e25 ?_
  refine wm_aload_n d_Sc_init_37 rfl rfl ?_
  have hOM26 : mOk M26 := by rw [e27]; exact mOk_New hOM24
  refine nf_Sc_9 rfl d_Sc_init_38 e27 ?_
  refine wm_dup d_Sc_init_41 rfl ?_
  refine cf_Sc_11 rfl d_Sc_init_42 (by rw [e27]; exact if_pos rfl) (Nat.le_of_ble_eq_true rfl) (Cv.mono h (fun M28 h => ?_))
  obtain ⟨hOM28, h⟩ := h
  obtain ⟨h31, h⟩ := h
  obtain ⟨M32, e33⟩ : ∃ M32, M32 = mUR M28 a0 3 (mZ M24) := ⟨_, rfl⟩
  replace h := h M32 e33
  obtain ⟨M34, e35⟩ : ∃ M34, M34 = mNew M32 10 0 2 := ⟨_, rfl⟩
  replace h := h M34 e35
  have hOM32 : mOk M32 := by rw [e33]; exact mOk_UR hOM28
  refine pf_Sc_24 rfl rfl d_Sc_init_45 h31 e33 ?_
  refine wm_aload_n d_Sc_init_48 rfl rfl ?_
  have hOM34 : mOk M34 := by rw [e35]; exact mOk_New hOM32
  refine nf_Sc_9 rfl d_Sc_init_49 e35 ?_
  refine wm_dup d_Sc_init_52 rfl ?_
  refine cf_Sc_11 rfl d_Sc_init_53 (by rw [e35]; exact if_pos rfl) (Nat.le_of_ble_eq_true rfl) (Cv.mono h (fun M36 h => ?_))
  obtain ⟨hOM36, h⟩ := h
  obtain ⟨h39, h⟩ := h
  obtain ⟨M40, e41⟩ : ∃ M40, M40 = mUR M36 a0 4 (mZ M32) := ⟨_, rfl⟩
  replace h := h M40 e41
  obtain ⟨M42, e43⟩ : ∃ M42, M42 = mNew M40 10 0 2 := ⟨_, rfl⟩
  replace h := h M42 e43
  have hOM40 : mOk M40 := by rw [e41]; exact mOk_UR hOM36
  refine pf_Sc_27 rfl rfl d_Sc_init_56 h39 e41 ?_
  refine wm_aload_n d_Sc_init_59 rfl rfl ?_
  have hOM42 : mOk M42 := by rw [e43]; exact mOk_New hOM40
  refine nf_Sc_9 rfl d_Sc_init_60 e43 ?_
  refine wm_dup d_Sc_init_63 rfl ?_
  refine cf_Sc_11 rfl d_Sc_init_64 (by rw [e43]; exact if_pos rfl) (Nat.le_of_ble_eq_true rfl) (Cv.mono h (fun M44 h => ?_))
  obtain ⟨hOM44, h⟩ := h
  obtain ⟨h47, h⟩ := h
  obtain ⟨M48, e49⟩ : ∃ M48, M48 = mUR M44 a0 5 (mZ M40) := ⟨_, rfl⟩
  replace h := h M48 e49
  obtain ⟨M50, e51⟩ : ∃ M50, M50 = mNew M48 33 4 4 := ⟨_, rfl⟩
  replace h := h M50 e51
  obtain ⟨h52, h⟩ := h
  obtain ⟨M53, e54⟩ : ∃ M53, M53 = mUR M50 a0 6 (mZ M48) := ⟨_, rfl⟩
  replace h := h M53 e54
  obtain ⟨M55, e56⟩ : ∃ M55, M55 = mNew M53 10 0 2 := ⟨_, rfl⟩
  replace h := h M55 e56
  have hOM48 : mOk M48 := by rw [e49]; exact mOk_UR hOM44
  refine pf_Sc_30 rfl rfl d_Sc_init_67 h47 e49 ?_
  refine wm_aload_n d_Sc_init_70 rfl rfl ?_
  refine wm_iconst d_Sc_init_71 ?_
  have hOM50 : mOk M50 := by rw [e51]; exact mOk_New hOM48
  refine wm_newarrE 3 (atype := .long) (ty := .long) rfl rfl (fun _ => rfl) rfl rfl (by decide) k3_35 ⟨by decide, by decide⟩ d_Sc_init_72 e51 ?_
  have hOM53 : mOk M53 := by rw [e54]; exact mOk_UR hOM50
  refine pf_Sc_33 rfl rfl d_Sc_init_74 h52 e54 ?_
  refine wm_aload_n d_Sc_init_77 rfl rfl ?_
  have hOM55 : mOk M55 := by rw [e56]; exact mOk_New hOM53
  refine nf_Sc_9 rfl d_Sc_init_78 e56 ?_
  refine wm_dup d_Sc_init_81 rfl ?_
  refine cf_Sc_11 rfl d_Sc_init_82 (by rw [e56]; exact if_pos rfl) (Nat.le_of_ble_eq_true rfl) (Cv.mono h (fun M57 h => ?_))
  obtain ⟨hOM57, h⟩ := h
  obtain ⟨h60, h⟩ := h
  obtain ⟨M61, e62⟩ : ∃ M61, M61 = mUR M57 a0 7 (mZ M53) := ⟨_, rfl⟩
  replace h := h M61 e62
  obtain ⟨M63, e64⟩ : ∃ M63, M63 = mNew M61 10 0 2 := ⟨_, rfl⟩
  replace h := h M63 e64
  have hOM61 : mOk M61 := by rw [e62]; exact mOk_UR hOM57
  refine pf_Sc_37 rfl rfl d_Sc_init_85 h60 e62 ?_
  refine wm_aload_n d_Sc_init_88 rfl rfl ?_
  have hOM63 : mOk M63 := by rw [e64]; exact mOk_New hOM61
  refine nf_Sc_9 rfl d_Sc_init_89 e64 ?_
  refine wm_dup d_Sc_init_92 rfl ?_
  refine cf_Sc_11 rfl d_Sc_init_93 (by rw [e64]; exact if_pos rfl) (Nat.le_of_ble_eq_true rfl) (Cv.mono h (fun M65 h => ?_))
  obtain ⟨hOM65, h⟩ := h
  obtain ⟨h68, h⟩ := h
  obtain ⟨M69, e70⟩ : ∃ M69, M69 = mUR M65 a0 8 (mZ M61) := ⟨_, rfl⟩
  replace h := h M69 e70
  obtain ⟨M71, e72⟩ : ∃ M71, M71 = mNew M69 11 0 3 := ⟨_, rfl⟩
  replace h := h M71 e72
  have hOM69 : mOk M69 := by rw [e70]; exact mOk_UR hOM65
  refine pf_Sc_40 rfl rfl d_Sc_init_96 h68 e70 ?_
  refine wm_aload_n d_Sc_init_99 rfl rfl ?_
  have hOM71 : mOk M71 := by rw [e72]; exact mOk_New hOM69
  refine nf_Sc_43 rfl d_Sc_init_100 e72 ?_
  refine wm_dup d_Sc_init_103 rfl ?_
  refine cf_Sc_45 rfl d_Sc_init_104 (by rw [e72]; exact if_pos rfl) (Nat.le_of_ble_eq_true rfl) (Cv.mono h (fun M73 h => ?_))
  obtain ⟨hOM73, h⟩ := h
  obtain ⟨h76, h⟩ := h
  obtain ⟨M77, e78⟩ : ∃ M77, M77 = mUR M73 a0 9 (mZ M69) := ⟨_, rfl⟩
  replace h := h M77 e78
  obtain ⟨M79, e80⟩ : ∃ M79, M79 = mNew M77 11 0 3 := ⟨_, rfl⟩
  replace h := h M79 e80
  have hOM77 : mOk M77 := by rw [e78]; exact mOk_UR hOM73
  refine pf_Sc_46 rfl d_Sc_init_107 h76 e78 ?_
  refine wm_aload_n d_Sc_init_110 rfl rfl ?_
  have hOM79 : mOk M79 := by rw [e80]; exact mOk_New hOM77
  refine nf_Sc_43 rfl d_Sc_init_111 e80 ?_
  refine wm_dup d_Sc_init_114 rfl ?_
  refine cf_Sc_45 rfl d_Sc_init_115 (by rw [e80]; exact if_pos rfl) (Nat.le_of_ble_eq_true rfl) (Cv.mono h (fun M81 h => ?_))
  obtain ⟨hOM81, h⟩ := h
  obtain ⟨h84, h⟩ := h
  obtain ⟨M85, e86⟩ : ∃ M85, M85 = mUR M81 a0 10 (mZ M77) := ⟨_, rfl⟩
  replace h := h M85 e86
  have hOM85 : mOk M85 := by rw [e86]; exact mOk_UR hOM81
  refine pf_Sc_50 rfl d_Sc_init_118 h84 e86 ?_
  refine wm_return d_Sc_init_121 rfl ?_
  exact ⟨rfl, h⟩
theorem d_Sc_wholePart_0 : decode y_Sc_wholePart.2.1 0 = .ok (.aload_n 1, 1) := dc9_43 (by decide +kernel)
theorem d_Sc_wholePart_1 : decode y_Sc_wholePart.2.1 1 = .ok (.aload_n 2, 1) := dc9_44 (by decide +kernel)
theorem d_Sc_wholePart_2 : decode y_Sc_wholePart.2.1 2 = .ok (.aload_n 0, 1) := dc9_42 (by decide +kernel)
theorem d_Sc_wholePart_3 : decode y_Sc_wholePart.2.1 3 = .ok (.getfield 21, 3) := dc9_180 (by decide +kernel)
theorem d_Sc_wholePart_6 : decode y_Sc_wholePart.2.1 6 = .ok (.aload_n 0, 1) := dc9_42 (by decide +kernel)
theorem d_Sc_wholePart_7 : decode y_Sc_wholePart.2.1 7 = .ok (.getfield 24, 3) := dc9_180 (by decide +kernel)
theorem d_Sc_wholePart_10 : decode y_Sc_wholePart.2.1 10 = .ok (.invokevirtual 53, 3) := dc9_182 (by decide +kernel)
theorem d_Sc_wholePart_13 : decode y_Sc_wholePart.2.1 13 = .ok (.aload_n 0, 1) := dc9_42 (by decide +kernel)
theorem d_Sc_wholePart_14 : decode y_Sc_wholePart.2.1 14 = .ok (.getfield 21, 3) := dc9_180 (by decide +kernel)
theorem d_Sc_wholePart_17 : decode y_Sc_wholePart.2.1 17 = .ok (.getfield 57, 3) := dc9_180 (by decide +kernel)
theorem d_Sc_wholePart_20 : decode y_Sc_wholePart.2.1 20 = .ok (.ifCond .ne 7, 3) := dc9_154 (by decide +kernel)
theorem d_Sc_wholePart_23 : decode y_Sc_wholePart.2.1 23 = .ok (.iconst 0, 1) := dc9_3 (by decide +kernel)
theorem d_Sc_wholePart_24 : decode y_Sc_wholePart.2.1 24 = .ok (.goto 12, 3) := dc9_167 (by decide +kernel)
theorem d_Sc_wholePart_27 : decode y_Sc_wholePart.2.1 27 = .ok (.aload_n 0, 1) := dc9_42 (by decide +kernel)
theorem d_Sc_wholePart_28 : decode y_Sc_wholePart.2.1 28 = .ok (.getfield 21, 3) := dc9_180 (by decide +kernel)
theorem d_Sc_wholePart_31 : decode y_Sc_wholePart.2.1 31 = .ok (.getfield 61, 3) := dc9_180 (by decide +kernel)
theorem d_Sc_wholePart_34 : decode y_Sc_wholePart.2.1 34 = .ok (.iconst 0, 1) := dc9_3 (by decide +kernel)
theorem d_Sc_wholePart_35 : decode y_Sc_wholePart.2.1 35 = .ok (.iaload, 1) := dc9_46 (by decide +kernel)
theorem d_Sc_wholePart_36 : decode y_Sc_wholePart.2.1 36 = .ok (.ireturn, 1) := dc9_172 (by decide +kernel)
theorem k_Sc_wholePart {G : mG} {d : Nat} {a0 : Nat} {a1 : Nat} {a2 : Nat} {M : mM} {Q : Int → mM → Prop} (hO : mOk M)
    (h : mK M a0 = 9 ∧ mK M a1 = 10 ∧ Cv G y_Na_divide d [vr a1, vr a2, vr (mR M a0 2), vr (mR M a0 3)] M (fun M3 => mOk M3 ∧ (mK M3 a0 = 9 ∧ mK M3 (mR M3 a0 2) = 10 ∧ (¬ (mI M3 (mR M3 a0 2) 1 = 0) → (mK M3 (mR M3 (mR M3 a0 2) 0) = 30 ∧ ((0 : Int) ≤ 0 ∧ 0 < (mN M3 (mR M3 (mR M3 a0 2) 0) : Int)))) ∧ ∀ v11 : Int, v11 = (if (mI M3 (mR M3 a0 2) 1 = 0) then 0 else mI M3 (mR M3 (mR M3 a0 2) 0) 0) → Q v11 M3))) :
    Ci G y_Sc_wholePart (d + 1) [vr a0, vr a1, vr a2] M Q := by
  refine wm_open (y := y_Sc_wholePart) rfl (Nat.le_of_ble_eq_true rfl) (L := [vr a0, vr a1, vr a2]) rfl ?_
  obtain ⟨h1, h⟩ := h
  obtain ⟨h2, h⟩ := h
  refine wm_aload_n d_Sc_wholePart_0 rfl rfl ?_
  refine wm_aload_n d_Sc_wholePart_1 rfl rfl ?_
  refine wm_aload_n d_Sc_wholePart_2 rfl rfl ?_
  refine gf_Sc_21 rfl d_Sc_wholePart_3 h1 ?_
  refine wm_aload_n d_Sc_wholePart_6 rfl rfl ?_
  refine gf_Sc_24 rfl d_Sc_wholePart_7 h1 ?_
  refine cf_Sc_53 rfl d_Sc_wholePart_10 h2 (Nat.le_of_ble_eq_true rfl) (Cv.mono h (fun M3 h => ?_))
  obtain ⟨hOM3, h⟩ := h
  obtain ⟨h6, h⟩ := h
  obtain ⟨h7, h⟩ := h
  refine wm_aload_n d_Sc_wholePart_13 rfl rfl ?_
  refine gf_Sc_21 rfl d_Sc_wholePart_14 h6 ?_
  refine gf_Sc_57 rfl d_Sc_wholePart_17 h7 ?_
  obtain ⟨s12, h⟩ := h
  have hJ : ∀ v11 : Int, v11 = (if (mI M3 (mR M3 a0 2) 1 = 0) then 0 else mI M3 (mR M3 (mR M3 a0 2) 0) 0) → mWm G y_Sc_wholePart (d + 1) 36 [vd, vd, vd] [vi v11] M3 (fun r9 M9 => ∃ x9, r9 = some (vi x9) ∧ Q x9 M9) := by
    intro v11 e13
    have h := h v11 e13
    refine wm_ireturn d_Sc_wholePart_36 rfl rfl ?_
    exact ⟨_, rfl, h⟩
  clear h
  have s14 := s12
  refine wm_if_ne (tgt := 27) d_Sc_wholePart_20 rfl (hOM3 _ _).1 (fun c8 => ?_) (fun c8 => ?_)
  · have s14 := s14 c8
    obtain ⟨h9, h10⟩ := s14
    refine wm_aload_n d_Sc_wholePart_27 rfl rfl ?_
    refine gf_Sc_21 rfl d_Sc_wholePart_28 h6 ?_
    refine gf_Sc_61 rfl d_Sc_wholePart_31 h7 ?_
    refine wm_iconst d_Sc_wholePart_34 ?_
    refine wm_iald d_Sc_wholePart_35 h9 h10 ?_
    refine wm_less (L' := [vd, vd, vd]) ⟨Or.inl rfl, Or.inl rfl, Or.inl rfl, trivial⟩ ?_
    exact hJ (mI M3 (mR M3 (mR M3 a0 2) 0) 0) (if_neg c8).symm
  · replace c8 := Classical.not_not.mp c8
    refine wm_iconst d_Sc_wholePart_23 ?_
    refine wm_goto (tgt := 36) d_Sc_wholePart_24 rfl ?_
    refine wm_less (L' := [vd, vd, vd]) ⟨Or.inl rfl, Or.inl rfl, Or.inl rfl, trivial⟩ ?_
    exact hJ 0 (if_pos c8).symm
theorem d_Sc_commonDivisor_0 : decode y_Sc_commonDivisor.2.1 0 = .ok (.aload_n 0, 1) := dc9_42 (by decide +kernel)
theorem d_Sc_commonDivisor_1 : decode y_Sc_commonDivisor.2.1 1 = .ok (.getfield 12, 3) := dc9_180 (by decide +kernel)
theorem d_Sc_commonDivisor_4 : decode y_Sc_commonDivisor.2.1 4 = .ok (.astore_n 3, 1) := dc9_78 (by decide +kernel)
theorem d_Sc_commonDivisor_5 : decode y_Sc_commonDivisor.2.1 5 = .ok (.aload_n 0, 1) := dc9_42 (by decide +kernel)
theorem d_Sc_commonDivisor_6 : decode y_Sc_commonDivisor.2.1 6 = .ok (.getfield 18, 3) := dc9_180 (by decide +kernel)
theorem d_Sc_commonDivisor_9 : decode y_Sc_commonDivisor.2.1 9 = .ok (.astore 4, 2) := dc9_58 (by decide +kernel)
theorem d_Sc_commonDivisor_11 : decode y_Sc_commonDivisor.2.1 11 = .ok (.aload_n 1, 1) := dc9_43 (by decide +kernel)
theorem d_Sc_commonDivisor_12 : decode y_Sc_commonDivisor.2.1 12 = .ok (.aload_n 2, 1) := dc9_44 (by decide +kernel)
theorem d_Sc_commonDivisor_13 : decode y_Sc_commonDivisor.2.1 13 = .ok (.invokestatic 65, 3) := dc9_184 (by decide +kernel)
theorem d_Sc_commonDivisor_16 : decode y_Sc_commonDivisor.2.1 16 = .ok (.ifCond .lt 7, 3) := dc9_155 (by decide +kernel)
theorem d_Sc_commonDivisor_23 : decode y_Sc_commonDivisor.2.1 23 = .ok (.iconst 0, 1) := dc9_3 (by decide +kernel)
theorem d_Sc_commonDivisor_19 : decode y_Sc_commonDivisor.2.1 19 = .ok (.iconst 1, 1) := dc9_4 (by decide +kernel)
theorem d_Sc_commonDivisor_20 : decode y_Sc_commonDivisor.2.1 20 = .ok (.goto 4, 3) := dc9_167 (by decide +kernel)
theorem d_Sc_commonDivisor_24 : decode y_Sc_commonDivisor.2.1 24 = .ok (.istore 5, 2) := dc9_54 (by decide +kernel)
theorem d_Sc_commonDivisor_26 : decode y_Sc_commonDivisor.2.1 26 = .ok (.aload_n 3, 1) := dc9_45 (by decide +kernel)
theorem d_Sc_commonDivisor_27 : decode y_Sc_commonDivisor.2.1 27 = .ok (.iload 5, 2) := dc9_21 (by decide +kernel)
theorem d_Sc_commonDivisor_29 : decode y_Sc_commonDivisor.2.1 29 = .ok (.ifCond .eq 7, 3) := dc9_153 (by decide +kernel)
theorem d_Sc_commonDivisor_36 : decode y_Sc_commonDivisor.2.1 36 = .ok (.aload_n 2, 1) := dc9_44 (by decide +kernel)
theorem d_Sc_commonDivisor_32 : decode y_Sc_commonDivisor.2.1 32 = .ok (.aload_n 1, 1) := dc9_43 (by decide +kernel)
theorem d_Sc_commonDivisor_33 : decode y_Sc_commonDivisor.2.1 33 = .ok (.goto 4, 3) := dc9_167 (by decide +kernel)
theorem d_Sc_commonDivisor_37 : decode y_Sc_commonDivisor.2.1 37 = .ok (.invokevirtual 69, 3) := dc9_182 (by decide +kernel)
theorem d_Sc_commonDivisor_40 : decode y_Sc_commonDivisor.2.1 40 = .ok (.aload 4, 2) := dc9_25 (by decide +kernel)
theorem d_Sc_commonDivisor_42 : decode y_Sc_commonDivisor.2.1 42 = .ok (.iload 5, 2) := dc9_21 (by decide +kernel)
theorem d_Sc_commonDivisor_44 : decode y_Sc_commonDivisor.2.1 44 = .ok (.ifCond .eq 7, 3) := dc9_153 (by decide +kernel)
theorem d_Sc_commonDivisor_51 : decode y_Sc_commonDivisor.2.1 51 = .ok (.aload_n 1, 1) := dc9_43 (by decide +kernel)
theorem d_Sc_commonDivisor_47 : decode y_Sc_commonDivisor.2.1 47 = .ok (.aload_n 2, 1) := dc9_44 (by decide +kernel)
theorem d_Sc_commonDivisor_48 : decode y_Sc_commonDivisor.2.1 48 = .ok (.goto 4, 3) := dc9_167 (by decide +kernel)
theorem d_Sc_commonDivisor_52 : decode y_Sc_commonDivisor.2.1 52 = .ok (.invokevirtual 69, 3) := dc9_182 (by decide +kernel)
theorem d_Sc_commonDivisor_55 : decode y_Sc_commonDivisor.2.1 55 = .ok (.iconst 0, 1) := dc9_3 (by decide +kernel)
theorem d_Sc_commonDivisor_56 : decode y_Sc_commonDivisor.2.1 56 = .ok (.istore 6, 2) := dc9_54 (by decide +kernel)
theorem d_Sc_commonDivisor_58 : decode y_Sc_commonDivisor.2.1 58 = .ok (.iload 6, 2) := dc9_21 (by decide +kernel)
theorem d_Sc_commonDivisor_60 : decode y_Sc_commonDivisor.2.1 60 = .ok (.ldc 73, 2) := dc9_18 (by decide +kernel)
theorem d_Sc_commonDivisor_62 : decode y_Sc_commonDivisor.2.1 62 = .ok (.if_icmp .ge 111, 3) := dc9_162 (by decide +kernel)
theorem d_Sc_commonDivisor_65 : decode y_Sc_commonDivisor.2.1 65 = .ok (.aload 4, 2) := dc9_25 (by decide +kernel)
theorem d_Sc_commonDivisor_67 : decode y_Sc_commonDivisor.2.1 67 = .ok (.getfield 57, 3) := dc9_180 (by decide +kernel)
theorem d_Sc_commonDivisor_70 : decode y_Sc_commonDivisor.2.1 70 = .ok (.ifCond .le 103, 3) := dc9_158 (by decide +kernel)
theorem d_Sc_commonDivisor_73 : decode y_Sc_commonDivisor.2.1 73 = .ok (.aload_n 3, 1) := dc9_45 (by decide +kernel)
theorem d_Sc_commonDivisor_74 : decode y_Sc_commonDivisor.2.1 74 = .ok (.getfield 57, 3) := dc9_180 (by decide +kernel)
theorem d_Sc_commonDivisor_77 : decode y_Sc_commonDivisor.2.1 77 = .ok (.iconst 3, 1) := dc9_6 (by decide +kernel)
theorem d_Sc_commonDivisor_78 : decode y_Sc_commonDivisor.2.1 78 = .ok (.if_icmp .ge 23, 3) := dc9_162 (by decide +kernel)
theorem d_Sc_commonDivisor_101 : decode y_Sc_commonDivisor.2.1 101 = .ok (.aload_n 3, 1) := dc9_45 (by decide +kernel)
theorem d_Sc_commonDivisor_81 : decode y_Sc_commonDivisor.2.1 81 = .ok (.aload_n 3, 1) := dc9_45 (by decide +kernel)
theorem d_Sc_commonDivisor_82 : decode y_Sc_commonDivisor.2.1 82 = .ok (.aload_n 3, 1) := dc9_45 (by decide +kernel)
theorem d_Sc_commonDivisor_83 : decode y_Sc_commonDivisor.2.1 83 = .ok (.iconst 0, 1) := dc9_3 (by decide +kernel)
theorem d_Sc_commonDivisor_173 : decode y_Sc_commonDivisor.2.1 173 = .ok (.aload_n 3, 1) := dc9_45 (by decide +kernel)
theorem d_Sc_commonDivisor_174 : decode y_Sc_commonDivisor.2.1 174 = .ok (.areturn, 1) := dc9_176 (by decide +kernel)
theorem d_Sc_commonDivisor_102 : decode y_Sc_commonDivisor.2.1 102 = .ok (.invokevirtual 88, 3) := dc9_182 (by decide +kernel)
theorem d_Sc_commonDivisor_105 : decode y_Sc_commonDivisor.2.1 105 = .ok (.bipush 60, 2) := dc9_16 (by decide +kernel)
theorem d_Sc_commonDivisor_107 : decode y_Sc_commonDivisor.2.1 107 = .ok (.isub, 1) := dc9_100 (by decide +kernel)
theorem d_Sc_commonDivisor_108 : decode y_Sc_commonDivisor.2.1 108 = .ok (.istore 7, 2) := dc9_54 (by decide +kernel)
theorem d_Sc_commonDivisor_110 : decode y_Sc_commonDivisor.2.1 110 = .ok (.aload_n 0, 1) := dc9_42 (by decide +kernel)
theorem d_Sc_commonDivisor_111 : decode y_Sc_commonDivisor.2.1 111 = .ok (.aload_n 3, 1) := dc9_45 (by decide +kernel)
theorem d_Sc_commonDivisor_112 : decode y_Sc_commonDivisor.2.1 112 = .ok (.iload 7, 2) := dc9_21 (by decide +kernel)
theorem d_Sc_commonDivisor_114 : decode y_Sc_commonDivisor.2.1 114 = .ok (.invokevirtual 74, 3) := dc9_182 (by decide +kernel)
theorem d_Sc_commonDivisor_117 : decode y_Sc_commonDivisor.2.1 117 = .ok (.aload 4, 2) := dc9_25 (by decide +kernel)
theorem d_Sc_commonDivisor_119 : decode y_Sc_commonDivisor.2.1 119 = .ok (.iload 7, 2) := dc9_21 (by decide +kernel)
theorem d_Sc_commonDivisor_121 : decode y_Sc_commonDivisor.2.1 121 = .ok (.invokevirtual 74, 3) := dc9_182 (by decide +kernel)
theorem d_Sc_commonDivisor_124 : decode y_Sc_commonDivisor.2.1 124 = .ok (.invokevirtual 92, 3) := dc9_182 (by decide +kernel)
theorem d_Sc_commonDivisor_127 : decode y_Sc_commonDivisor.2.1 127 = .ok (.ifCond .eq 16, 3) := dc9_153 (by decide +kernel)
theorem d_Sc_commonDivisor_143 : decode y_Sc_commonDivisor.2.1 143 = .ok (.aload_n 3, 1) := dc9_45 (by decide +kernel)
theorem d_Sc_commonDivisor_144 : decode y_Sc_commonDivisor.2.1 144 = .ok (.aload 4, 2) := dc9_25 (by decide +kernel)
theorem d_Sc_commonDivisor_146 : decode y_Sc_commonDivisor.2.1 146 = .ok (.aload_n 0, 1) := dc9_42 (by decide +kernel)
theorem d_Sc_commonDivisor_147 : decode y_Sc_commonDivisor.2.1 147 = .ok (.getfield 21, 3) := dc9_180 (by decide +kernel)
theorem d_Sc_commonDivisor_150 : decode y_Sc_commonDivisor.2.1 150 = .ok (.aload_n 0, 1) := dc9_42 (by decide +kernel)
theorem d_Sc_commonDivisor_151 : decode y_Sc_commonDivisor.2.1 151 = .ok (.getfield 24, 3) := dc9_180 (by decide +kernel)
theorem d_Sc_commonDivisor_130 : decode y_Sc_commonDivisor.2.1 130 = .ok (.aload_n 3, 1) := dc9_45 (by decide +kernel)
theorem d_Sc_commonDivisor_131 : decode y_Sc_commonDivisor.2.1 131 = .ok (.aload 4, 2) := dc9_25 (by decide +kernel)
theorem d_Sc_commonDivisor_133 : decode y_Sc_commonDivisor.2.1 133 = .ok (.aload_n 0, 1) := dc9_42 (by decide +kernel)
theorem d_Sc_commonDivisor_134 : decode y_Sc_commonDivisor.2.1 134 = .ok (.getfield 33, 3) := dc9_180 (by decide +kernel)
theorem d_Sc_commonDivisor_154 : decode y_Sc_commonDivisor.2.1 154 = .ok (.invokevirtual 53, 3) := dc9_182 (by decide +kernel)
theorem d_Sc_commonDivisor_157 : decode y_Sc_commonDivisor.2.1 157 = .ok (.aload_n 3, 1) := dc9_45 (by decide +kernel)
theorem d_Sc_commonDivisor_158 : decode y_Sc_commonDivisor.2.1 158 = .ok (.astore 8, 2) := dc9_58 (by decide +kernel)
theorem d_Sc_commonDivisor_160 : decode y_Sc_commonDivisor.2.1 160 = .ok (.aload 4, 2) := dc9_25 (by decide +kernel)
theorem d_Sc_commonDivisor_162 : decode y_Sc_commonDivisor.2.1 162 = .ok (.astore_n 3, 1) := dc9_78 (by decide +kernel)
theorem d_Sc_commonDivisor_163 : decode y_Sc_commonDivisor.2.1 163 = .ok (.aload 8, 2) := dc9_25 (by decide +kernel)
theorem d_Sc_commonDivisor_165 : decode y_Sc_commonDivisor.2.1 165 = .ok (.astore 4, 2) := dc9_58 (by decide +kernel)
theorem d_Sc_commonDivisor_167 : decode y_Sc_commonDivisor.2.1 167 = .ok (.iinc 6 1, 3) := by decide +kernel
theorem d_Sc_commonDivisor_170 : decode y_Sc_commonDivisor.2.1 170 = .ok (.goto (-112), 3) := dc9_167 (by decide +kernel)
theorem d_Sc_commonDivisor_137 : decode y_Sc_commonDivisor.2.1 137 = .ok (.invokestatic 96, 3) := dc9_184 (by decide +kernel)
theorem d_Sc_commonDivisor_140 : decode y_Sc_commonDivisor.2.1 140 = .ok (.goto 27, 3) := dc9_167 (by decide +kernel)
theorem d_Sc_commonDivisor_84 : decode y_Sc_commonDivisor.2.1 84 = .ok (.invokevirtual 74, 3) := dc9_182 (by decide +kernel)
theorem d_Sc_commonDivisor_87 : decode y_Sc_commonDivisor.2.1 87 = .ok (.aload 4, 2) := dc9_25 (by decide +kernel)
theorem d_Sc_commonDivisor_89 : decode y_Sc_commonDivisor.2.1 89 = .ok (.iconst 0, 1) := dc9_3 (by decide +kernel)
theorem d_Sc_commonDivisor_90 : decode y_Sc_commonDivisor.2.1 90 = .ok (.invokevirtual 74, 3) := dc9_182 (by decide +kernel)
theorem d_Sc_commonDivisor_93 : decode y_Sc_commonDivisor.2.1 93 = .ok (.invokestatic 78, 3) := dc9_184 (by decide +kernel)
theorem d_Sc_commonDivisor_96 : decode y_Sc_commonDivisor.2.1 96 = .ok (.invokevirtual 84, 3) := dc9_182 (by decide +kernel)
theorem d_Sc_commonDivisor_99 : decode y_Sc_commonDivisor.2.1 99 = .ok (.aload_n 3, 1) := dc9_45 (by decide +kernel)
theorem d_Sc_commonDivisor_100 : decode y_Sc_commonDivisor.2.1 100 = .ok (.areturn, 1) := dc9_176 (by decide +kernel)
def h_Sc_commonDivisor_58 (G : mG) (d : Nat) (a0 : Nat) (a3 : Nat) (a4 : Nat) (l6 : Int) (M : mM) (Q : Nat → mM → Prop) : Prop := mWm G y_Sc_commonDivisor (d + 1) 58 [vr a0, vd, vd, vr a3, vr a4, vd, vi l6, vd, vd] [] M (fun r9 M9 => ∃ x9, r9 = some (vr x9) ∧ Q x9 M9)
theorem k_Sc_commonDivisor {G : mG} {d : Nat} {a0 : Nat} {a1 : Nat} {a2 : Nat} {M : mM} {Q : Nat → mM → Prop} (hO : mOk M)
    (h : mK M a0 = 9 ∧ Ci G y_Na_order d [vr a1, vr a2] M (fun x3 M2 => i32 x3 ∧ mOk M2 ∧ (∀ v6 : Int, v6 = (if (x3 < 0) then 0 else 1) → ∀ v12 : Nat, v12 = (if (v6 = 0) then a2 else a1) → mK M2 (mR M a0 0) = 10 ∧ Cv G y_Na_put1 d [vr (mR M a0 0), vr v12] M2 (fun M16 => mOk M16 ∧ (∀ v20 : Nat, v20 = (if (v6 = 0) then a1 else a2) → mK M16 (mR M a0 1) = 10 ∧ Cv G y_Na_put1 d [vr (mR M a0 1), vr v20] M16 (fun M24 => mOk M24 ∧ (h_Sc_commonDivisor_58 G d a0 (mR M a0 0) (mR M a0 1) 0 M24 Q))))))) :
    Cr G y_Sc_commonDivisor (d + 1) [vr a0, vr a1, vr a2] M Q := by
  refine wm_open (y := y_Sc_commonDivisor) rfl (Nat.le_of_ble_eq_true rfl) (L := [vr a0, vr a1, vr a2, vd, vd, vd, vd, vd, vd]) rfl ?_
  obtain ⟨h1, h⟩ := h
  refine wm_aload_n d_Sc_commonDivisor_0 rfl rfl ?_
  refine gf_Sc_12 rfl d_Sc_commonDivisor_1 h1 ?_
  refine wm_astore_n d_Sc_commonDivisor_4 rfl (by decide) (L' := [vr a0, vr a1, vr a2, vr (mR M a0 0), vd, vd, vd, vd, vd]) rfl ?_
  refine wm_aload_n d_Sc_commonDivisor_5 rfl rfl ?_
  refine gf_Sc_18 rfl d_Sc_commonDivisor_6 h1 ?_
  refine wm_astore d_Sc_commonDivisor_9 (by decide) (L' := [vr a0, vr a1, vr a2, vr (mR M a0 0), vr (mR M a0 1), vd, vd, vd, vd]) rfl ?_
  refine wm_aload_n d_Sc_commonDivisor_11 rfl rfl ?_
  refine wm_aload_n d_Sc_commonDivisor_12 rfl rfl ?_
  refine cf_Sc_65 rfl d_Sc_commonDivisor_13 (Nat.le_of_ble_eq_true rfl) (Ci.mono h (fun x3 M2 h => ?_))
  obtain ⟨h4, hOM2, h⟩ := h
  have hJ : ∀ v6 : Int, v6 = (if (x3 < 0) then 0 else 1) → mWm G y_Sc_commonDivisor (d + 1) 24 [vr a0, vr a1, vr a2, vr (mR M a0 0), vr (mR M a0 1), vd, vd, vd, vd] [vi v6] M2 (fun r9 M9 => ∃ x9, r9 = some (vr x9) ∧ Q x9 M9) := by
    intro v6 e8
    have h := h v6 e8
    have h9 : i32 v6 := by rw [e8]; (repeat' split) <;> first | exact ⟨by decide, by decide⟩ | exact ⟨by decide, by decide⟩
    have h10 : (v6 = 0 ∨ v6 = 1) := by rw [e8]; (repeat' split) <;> decide
    refine wm_istore d_Sc_commonDivisor_24 (by decide) (L' := [vr a0, vr a1, vr a2, vr (mR M a0 0), vr (mR M a0 1), vi v6, vd, vd, vd]) rfl ?_
    refine wm_aload_n d_Sc_commonDivisor_26 rfl rfl ?_
    refine wm_iload d_Sc_commonDivisor_27 rfl ?_
    have hJ : ∀ v12 : Nat, v12 = (if (v6 = 0) then a2 else a1) → mWm G y_Sc_commonDivisor (d + 1) 37 [vr a0, vr a1, vr a2, vr (mR M a0 0), vr (mR M a0 1), vi v6, vd, vd, vd] [vr v12, vr (mR M a0 0)] M2 (fun r9 M9 => ∃ x9, r9 = some (vr x9) ∧ Q x9 M9) := by
      intro v12 e14
      have h := h v12 e14
      obtain ⟨h15, h⟩ := h
      refine cf_Sc_69 rfl d_Sc_commonDivisor_37 h15 (Nat.le_of_ble_eq_true rfl) (Cv.mono h (fun M16 h => ?_))
      obtain ⟨hOM16, h⟩ := h
      refine wm_aload d_Sc_commonDivisor_40 rfl ?_
      refine wm_iload d_Sc_commonDivisor_42 rfl ?_
      have hJ : ∀ v20 : Nat, v20 = (if (v6 = 0) then a1 else a2) → mWm G y_Sc_commonDivisor (d + 1) 52 [vr a0, vd, vd, vr (mR M a0 0), vr (mR M a0 1), vd, vd, vd, vd] [vr v20, vr (mR M a0 1)] M16 (fun r9 M9 => ∃ x9, r9 = some (vr x9) ∧ Q x9 M9) := by
        intro v20 e22
        have h := h v20 e22
        obtain ⟨h23, h⟩ := h
        refine cf_Sc_69 rfl d_Sc_commonDivisor_52 h23 (Nat.le_of_ble_eq_true rfl) (Cv.mono h (fun M24 h => ?_))
        obtain ⟨hOM24, h⟩ := h
        refine wm_iconst d_Sc_commonDivisor_55 ?_
        refine wm_istore d_Sc_commonDivisor_56 (by decide) (L' := [vr a0, vd, vd, vr (mR M a0 0), vr (mR M a0 1), vd, vi 0, vd, vd]) rfl ?_
        exact h
      clear h
      refine wm_if_eq (tgt := 51) d_Sc_commonDivisor_44 rfl h9 (fun c19 => ?_) (fun c19 => ?_)
      · refine wm_aload_n d_Sc_commonDivisor_51 rfl rfl ?_
        refine wm_less (L' := [vr a0, vd, vd, vr (mR M a0 0), vr (mR M a0 1), vd, vd, vd, vd]) ⟨Or.inr rfl, Or.inl rfl, Or.inl rfl, Or.inr rfl, Or.inr rfl, Or.inl rfl, Or.inl rfl, Or.inl rfl, Or.inl rfl, trivial⟩ ?_
        exact hJ a1 (if_pos c19).symm
      · refine wm_aload_n d_Sc_commonDivisor_47 rfl rfl ?_
        refine wm_goto (tgt := 52) d_Sc_commonDivisor_48 rfl ?_
        refine wm_less (L' := [vr a0, vd, vd, vr (mR M a0 0), vr (mR M a0 1), vd, vd, vd, vd]) ⟨Or.inr rfl, Or.inl rfl, Or.inl rfl, Or.inr rfl, Or.inr rfl, Or.inl rfl, Or.inl rfl, Or.inl rfl, Or.inl rfl, trivial⟩ ?_
        exact hJ a2 (if_neg c19).symm
    clear h
    refine wm_if_eq (tgt := 36) d_Sc_commonDivisor_29 rfl h9 (fun c11 => ?_) (fun c11 => ?_)
    · refine wm_aload_n d_Sc_commonDivisor_36 rfl rfl ?_
      exact hJ a2 (if_pos c11).symm
    · refine wm_aload_n d_Sc_commonDivisor_32 rfl rfl ?_
      refine wm_goto (tgt := 37) d_Sc_commonDivisor_33 rfl ?_
      exact hJ a1 (if_neg c11).symm
  clear h
  refine wm_if_lt (tgt := 23) d_Sc_commonDivisor_16 rfl h4 (fun c5 => ?_) (fun c5 => ?_)
  · refine wm_iconst d_Sc_commonDivisor_23 ?_
    exact hJ 0 (if_pos c5).symm
  · refine wm_iconst d_Sc_commonDivisor_19 ?_
    refine wm_goto (tgt := 24) d_Sc_commonDivisor_20 rfl ?_
    exact hJ 1 (if_neg c5).symm
theorem k_Sc_commonDivisor_58 {G : mG} {d : Nat} {a0 : Nat} {a3 : Nat} {a4 : Nat} {l6 : Int} {M : mM} {Q : Nat → mM → Prop} (hO : mOk M) (hi_l6 : i32 l6)
    (h : (¬ (1000000 ≤ l6) → mK M a4 = 10) ∧ (((1000000 ≤ l6) ∨ (mI M a4 1 ≤ 0)) → (Q a3 M)) ∧ (¬ ((1000000 ≤ l6) ∨ (mI M a4 1 ≤ 0)) → (mK M a3 = 10 ∧ ((3 ≤ mI M a3 1) → (Ci G y_Na_bits d [vr a3] M (fun x42 M41 => i32 x42 ∧ mOk M41 ∧ (mK M41 a3 = 10 ∧ Cj G y_Na_bitsFrom d [vr a3, vi (x42 - 60)] M41 (fun x46 M45 => i64 x46 ∧ mOk M45 ∧ (mK M45 a4 = 10 ∧ Cj G y_Na_bitsFrom d [vr a4, vi (x42 - 60)] M45 (fun x50 M49 => i64 x50 ∧ mOk M49 ∧ (mK M49 a0 = 9 ∧ Ci G y_Sc_findFactors d [vr a0, vl x46, vl x50] M49 (fun x54 M53 => i32 x54 ∧ mOk M53 ∧ (((x54 = 0) → (mK M53 a0 = 9 ∧ mK M53 a3 = 10 ∧ Cv G y_Na_divide d [vr a3, vr a4, vr (mR M53 a0 2), vr (mR M53 a0 3)] M53 (fun M62 => mOk M62 ∧ (h_Sc_commonDivisor_58 G d a0 a4 a3 (l6 + 1) M62 Q)))) ∧ (¬ (x54 = 0) → (mK M53 a0 = 9 ∧ Cv G y_Na_combine d [vr a3, vr a4, vr (mR M53 a0 6)] M53 (fun M66 => mOk M66 ∧ (h_Sc_commonDivisor_58 G d a0 a3 a4 (l6 + 1) M66 Q)))))))))))))) ∧ (¬ (3 ≤ mI M a3 1) → (Cj G y_Na_bitsFrom d [vr a3, vi 0] M (fun x70 M69 => i64 x70 ∧ mOk M69 ∧ (mK M69 a4 = 10 ∧ Cj G y_Na_bitsFrom d [vr a4, vi 0] M69 (fun x74 M73 => i64 x74 ∧ mOk M73 ∧ (Cj G y_Ma_commonDivisor d [vl x70, vl x74] M73 (fun x77 M76 => i64 x77 ∧ mOk M76 ∧ (mK M76 a3 = 10 ∧ Cv G y_Na_putLong d [vr a3, vl x77] M76 (fun M80 => mOk M80 ∧ (Q a3 M80))))))))))))) :
    h_Sc_commonDivisor_58 G d a0 a3 a4 l6 M Q := by
  unfold h_Sc_commonDivisor_58
  refine wm_iload d_Sc_commonDivisor_58 rfl ?_
  refine wm_ldc (x := 1000000) d_Sc_commonDivisor_60 k5_215 (by decide) ?_
  obtain ⟨s35, h⟩ := h
  have hE0 : ((1000000 ≤ l6) ∨ (mI M a4 1 ≤ 0)) → mWm G y_Sc_commonDivisor (d + 1) 173 [vr a0, vd, vd, vr a3, vr a4, vd, vi l6, vd, vd] [] M (fun r9 M9 => ∃ x9, r9 = some (vr x9) ∧ Q x9 M9) := by
    intro q36
    have h := h.1 q36
    refine wm_aload_n d_Sc_commonDivisor_173 rfl rfl ?_
    refine wm_areturn d_Sc_commonDivisor_174 rfl (Or.inl ⟨_, rfl⟩) ?_
    exact ⟨_, rfl, h⟩
  have hE1 : ¬ ((1000000 ≤ l6) ∨ (mI M a4 1 ≤ 0)) → mWm G y_Sc_commonDivisor (d + 1) 73 [vr a0, vd, vd, vr a3, vr a4, vd, vi l6, vd, vd] [] M (fun r9 M9 => ∃ x9, r9 = some (vr x9) ∧ Q x9 M9) := by
    intro q37
    have h := h.2 q37
    obtain ⟨h38, h⟩ := h
    refine wm_aload_n d_Sc_commonDivisor_73 rfl rfl ?_
    refine gf_Sc_57 rfl d_Sc_commonDivisor_74 h38 ?_
    refine wm_iconst d_Sc_commonDivisor_77 ?_
    refine wm_icmp_ge (tgt := 101) d_Sc_commonDivisor_78 rfl (hO _ _).1 ⟨by decide, by decide⟩ (fun c40 => ?_) (fun c40 => ?_)
    · replace h := h.1 c40
      refine wm_aload_n d_Sc_commonDivisor_101 rfl rfl ?_
      refine cf_Sc_88 rfl d_Sc_commonDivisor_102 h38 (Nat.le_of_ble_eq_true rfl) (Ci.mono h (fun x42 M41 h => ?_))
      obtain ⟨h43, hOM41, h⟩ := h
      obtain ⟨h44, h⟩ := h
      refine wm_bipush d_Sc_commonDivisor_105 (by decide) ?_
      refine wm_isub d_Sc_commonDivisor_107 ?_
      refine wm_istore d_Sc_commonDivisor_108 (by decide) (L' := [vr a0, vd, vd, vr a3, vr a4, vd, vi l6, vi (x42 - 60), vd]) rfl ?_
      refine wm_aload_n d_Sc_commonDivisor_110 rfl rfl ?_
      refine wm_aload_n d_Sc_commonDivisor_111 rfl rfl ?_
      refine wm_iload d_Sc_commonDivisor_112 rfl ?_
      refine cf_Sc_74 rfl d_Sc_commonDivisor_114 h44 (Nat.le_of_ble_eq_true rfl) (Cj.mono h (fun x46 M45 h => ?_))
      obtain ⟨h47, hOM45, h⟩ := h
      obtain ⟨h48, h⟩ := h
      refine wm_aload d_Sc_commonDivisor_117 rfl ?_
      refine wm_iload d_Sc_commonDivisor_119 rfl ?_
      refine cf_Sc_74 rfl d_Sc_commonDivisor_121 h48 (Nat.le_of_ble_eq_true rfl) (Cj.mono h (fun x50 M49 h => ?_))
      obtain ⟨h51, hOM49, h⟩ := h
      obtain ⟨h52, h⟩ := h
      refine cf_Sc_92 rfl d_Sc_commonDivisor_124 h52 (Nat.le_of_ble_eq_true rfl) (Ci.mono h (fun x54 M53 h => ?_))
      obtain ⟨h55, hOM53, h⟩ := h
      refine wm_if_eq (tgt := 143) d_Sc_commonDivisor_127 rfl h55 (fun c59 => ?_) (fun c59 => ?_)
      · replace h := h.1 c59
        obtain ⟨h60, h⟩ := h
        obtain ⟨h61, h⟩ := h
        refine wm_aload_n d_Sc_commonDivisor_143 rfl rfl ?_
        refine wm_aload d_Sc_commonDivisor_144 rfl ?_
        refine wm_aload_n d_Sc_commonDivisor_146 rfl rfl ?_
        refine gf_Sc_21 rfl d_Sc_commonDivisor_147 h60 ?_
        refine wm_aload_n d_Sc_commonDivisor_150 rfl rfl ?_
        refine gf_Sc_24 rfl d_Sc_commonDivisor_151 h60 ?_
        refine cf_Sc_53 rfl d_Sc_commonDivisor_154 h61 (Nat.le_of_ble_eq_true rfl) (Cv.mono h (fun M62 h => ?_))
        obtain ⟨hOM62, h⟩ := h
        refine wm_aload_n d_Sc_commonDivisor_157 rfl rfl ?_
        refine wm_astore d_Sc_commonDivisor_158 (by decide) (L' := [vr a0, vd, vd, vr a3, vr a4, vd, vi l6, vi (x42 - 60), vr a3]) rfl ?_
        refine wm_aload d_Sc_commonDivisor_160 rfl ?_
        refine wm_astore_n d_Sc_commonDivisor_162 rfl (by decide) (L' := [vr a0, vd, vd, vr a4, vr a4, vd, vi l6, vi (x42 - 60), vr a3]) rfl ?_
        refine wm_aload d_Sc_commonDivisor_163 rfl ?_
        refine wm_astore d_Sc_commonDivisor_165 (by decide) (L' := [vr a0, vd, vd, vr a4, vr a3, vd, vi l6, vi (x42 - 60), vr a3]) rfl ?_
        refine wm_iinc d_Sc_commonDivisor_167 (by decide) rfl (L' := [vr a0, vd, vd, vr a4, vr a3, vd, vi (l6 + 1), vi (x42 - 60), vr a3]) rfl ?_
        refine wm_goto (tgt := 58) d_Sc_commonDivisor_170 rfl ?_
        refine wm_less (L' := [vr a0, vd, vd, vr a4, vr a3, vd, vi (l6 + 1), vd, vd]) ⟨Or.inr rfl, Or.inl rfl, Or.inl rfl, Or.inr rfl, Or.inr rfl, Or.inl rfl, Or.inr rfl, Or.inl rfl, Or.inl rfl, trivial⟩ ?_
        exact h
      · replace h := h.2 c59
        obtain ⟨h65, h⟩ := h
        refine wm_aload_n d_Sc_commonDivisor_130 rfl rfl ?_
        refine wm_aload d_Sc_commonDivisor_131 rfl ?_
        refine wm_aload_n d_Sc_commonDivisor_133 rfl rfl ?_
        refine gf_Sc_33 rfl d_Sc_commonDivisor_134 h65 ?_
        refine cf_Sc_96 rfl d_Sc_commonDivisor_137 (Nat.le_of_ble_eq_true rfl) (Cv.mono h (fun M66 h => ?_))
        obtain ⟨hOM66, h⟩ := h
        refine wm_goto (tgt := 167) d_Sc_commonDivisor_140 rfl ?_
        refine wm_iinc d_Sc_commonDivisor_167 (by decide) rfl (L' := [vr a0, vd, vd, vr a3, vr a4, vd, vi (l6 + 1), vi (x42 - 60), vd]) rfl ?_
        refine wm_goto (tgt := 58) d_Sc_commonDivisor_170 rfl ?_
        refine wm_less (L' := [vr a0, vd, vd, vr a3, vr a4, vd, vi (l6 + 1), vd, vd]) ⟨Or.inr rfl, Or.inl rfl, Or.inl rfl, Or.inr rfl, Or.inr rfl, Or.inl rfl, Or.inr rfl, Or.inl rfl, Or.inl rfl, trivial⟩ ?_
        exact h
    · replace h := h.2 c40
      refine wm_aload_n d_Sc_commonDivisor_81 rfl rfl ?_
      refine wm_aload_n d_Sc_commonDivisor_82 rfl rfl ?_
      refine wm_iconst d_Sc_commonDivisor_83 ?_
      refine cf_Sc_74 rfl d_Sc_commonDivisor_84 h38 (Nat.le_of_ble_eq_true rfl) (Cj.mono h (fun x70 M69 h => ?_))
      obtain ⟨h71, hOM69, h⟩ := h
      obtain ⟨h72, h⟩ := h
      refine wm_aload d_Sc_commonDivisor_87 rfl ?_
      refine wm_iconst d_Sc_commonDivisor_89 ?_
      refine cf_Sc_74 rfl d_Sc_commonDivisor_90 h72 (Nat.le_of_ble_eq_true rfl) (Cj.mono h (fun x74 M73 h => ?_))
      obtain ⟨h75, hOM73, h⟩ := h
      refine cf_Sc_78 rfl d_Sc_commonDivisor_93 (Nat.le_of_ble_eq_true rfl) (Cj.mono h (fun x77 M76 h => ?_))
      obtain ⟨h78, hOM76, h⟩ := h
      obtain ⟨h79, h⟩ := h
      refine cf_Sc_84 rfl d_Sc_commonDivisor_96 h79 (Nat.le_of_ble_eq_true rfl) (Cv.mono h (fun M80 h => ?_))
      obtain ⟨hOM80, h⟩ := h
      refine wm_aload_n d_Sc_commonDivisor_99 rfl rfl ?_
      refine wm_areturn d_Sc_commonDivisor_100 rfl (Or.inl ⟨_, rfl⟩) ?_
      exact ⟨_, rfl, h⟩
  clear h
  have s83 := s35
  refine wm_icmp_ge (tgt := 173) d_Sc_commonDivisor_62 rfl hi_l6 ⟨by decide, by decide⟩ (fun c34 => ?_) (fun c34 => ?_)
  · exact hE0 (Or.inl c34)
  · have s83 := s83 c34
    have h30 := s83
    refine wm_aload d_Sc_commonDivisor_65 rfl ?_
    refine gf_Sc_57 rfl d_Sc_commonDivisor_67 h30 ?_
    refine wm_if_le (tgt := 173) d_Sc_commonDivisor_70 rfl (hO _ _).1 (fun c33 => ?_) (fun c33 => ?_)
    · exact hE0 (Or.inr c33)
    · exact hE1 (fun z84 => Or.elim z84 c34 c33)
theorem d_Sc_findFactors_0 : decode y_Sc_findFactors.2.1 0 = .ok (.lload_n 1, 1) := dc9_31 (by decide +kernel)
theorem d_Sc_findFactors_1 : decode y_Sc_findFactors.2.1 1 = .ok (.lstore 5, 2) := dc9_55 (by decide +kernel)
theorem d_Sc_findFactors_3 : decode y_Sc_findFactors.2.1 3 = .ok (.lload_n 3, 1) := dc9_33 (by decide +kernel)
theorem d_Sc_findFactors_4 : decode y_Sc_findFactors.2.1 4 = .ok (.lstore 7, 2) := dc9_55 (by decide +kernel)
theorem d_Sc_findFactors_6 : decode y_Sc_findFactors.2.1 6 = .ok (.lconst 1, 1) := dc9_10 (by decide +kernel)
theorem d_Sc_findFactors_7 : decode y_Sc_findFactors.2.1 7 = .ok (.lstore 9, 2) := dc9_55 (by decide +kernel)
theorem d_Sc_findFactors_9 : decode y_Sc_findFactors.2.1 9 = .ok (.lconst 0, 1) := dc9_9 (by decide +kernel)
theorem d_Sc_findFactors_10 : decode y_Sc_findFactors.2.1 10 = .ok (.lstore 11, 2) := dc9_55 (by decide +kernel)
theorem d_Sc_findFactors_12 : decode y_Sc_findFactors.2.1 12 = .ok (.lconst 0, 1) := dc9_9 (by decide +kernel)
theorem d_Sc_findFactors_13 : decode y_Sc_findFactors.2.1 13 = .ok (.lstore 13, 2) := dc9_55 (by decide +kernel)
theorem d_Sc_findFactors_15 : decode y_Sc_findFactors.2.1 15 = .ok (.lconst 1, 1) := dc9_10 (by decide +kernel)
theorem d_Sc_findFactors_16 : decode y_Sc_findFactors.2.1 16 = .ok (.lstore 15, 2) := dc9_55 (by decide +kernel)
theorem d_Sc_findFactors_18 : decode y_Sc_findFactors.2.1 18 = .ok (.iconst 0, 1) := dc9_3 (by decide +kernel)
theorem d_Sc_findFactors_19 : decode y_Sc_findFactors.2.1 19 = .ok (.istore 17, 2) := dc9_54 (by decide +kernel)
theorem d_Sc_findFactors_21 : decode y_Sc_findFactors.2.1 21 = .ok (.iload 17, 2) := dc9_21 (by decide +kernel)
theorem d_Sc_findFactors_23 : decode y_Sc_findFactors.2.1 23 = .ok (.bipush 100, 2) := dc9_16 (by decide +kernel)
theorem d_Sc_findFactors_25 : decode y_Sc_findFactors.2.1 25 = .ok (.if_icmp .ge 152, 3) := dc9_162 (by decide +kernel)
theorem d_Sc_findFactors_28 : decode y_Sc_findFactors.2.1 28 = .ok (.lload 7, 2) := dc9_22 (by decide +kernel)
theorem d_Sc_findFactors_30 : decode y_Sc_findFactors.2.1 30 = .ok (.lload 13, 2) := dc9_22 (by decide +kernel)
theorem d_Sc_findFactors_32 : decode y_Sc_findFactors.2.1 32 = .ok (.ladd, 1) := dc9_97 (by decide +kernel)
theorem d_Sc_findFactors_33 : decode y_Sc_findFactors.2.1 33 = .ok (.lconst 0, 1) := dc9_9 (by decide +kernel)
theorem d_Sc_findFactors_34 : decode y_Sc_findFactors.2.1 34 = .ok (.lcmp, 1) := dc9_148 (by decide +kernel)
theorem d_Sc_findFactors_35 : decode y_Sc_findFactors.2.1 35 = .ok (.ifCond .eq 142, 3) := dc9_153 (by decide +kernel)
theorem d_Sc_findFactors_38 : decode y_Sc_findFactors.2.1 38 = .ok (.lload 7, 2) := dc9_22 (by decide +kernel)
theorem d_Sc_findFactors_40 : decode y_Sc_findFactors.2.1 40 = .ok (.lload 15, 2) := dc9_22 (by decide +kernel)
theorem d_Sc_findFactors_42 : decode y_Sc_findFactors.2.1 42 = .ok (.ladd, 1) := dc9_97 (by decide +kernel)
theorem d_Sc_findFactors_43 : decode y_Sc_findFactors.2.1 43 = .ok (.lconst 0, 1) := dc9_9 (by decide +kernel)
theorem d_Sc_findFactors_44 : decode y_Sc_findFactors.2.1 44 = .ok (.lcmp, 1) := dc9_148 (by decide +kernel)
theorem d_Sc_findFactors_45 : decode y_Sc_findFactors.2.1 45 = .ok (.ifCond .eq 132, 3) := dc9_153 (by decide +kernel)
theorem d_Sc_findFactors_48 : decode y_Sc_findFactors.2.1 48 = .ok (.lload 5, 2) := dc9_22 (by decide +kernel)
theorem d_Sc_findFactors_50 : decode y_Sc_findFactors.2.1 50 = .ok (.lload 9, 2) := dc9_22 (by decide +kernel)
theorem d_Sc_findFactors_52 : decode y_Sc_findFactors.2.1 52 = .ok (.ladd, 1) := dc9_97 (by decide +kernel)
theorem d_Sc_findFactors_53 : decode y_Sc_findFactors.2.1 53 = .ok (.lload 7, 2) := dc9_22 (by decide +kernel)
theorem d_Sc_findFactors_55 : decode y_Sc_findFactors.2.1 55 = .ok (.lload 13, 2) := dc9_22 (by decide +kernel)
theorem d_Sc_findFactors_57 : decode y_Sc_findFactors.2.1 57 = .ok (.ladd, 1) := dc9_97 (by decide +kernel)
theorem d_Sc_findFactors_58 : decode y_Sc_findFactors.2.1 58 = .ok (.ldiv, 1) := dc9_109 (by decide +kernel)
theorem d_Sc_findFactors_59 : decode y_Sc_findFactors.2.1 59 = .ok (.lstore 18, 2) := dc9_55 (by decide +kernel)
theorem d_Sc_findFactors_61 : decode y_Sc_findFactors.2.1 61 = .ok (.lload 18, 2) := dc9_22 (by decide +kernel)
theorem d_Sc_findFactors_63 : decode y_Sc_findFactors.2.1 63 = .ok (.lload 5, 2) := dc9_22 (by decide +kernel)
theorem d_Sc_findFactors_65 : decode y_Sc_findFactors.2.1 65 = .ok (.lload 11, 2) := dc9_22 (by decide +kernel)
theorem d_Sc_findFactors_67 : decode y_Sc_findFactors.2.1 67 = .ok (.ladd, 1) := dc9_97 (by decide +kernel)
theorem d_Sc_findFactors_68 : decode y_Sc_findFactors.2.1 68 = .ok (.lload 7, 2) := dc9_22 (by decide +kernel)
theorem d_Sc_findFactors_70 : decode y_Sc_findFactors.2.1 70 = .ok (.lload 15, 2) := dc9_22 (by decide +kernel)
theorem d_Sc_findFactors_72 : decode y_Sc_findFactors.2.1 72 = .ok (.ladd, 1) := dc9_97 (by decide +kernel)
theorem d_Sc_findFactors_73 : decode y_Sc_findFactors.2.1 73 = .ok (.ldiv, 1) := dc9_109 (by decide +kernel)
theorem d_Sc_findFactors_74 : decode y_Sc_findFactors.2.1 74 = .ok (.lcmp, 1) := dc9_148 (by decide +kernel)
theorem d_Sc_findFactors_177 : decode y_Sc_findFactors.2.1 177 = .ok (.aload_n 0, 1) := dc9_42 (by decide +kernel)
theorem d_Sc_findFactors_178 : decode y_Sc_findFactors.2.1 178 = .ok (.getfield 33, 3) := dc9_180 (by decide +kernel)
theorem d_Sc_findFactors_181 : decode y_Sc_findFactors.2.1 181 = .ok (.iconst 0, 1) := dc9_3 (by decide +kernel)
theorem d_Sc_findFactors_182 : decode y_Sc_findFactors.2.1 182 = .ok (.lload 9, 2) := dc9_22 (by decide +kernel)
theorem d_Sc_findFactors_184 : decode y_Sc_findFactors.2.1 184 = .ok (.lastore, 1) := dc9_80 (by decide +kernel)
theorem d_Sc_findFactors_185 : decode y_Sc_findFactors.2.1 185 = .ok (.aload_n 0, 1) := dc9_42 (by decide +kernel)
theorem d_Sc_findFactors_186 : decode y_Sc_findFactors.2.1 186 = .ok (.getfield 33, 3) := dc9_180 (by decide +kernel)
theorem d_Sc_findFactors_189 : decode y_Sc_findFactors.2.1 189 = .ok (.iconst 1, 1) := dc9_4 (by decide +kernel)
theorem d_Sc_findFactors_190 : decode y_Sc_findFactors.2.1 190 = .ok (.lload 11, 2) := dc9_22 (by decide +kernel)
theorem d_Sc_findFactors_192 : decode y_Sc_findFactors.2.1 192 = .ok (.lastore, 1) := dc9_80 (by decide +kernel)
theorem d_Sc_findFactors_193 : decode y_Sc_findFactors.2.1 193 = .ok (.aload_n 0, 1) := dc9_42 (by decide +kernel)
theorem d_Sc_findFactors_194 : decode y_Sc_findFactors.2.1 194 = .ok (.getfield 33, 3) := dc9_180 (by decide +kernel)
theorem d_Sc_findFactors_197 : decode y_Sc_findFactors.2.1 197 = .ok (.iconst 2, 1) := dc9_5 (by decide +kernel)
theorem d_Sc_findFactors_198 : decode y_Sc_findFactors.2.1 198 = .ok (.lload 13, 2) := dc9_22 (by decide +kernel)
theorem d_Sc_findFactors_200 : decode y_Sc_findFactors.2.1 200 = .ok (.lastore, 1) := dc9_80 (by decide +kernel)
theorem d_Sc_findFactors_201 : decode y_Sc_findFactors.2.1 201 = .ok (.aload_n 0, 1) := dc9_42 (by decide +kernel)
theorem d_Sc_findFactors_202 : decode y_Sc_findFactors.2.1 202 = .ok (.getfield 33, 3) := dc9_180 (by decide +kernel)
theorem d_Sc_findFactors_205 : decode y_Sc_findFactors.2.1 205 = .ok (.iconst 3, 1) := dc9_6 (by decide +kernel)
theorem d_Sc_findFactors_206 : decode y_Sc_findFactors.2.1 206 = .ok (.lload 15, 2) := dc9_22 (by decide +kernel)
theorem d_Sc_findFactors_208 : decode y_Sc_findFactors.2.1 208 = .ok (.lastore, 1) := dc9_80 (by decide +kernel)
theorem d_Sc_findFactors_209 : decode y_Sc_findFactors.2.1 209 = .ok (.lload 11, 2) := dc9_22 (by decide +kernel)
theorem d_Sc_findFactors_211 : decode y_Sc_findFactors.2.1 211 = .ok (.lconst 0, 1) := dc9_9 (by decide +kernel)
theorem d_Sc_findFactors_212 : decode y_Sc_findFactors.2.1 212 = .ok (.lcmp, 1) := dc9_148 (by decide +kernel)
theorem d_Sc_findFactors_213 : decode y_Sc_findFactors.2.1 213 = .ok (.ifCond .eq 7, 3) := dc9_153 (by decide +kernel)
theorem d_Sc_findFactors_220 : decode y_Sc_findFactors.2.1 220 = .ok (.iconst 0, 1) := dc9_3 (by decide +kernel)
theorem d_Sc_findFactors_216 : decode y_Sc_findFactors.2.1 216 = .ok (.iconst 1, 1) := dc9_4 (by decide +kernel)
theorem d_Sc_findFactors_217 : decode y_Sc_findFactors.2.1 217 = .ok (.goto 4, 3) := dc9_167 (by decide +kernel)
theorem d_Sc_findFactors_221 : decode y_Sc_findFactors.2.1 221 = .ok (.ireturn, 1) := dc9_172 (by decide +kernel)
theorem d_Sc_findFactors_75 : decode y_Sc_findFactors.2.1 75 = .ok (.ifCond .ne 102, 3) := dc9_154 (by decide +kernel)
theorem d_Sc_findFactors_78 : decode y_Sc_findFactors.2.1 78 = .ok (.lload 18, 2) := dc9_22 (by decide +kernel)
theorem d_Sc_findFactors_80 : decode y_Sc_findFactors.2.1 80 = .ok (.ldc2_w 100, 3) := dc9_20 (by decide +kernel)
theorem d_Sc_findFactors_83 : decode y_Sc_findFactors.2.1 83 = .ok (.lcmp, 1) := dc9_148 (by decide +kernel)
theorem d_Sc_findFactors_84 : decode y_Sc_findFactors.2.1 84 = .ok (.ifCond .le 6, 3) := dc9_158 (by decide +kernel)
theorem d_Sc_findFactors_90 : decode y_Sc_findFactors.2.1 90 = .ok (.lload 9, 2) := dc9_22 (by decide +kernel)
theorem d_Sc_findFactors_92 : decode y_Sc_findFactors.2.1 92 = .ok (.lload 18, 2) := dc9_22 (by decide +kernel)
theorem d_Sc_findFactors_94 : decode y_Sc_findFactors.2.1 94 = .ok (.lload 13, 2) := dc9_22 (by decide +kernel)
theorem d_Sc_findFactors_96 : decode y_Sc_findFactors.2.1 96 = .ok (.lmul, 1) := dc9_105 (by decide +kernel)
theorem d_Sc_findFactors_97 : decode y_Sc_findFactors.2.1 97 = .ok (.lsub, 1) := dc9_101 (by decide +kernel)
theorem d_Sc_findFactors_98 : decode y_Sc_findFactors.2.1 98 = .ok (.lstore 20, 2) := dc9_55 (by decide +kernel)
theorem d_Sc_findFactors_100 : decode y_Sc_findFactors.2.1 100 = .ok (.lload 11, 2) := dc9_22 (by decide +kernel)
theorem d_Sc_findFactors_102 : decode y_Sc_findFactors.2.1 102 = .ok (.lload 18, 2) := dc9_22 (by decide +kernel)
theorem d_Sc_findFactors_104 : decode y_Sc_findFactors.2.1 104 = .ok (.lload 15, 2) := dc9_22 (by decide +kernel)
theorem d_Sc_findFactors_106 : decode y_Sc_findFactors.2.1 106 = .ok (.lmul, 1) := dc9_105 (by decide +kernel)
theorem d_Sc_findFactors_107 : decode y_Sc_findFactors.2.1 107 = .ok (.lsub, 1) := dc9_101 (by decide +kernel)
theorem d_Sc_findFactors_108 : decode y_Sc_findFactors.2.1 108 = .ok (.lstore 22, 2) := dc9_55 (by decide +kernel)
theorem d_Sc_findFactors_110 : decode y_Sc_findFactors.2.1 110 = .ok (.lload 20, 2) := dc9_22 (by decide +kernel)
theorem d_Sc_findFactors_112 : decode y_Sc_findFactors.2.1 112 = .ok (.invokestatic 102, 3) := dc9_184 (by decide +kernel)
theorem d_Sc_findFactors_115 : decode y_Sc_findFactors.2.1 115 = .ok (.ldc2_w 100, 3) := dc9_20 (by decide +kernel)
theorem d_Sc_findFactors_118 : decode y_Sc_findFactors.2.1 118 = .ok (.lcmp, 1) := dc9_148 (by decide +kernel)
theorem d_Sc_findFactors_87 : decode y_Sc_findFactors.2.1 87 = .ok (.goto 90, 3) := dc9_167 (by decide +kernel)
theorem d_Sc_findFactors_119 : decode y_Sc_findFactors.2.1 119 = .ok (.ifCond .gt 58, 3) := dc9_157 (by decide +kernel)
theorem d_Sc_findFactors_122 : decode y_Sc_findFactors.2.1 122 = .ok (.lload 22, 2) := dc9_22 (by decide +kernel)
theorem d_Sc_findFactors_124 : decode y_Sc_findFactors.2.1 124 = .ok (.invokestatic 102, 3) := dc9_184 (by decide +kernel)
theorem d_Sc_findFactors_127 : decode y_Sc_findFactors.2.1 127 = .ok (.ldc2_w 100, 3) := dc9_20 (by decide +kernel)
theorem d_Sc_findFactors_130 : decode y_Sc_findFactors.2.1 130 = .ok (.lcmp, 1) := dc9_148 (by decide +kernel)
theorem d_Sc_findFactors_131 : decode y_Sc_findFactors.2.1 131 = .ok (.ifCond .le 6, 3) := dc9_158 (by decide +kernel)
theorem d_Sc_findFactors_137 : decode y_Sc_findFactors.2.1 137 = .ok (.lload 5, 2) := dc9_22 (by decide +kernel)
theorem d_Sc_findFactors_139 : decode y_Sc_findFactors.2.1 139 = .ok (.lload 18, 2) := dc9_22 (by decide +kernel)
theorem d_Sc_findFactors_141 : decode y_Sc_findFactors.2.1 141 = .ok (.lload 7, 2) := dc9_22 (by decide +kernel)
theorem d_Sc_findFactors_143 : decode y_Sc_findFactors.2.1 143 = .ok (.lmul, 1) := dc9_105 (by decide +kernel)
theorem d_Sc_findFactors_144 : decode y_Sc_findFactors.2.1 144 = .ok (.lsub, 1) := dc9_101 (by decide +kernel)
theorem d_Sc_findFactors_145 : decode y_Sc_findFactors.2.1 145 = .ok (.lstore 24, 2) := dc9_55 (by decide +kernel)
theorem d_Sc_findFactors_147 : decode y_Sc_findFactors.2.1 147 = .ok (.lload 13, 2) := dc9_22 (by decide +kernel)
theorem d_Sc_findFactors_149 : decode y_Sc_findFactors.2.1 149 = .ok (.lstore 9, 2) := dc9_55 (by decide +kernel)
theorem d_Sc_findFactors_151 : decode y_Sc_findFactors.2.1 151 = .ok (.lload 15, 2) := dc9_22 (by decide +kernel)
theorem d_Sc_findFactors_153 : decode y_Sc_findFactors.2.1 153 = .ok (.lstore 11, 2) := dc9_55 (by decide +kernel)
theorem d_Sc_findFactors_155 : decode y_Sc_findFactors.2.1 155 = .ok (.lload 7, 2) := dc9_22 (by decide +kernel)
theorem d_Sc_findFactors_157 : decode y_Sc_findFactors.2.1 157 = .ok (.lstore 5, 2) := dc9_55 (by decide +kernel)
theorem d_Sc_findFactors_159 : decode y_Sc_findFactors.2.1 159 = .ok (.lload 20, 2) := dc9_22 (by decide +kernel)
theorem d_Sc_findFactors_161 : decode y_Sc_findFactors.2.1 161 = .ok (.lstore 13, 2) := dc9_55 (by decide +kernel)
theorem d_Sc_findFactors_163 : decode y_Sc_findFactors.2.1 163 = .ok (.lload 22, 2) := dc9_22 (by decide +kernel)
theorem d_Sc_findFactors_165 : decode y_Sc_findFactors.2.1 165 = .ok (.lstore 15, 2) := dc9_55 (by decide +kernel)
theorem d_Sc_findFactors_167 : decode y_Sc_findFactors.2.1 167 = .ok (.lload 24, 2) := dc9_22 (by decide +kernel)
theorem d_Sc_findFactors_169 : decode y_Sc_findFactors.2.1 169 = .ok (.lstore 7, 2) := dc9_55 (by decide +kernel)
theorem d_Sc_findFactors_171 : decode y_Sc_findFactors.2.1 171 = .ok (.iinc 17 1, 3) := by decide +kernel
theorem d_Sc_findFactors_174 : decode y_Sc_findFactors.2.1 174 = .ok (.goto (-153), 3) := dc9_167 (by decide +kernel)
theorem d_Sc_findFactors_134 : decode y_Sc_findFactors.2.1 134 = .ok (.goto 43, 3) := dc9_167 (by decide +kernel)
def h_Sc_findFactors_21 (G : mG) (d : Nat) (a0 : Nat) (j5 : Int) (j7 : Int) (j9 : Int) (j11 : Int) (j13 : Int) (j15 : Int) (l17 : Int) (M : mM) (Q : Int → mM → Prop) : Prop := mWm G y_Sc_findFactors (d + 1) 21 [vr a0, vd, vd, vd, vd, vl j5, vd, vl j7, vd, vl j9, vd, vl j11, vd, vl j13, vd, vl j15, vd, vi l17, vd, vd, vd, vd, vd, vd, vd, vd] [] M (fun r9 M9 => ∃ x9, r9 = some (vi x9) ∧ Q x9 M9)
theorem k_Sc_findFactors {G : mG} {d : Nat} {a0 : Nat} {j1 : Int} {j3 : Int} {M : mM} {Q : Int → mM → Prop} (hO : mOk M) (hi_j1 : i64 j1) (hi_j3 : i64 j3)
    (h : h_Sc_findFactors_21 G d a0 j1 j3 1 0 0 1 0 M Q) :
    Ci G y_Sc_findFactors (d + 1) [vr a0, vl j1, vl j3] M Q := by
  refine wm_open (y := y_Sc_findFactors) rfl (Nat.le_of_ble_eq_true rfl) (L := [vr a0, vl j1, vd, vl j3, vd, vd, vd, vd, vd, vd, vd, vd, vd, vd, vd, vd, vd, vd, vd, vd, vd, vd, vd, vd, vd, vd]) rfl ?_
  refine wm_lload_n d_Sc_findFactors_0 rfl rfl ?_
  refine wm_lstore d_Sc_findFactors_1 (by decide) (L' := [vr a0, vl j1, vd, vl j3, vd, vl j1, vd, vd, vd, vd, vd, vd, vd, vd, vd, vd, vd, vd, vd, vd, vd, vd, vd, vd, vd, vd]) rfl ?_
  refine wm_lload_n d_Sc_findFactors_3 rfl rfl ?_
  refine wm_lstore d_Sc_findFactors_4 (by decide) (L' := [vr a0, vl j1, vd, vl j3, vd, vl j1, vd, vl j3, vd, vd, vd, vd, vd, vd, vd, vd, vd, vd, vd, vd, vd, vd, vd, vd, vd, vd]) rfl ?_
  refine wm_lconst (x := 1) d_Sc_findFactors_6 rfl ?_
  refine wm_lstore d_Sc_findFactors_7 (by decide) (L' := [vr a0, vl j1, vd, vl j3, vd, vl j1, vd, vl j3, vd, vl 1, vd, vd, vd, vd, vd, vd, vd, vd, vd, vd, vd, vd, vd, vd, vd, vd]) rfl ?_
  refine wm_lconst (x := 0) d_Sc_findFactors_9 rfl ?_
  refine wm_lstore d_Sc_findFactors_10 (by decide) (L' := [vr a0, vl j1, vd, vl j3, vd, vl j1, vd, vl j3, vd, vl 1, vd, vl 0, vd, vd, vd, vd, vd, vd, vd, vd, vd, vd, vd, vd, vd, vd]) rfl ?_
  refine wm_lconst (x := 0) d_Sc_findFactors_12 rfl ?_
  refine wm_lstore d_Sc_findFactors_13 (by decide) (L' := [vr a0, vl j1, vd, vl j3, vd, vl j1, vd, vl j3, vd, vl 1, vd, vl 0, vd, vl 0, vd, vd, vd, vd, vd, vd, vd, vd, vd, vd, vd, vd]) rfl ?_
  refine wm_lconst (x := 1) d_Sc_findFactors_15 rfl ?_
  refine wm_lstore d_Sc_findFactors_16 (by decide) (L' := [vr a0, vl j1, vd, vl j3, vd, vl j1, vd, vl j3, vd, vl 1, vd, vl 0, vd, vl 0, vd, vl 1, vd, vd, vd, vd, vd, vd, vd, vd, vd, vd]) rfl ?_
  refine wm_iconst d_Sc_findFactors_18 ?_
  refine wm_istore d_Sc_findFactors_19 (by decide) (L' := [vr a0, vl j1, vd, vl j3, vd, vl j1, vd, vl j3, vd, vl 1, vd, vl 0, vd, vl 0, vd, vl 1, vd, vi 0, vd, vd, vd, vd, vd, vd, vd, vd]) rfl ?_
  refine wm_less (L' := [vr a0, vd, vd, vd, vd, vl j1, vd, vl j3, vd, vl 1, vd, vl 0, vd, vl 0, vd, vl 1, vd, vi 0, vd, vd, vd, vd, vd, vd, vd, vd]) ⟨Or.inr rfl, Or.inl rfl, Or.inl rfl, Or.inl rfl, Or.inl rfl, Or.inr rfl, Or.inl rfl, Or.inr rfl, Or.inl rfl, Or.inr rfl, Or.inl rfl, Or.inr rfl, Or.inl rfl, Or.inr rfl, Or.inl rfl, Or.inr rfl, Or.inl rfl, Or.inr rfl, Or.inl rfl, Or.inl rfl, Or.inl rfl, Or.inl rfl, Or.inl rfl, Or.inl rfl, Or.inl rfl, Or.inl rfl, trivial⟩ ?_
  exact h
theorem k_Sc_findFactors_21 {G : mG} {d : Nat} {a0 : Nat} {j5 : Int} {j7 : Int} {j9 : Int} {j11 : Int} {j13 : Int} {j15 : Int} {l17 : Int} {M : mM} {Q : Int → mM → Prop} (hO : mOk M) (hi_j5 : i64 j5) (hi_j7 : i64 j7) (hi_j9 : i64 j9) (hi_j11 : i64 j11) (hi_j13 : i64 j13) (hi_j15 : i64 j15) (hi_l17 : i32 l17)
    (h : (¬ (100 ≤ l17) → (i64 (j7 + j13) ∧ (¬ (cmpL (j7 + j13) 0 = 0) → i64 (j7 + j15)))) ∧ (((100 ≤ l17) ∨ ((cmpL (j7 + j13) 0 = 0) ∨ (cmpL (j7 + j15) 0 = 0))) → (mK M a0 = 9 ∧ mK M (mR M a0 6) = 33 ∧ ((0 : Int) ≤ 0 ∧ 0 < (mN M (mR M a0 6) : Int)) ∧ ∀ M17, M17 = mUL M (mR M a0 6) 0 j9 → mK M17 (mR M17 a0 6) = 33 ∧ ((0 : Int) ≤ 1 ∧ 1 < (mN M17 (mR M17 a0 6) : Int)) ∧ ∀ M21, M21 = mUL M17 (mR M17 a0 6) 1 j11 → mK M21 (mR M21 a0 6) = 33 ∧ ((0 : Int) ≤ 2 ∧ 2 < (mN M21 (mR M21 a0 6) : Int)) ∧ ∀ M25, M25 = mUL M21 (mR M21 a0 6) 2 j13 → mK M25 (mR M25 a0 6) = 33 ∧ ((0 : Int) ≤ 3 ∧ 3 < (mN M25 (mR M25 a0 6) : Int)) ∧ ∀ M29, M29 = mUL M25 (mR M25 a0 6) 3 j15 → ∀ v32 : Int, v32 = (if (cmpL j11 0 = 0) then 0 else 1) → Q v32 M29)) ∧ (¬ ((100 ≤ l17) ∨ ((cmpL (j7 + j13) 0 = 0) ∨ (cmpL (j7 + j15) 0 = 0))) → (i64 (j5 + j9) ∧ i64 (j7 + j13) ∧ (j7 + j13) ≠ 0 ∧ i64 (j5 + j11) ∧ i64 (j7 + j15) ∧ (j7 + j15) ≠ 0 ∧ i64 (Int.tdiv (j5 + j9) (j7 + j13)) ∧ i64 (Int.tdiv (j5 + j11) (j7 + j15)) ∧ ((cmpL (Int.tdiv (j5 + j9) (j7 + j13)) (Int.tdiv (j5 + j11) (j7 + j15)) = 0) → (((cmpL (Int.tdiv (j5 + j9) (j7 + j13)) 1073741823 ≤ 0) → (i64 (j9 - ((Int.tdiv (j5 + j9) (j7 + j13)) * j13)) ∧ i64 (if 0 < j9 - ((Int.tdiv (j5 + j9) (j7 + j13)) * j13) then j9 - ((Int.tdiv (j5 + j9) (j7 + j13)) * j13) else -(j9 - ((Int.tdiv (j5 + j9) (j7 + j13)) * j13))) ∧ ((0 < cmpL (if 0 < j9 - ((Int.tdiv (j5 + j9) (j7 + j13)) * j13) then j9 - ((Int.tdiv (j5 + j9) (j7 + j13)) * j13) else -(j9 - ((Int.tdiv (j5 + j9) (j7 + j13)) * j13))) 1073741823) → (mK M a0 = 9 ∧ mK M (mR M a0 6) = 33 ∧ ((0 : Int) ≤ 0 ∧ 0 < (mN M (mR M a0 6) : Int)) ∧ ∀ M66, M66 = mUL M (mR M a0 6) 0 j9 → mK M66 (mR M66 a0 6) = 33 ∧ ((0 : Int) ≤ 1 ∧ 1 < (mN M66 (mR M66 a0 6) : Int)) ∧ ∀ M70, M70 = mUL M66 (mR M66 a0 6) 1 j11 → mK M70 (mR M70 a0 6) = 33 ∧ ((0 : Int) ≤ 2 ∧ 2 < (mN M70 (mR M70 a0 6) : Int)) ∧ ∀ M74, M74 = mUL M70 (mR M70 a0 6) 2 j13 → mK M74 (mR M74 a0 6) = 33 ∧ ((0 : Int) ≤ 3 ∧ 3 < (mN M74 (mR M74 a0 6) : Int)) ∧ ∀ M78, M78 = mUL M74 (mR M74 a0 6) 3 j15 → ∀ v81 : Int, v81 = (if (cmpL j11 0 = 0) then 0 else 1) → Q v81 M78)) ∧ (¬ (0 < cmpL (if 0 < j9 - ((Int.tdiv (j5 + j9) (j7 + j13)) * j13) then j9 - ((Int.tdiv (j5 + j9) (j7 + j13)) * j13) else -(j9 - ((Int.tdiv (j5 + j9) (j7 + j13)) * j13))) 1073741823) → (i64 (j11 - ((Int.tdiv (j5 + j9) (j7 + j13)) * j15)) ∧ i64 (if 0 < j11 - ((Int.tdiv (j5 + j9) (j7 + j13)) * j15) then j11 - ((Int.tdiv (j5 + j9) (j7 + j13)) * j15) else -(j11 - ((Int.tdiv (j5 + j9) (j7 + j13)) * j15))) ∧ ((cmpL (if 0 < j11 - ((Int.tdiv (j5 + j9) (j7 + j13)) * j15) then j11 - ((Int.tdiv (j5 + j9) (j7 + j13)) * j15) else -(j11 - ((Int.tdiv (j5 + j9) (j7 + j13)) * j15))) 1073741823 ≤ 0) → (h_Sc_findFactors_21 G d a0 j7 (j5 - ((Int.tdiv (j5 + j9) (j7 + j13)) * j7)) j13 j15 (j9 - ((Int.tdiv (j5 + j9) (j7 + j13)) * j13)) (j11 - ((Int.tdiv (j5 + j9) (j7 + j13)) * j15)) (l17 + 1) M Q)) ∧ (¬ (cmpL (if 0 < j11 - ((Int.tdiv (j5 + j9) (j7 + j13)) * j15) then j11 - ((Int.tdiv (j5 + j9) (j7 + j13)) * j15) else -(j11 - ((Int.tdiv (j5 + j9) (j7 + j13)) * j15))) 1073741823 ≤ 0) → (mK M a0 = 9 ∧ mK M (mR M a0 6) = 33 ∧ ((0 : Int) ≤ 0 ∧ 0 < (mN M (mR M a0 6) : Int)) ∧ ∀ M94, M94 = mUL M (mR M a0 6) 0 j9 → mK M94 (mR M94 a0 6) = 33 ∧ ((0 : Int) ≤ 1 ∧ 1 < (mN M94 (mR M94 a0 6) : Int)) ∧ ∀ M98, M98 = mUL M94 (mR M94 a0 6) 1 j11 → mK M98 (mR M98 a0 6) = 33 ∧ ((0 : Int) ≤ 2 ∧ 2 < (mN M98 (mR M98 a0 6) : Int)) ∧ ∀ M102, M102 = mUL M98 (mR M98 a0 6) 2 j13 → mK M102 (mR M102 a0 6) = 33 ∧ ((0 : Int) ≤ 3 ∧ 3 < (mN M102 (mR M102 a0 6) : Int)) ∧ ∀ M106, M106 = mUL M102 (mR M102 a0 6) 3 j15 → ∀ v109 : Int, v109 = (if (cmpL j11 0 = 0) then 0 else 1) → Q v109 M106)))))) ∧ (¬ (cmpL (Int.tdiv (j5 + j9) (j7 + j13)) 1073741823 ≤ 0) → (mK M a0 = 9 ∧ mK M (mR M a0 6) = 33 ∧ ((0 : Int) ≤ 0 ∧ 0 < (mN M (mR M a0 6) : Int)) ∧ ∀ M118, M118 = mUL M (mR M a0 6) 0 j9 → mK M118 (mR M118 a0 6) = 33 ∧ ((0 : Int) ≤ 1 ∧ 1 < (mN M118 (mR M118 a0 6) : Int)) ∧ ∀ M122, M122 = mUL M118 (mR M118 a0 6) 1 j11 → mK M122 (mR M122 a0 6) = 33 ∧ ((0 : Int) ≤ 2 ∧ 2 < (mN M122 (mR M122 a0 6) : Int)) ∧ ∀ M126, M126 = mUL M122 (mR M122 a0 6) 2 j13 → mK M126 (mR M126 a0 6) = 33 ∧ ((0 : Int) ≤ 3 ∧ 3 < (mN M126 (mR M126 a0 6) : Int)) ∧ ∀ M130, M130 = mUL M126 (mR M126 a0 6) 3 j15 → ∀ v133 : Int, v133 = (if (cmpL j11 0 = 0) then 0 else 1) → Q v133 M130)))) ∧ (¬ (cmpL (Int.tdiv (j5 + j9) (j7 + j13)) (Int.tdiv (j5 + j11) (j7 + j15)) = 0) → (mK M a0 = 9 ∧ mK M (mR M a0 6) = 33 ∧ ((0 : Int) ≤ 0 ∧ 0 < (mN M (mR M a0 6) : Int)) ∧ ∀ M142, M142 = mUL M (mR M a0 6) 0 j9 → mK M142 (mR M142 a0 6) = 33 ∧ ((0 : Int) ≤ 1 ∧ 1 < (mN M142 (mR M142 a0 6) : Int)) ∧ ∀ M146, M146 = mUL M142 (mR M142 a0 6) 1 j11 → mK M146 (mR M146 a0 6) = 33 ∧ ((0 : Int) ≤ 2 ∧ 2 < (mN M146 (mR M146 a0 6) : Int)) ∧ ∀ M150, M150 = mUL M146 (mR M146 a0 6) 2 j13 → mK M150 (mR M150 a0 6) = 33 ∧ ((0 : Int) ≤ 3 ∧ 3 < (mN M150 (mR M150 a0 6) : Int)) ∧ ∀ M154, M154 = mUL M150 (mR M150 a0 6) 3 j15 → ∀ v157 : Int, v157 = (if (cmpL j11 0 = 0) then 0 else 1) → Q v157 M154))))) :
    h_Sc_findFactors_21 G d a0 j5 j7 j9 j11 j13 j15 l17 M Q := by
  unfold h_Sc_findFactors_21
  refine wm_iload d_Sc_findFactors_21 rfl ?_
  refine wm_bipush d_Sc_findFactors_23 (by decide) ?_
  obtain ⟨s12, h⟩ := h
  have hE0 : ((100 ≤ l17) ∨ ((cmpL (j7 + j13) 0 = 0) ∨ (cmpL (j7 + j15) 0 = 0))) → mWm G y_Sc_findFactors (d + 1) 177 [vr a0, vd, vd, vd, vd, vl j5, vd, vl j7, vd, vl j9, vd, vl j11, vd, vl j13, vd, vl j15, vd, vi l17, vd, vd, vd, vd, vd, vd, vd, vd] [] M (fun r9 M9 => ∃ x9, r9 = some (vi x9) ∧ Q x9 M9) := by
    intro q13
    have h := h.1 q13
    obtain ⟨h14, h⟩ := h
    obtain ⟨h15, h⟩ := h
    obtain ⟨h16, h⟩ := h
    obtain ⟨M17, e18⟩ : ∃ M17, M17 = mUL M (mR M a0 6) 0 j9 := ⟨_, rfl⟩
    replace h := h M17 e18
    obtain ⟨h19, h⟩ := h
    obtain ⟨h20, h⟩ := h
    obtain ⟨M21, e22⟩ : ∃ M21, M21 = mUL M17 (mR M17 a0 6) 1 j11 := ⟨_, rfl⟩
    replace h := h M21 e22
    obtain ⟨h23, h⟩ := h
    obtain ⟨h24, h⟩ := h
    obtain ⟨M25, e26⟩ : ∃ M25, M25 = mUL M21 (mR M21 a0 6) 2 j13 := ⟨_, rfl⟩
    replace h := h M25 e26
    obtain ⟨h27, h⟩ := h
    obtain ⟨h28, h⟩ := h
    obtain ⟨M29, e30⟩ : ∃ M29, M29 = mUL M25 (mR M25 a0 6) 3 j15 := ⟨_, rfl⟩
    replace h := h M29 e30
    refine wm_aload_n d_Sc_findFactors_177 rfl rfl ?_
    refine gf_Sc_33 rfl d_Sc_findFactors_178 h14 ?_
    refine wm_iconst d_Sc_findFactors_181 ?_
    refine wm_lload d_Sc_findFactors_182 rfl ?_
    have hOM17 : mOk M17 := by rw [e18]; exact mOk_UL hO hi_j9
    refine wm_lastE d_Sc_findFactors_184 h15 h16 hi_j9 e18 ?_
    refine wm_aload_n d_Sc_findFactors_185 rfl rfl ?_
    refine gf_Sc_33 rfl d_Sc_findFactors_186 (by rw [e18]; exact h14) ?_
    refine wm_iconst d_Sc_findFactors_189 ?_
    refine wm_lload d_Sc_findFactors_190 rfl ?_
    have hOM21 : mOk M21 := by rw [e22]; exact mOk_UL hOM17 hi_j11
    refine wm_lastE d_Sc_findFactors_192 h19 h20 hi_j11 e22 ?_
    refine wm_aload_n d_Sc_findFactors_193 rfl rfl ?_
    refine gf_Sc_33 rfl d_Sc_findFactors_194 (by rw [e22, e18]; exact h14) ?_
    refine wm_iconst d_Sc_findFactors_197 ?_
    refine wm_lload d_Sc_findFactors_198 rfl ?_
    have hOM25 : mOk M25 := by rw [e26]; exact mOk_UL hOM21 hi_j13
    refine wm_lastE d_Sc_findFactors_200 h23 h24 hi_j13 e26 ?_
    refine wm_aload_n d_Sc_findFactors_201 rfl rfl ?_
    refine gf_Sc_33 rfl d_Sc_findFactors_202 (by rw [e26, e22, e18]; exact h14) ?_
    refine wm_iconst d_Sc_findFactors_205 ?_
    refine wm_lload d_Sc_findFactors_206 rfl ?_
    have hOM29 : mOk M29 := by rw [e30]; exact mOk_UL hOM25 hi_j15
    refine wm_lastE d_Sc_findFactors_208 h27 h28 hi_j15 e30 ?_
    refine wm_lload d_Sc_findFactors_209 rfl ?_
    refine wm_lconst (x := 0) d_Sc_findFactors_211 rfl ?_
    refine wm_lcmp d_Sc_findFactors_212 hi_j11 ⟨by decide, by decide⟩ ?_
    have hJ : ∀ v32 : Int, v32 = (if (cmpL j11 0 = 0) then 0 else 1) → mWm G y_Sc_findFactors (d + 1) 221 [vd, vd, vd, vd, vd, vd, vd, vd, vd, vd, vd, vd, vd, vd, vd, vd, vd, vd, vd, vd, vd, vd, vd, vd, vd, vd] [vi v32] M29 (fun r9 M9 => ∃ x9, r9 = some (vi x9) ∧ Q x9 M9) := by
      intro v32 e34
      have h := h v32 e34
      have h35 : i32 v32 := by rw [e34]; (repeat' split) <;> first | exact ⟨by decide, by decide⟩ | exact ⟨by decide, by decide⟩
      have h36 : (v32 = 0 ∨ v32 = 1) := by rw [e34]; (repeat' split) <;> decide
      refine wm_ireturn d_Sc_findFactors_221 rfl (m_nb h36) ?_
      exact ⟨_, rfl, h⟩
    clear h
    refine wm_if_eq (tgt := 220) d_Sc_findFactors_213 rfl (m_cmp32 _ _) (fun c31 => ?_) (fun c31 => ?_)
    · refine wm_iconst d_Sc_findFactors_220 ?_
      refine wm_less (L' := [vd, vd, vd, vd, vd, vd, vd, vd, vd, vd, vd, vd, vd, vd, vd, vd, vd, vd, vd, vd, vd, vd, vd, vd, vd, vd]) ⟨Or.inl rfl, Or.inl rfl, Or.inl rfl, Or.inl rfl, Or.inl rfl, Or.inl rfl, Or.inl rfl, Or.inl rfl, Or.inl rfl, Or.inl rfl, Or.inl rfl, Or.inl rfl, Or.inl rfl, Or.inl rfl, Or.inl rfl, Or.inl rfl, Or.inl rfl, Or.inl rfl, Or.inl rfl, Or.inl rfl, Or.inl rfl, Or.inl rfl, Or.inl rfl, Or.inl rfl, Or.inl rfl, Or.inl rfl, trivial⟩ ?_
      exact hJ 0 (if_pos c31).symm
    · refine wm_iconst d_Sc_findFactors_216 ?_
      refine wm_goto (tgt := 221) d_Sc_findFactors_217 rfl ?_
      refine wm_less (L' := [vd, vd, vd, vd, vd, vd, vd, vd, vd, vd, vd, vd, vd, vd, vd, vd, vd, vd, vd, vd, vd, vd, vd, vd, vd, vd]) ⟨Or.inl rfl, Or.inl rfl, Or.inl rfl, Or.inl rfl, Or.inl rfl, Or.inl rfl, Or.inl rfl, Or.inl rfl, Or.inl rfl, Or.inl rfl, Or.inl rfl, Or.inl rfl, Or.inl rfl, Or.inl rfl, Or.inl rfl, Or.inl rfl, Or.inl rfl, Or.inl rfl, Or.inl rfl, Or.inl rfl, Or.inl rfl, Or.inl rfl, Or.inl rfl, Or.inl rfl, Or.inl rfl, Or.inl rfl, trivial⟩ ?_
      exact hJ 1 (if_neg c31).symm
  have hE1 : ¬ ((100 ≤ l17) ∨ ((cmpL (j7 + j13) 0 = 0) ∨ (cmpL (j7 + j15) 0 = 0))) → mWm G y_Sc_findFactors (d + 1) 48 [vr a0, vd, vd, vd, vd, vl j5, vd, vl j7, vd, vl j9, vd, vl j11, vd, vl j13, vd, vl j15, vd, vi l17, vd, vd, vd, vd, vd, vd, vd, vd] [] M (fun r9 M9 => ∃ x9, r9 = some (vi x9) ∧ Q x9 M9) := by
    intro q38
    have h := h.2 q38
    obtain ⟨h39, h⟩ := h
    obtain ⟨h40, h⟩ := h
    obtain ⟨h41, h⟩ := h
    obtain ⟨h42, h⟩ := h
    obtain ⟨h43, h⟩ := h
    obtain ⟨h44, h⟩ := h
    obtain ⟨h45, h⟩ := h
    obtain ⟨h46, h⟩ := h
    refine wm_lload d_Sc_findFactors_48 rfl ?_
    refine wm_lload d_Sc_findFactors_50 rfl ?_
    refine wm_ladd d_Sc_findFactors_52 ?_
    refine wm_lload d_Sc_findFactors_53 rfl ?_
    refine wm_lload d_Sc_findFactors_55 rfl ?_
    refine wm_ladd d_Sc_findFactors_57 ?_
    refine wm_ldiv d_Sc_findFactors_58 h39 h40 h41 ?_
    refine wm_lstore d_Sc_findFactors_59 (by decide) (L' := [vr a0, vd, vd, vd, vd, vl j5, vd, vl j7, vd, vl j9, vd, vl j11, vd, vl j13, vd, vl j15, vd, vi l17, vl (Int.tdiv (j5 + j9) (j7 + j13)), vd, vd, vd, vd, vd, vd, vd]) rfl ?_
    refine wm_lload d_Sc_findFactors_61 rfl ?_
    refine wm_lload d_Sc_findFactors_63 rfl ?_
    refine wm_lload d_Sc_findFactors_65 rfl ?_
    refine wm_ladd d_Sc_findFactors_67 ?_
    refine wm_lload d_Sc_findFactors_68 rfl ?_
    refine wm_lload d_Sc_findFactors_70 rfl ?_
    refine wm_ladd d_Sc_findFactors_72 ?_
    refine wm_ldiv d_Sc_findFactors_73 h42 h43 h44 ?_
    refine wm_lcmp d_Sc_findFactors_74 h45 h46 ?_
    refine wm_if_ne (tgt := 177) d_Sc_findFactors_75 rfl (m_cmp32 _ _) (fun c51 => ?_) (fun c51 => ?_)
    · replace h := h.2 c51
      obtain ⟨h139, h⟩ := h
      obtain ⟨h140, h⟩ := h
      obtain ⟨h141, h⟩ := h
      obtain ⟨M142, e143⟩ : ∃ M142, M142 = mUL M (mR M a0 6) 0 j9 := ⟨_, rfl⟩
      replace h := h M142 e143
      obtain ⟨h144, h⟩ := h
      obtain ⟨h145, h⟩ := h
      obtain ⟨M146, e147⟩ : ∃ M146, M146 = mUL M142 (mR M142 a0 6) 1 j11 := ⟨_, rfl⟩
      replace h := h M146 e147
      obtain ⟨h148, h⟩ := h
      obtain ⟨h149, h⟩ := h
      obtain ⟨M150, e151⟩ : ∃ M150, M150 = mUL M146 (mR M146 a0 6) 2 j13 := ⟨_, rfl⟩
      replace h := h M150 e151
      obtain ⟨h152, h⟩ := h
      obtain ⟨h153, h⟩ := h
      obtain ⟨M154, e155⟩ : ∃ M154, M154 = mUL M150 (mR M150 a0 6) 3 j15 := ⟨_, rfl⟩
      replace h := h M154 e155
      refine wm_aload_n d_Sc_findFactors_177 rfl rfl ?_
      refine gf_Sc_33 rfl d_Sc_findFactors_178 h139 ?_
      refine wm_iconst d_Sc_findFactors_181 ?_
      refine wm_lload d_Sc_findFactors_182 rfl ?_
      have hOM142 : mOk M142 := by rw [e143]; exact mOk_UL hO hi_j9
      refine wm_lastE d_Sc_findFactors_184 h140 h141 hi_j9 e143 ?_
      refine wm_aload_n d_Sc_findFactors_185 rfl rfl ?_
      refine gf_Sc_33 rfl d_Sc_findFactors_186 (by rw [e143]; exact h139) ?_
      refine wm_iconst d_Sc_findFactors_189 ?_
      refine wm_lload d_Sc_findFactors_190 rfl ?_
      have hOM146 : mOk M146 := by rw [e147]; exact mOk_UL hOM142 hi_j11
      refine wm_lastE d_Sc_findFactors_192 h144 h145 hi_j11 e147 ?_
      refine wm_aload_n d_Sc_findFactors_193 rfl rfl ?_
      refine gf_Sc_33 rfl d_Sc_findFactors_194 (by rw [e147, e143]; exact h139) ?_
      refine wm_iconst d_Sc_findFactors_197 ?_
      refine wm_lload d_Sc_findFactors_198 rfl ?_
      have hOM150 : mOk M150 := by rw [e151]; exact mOk_UL hOM146 hi_j13
      refine wm_lastE d_Sc_findFactors_200 h148 h149 hi_j13 e151 ?_
      refine wm_aload_n d_Sc_findFactors_201 rfl rfl ?_
      refine gf_Sc_33 rfl d_Sc_findFactors_202 (by rw [e151, e147, e143]; exact h139) ?_
      refine wm_iconst d_Sc_findFactors_205 ?_
      refine wm_lload d_Sc_findFactors_206 rfl ?_
      have hOM154 : mOk M154 := by rw [e155]; exact mOk_UL hOM150 hi_j15
      refine wm_lastE d_Sc_findFactors_208 h152 h153 hi_j15 e155 ?_
      refine wm_lload d_Sc_findFactors_209 rfl ?_
      refine wm_lconst (x := 0) d_Sc_findFactors_211 rfl ?_
      refine wm_lcmp d_Sc_findFactors_212 hi_j11 ⟨by decide, by decide⟩ ?_
      have hJ : ∀ v157 : Int, v157 = (if (cmpL j11 0 = 0) then 0 else 1) → mWm G y_Sc_findFactors (d + 1) 221 [vd, vd, vd, vd, vd, vd, vd, vd, vd, vd, vd, vd, vd, vd, vd, vd, vd, vd, vd, vd, vd, vd, vd, vd, vd, vd] [vi v157] M154 (fun r9 M9 => ∃ x9, r9 = some (vi x9) ∧ Q x9 M9) := by
        intro v157 e159
        have h := h v157 e159
        have h160 : i32 v157 := by rw [e159]; (repeat' split) <;> first | exact ⟨by decide, by decide⟩ | exact ⟨by decide, by decide⟩
        have h161 : (v157 = 0 ∨ v157 = 1) := by rw [e159]; (repeat' split) <;> decide
        refine wm_ireturn d_Sc_findFactors_221 rfl (m_nb h161) ?_
        exact ⟨_, rfl, h⟩
      clear h
      refine wm_if_eq (tgt := 220) d_Sc_findFactors_213 rfl (m_cmp32 _ _) (fun c156 => ?_) (fun c156 => ?_)
      · refine wm_iconst d_Sc_findFactors_220 ?_
        refine wm_less (L' := [vd, vd, vd, vd, vd, vd, vd, vd, vd, vd, vd, vd, vd, vd, vd, vd, vd, vd, vd, vd, vd, vd, vd, vd, vd, vd]) ⟨Or.inl rfl, Or.inl rfl, Or.inl rfl, Or.inl rfl, Or.inl rfl, Or.inl rfl, Or.inl rfl, Or.inl rfl, Or.inl rfl, Or.inl rfl, Or.inl rfl, Or.inl rfl, Or.inl rfl, Or.inl rfl, Or.inl rfl, Or.inl rfl, Or.inl rfl, Or.inl rfl, Or.inl rfl, Or.inl rfl, Or.inl rfl, Or.inl rfl, Or.inl rfl, Or.inl rfl, Or.inl rfl, Or.inl rfl, trivial⟩ ?_
        exact hJ 0 (if_pos c156).symm
      · refine wm_iconst d_Sc_findFactors_216 ?_
        refine wm_goto (tgt := 221) d_Sc_findFactors_217 rfl ?_
        refine wm_less (L' := [vd, vd, vd, vd, vd, vd, vd, vd, vd, vd, vd, vd, vd, vd, vd, vd, vd, vd, vd, vd, vd, vd, vd, vd, vd, vd]) ⟨Or.inl rfl, Or.inl rfl, Or.inl rfl, Or.inl rfl, Or.inl rfl, Or.inl rfl, Or.inl rfl, Or.inl rfl, Or.inl rfl, Or.inl rfl, Or.inl rfl, Or.inl rfl, Or.inl rfl, Or.inl rfl, Or.inl rfl, Or.inl rfl, Or.inl rfl, Or.inl rfl, Or.inl rfl, Or.inl rfl, Or.inl rfl, Or.inl rfl, Or.inl rfl, Or.inl rfl, Or.inl rfl, Or.inl rfl, trivial⟩ ?_
        exact hJ 1 (if_neg c156).symm
    · replace c51 := Classical.not_not.mp c51
      replace h := h.1 c51
      refine wm_lload d_Sc_findFactors_78 rfl ?_
      refine wm_ldc2 (x := 1073741823) d_Sc_findFactors_80 k6_1 (by decide) ?_
      refine wm_lcmp d_Sc_findFactors_83 h45 ⟨by decide, by decide⟩ ?_
      refine wm_if_le (tgt := 90) d_Sc_findFactors_84 rfl (m_cmp32 _ _) (fun c55 => ?_) (fun c55 => ?_)
      · replace h := h.1 c55
        obtain ⟨h56, h⟩ := h
        obtain ⟨h57, h⟩ := h
        refine wm_lload d_Sc_findFactors_90 rfl ?_
        refine wm_lload d_Sc_findFactors_92 rfl ?_
        refine wm_lload d_Sc_findFactors_94 rfl ?_
        refine wm_lmul d_Sc_findFactors_96 ?_
        refine wm_lsub d_Sc_findFactors_97 ?_
        refine wm_lstore d_Sc_findFactors_98 (by decide) (L' := [vr a0, vd, vd, vd, vd, vl j5, vd, vl j7, vd, vl j9, vd, vl j11, vd, vl j13, vd, vl j15, vd, vi l17, vl (Int.tdiv (j5 + j9) (j7 + j13)), vd, vl (j9 - ((Int.tdiv (j5 + j9) (j7 + j13)) * j13)), vd, vd, vd, vd, vd]) rfl ?_
        refine wm_lload d_Sc_findFactors_100 rfl ?_
        refine wm_lload d_Sc_findFactors_102 rfl ?_
        refine wm_lload d_Sc_findFactors_104 rfl ?_
        refine wm_lmul d_Sc_findFactors_106 ?_
        refine wm_lsub d_Sc_findFactors_107 ?_
        refine wm_lstore d_Sc_findFactors_108 (by decide) (L' := [vr a0, vd, vd, vd, vd, vl j5, vd, vl j7, vd, vl j9, vd, vl j11, vd, vl j13, vd, vl j15, vd, vi l17, vl (Int.tdiv (j5 + j9) (j7 + j13)), vd, vl (j9 - ((Int.tdiv (j5 + j9) (j7 + j13)) * j13)), vd, vl (j11 - ((Int.tdiv (j5 + j9) (j7 + j13)) * j15)), vd, vd, vd]) rfl ?_
        refine wm_lload d_Sc_findFactors_110 rfl ?_
        refine wm_mabsl k6_2 (Nat.le_of_ble_eq_true rfl) h56 d_Sc_findFactors_112 ?_
        refine wm_ldc2 (x := 1073741823) d_Sc_findFactors_115 k6_1 (by decide) ?_
        refine wm_lcmp d_Sc_findFactors_118 h57 ⟨by decide, by decide⟩ ?_
        refine wm_if_gt (tgt := 177) d_Sc_findFactors_119 rfl (m_cmp32 _ _) (fun c62 => ?_) (fun c62 => ?_)
        · replace h := h.1 c62
          obtain ⟨h63, h⟩ := h
          obtain ⟨h64, h⟩ := h
          obtain ⟨h65, h⟩ := h
          obtain ⟨M66, e67⟩ : ∃ M66, M66 = mUL M (mR M a0 6) 0 j9 := ⟨_, rfl⟩
          replace h := h M66 e67
          obtain ⟨h68, h⟩ := h
          obtain ⟨h69, h⟩ := h
          obtain ⟨M70, e71⟩ : ∃ M70, M70 = mUL M66 (mR M66 a0 6) 1 j11 := ⟨_, rfl⟩
          replace h := h M70 e71
          obtain ⟨h72, h⟩ := h
          obtain ⟨h73, h⟩ := h
          obtain ⟨M74, e75⟩ : ∃ M74, M74 = mUL M70 (mR M70 a0 6) 2 j13 := ⟨_, rfl⟩
          replace h := h M74 e75
          obtain ⟨h76, h⟩ := h
          obtain ⟨h77, h⟩ := h
          obtain ⟨M78, e79⟩ : ∃ M78, M78 = mUL M74 (mR M74 a0 6) 3 j15 := ⟨_, rfl⟩
          replace h := h M78 e79
          refine wm_aload_n d_Sc_findFactors_177 rfl rfl ?_
          refine gf_Sc_33 rfl d_Sc_findFactors_178 h63 ?_
          refine wm_iconst d_Sc_findFactors_181 ?_
          refine wm_lload d_Sc_findFactors_182 rfl ?_
          have hOM66 : mOk M66 := by rw [e67]; exact mOk_UL hO hi_j9
          refine wm_lastE d_Sc_findFactors_184 h64 h65 hi_j9 e67 ?_
          refine wm_aload_n d_Sc_findFactors_185 rfl rfl ?_
          refine gf_Sc_33 rfl d_Sc_findFactors_186 (by rw [e67]; exact h63) ?_
          refine wm_iconst d_Sc_findFactors_189 ?_
          refine wm_lload d_Sc_findFactors_190 rfl ?_
          have hOM70 : mOk M70 := by rw [e71]; exact mOk_UL hOM66 hi_j11
          refine wm_lastE d_Sc_findFactors_192 h68 h69 hi_j11 e71 ?_
          refine wm_aload_n d_Sc_findFactors_193 rfl rfl ?_
          refine gf_Sc_33 rfl d_Sc_findFactors_194 (by rw [e71, e67]; exact h63) ?_
          refine wm_iconst d_Sc_findFactors_197 ?_
          refine wm_lload d_Sc_findFactors_198 rfl ?_
          have hOM74 : mOk M74 := by rw [e75]; exact mOk_UL hOM70 hi_j13
          refine wm_lastE d_Sc_findFactors_200 h72 h73 hi_j13 e75 ?_
          refine wm_aload_n d_Sc_findFactors_201 rfl rfl ?_
          refine gf_Sc_33 rfl d_Sc_findFactors_202 (by rw [e75, e71, e67]; exact h63) ?_
          refine wm_iconst d_Sc_findFactors_205 ?_
          refine wm_lload d_Sc_findFactors_206 rfl ?_
          have hOM78 : mOk M78 := by rw [e79]; exact mOk_UL hOM74 hi_j15
          refine wm_lastE d_Sc_findFactors_208 h76 h77 hi_j15 e79 ?_
          refine wm_lload d_Sc_findFactors_209 rfl ?_
          refine wm_lconst (x := 0) d_Sc_findFactors_211 rfl ?_
          refine wm_lcmp d_Sc_findFactors_212 hi_j11 ⟨by decide, by decide⟩ ?_
          have hJ : ∀ v81 : Int, v81 = (if (cmpL j11 0 = 0) then 0 else 1) → mWm G y_Sc_findFactors (d + 1) 221 [vd, vd, vd, vd, vd, vd, vd, vd, vd, vd, vd, vd, vd, vd, vd, vd, vd, vd, vd, vd, vd, vd, vd, vd, vd, vd] [vi v81] M78 (fun r9 M9 => ∃ x9, r9 = some (vi x9) ∧ Q x9 M9) := by
            intro v81 e83
            have h := h v81 e83
            have h84 : i32 v81 := by rw [e83]; (repeat' split) <;> first | exact ⟨by decide, by decide⟩ | exact ⟨by decide, by decide⟩
            have h85 : (v81 = 0 ∨ v81 = 1) := by rw [e83]; (repeat' split) <;> decide
            refine wm_ireturn d_Sc_findFactors_221 rfl (m_nb h85) ?_
            exact ⟨_, rfl, h⟩
          clear h
          refine wm_if_eq (tgt := 220) d_Sc_findFactors_213 rfl (m_cmp32 _ _) (fun c80 => ?_) (fun c80 => ?_)
          · refine wm_iconst d_Sc_findFactors_220 ?_
            refine wm_less (L' := [vd, vd, vd, vd, vd, vd, vd, vd, vd, vd, vd, vd, vd, vd, vd, vd, vd, vd, vd, vd, vd, vd, vd, vd, vd, vd]) ⟨Or.inl rfl, Or.inl rfl, Or.inl rfl, Or.inl rfl, Or.inl rfl, Or.inl rfl, Or.inl rfl, Or.inl rfl, Or.inl rfl, Or.inl rfl, Or.inl rfl, Or.inl rfl, Or.inl rfl, Or.inl rfl, Or.inl rfl, Or.inl rfl, Or.inl rfl, Or.inl rfl, Or.inl rfl, Or.inl rfl, Or.inl rfl, Or.inl rfl, Or.inl rfl, Or.inl rfl, Or.inl rfl, Or.inl rfl, trivial⟩ ?_
            exact hJ 0 (if_pos c80).symm
          · refine wm_iconst d_Sc_findFactors_216 ?_
            refine wm_goto (tgt := 221) d_Sc_findFactors_217 rfl ?_
            refine wm_less (L' := [vd, vd, vd, vd, vd, vd, vd, vd, vd, vd, vd, vd, vd, vd, vd, vd, vd, vd, vd, vd, vd, vd, vd, vd, vd, vd]) ⟨Or.inl rfl, Or.inl rfl, Or.inl rfl, Or.inl rfl, Or.inl rfl, Or.inl rfl, Or.inl rfl, Or.inl rfl, Or.inl rfl, Or.inl rfl, Or.inl rfl, Or.inl rfl, Or.inl rfl, Or.inl rfl, Or.inl rfl, Or.inl rfl, Or.inl rfl, Or.inl rfl, Or.inl rfl, Or.inl rfl, Or.inl rfl, Or.inl rfl, Or.inl rfl, Or.inl rfl, Or.inl rfl, Or.inl rfl, trivial⟩ ?_
            exact hJ 1 (if_neg c80).symm
        · replace h := h.2 c62
          obtain ⟨h87, h⟩ := h
          obtain ⟨h88, h⟩ := h
          refine wm_lload d_Sc_findFactors_122 rfl ?_
          refine wm_mabsl k6_2 (Nat.le_of_ble_eq_true rfl) h87 d_Sc_findFactors_124 ?_
          refine wm_ldc2 (x := 1073741823) d_Sc_findFactors_127 k6_1 (by decide) ?_
          refine wm_lcmp d_Sc_findFactors_130 h88 ⟨by decide, by decide⟩ ?_
          refine wm_if_le (tgt := 137) d_Sc_findFactors_131 rfl (m_cmp32 _ _) (fun c90 => ?_) (fun c90 => ?_)
          · replace h := h.1 c90
            refine wm_lload d_Sc_findFactors_137 rfl ?_
            refine wm_lload d_Sc_findFactors_139 rfl ?_
            refine wm_lload d_Sc_findFactors_141 rfl ?_
            refine wm_lmul d_Sc_findFactors_143 ?_
            refine wm_lsub d_Sc_findFactors_144 ?_
            refine wm_lstore d_Sc_findFactors_145 (by decide) (L' := [vr a0, vd, vd, vd, vd, vl j5, vd, vl j7, vd, vl j9, vd, vl j11, vd, vl j13, vd, vl j15, vd, vi l17, vl (Int.tdiv (j5 + j9) (j7 + j13)), vd, vl (j9 - ((Int.tdiv (j5 + j9) (j7 + j13)) * j13)), vd, vl (j11 - ((Int.tdiv (j5 + j9) (j7 + j13)) * j15)), vd, vl (j5 - ((Int.tdiv (j5 + j9) (j7 + j13)) * j7)), vd]) rfl ?_
            refine wm_lload d_Sc_findFactors_147 rfl ?_
            refine wm_lstore d_Sc_findFactors_149 (by decide) (L' := [vr a0, vd, vd, vd, vd, vl j5, vd, vl j7, vd, vl j13, vd, vl j11, vd, vl j13, vd, vl j15, vd, vi l17, vl (Int.tdiv (j5 + j9) (j7 + j13)), vd, vl (j9 - ((Int.tdiv (j5 + j9) (j7 + j13)) * j13)), vd, vl (j11 - ((Int.tdiv (j5 + j9) (j7 + j13)) * j15)), vd, vl (j5 - ((Int.tdiv (j5 + j9) (j7 + j13)) * j7)), vd]) rfl ?_
            refine wm_lload d_Sc_findFactors_151 rfl ?_
            refine wm_lstore d_Sc_findFactors_153 (by decide) (L' := [vr a0, vd, vd, vd, vd, vl j5, vd, vl j7, vd, vl j13, vd, vl j15, vd, vl j13, vd, vl j15, vd, vi l17, vl (Int.tdiv (j5 + j9) (j7 + j13)), vd, vl (j9 - ((Int.tdiv (j5 + j9) (j7 + j13)) * j13)), vd, vl (j11 - ((Int.tdiv (j5 + j9) (j7 + j13)) * j15)), vd, vl (j5 - ((Int.tdiv (j5 + j9) (j7 + j13)) * j7)), vd]) rfl ?_
            refine wm_lload d_Sc_findFactors_155 rfl ?_
            refine wm_lstore d_Sc_findFactors_157 (by decide) (L' := [vr a0, vd, vd, vd, vd, vl j7, vd, vl j7, vd, vl j13, vd, vl j15, vd, vl j13, vd, vl j15, vd, vi l17, vl (Int.tdiv (j5 + j9) (j7 + j13)), vd, vl (j9 - ((Int.tdiv (j5 + j9) (j7 + j13)) * j13)), vd, vl (j11 - ((Int.tdiv (j5 + j9) (j7 + j13)) * j15)), vd, vl (j5 - ((Int.tdiv (j5 + j9) (j7 + j13)) * j7)), vd]) rfl ?_
            refine wm_lload d_Sc_findFactors_159 rfl ?_
            refine wm_lstore d_Sc_findFactors_161 (by decide) (L' := [vr a0, vd, vd, vd, vd, vl j7, vd, vl j7, vd, vl j13, vd, vl j15, vd, vl (j9 - ((Int.tdiv (j5 + j9) (j7 + j13)) * j13)), vd, vl j15, vd, vi l17, vl (Int.tdiv (j5 + j9) (j7 + j13)), vd, vl (j9 - ((Int.tdiv (j5 + j9) (j7 + j13)) * j13)), vd, vl (j11 - ((Int.tdiv (j5 + j9) (j7 + j13)) * j15)), vd, vl (j5 - ((Int.tdiv (j5 + j9) (j7 + j13)) * j7)), vd]) rfl ?_
            refine wm_lload d_Sc_findFactors_163 rfl ?_
            refine wm_lstore d_Sc_findFactors_165 (by decide) (L' := [vr a0, vd, vd, vd, vd, vl j7, vd, vl j7, vd, vl j13, vd, vl j15, vd, vl (j9 - ((Int.tdiv (j5 + j9) (j7 + j13)) * j13)), vd, vl (j11 - ((Int.tdiv (j5 + j9) (j7 + j13)) * j15)), vd, vi l17, vl (Int.tdiv (j5 + j9) (j7 + j13)), vd, vl (j9 - ((Int.tdiv (j5 + j9) (j7 + j13)) * j13)), vd, vl (j11 - ((Int.tdiv (j5 + j9) (j7 + j13)) * j15)), vd, vl (j5 - ((Int.tdiv (j5 + j9) (j7 + j13)) * j7)), vd]) rfl ?_
            refine wm_lload d_Sc_findFactors_167 rfl ?_
            refine wm_lstore d_Sc_findFactors_169 (by decide) (L' := [vr a0, vd, vd, vd, vd, vl j7, vd, vl (j5 - ((Int.tdiv (j5 + j9) (j7 + j13)) * j7)), vd, vl j13, vd, vl j15, vd, vl (j9 - ((Int.tdiv (j5 + j9) (j7 + j13)) * j13)), vd, vl (j11 - ((Int.tdiv (j5 + j9) (j7 + j13)) * j15)), vd, vi l17, vl (Int.tdiv (j5 + j9) (j7 + j13)), vd, vl (j9 - ((Int.tdiv (j5 + j9) (j7 + j13)) * j13)), vd, vl (j11 - ((Int.tdiv (j5 + j9) (j7 + j13)) * j15)), vd, vl (j5 - ((Int.tdiv (j5 + j9) (j7 + j13)) * j7)), vd]) rfl ?_
            refine wm_iinc d_Sc_findFactors_171 (by decide) rfl (L' := [vr a0, vd, vd, vd, vd, vl j7, vd, vl (j5 - ((Int.tdiv (j5 + j9) (j7 + j13)) * j7)), vd, vl j13, vd, vl j15, vd, vl (j9 - ((Int.tdiv (j5 + j9) (j7 + j13)) * j13)), vd, vl (j11 - ((Int.tdiv (j5 + j9) (j7 + j13)) * j15)), vd, vi (l17 + 1), vl (Int.tdiv (j5 + j9) (j7 + j13)), vd, vl (j9 - ((Int.tdiv (j5 + j9) (j7 + j13)) * j13)), vd, vl (j11 - ((Int.tdiv (j5 + j9) (j7 + j13)) * j15)), vd, vl (j5 - ((Int.tdiv (j5 + j9) (j7 + j13)) * j7)), vd]) rfl ?_
            refine wm_goto (tgt := 21) d_Sc_findFactors_174 rfl ?_
            refine wm_less (L' := [vr a0, vd, vd, vd, vd, vl j7, vd, vl (j5 - ((Int.tdiv (j5 + j9) (j7 + j13)) * j7)), vd, vl j13, vd, vl j15, vd, vl (j9 - ((Int.tdiv (j5 + j9) (j7 + j13)) * j13)), vd, vl (j11 - ((Int.tdiv (j5 + j9) (j7 + j13)) * j15)), vd, vi (l17 + 1), vd, vd, vd, vd, vd, vd, vd, vd]) ⟨Or.inr rfl, Or.inl rfl, Or.inl rfl, Or.inl rfl, Or.inl rfl, Or.inr rfl, Or.inl rfl, Or.inr rfl, Or.inl rfl, Or.inr rfl, Or.inl rfl, Or.inr rfl, Or.inl rfl, Or.inr rfl, Or.inl rfl, Or.inr rfl, Or.inl rfl, Or.inr rfl, Or.inl rfl, Or.inl rfl, Or.inl rfl, Or.inl rfl, Or.inl rfl, Or.inl rfl, Or.inl rfl, Or.inl rfl, trivial⟩ ?_
            exact h
          · replace h := h.2 c90
            obtain ⟨h91, h⟩ := h
            obtain ⟨h92, h⟩ := h
            obtain ⟨h93, h⟩ := h
            obtain ⟨M94, e95⟩ : ∃ M94, M94 = mUL M (mR M a0 6) 0 j9 := ⟨_, rfl⟩
            replace h := h M94 e95
            obtain ⟨h96, h⟩ := h
            obtain ⟨h97, h⟩ := h
            obtain ⟨M98, e99⟩ : ∃ M98, M98 = mUL M94 (mR M94 a0 6) 1 j11 := ⟨_, rfl⟩
            replace h := h M98 e99
            obtain ⟨h100, h⟩ := h
            obtain ⟨h101, h⟩ := h
            obtain ⟨M102, e103⟩ : ∃ M102, M102 = mUL M98 (mR M98 a0 6) 2 j13 := ⟨_, rfl⟩
            replace h := h M102 e103
            obtain ⟨h104, h⟩ := h
            obtain ⟨h105, h⟩ := h
            obtain ⟨M106, e107⟩ : ∃ M106, M106 = mUL M102 (mR M102 a0 6) 3 j15 := ⟨_, rfl⟩
            replace h := h M106 e107
            refine wm_goto (tgt := 177) d_Sc_findFactors_134 rfl ?_
            refine wm_aload_n d_Sc_findFactors_177 rfl rfl ?_
            refine gf_Sc_33 rfl d_Sc_findFactors_178 h91 ?_
            refine wm_iconst d_Sc_findFactors_181 ?_
            refine wm_lload d_Sc_findFactors_182 rfl ?_
            have hOM94 : mOk M94 := by rw [e95]; exact mOk_UL hO hi_j9
            refine wm_lastE d_Sc_findFactors_184 h92 h93 hi_j9 e95 ?_
            refine wm_aload_n d_Sc_findFactors_185 rfl rfl ?_
            refine gf_Sc_33 rfl d_Sc_findFactors_186 (by rw [e95]; exact h91) ?_
            refine wm_iconst d_Sc_findFactors_189 ?_
            refine wm_lload d_Sc_findFactors_190 rfl ?_
            have hOM98 : mOk M98 := by rw [e99]; exact mOk_UL hOM94 hi_j11
            refine wm_lastE d_Sc_findFactors_192 h96 h97 hi_j11 e99 ?_
            refine wm_aload_n d_Sc_findFactors_193 rfl rfl ?_
            refine gf_Sc_33 rfl d_Sc_findFactors_194 (by rw [e99, e95]; exact h91) ?_
            refine wm_iconst d_Sc_findFactors_197 ?_
            refine wm_lload d_Sc_findFactors_198 rfl ?_
            have hOM102 : mOk M102 := by rw [e103]; exact mOk_UL hOM98 hi_j13
            refine wm_lastE d_Sc_findFactors_200 h100 h101 hi_j13 e103 ?_
            refine wm_aload_n d_Sc_findFactors_201 rfl rfl ?_
            refine gf_Sc_33 rfl d_Sc_findFactors_202 (by rw [e103, e99, e95]; exact h91) ?_
            refine wm_iconst d_Sc_findFactors_205 ?_
            refine wm_lload d_Sc_findFactors_206 rfl ?_
            have hOM106 : mOk M106 := by rw [e107]; exact mOk_UL hOM102 hi_j15
            refine wm_lastE d_Sc_findFactors_208 h104 h105 hi_j15 e107 ?_
            refine wm_lload d_Sc_findFactors_209 rfl ?_
            refine wm_lconst (x := 0) d_Sc_findFactors_211 rfl ?_
            refine wm_lcmp d_Sc_findFactors_212 hi_j11 ⟨by decide, by decide⟩ ?_
            have hJ : ∀ v109 : Int, v109 = (if (cmpL j11 0 = 0) then 0 else 1) → mWm G y_Sc_findFactors (d + 1) 221 [vd, vd, vd, vd, vd, vd, vd, vd, vd, vd, vd, vd, vd, vd, vd, vd, vd, vd, vd, vd, vd, vd, vd, vd, vd, vd] [vi v109] M106 (fun r9 M9 => ∃ x9, r9 = some (vi x9) ∧ Q x9 M9) := by
              intro v109 e111
              have h := h v109 e111
              have h112 : i32 v109 := by rw [e111]; (repeat' split) <;> first | exact ⟨by decide, by decide⟩ | exact ⟨by decide, by decide⟩
              have h113 : (v109 = 0 ∨ v109 = 1) := by rw [e111]; (repeat' split) <;> decide
              refine wm_ireturn d_Sc_findFactors_221 rfl (m_nb h113) ?_
              exact ⟨_, rfl, h⟩
            clear h
            refine wm_if_eq (tgt := 220) d_Sc_findFactors_213 rfl (m_cmp32 _ _) (fun c108 => ?_) (fun c108 => ?_)
            · refine wm_iconst d_Sc_findFactors_220 ?_
              refine wm_less (L' := [vd, vd, vd, vd, vd, vd, vd, vd, vd, vd, vd, vd, vd, vd, vd, vd, vd, vd, vd, vd, vd, vd, vd, vd, vd, vd]) ⟨Or.inl rfl, Or.inl rfl, Or.inl rfl, Or.inl rfl, Or.inl rfl, Or.inl rfl, Or.inl rfl, Or.inl rfl, Or.inl rfl, Or.inl rfl, Or.inl rfl, Or.inl rfl, Or.inl rfl, Or.inl rfl, Or.inl rfl, Or.inl rfl, Or.inl rfl, Or.inl rfl, Or.inl rfl, Or.inl rfl, Or.inl rfl, Or.inl rfl, Or.inl rfl, Or.inl rfl, Or.inl rfl, Or.inl rfl, trivial⟩ ?_
              exact hJ 0 (if_pos c108).symm
            · refine wm_iconst d_Sc_findFactors_216 ?_
              refine wm_goto (tgt := 221) d_Sc_findFactors_217 rfl ?_
              refine wm_less (L' := [vd, vd, vd, vd, vd, vd, vd, vd, vd, vd, vd, vd, vd, vd, vd, vd, vd, vd, vd, vd, vd, vd, vd, vd, vd, vd]) ⟨Or.inl rfl, Or.inl rfl, Or.inl rfl, Or.inl rfl, Or.inl rfl, Or.inl rfl, Or.inl rfl, Or.inl rfl, Or.inl rfl, Or.inl rfl, Or.inl rfl, Or.inl rfl, Or.inl rfl, Or.inl rfl, Or.inl rfl, Or.inl rfl, Or.inl rfl, Or.inl rfl, Or.inl rfl, Or.inl rfl, Or.inl rfl, Or.inl rfl, Or.inl rfl, Or.inl rfl, Or.inl rfl, Or.inl rfl, trivial⟩ ?_
              exact hJ 1 (if_neg c108).symm
      · replace h := h.2 c55
        obtain ⟨h115, h⟩ := h
        obtain ⟨h116, h⟩ := h
        obtain ⟨h117, h⟩ := h
        obtain ⟨M118, e119⟩ : ∃ M118, M118 = mUL M (mR M a0 6) 0 j9 := ⟨_, rfl⟩
        replace h := h M118 e119
        obtain ⟨h120, h⟩ := h
        obtain ⟨h121, h⟩ := h
        obtain ⟨M122, e123⟩ : ∃ M122, M122 = mUL M118 (mR M118 a0 6) 1 j11 := ⟨_, rfl⟩
        replace h := h M122 e123
        obtain ⟨h124, h⟩ := h
        obtain ⟨h125, h⟩ := h
        obtain ⟨M126, e127⟩ : ∃ M126, M126 = mUL M122 (mR M122 a0 6) 2 j13 := ⟨_, rfl⟩
        replace h := h M126 e127
        obtain ⟨h128, h⟩ := h
        obtain ⟨h129, h⟩ := h
        obtain ⟨M130, e131⟩ : ∃ M130, M130 = mUL M126 (mR M126 a0 6) 3 j15 := ⟨_, rfl⟩
        replace h := h M130 e131
        refine wm_goto (tgt := 177) d_Sc_findFactors_87 rfl ?_
        refine wm_aload_n d_Sc_findFactors_177 rfl rfl ?_
        refine gf_Sc_33 rfl d_Sc_findFactors_178 h115 ?_
        refine wm_iconst d_Sc_findFactors_181 ?_
        refine wm_lload d_Sc_findFactors_182 rfl ?_
        have hOM118 : mOk M118 := by rw [e119]; exact mOk_UL hO hi_j9
        refine wm_lastE d_Sc_findFactors_184 h116 h117 hi_j9 e119 ?_
        refine wm_aload_n d_Sc_findFactors_185 rfl rfl ?_
        refine gf_Sc_33 rfl d_Sc_findFactors_186 (by rw [e119]; exact h115) ?_
        refine wm_iconst d_Sc_findFactors_189 ?_
        refine wm_lload d_Sc_findFactors_190 rfl ?_
        have hOM122 : mOk M122 := by rw [e123]; exact mOk_UL hOM118 hi_j11
        refine wm_lastE d_Sc_findFactors_192 h120 h121 hi_j11 e123 ?_
        refine wm_aload_n d_Sc_findFactors_193 rfl rfl ?_
        refine gf_Sc_33 rfl d_Sc_findFactors_194 (by rw [e123, e119]; exact h115) ?_
        refine wm_iconst d_Sc_findFactors_197 ?_
        refine wm_lload d_Sc_findFactors_198 rfl ?_
        have hOM126 : mOk M126 := by rw [e127]; exact mOk_UL hOM122 hi_j13
        refine wm_lastE d_Sc_findFactors_200 h124 h125 hi_j13 e127 ?_
        refine wm_aload_n d_Sc_findFactors_201 rfl rfl ?_
        refine gf_Sc_33 rfl d_Sc_findFactors_202 (by rw [e127, e123, e119]; exact h115) ?_
        refine wm_iconst d_Sc_findFactors_205 ?_
        refine wm_lload d_Sc_findFactors_206 rfl ?_
        have hOM130 : mOk M130 := by rw [e131]; exact mOk_UL hOM126 hi_j15
        refine wm_lastE d_Sc_findFactors_208 h128 h129 hi_j15 e131 ?_
        refine wm_lload d_Sc_findFactors_209 rfl ?_
        refine wm_lconst (x := 0) d_Sc_findFactors_211 rfl ?_
        refine wm_lcmp d_Sc_findFactors_212 hi_j11 ⟨by decide, by decide⟩ ?_
        have hJ : ∀ v133 : Int, v133 = (if (cmpL j11 0 = 0) then 0 else 1) → mWm G y_Sc_findFactors (d + 1) 221 [vd, vd, vd, vd, vd, vd, vd, vd, vd, vd, vd, vd, vd, vd, vd, vd, vd, vd, vd, vd, vd, vd, vd, vd, vd, vd] [vi v133] M130 (fun r9 M9 => ∃ x9, r9 = some (vi x9) ∧ Q x9 M9) := by
          intro v133 e135
          have h := h v133 e135
          have h136 : i32 v133 := by rw [e135]; (repeat' split) <;> first | exact ⟨by decide, by decide⟩ | exact ⟨by decide, by decide⟩
          have h137 : (v133 = 0 ∨ v133 = 1) := by rw [e135]; (repeat' split) <;> decide
          refine wm_ireturn d_Sc_findFactors_221 rfl (m_nb h137) ?_
          exact ⟨_, rfl, h⟩
        clear h
        refine wm_if_eq (tgt := 220) d_Sc_findFactors_213 rfl (m_cmp32 _ _) (fun c132 => ?_) (fun c132 => ?_)
        · refine wm_iconst d_Sc_findFactors_220 ?_
          refine wm_less (L' := [vd, vd, vd, vd, vd, vd, vd, vd, vd, vd, vd, vd, vd, vd, vd, vd, vd, vd, vd, vd, vd, vd, vd, vd, vd, vd]) ⟨Or.inl rfl, Or.inl rfl, Or.inl rfl, Or.inl rfl, Or.inl rfl, Or.inl rfl, Or.inl rfl, Or.inl rfl, Or.inl rfl, Or.inl rfl, Or.inl rfl, Or.inl rfl, Or.inl rfl, Or.inl rfl, Or.inl rfl, Or.inl rfl, Or.inl rfl, Or.inl rfl, Or.inl rfl, Or.inl rfl, Or.inl rfl, Or.inl rfl, Or.inl rfl, Or.inl rfl, Or.inl rfl, Or.inl rfl, trivial⟩ ?_
          exact hJ 0 (if_pos c132).symm
        · refine wm_iconst d_Sc_findFactors_216 ?_
          refine wm_goto (tgt := 221) d_Sc_findFactors_217 rfl ?_
          refine wm_less (L' := [vd, vd, vd, vd, vd, vd, vd, vd, vd, vd, vd, vd, vd, vd, vd, vd, vd, vd, vd, vd, vd, vd, vd, vd, vd, vd]) ⟨Or.inl rfl, Or.inl rfl, Or.inl rfl, Or.inl rfl, Or.inl rfl, Or.inl rfl, Or.inl rfl, Or.inl rfl, Or.inl rfl, Or.inl rfl, Or.inl rfl, Or.inl rfl, Or.inl rfl, Or.inl rfl, Or.inl rfl, Or.inl rfl, Or.inl rfl, Or.inl rfl, Or.inl rfl, Or.inl rfl, Or.inl rfl, Or.inl rfl, Or.inl rfl, Or.inl rfl, Or.inl rfl, Or.inl rfl, trivial⟩ ?_
          exact hJ 1 (if_neg c132).symm
  clear h
  have s163 := s12
  refine wm_icmp_ge (tgt := 177) d_Sc_findFactors_25 rfl hi_l17 ⟨by decide, by decide⟩ (fun c11 => ?_) (fun c11 => ?_)
  · exact hE0 (Or.inl c11)
  · have s163 := s163 c11
    obtain ⟨h1, s164⟩ := s163
    refine wm_lload d_Sc_findFactors_28 rfl ?_
    refine wm_lload d_Sc_findFactors_30 rfl ?_
    refine wm_ladd d_Sc_findFactors_32 ?_
    refine wm_lconst (x := 0) d_Sc_findFactors_33 rfl ?_
    refine wm_lcmp d_Sc_findFactors_34 h1 ⟨by decide, by decide⟩ ?_
    refine wm_if_eq (tgt := 177) d_Sc_findFactors_35 rfl (m_cmp32 _ _) (fun c10 => ?_) (fun c10 => ?_)
    · exact hE0 (Or.inr (Or.inl c10))
    · have s164 := s164 c10
      have h2 := s164
      refine wm_lload d_Sc_findFactors_38 rfl ?_
      refine wm_lload d_Sc_findFactors_40 rfl ?_
      refine wm_ladd d_Sc_findFactors_42 ?_
      refine wm_lconst (x := 0) d_Sc_findFactors_43 rfl ?_
      refine wm_lcmp d_Sc_findFactors_44 h2 ⟨by decide, by decide⟩ ?_
      refine wm_if_eq (tgt := 177) d_Sc_findFactors_45 rfl (m_cmp32 _ _) (fun c9 => ?_) (fun c9 => ?_)
      · exact hE0 (Or.inr (Or.inr c9))
      · exact hE1 (fun z165 => Or.elim z165 c11 (fun z166 => Or.elim z166 c10 c9))
theorem d_Sc_reduce_0 : decode y_Sc_reduce.2.1 0 = .ok (.aload_n 1, 1) := dc9_43 (by decide +kernel)
theorem d_Sc_reduce_1 : decode y_Sc_reduce.2.1 1 = .ok (.getfield 108, 3) := dc9_180 (by decide +kernel)
theorem d_Sc_reduce_4 : decode y_Sc_reduce.2.1 4 = .ok (.aload_n 1, 1) := dc9_43 (by decide +kernel)
theorem d_Sc_reduce_5 : decode y_Sc_reduce.2.1 5 = .ok (.getfield 111, 3) := dc9_180 (by decide +kernel)
theorem d_Sc_reduce_8 : decode y_Sc_reduce.2.1 8 = .ok (.invokevirtual 114, 3) := dc9_182 (by decide +kernel)
theorem d_Sc_reduce_11 : decode y_Sc_reduce.2.1 11 = .ok (.aload_n 1, 1) := dc9_43 (by decide +kernel)
theorem d_Sc_reduce_12 : decode y_Sc_reduce.2.1 12 = .ok (.iconst 1, 1) := dc9_4 (by decide +kernel)
theorem d_Sc_reduce_13 : decode y_Sc_reduce.2.1 13 = .ok (.putfield 111, 3) := dc9_181 (by decide +kernel)
theorem d_Sc_reduce_16 : decode y_Sc_reduce.2.1 16 = .ok (.aload_n 1, 1) := dc9_43 (by decide +kernel)
theorem d_Sc_reduce_17 : decode y_Sc_reduce.2.1 17 = .ok (.getfield 118, 3) := dc9_180 (by decide +kernel)
theorem d_Sc_reduce_20 : decode y_Sc_reduce.2.1 20 = .ok (.getfield 57, 3) := dc9_180 (by decide +kernel)
theorem d_Sc_reduce_23 : decode y_Sc_reduce.2.1 23 = .ok (.ifCond .ne 12, 3) := dc9_154 (by decide +kernel)
theorem d_Sc_reduce_26 : decode y_Sc_reduce.2.1 26 = .ok (.aload_n 1, 1) := dc9_43 (by decide +kernel)
theorem d_Sc_reduce_27 : decode y_Sc_reduce.2.1 27 = .ok (.getfield 108, 3) := dc9_180 (by decide +kernel)
theorem d_Sc_reduce_30 : decode y_Sc_reduce.2.1 30 = .ok (.iconst 1, 1) := dc9_4 (by decide +kernel)
theorem d_Sc_reduce_35 : decode y_Sc_reduce.2.1 35 = .ok (.aload_n 0, 1) := dc9_42 (by decide +kernel)
theorem d_Sc_reduce_36 : decode y_Sc_reduce.2.1 36 = .ok (.aload_n 1, 1) := dc9_43 (by decide +kernel)
theorem d_Sc_reduce_37 : decode y_Sc_reduce.2.1 37 = .ok (.getfield 118, 3) := dc9_180 (by decide +kernel)
theorem d_Sc_reduce_40 : decode y_Sc_reduce.2.1 40 = .ok (.aload_n 1, 1) := dc9_43 (by decide +kernel)
theorem d_Sc_reduce_41 : decode y_Sc_reduce.2.1 41 = .ok (.getfield 108, 3) := dc9_180 (by decide +kernel)
theorem d_Sc_reduce_31 : decode y_Sc_reduce.2.1 31 = .ok (.invokevirtual 121, 3) := dc9_182 (by decide +kernel)
theorem d_Sc_reduce_34 : decode y_Sc_reduce.2.1 34 = .ok (.return_, 1) := dc9_177 (by decide +kernel)
theorem d_Sc_reduce_44 : decode y_Sc_reduce.2.1 44 = .ok (.invokevirtual 123, 3) := dc9_182 (by decide +kernel)
theorem d_Sc_reduce_47 : decode y_Sc_reduce.2.1 47 = .ok (.astore_n 2, 1) := dc9_77 (by decide +kernel)
theorem d_Sc_reduce_48 : decode y_Sc_reduce.2.1 48 = .ok (.aload_n 2, 1) := dc9_44 (by decide +kernel)
theorem d_Sc_reduce_49 : decode y_Sc_reduce.2.1 49 = .ok (.invokevirtual 126, 3) := dc9_182 (by decide +kernel)
theorem d_Sc_reduce_52 : decode y_Sc_reduce.2.1 52 = .ok (.ifCond .ne 57, 3) := dc9_154 (by decide +kernel)
theorem d_Sc_reduce_55 : decode y_Sc_reduce.2.1 55 = .ok (.aload_n 1, 1) := dc9_43 (by decide +kernel)
theorem d_Sc_reduce_56 : decode y_Sc_reduce.2.1 56 = .ok (.getfield 118, 3) := dc9_180 (by decide +kernel)
theorem d_Sc_reduce_59 : decode y_Sc_reduce.2.1 59 = .ok (.aload_n 2, 1) := dc9_44 (by decide +kernel)
theorem d_Sc_reduce_60 : decode y_Sc_reduce.2.1 60 = .ok (.aload_n 0, 1) := dc9_42 (by decide +kernel)
theorem d_Sc_reduce_61 : decode y_Sc_reduce.2.1 61 = .ok (.getfield 21, 3) := dc9_180 (by decide +kernel)
theorem d_Sc_reduce_64 : decode y_Sc_reduce.2.1 64 = .ok (.aload_n 0, 1) := dc9_42 (by decide +kernel)
theorem d_Sc_reduce_65 : decode y_Sc_reduce.2.1 65 = .ok (.getfield 24, 3) := dc9_180 (by decide +kernel)
theorem d_Sc_reduce_68 : decode y_Sc_reduce.2.1 68 = .ok (.invokevirtual 53, 3) := dc9_182 (by decide +kernel)
theorem d_Sc_reduce_71 : decode y_Sc_reduce.2.1 71 = .ok (.aload_n 1, 1) := dc9_43 (by decide +kernel)
theorem d_Sc_reduce_72 : decode y_Sc_reduce.2.1 72 = .ok (.getfield 118, 3) := dc9_180 (by decide +kernel)
theorem d_Sc_reduce_75 : decode y_Sc_reduce.2.1 75 = .ok (.aload_n 0, 1) := dc9_42 (by decide +kernel)
theorem d_Sc_reduce_76 : decode y_Sc_reduce.2.1 76 = .ok (.getfield 21, 3) := dc9_180 (by decide +kernel)
theorem d_Sc_reduce_79 : decode y_Sc_reduce.2.1 79 = .ok (.invokevirtual 69, 3) := dc9_182 (by decide +kernel)
theorem d_Sc_reduce_82 : decode y_Sc_reduce.2.1 82 = .ok (.aload_n 1, 1) := dc9_43 (by decide +kernel)
theorem d_Sc_reduce_83 : decode y_Sc_reduce.2.1 83 = .ok (.getfield 108, 3) := dc9_180 (by decide +kernel)
theorem d_Sc_reduce_86 : decode y_Sc_reduce.2.1 86 = .ok (.aload_n 2, 1) := dc9_44 (by decide +kernel)
theorem d_Sc_reduce_87 : decode y_Sc_reduce.2.1 87 = .ok (.aload_n 0, 1) := dc9_42 (by decide +kernel)
theorem d_Sc_reduce_88 : decode y_Sc_reduce.2.1 88 = .ok (.getfield 21, 3) := dc9_180 (by decide +kernel)
theorem d_Sc_reduce_91 : decode y_Sc_reduce.2.1 91 = .ok (.aload_n 0, 1) := dc9_42 (by decide +kernel)
theorem d_Sc_reduce_92 : decode y_Sc_reduce.2.1 92 = .ok (.getfield 24, 3) := dc9_180 (by decide +kernel)
theorem d_Sc_reduce_95 : decode y_Sc_reduce.2.1 95 = .ok (.invokevirtual 53, 3) := dc9_182 (by decide +kernel)
theorem d_Sc_reduce_98 : decode y_Sc_reduce.2.1 98 = .ok (.aload_n 1, 1) := dc9_43 (by decide +kernel)
theorem d_Sc_reduce_99 : decode y_Sc_reduce.2.1 99 = .ok (.getfield 108, 3) := dc9_180 (by decide +kernel)
theorem d_Sc_reduce_102 : decode y_Sc_reduce.2.1 102 = .ok (.aload_n 0, 1) := dc9_42 (by decide +kernel)
theorem d_Sc_reduce_103 : decode y_Sc_reduce.2.1 103 = .ok (.getfield 21, 3) := dc9_180 (by decide +kernel)
theorem d_Sc_reduce_106 : decode y_Sc_reduce.2.1 106 = .ok (.invokevirtual 69, 3) := dc9_182 (by decide +kernel)
theorem d_Sc_reduce_109 : decode y_Sc_reduce.2.1 109 = .ok (.return_, 1) := dc9_177 (by decide +kernel)
theorem k_Sc_reduce {G : mG} {d : Nat} {a0 : Nat} {a1 : Nat} {M : mM} {Q : mM → Prop} (hO : mOk M)
    (h : mK M a1 = 11 ∧ mK M (mR M a1 1) = 10 ∧ Cv G y_Na_multiply d [vr (mR M a1 1), vi (mI M a1 2)] M (fun M3 => mOk M3 ∧ (mK M3 a1 = 11 ∧ ∀ M7, M7 = mUI M3 a1 2 1 → mK M7 (mR M7 a1 0) = 10 ∧ ((mI M7 (mR M7 a1 0) 1 = 0) → (mK M7 (mR M7 a1 1) = 10 ∧ Cv G y_Na_put0 d [vr (mR M7 a1 1), vi 1] M7 (fun M13 => mOk M13 ∧ (Q M13)))) ∧ (¬ (mI M7 (mR M7 a1 0) 1 = 0) → (mK M7 a0 = 9 ∧ Cr G y_Sc_commonDivisor d [vr a0, vr (mR M7 a1 0), vr (mR M7 a1 1)] M7 (fun x18 M17 => mOk M17 ∧ (mK M17 x18 = 10 ∧ Ci G y_Na_isOne d [vr x18] M17 (fun x22 M21 => i32 x22 ∧ mOk M21 ∧ (((x22 = 0) → (mK M21 a1 = 11 ∧ mK M21 a0 = 9 ∧ mK M21 (mR M21 a1 0) = 10 ∧ Cv G y_Na_divide d [vr (mR M21 a1 0), vr x18, vr (mR M21 a0 2), vr (mR M21 a0 3)] M21 (fun M32 => mOk M32 ∧ (mK M32 a1 = 11 ∧ mK M32 a0 = 9 ∧ mK M32 (mR M32 a1 0) = 10 ∧ Cv G y_Na_put1 d [vr (mR M32 a1 0), vr (mR M32 a0 2)] M32 (fun M38 => mOk M38 ∧ (mK M38 a1 = 11 ∧ mK M38 a0 = 9 ∧ mK M38 (mR M38 a1 1) = 10 ∧ Cv G y_Na_divide d [vr (mR M38 a1 1), vr x18, vr (mR M38 a0 2), vr (mR M38 a0 3)] M38 (fun M44 => mOk M44 ∧ (mK M44 a1 = 11 ∧ mK M44 a0 = 9 ∧ mK M44 (mR M44 a1 1) = 10 ∧ Cv G y_Na_put1 d [vr (mR M44 a1 1), vr (mR M44 a0 2)] M44 (fun M50 => mOk M50 ∧ (Q M50)))))))))) ∧ (¬ (x22 = 0) → (Q M21))))))))))) :
    Cv G y_Sc_reduce (d + 1) [vr a0, vr a1] M Q := by
  refine wm_open (y := y_Sc_reduce) rfl (Nat.le_of_ble_eq_true rfl) (L := [vr a0, vr a1, vd]) rfl ?_
  obtain ⟨h1, h⟩ := h
  obtain ⟨h2, h⟩ := h
  refine wm_aload_n d_Sc_reduce_0 rfl rfl ?_
  refine gf_Sc_108 rfl d_Sc_reduce_1 h1 ?_
  refine wm_aload_n d_Sc_reduce_4 rfl rfl ?_
  refine gf_Sc_111 rfl d_Sc_reduce_5 h1 ?_
  refine cf_Sc_114 rfl d_Sc_reduce_8 h2 (Nat.le_of_ble_eq_true rfl) (Cv.mono h (fun M3 h => ?_))
  obtain ⟨hOM3, h⟩ := h
  obtain ⟨h6, h⟩ := h
  obtain ⟨M7, e8⟩ : ∃ M7, M7 = mUI M3 a1 2 1 := ⟨_, rfl⟩
  replace h := h M7 e8
  obtain ⟨h9, h⟩ := h
  refine wm_aload_n d_Sc_reduce_11 rfl rfl ?_
  refine wm_iconst d_Sc_reduce_12 ?_
  have hOM7 : mOk M7 := by rw [e8]; exact mOk_UI hOM3 ⟨by decide, by decide⟩
  refine pf_Sc_111 rfl d_Sc_reduce_13 h6 ⟨by decide, by decide⟩ e8 ?_
  refine wm_aload_n d_Sc_reduce_16 rfl rfl ?_
  refine gf_Sc_118 rfl d_Sc_reduce_17 (by rw [e8]; exact h6) ?_
  refine gf_Sc_57 rfl d_Sc_reduce_20 h9 ?_
  refine wm_if_ne (tgt := 35) d_Sc_reduce_23 rfl (hOM7 _ _).1 (fun c11 => ?_) (fun c11 => ?_)
  · replace h := h.2 c11
    obtain ⟨h16, h⟩ := h
    refine wm_aload_n d_Sc_reduce_35 rfl rfl ?_
    refine wm_aload_n d_Sc_reduce_36 rfl rfl ?_
    refine gf_Sc_118 rfl d_Sc_reduce_37 (by rw [e8]; exact h6) ?_
    refine wm_aload_n d_Sc_reduce_40 rfl rfl ?_
    refine gf_Sc_108 rfl d_Sc_reduce_41 (by rw [e8]; exact h6) ?_
    refine cf_Sc_123 rfl d_Sc_reduce_44 h16 (Nat.le_of_ble_eq_true rfl) (Cr.mono h (fun x18 M17 h => ?_))
    obtain ⟨hOM17, h⟩ := h
    obtain ⟨h20, h⟩ := h
    refine wm_astore_n d_Sc_reduce_47 rfl (by decide) (L' := [vr a0, vr a1, vr x18]) rfl ?_
    refine wm_aload_n d_Sc_reduce_48 rfl rfl ?_
    refine cf_Sc_126 rfl d_Sc_reduce_49 h20 (Nat.le_of_ble_eq_true rfl) (Ci.mono h (fun x22 M21 h => ?_))
    obtain ⟨h23, hOM21, h⟩ := h
    refine wm_if_ne (tgt := 109) d_Sc_reduce_52 rfl h23 (fun c28 => ?_) (fun c28 => ?_)
    · replace h := h.2 c28
      refine wm_return d_Sc_reduce_109 rfl ?_
      exact ⟨rfl, h⟩
    · replace c28 := Classical.not_not.mp c28
      replace h := h.1 c28
      obtain ⟨h29, h⟩ := h
      obtain ⟨h30, h⟩ := h
      obtain ⟨h31, h⟩ := h
      refine wm_aload_n d_Sc_reduce_55 rfl rfl ?_
      refine gf_Sc_118 rfl d_Sc_reduce_56 h29 ?_
      refine wm_aload_n d_Sc_reduce_59 rfl rfl ?_
      refine wm_aload_n d_Sc_reduce_60 rfl rfl ?_
      refine gf_Sc_21 rfl d_Sc_reduce_61 h30 ?_
      refine wm_aload_n d_Sc_reduce_64 rfl rfl ?_
      refine gf_Sc_24 rfl d_Sc_reduce_65 h30 ?_
      refine cf_Sc_53 rfl d_Sc_reduce_68 h31 (Nat.le_of_ble_eq_true rfl) (Cv.mono h (fun M32 h => ?_))
      obtain ⟨hOM32, h⟩ := h
      obtain ⟨h35, h⟩ := h
      obtain ⟨h36, h⟩ := h
      obtain ⟨h37, h⟩ := h
      refine wm_aload_n d_Sc_reduce_71 rfl rfl ?_
      refine gf_Sc_118 rfl d_Sc_reduce_72 h35 ?_
      refine wm_aload_n d_Sc_reduce_75 rfl rfl ?_
      refine gf_Sc_21 rfl d_Sc_reduce_76 h36 ?_
      refine cf_Sc_69 rfl d_Sc_reduce_79 h37 (Nat.le_of_ble_eq_true rfl) (Cv.mono h (fun M38 h => ?_))
      obtain ⟨hOM38, h⟩ := h
      obtain ⟨h41, h⟩ := h
      obtain ⟨h42, h⟩ := h
      obtain ⟨h43, h⟩ := h
      refine wm_aload_n d_Sc_reduce_82 rfl rfl ?_
      refine gf_Sc_108 rfl d_Sc_reduce_83 h41 ?_
      refine wm_aload_n d_Sc_reduce_86 rfl rfl ?_
      refine wm_aload_n d_Sc_reduce_87 rfl rfl ?_
      refine gf_Sc_21 rfl d_Sc_reduce_88 h42 ?_
      refine wm_aload_n d_Sc_reduce_91 rfl rfl ?_
      refine gf_Sc_24 rfl d_Sc_reduce_92 h42 ?_
      refine cf_Sc_53 rfl d_Sc_reduce_95 h43 (Nat.le_of_ble_eq_true rfl) (Cv.mono h (fun M44 h => ?_))
      obtain ⟨hOM44, h⟩ := h
      obtain ⟨h47, h⟩ := h
      obtain ⟨h48, h⟩ := h
      obtain ⟨h49, h⟩ := h
      refine wm_aload_n d_Sc_reduce_98 rfl rfl ?_
      refine gf_Sc_108 rfl d_Sc_reduce_99 h47 ?_
      refine wm_aload_n d_Sc_reduce_102 rfl rfl ?_
      refine gf_Sc_21 rfl d_Sc_reduce_103 h48 ?_
      refine cf_Sc_69 rfl d_Sc_reduce_106 h49 (Nat.le_of_ble_eq_true rfl) (Cv.mono h (fun M50 h => ?_))
      obtain ⟨hOM50, h⟩ := h
      refine wm_return d_Sc_reduce_109 rfl ?_
      exact ⟨rfl, h⟩
  · replace c11 := Classical.not_not.mp c11
    replace h := h.1 c11
    obtain ⟨h12, h⟩ := h
    refine wm_aload_n d_Sc_reduce_26 rfl rfl ?_
    refine gf_Sc_108 rfl d_Sc_reduce_27 (by rw [e8]; exact h6) ?_
    refine wm_iconst d_Sc_reduce_30 ?_
    refine cf_Sc_121 rfl d_Sc_reduce_31 h12 (Nat.le_of_ble_eq_true rfl) (Cv.mono h (fun M13 h => ?_))
    obtain ⟨hOM13, h⟩ := h
    refine wm_return d_Sc_reduce_34 rfl ?_
    exact ⟨rfl, h⟩
theorem d_Sc_order_0 : decode y_Sc_order.2.1 0 = .ok (.aload_n 1, 1) := dc9_43 (by decide +kernel)
theorem d_Sc_order_1 : decode y_Sc_order.2.1 1 = .ok (.getfield 108, 3) := dc9_180 (by decide +kernel)
theorem d_Sc_order_4 : decode y_Sc_order.2.1 4 = .ok (.aload_n 2, 1) := dc9_44 (by decide +kernel)
theorem d_Sc_order_5 : decode y_Sc_order.2.1 5 = .ok (.getfield 108, 3) := dc9_180 (by decide +kernel)
theorem d_Sc_order_8 : decode y_Sc_order.2.1 8 = .ok (.invokestatic 65, 3) := dc9_184 (by decide +kernel)
theorem d_Sc_order_11 : decode y_Sc_order.2.1 11 = .ok (.ifCond .ne 28, 3) := dc9_154 (by decide +kernel)
theorem d_Sc_order_14 : decode y_Sc_order.2.1 14 = .ok (.aload_n 0, 1) := dc9_42 (by decide +kernel)
theorem d_Sc_order_15 : decode y_Sc_order.2.1 15 = .ok (.getfield 27, 3) := dc9_180 (by decide +kernel)
theorem d_Sc_order_18 : decode y_Sc_order.2.1 18 = .ok (.aload_n 1, 1) := dc9_43 (by decide +kernel)
theorem d_Sc_order_19 : decode y_Sc_order.2.1 19 = .ok (.getfield 118, 3) := dc9_180 (by decide +kernel)
theorem d_Sc_order_39 : decode y_Sc_order.2.1 39 = .ok (.aload_n 0, 1) := dc9_42 (by decide +kernel)
theorem d_Sc_order_40 : decode y_Sc_order.2.1 40 = .ok (.getfield 27, 3) := dc9_180 (by decide +kernel)
theorem d_Sc_order_43 : decode y_Sc_order.2.1 43 = .ok (.aload_n 1, 1) := dc9_43 (by decide +kernel)
theorem d_Sc_order_44 : decode y_Sc_order.2.1 44 = .ok (.getfield 118, 3) := dc9_180 (by decide +kernel)
theorem d_Sc_order_47 : decode y_Sc_order.2.1 47 = .ok (.aload_n 2, 1) := dc9_44 (by decide +kernel)
theorem d_Sc_order_48 : decode y_Sc_order.2.1 48 = .ok (.getfield 108, 3) := dc9_180 (by decide +kernel)
theorem d_Sc_order_22 : decode y_Sc_order.2.1 22 = .ok (.invokevirtual 69, 3) := dc9_182 (by decide +kernel)
theorem d_Sc_order_25 : decode y_Sc_order.2.1 25 = .ok (.aload_n 0, 1) := dc9_42 (by decide +kernel)
theorem d_Sc_order_26 : decode y_Sc_order.2.1 26 = .ok (.getfield 30, 3) := dc9_180 (by decide +kernel)
theorem d_Sc_order_29 : decode y_Sc_order.2.1 29 = .ok (.aload_n 2, 1) := dc9_44 (by decide +kernel)
theorem d_Sc_order_30 : decode y_Sc_order.2.1 30 = .ok (.getfield 118, 3) := dc9_180 (by decide +kernel)
theorem d_Sc_order_33 : decode y_Sc_order.2.1 33 = .ok (.invokevirtual 69, 3) := dc9_182 (by decide +kernel)
theorem d_Sc_order_36 : decode y_Sc_order.2.1 36 = .ok (.goto 33, 3) := dc9_167 (by decide +kernel)
theorem d_Sc_order_69 : decode y_Sc_order.2.1 69 = .ok (.aload_n 0, 1) := dc9_42 (by decide +kernel)
theorem d_Sc_order_70 : decode y_Sc_order.2.1 70 = .ok (.getfield 27, 3) := dc9_180 (by decide +kernel)
theorem d_Sc_order_73 : decode y_Sc_order.2.1 73 = .ok (.aload_n 2, 1) := dc9_44 (by decide +kernel)
theorem d_Sc_order_74 : decode y_Sc_order.2.1 74 = .ok (.getfield 111, 3) := dc9_180 (by decide +kernel)
theorem d_Sc_order_77 : decode y_Sc_order.2.1 77 = .ok (.invokevirtual 114, 3) := dc9_182 (by decide +kernel)
theorem d_Sc_order_80 : decode y_Sc_order.2.1 80 = .ok (.aload_n 0, 1) := dc9_42 (by decide +kernel)
theorem d_Sc_order_81 : decode y_Sc_order.2.1 81 = .ok (.getfield 30, 3) := dc9_180 (by decide +kernel)
theorem d_Sc_order_84 : decode y_Sc_order.2.1 84 = .ok (.aload_n 1, 1) := dc9_43 (by decide +kernel)
theorem d_Sc_order_85 : decode y_Sc_order.2.1 85 = .ok (.getfield 111, 3) := dc9_180 (by decide +kernel)
theorem d_Sc_order_88 : decode y_Sc_order.2.1 88 = .ok (.invokevirtual 114, 3) := dc9_182 (by decide +kernel)
theorem d_Sc_order_91 : decode y_Sc_order.2.1 91 = .ok (.aload_n 0, 1) := dc9_42 (by decide +kernel)
theorem d_Sc_order_92 : decode y_Sc_order.2.1 92 = .ok (.getfield 27, 3) := dc9_180 (by decide +kernel)
theorem d_Sc_order_95 : decode y_Sc_order.2.1 95 = .ok (.aload_n 0, 1) := dc9_42 (by decide +kernel)
theorem d_Sc_order_96 : decode y_Sc_order.2.1 96 = .ok (.getfield 30, 3) := dc9_180 (by decide +kernel)
theorem d_Sc_order_99 : decode y_Sc_order.2.1 99 = .ok (.invokestatic 65, 3) := dc9_184 (by decide +kernel)
theorem d_Sc_order_102 : decode y_Sc_order.2.1 102 = .ok (.ireturn, 1) := dc9_172 (by decide +kernel)
theorem d_Sc_order_51 : decode y_Sc_order.2.1 51 = .ok (.invokevirtual 130, 3) := dc9_182 (by decide +kernel)
theorem d_Sc_order_54 : decode y_Sc_order.2.1 54 = .ok (.aload_n 0, 1) := dc9_42 (by decide +kernel)
theorem d_Sc_order_55 : decode y_Sc_order.2.1 55 = .ok (.getfield 30, 3) := dc9_180 (by decide +kernel)
theorem d_Sc_order_58 : decode y_Sc_order.2.1 58 = .ok (.aload_n 2, 1) := dc9_44 (by decide +kernel)
theorem d_Sc_order_59 : decode y_Sc_order.2.1 59 = .ok (.getfield 118, 3) := dc9_180 (by decide +kernel)
theorem d_Sc_order_62 : decode y_Sc_order.2.1 62 = .ok (.aload_n 1, 1) := dc9_43 (by decide +kernel)
theorem d_Sc_order_63 : decode y_Sc_order.2.1 63 = .ok (.getfield 108, 3) := dc9_180 (by decide +kernel)
theorem d_Sc_order_66 : decode y_Sc_order.2.1 66 = .ok (.invokevirtual 130, 3) := dc9_182 (by decide +kernel)
theorem k_Sc_order {G : mG} {d : Nat} {a0 : Nat} {a1 : Nat} {a2 : Nat} {M : mM} {Q : Int → mM → Prop} (hO : mOk M)
    (h : mK M a1 = 11 ∧ mK M a2 = 11 ∧ Ci G y_Na_order d [vr (mR M a1 1), vr (mR M a2 1)] M (fun x4 M3 => i32 x4 ∧ mOk M3 ∧ (((x4 = 0) → (mK M3 a0 = 9 ∧ mK M3 a1 = 11 ∧ mK M3 (mR M3 a0 4) = 10 ∧ Cv G y_Na_put1 d [vr (mR M3 a0 4), vr (mR M3 a1 0)] M3 (fun M14 => mOk M14 ∧ (mK M14 a0 = 9 ∧ mK M14 a2 = 11 ∧ mK M14 (mR M14 a0 5) = 10 ∧ Cv G y_Na_put1 d [vr (mR M14 a0 5), vr (mR M14 a2 0)] M14 (fun M20 => mOk M20 ∧ (mK M20 a0 = 9 ∧ mK M20 a2 = 11 ∧ mK M20 (mR M20 a0 4) = 10 ∧ Cv G y_Na_multiply d [vr (mR M20 a0 4), vi (mI M20 a2 2)] M20 (fun M26 => mOk M26 ∧ (mK M26 a0 = 9 ∧ mK M26 a1 = 11 ∧ mK M26 (mR M26 a0 5) = 10 ∧ Cv G y_Na_multiply d [vr (mR M26 a0 5), vi (mI M26 a1 2)] M26 (fun M32 => mOk M32 ∧ (mK M32 a0 = 9 ∧ Ci G y_Na_order d [vr (mR M32 a0 4), vr (mR M32 a0 5)] M32 (fun x37 M36 => i32 x37 ∧ mOk M36 ∧ (Q x37 M36)))))))))))) ∧ (¬ (x4 = 0) → (mK M3 a0 = 9 ∧ mK M3 a1 = 11 ∧ mK M3 a2 = 11 ∧ mK M3 (mR M3 a0 4) = 10 ∧ Cv G y_Na_putProduct d [vr (mR M3 a0 4), vr (mR M3 a1 0), vr (mR M3 a2 1)] M3 (fun M43 => mOk M43 ∧ (mK M43 a0 = 9 ∧ mK M43 a2 = 11 ∧ mK M43 a1 = 11 ∧ mK M43 (mR M43 a0 5) = 10 ∧ Cv G y_Na_putProduct d [vr (mR M43 a0 5), vr (mR M43 a2 0), vr (mR M43 a1 1)] M43 (fun M50 => mOk M50 ∧ (mK M50 a0 = 9 ∧ mK M50 a2 = 11 ∧ mK M50 (mR M50 a0 4) = 10 ∧ Cv G y_Na_multiply d [vr (mR M50 a0 4), vi (mI M50 a2 2)] M50 (fun M56 => mOk M56 ∧ (mK M56 a0 = 9 ∧ mK M56 a1 = 11 ∧ mK M56 (mR M56 a0 5) = 10 ∧ Cv G y_Na_multiply d [vr (mR M56 a0 5), vi (mI M56 a1 2)] M56 (fun M62 => mOk M62 ∧ (mK M62 a0 = 9 ∧ Ci G y_Na_order d [vr (mR M62 a0 4), vr (mR M62 a0 5)] M62 (fun x67 M66 => i32 x67 ∧ mOk M66 ∧ (Q x67 M66))))))))))))))) :
    Ci G y_Sc_order (d + 1) [vr a0, vr a1, vr a2] M Q := by
  refine wm_open (y := y_Sc_order) rfl (Nat.le_of_ble_eq_true rfl) (L := [vr a0, vr a1, vr a2]) rfl ?_
  obtain ⟨h1, h⟩ := h
  obtain ⟨h2, h⟩ := h
  refine wm_aload_n d_Sc_order_0 rfl rfl ?_
  refine gf_Sc_108 rfl d_Sc_order_1 h1 ?_
  refine wm_aload_n d_Sc_order_4 rfl rfl ?_
  refine gf_Sc_108 rfl d_Sc_order_5 h2 ?_
  refine cf_Sc_65 rfl d_Sc_order_8 (Nat.le_of_ble_eq_true rfl) (Ci.mono h (fun x4 M3 h => ?_))
  obtain ⟨h5, hOM3, h⟩ := h
  refine wm_if_ne (tgt := 39) d_Sc_order_11 rfl h5 (fun c10 => ?_) (fun c10 => ?_)
  · replace h := h.2 c10
    obtain ⟨h39, h⟩ := h
    obtain ⟨h40, h⟩ := h
    obtain ⟨h41, h⟩ := h
    obtain ⟨h42, h⟩ := h
    refine wm_aload_n d_Sc_order_39 rfl rfl ?_
    refine gf_Sc_27 rfl d_Sc_order_40 h39 ?_
    refine wm_aload_n d_Sc_order_43 rfl rfl ?_
    refine gf_Sc_118 rfl d_Sc_order_44 h40 ?_
    refine wm_aload_n d_Sc_order_47 rfl rfl ?_
    refine gf_Sc_108 rfl d_Sc_order_48 h41 ?_
    refine cf_Sc_130 rfl d_Sc_order_51 h42 (Nat.le_of_ble_eq_true rfl) (Cv.mono h (fun M43 h => ?_))
    obtain ⟨hOM43, h⟩ := h
    obtain ⟨h46, h⟩ := h
    obtain ⟨h47, h⟩ := h
    obtain ⟨h48, h⟩ := h
    obtain ⟨h49, h⟩ := h
    refine wm_aload_n d_Sc_order_54 rfl rfl ?_
    refine gf_Sc_30 rfl d_Sc_order_55 h46 ?_
    refine wm_aload_n d_Sc_order_58 rfl rfl ?_
    refine gf_Sc_118 rfl d_Sc_order_59 h47 ?_
    refine wm_aload_n d_Sc_order_62 rfl rfl ?_
    refine gf_Sc_108 rfl d_Sc_order_63 h48 ?_
    refine cf_Sc_130 rfl d_Sc_order_66 h49 (Nat.le_of_ble_eq_true rfl) (Cv.mono h (fun M50 h => ?_))
    obtain ⟨hOM50, h⟩ := h
    obtain ⟨h53, h⟩ := h
    obtain ⟨h54, h⟩ := h
    obtain ⟨h55, h⟩ := h
    refine wm_aload_n d_Sc_order_69 rfl rfl ?_
    refine gf_Sc_27 rfl d_Sc_order_70 h53 ?_
    refine wm_aload_n d_Sc_order_73 rfl rfl ?_
    refine gf_Sc_111 rfl d_Sc_order_74 h54 ?_
    refine cf_Sc_114 rfl d_Sc_order_77 h55 (Nat.le_of_ble_eq_true rfl) (Cv.mono h (fun M56 h => ?_))
    obtain ⟨hOM56, h⟩ := h
    obtain ⟨h59, h⟩ := h
    obtain ⟨h60, h⟩ := h
    obtain ⟨h61, h⟩ := h
    refine wm_aload_n d_Sc_order_80 rfl rfl ?_
    refine gf_Sc_30 rfl d_Sc_order_81 h59 ?_
    refine wm_aload_n d_Sc_order_84 rfl rfl ?_
    refine gf_Sc_111 rfl d_Sc_order_85 h60 ?_
    refine cf_Sc_114 rfl d_Sc_order_88 h61 (Nat.le_of_ble_eq_true rfl) (Cv.mono h (fun M62 h => ?_))
    obtain ⟨hOM62, h⟩ := h
    obtain ⟨h65, h⟩ := h
    refine wm_aload_n d_Sc_order_91 rfl rfl ?_
    refine gf_Sc_27 rfl d_Sc_order_92 h65 ?_
    refine wm_aload_n d_Sc_order_95 rfl rfl ?_
    refine gf_Sc_30 rfl d_Sc_order_96 h65 ?_
    refine cf_Sc_65 rfl d_Sc_order_99 (Nat.le_of_ble_eq_true rfl) (Ci.mono h (fun x67 M66 h => ?_))
    obtain ⟨h68, hOM66, h⟩ := h
    refine wm_ireturn d_Sc_order_102 rfl rfl ?_
    exact ⟨_, rfl, h⟩
  · replace c10 := Classical.not_not.mp c10
    replace h := h.1 c10
    obtain ⟨h11, h⟩ := h
    obtain ⟨h12, h⟩ := h
    obtain ⟨h13, h⟩ := h
    refine wm_aload_n d_Sc_order_14 rfl rfl ?_
    refine gf_Sc_27 rfl d_Sc_order_15 h11 ?_
    refine wm_aload_n d_Sc_order_18 rfl rfl ?_
    refine gf_Sc_118 rfl d_Sc_order_19 h12 ?_
    refine cf_Sc_69 rfl d_Sc_order_22 h13 (Nat.le_of_ble_eq_true rfl) (Cv.mono h (fun M14 h => ?_))
    obtain ⟨hOM14, h⟩ := h
    obtain ⟨h17, h⟩ := h
    obtain ⟨h18, h⟩ := h
    obtain ⟨h19, h⟩ := h
    refine wm_aload_n d_Sc_order_25 rfl rfl ?_
    refine gf_Sc_30 rfl d_Sc_order_26 h17 ?_
    refine wm_aload_n d_Sc_order_29 rfl rfl ?_
    refine gf_Sc_118 rfl d_Sc_order_30 h18 ?_
    refine cf_Sc_69 rfl d_Sc_order_33 h19 (Nat.le_of_ble_eq_true rfl) (Cv.mono h (fun M20 h => ?_))
    obtain ⟨hOM20, h⟩ := h
    obtain ⟨h23, h⟩ := h
    obtain ⟨h24, h⟩ := h
    obtain ⟨h25, h⟩ := h
    refine wm_goto (tgt := 69) d_Sc_order_36 rfl ?_
    refine wm_aload_n d_Sc_order_69 rfl rfl ?_
    refine gf_Sc_27 rfl d_Sc_order_70 h23 ?_
    refine wm_aload_n d_Sc_order_73 rfl rfl ?_
    refine gf_Sc_111 rfl d_Sc_order_74 h24 ?_
    refine cf_Sc_114 rfl d_Sc_order_77 h25 (Nat.le_of_ble_eq_true rfl) (Cv.mono h (fun M26 h => ?_))
    obtain ⟨hOM26, h⟩ := h
    obtain ⟨h29, h⟩ := h
    obtain ⟨h30, h⟩ := h
    obtain ⟨h31, h⟩ := h
    refine wm_aload_n d_Sc_order_80 rfl rfl ?_
    refine gf_Sc_30 rfl d_Sc_order_81 h29 ?_
    refine wm_aload_n d_Sc_order_84 rfl rfl ?_
    refine gf_Sc_111 rfl d_Sc_order_85 h30 ?_
    refine cf_Sc_114 rfl d_Sc_order_88 h31 (Nat.le_of_ble_eq_true rfl) (Cv.mono h (fun M32 h => ?_))
    obtain ⟨hOM32, h⟩ := h
    obtain ⟨h35, h⟩ := h
    refine wm_aload_n d_Sc_order_91 rfl rfl ?_
    refine gf_Sc_27 rfl d_Sc_order_92 h35 ?_
    refine wm_aload_n d_Sc_order_95 rfl rfl ?_
    refine gf_Sc_30 rfl d_Sc_order_96 h35 ?_
    refine cf_Sc_65 rfl d_Sc_order_99 (Nat.le_of_ble_eq_true rfl) (Ci.mono h (fun x37 M36 h => ?_))
    obtain ⟨h38, hOM36, h⟩ := h
    refine wm_ireturn d_Sc_order_102 rfl rfl ?_
    exact ⟨_, rfl, h⟩
theorem d_Sc_weigh_0 : decode y_Sc_weigh.2.1 0 = .ok (.aload 4, 2) := dc9_25 (by decide +kernel)
theorem d_Sc_weigh_2 : decode y_Sc_weigh.2.1 2 = .ok (.iconst 0, 1) := dc9_3 (by decide +kernel)
theorem d_Sc_weigh_3 : decode y_Sc_weigh.2.1 3 = .ok (.invokevirtual 134, 3) := dc9_182 (by decide +kernel)
theorem d_Sc_weigh_6 : decode y_Sc_weigh.2.1 6 = .ok (.aload 4, 2) := dc9_25 (by decide +kernel)
theorem d_Sc_weigh_8 : decode y_Sc_weigh.2.1 8 = .ok (.aload_n 1, 1) := dc9_43 (by decide +kernel)
theorem d_Sc_weigh_9 : decode y_Sc_weigh.2.1 9 = .ok (.getfield 135, 3) := dc9_180 (by decide +kernel)
theorem d_Sc_weigh_12 : decode y_Sc_weigh.2.1 12 = .ok (.iload_n 2, 1) := dc9_28 (by decide +kernel)
theorem d_Sc_weigh_13 : decode y_Sc_weigh.2.1 13 = .ok (.iaload, 1) := dc9_46 (by decide +kernel)
theorem d_Sc_weigh_14 : decode y_Sc_weigh.2.1 14 = .ok (.putfield 111, 3) := dc9_181 (by decide +kernel)
theorem d_Sc_weigh_17 : decode y_Sc_weigh.2.1 17 = .ok (.aload_n 1, 1) := dc9_43 (by decide +kernel)
theorem d_Sc_weigh_18 : decode y_Sc_weigh.2.1 18 = .ok (.getfield 140, 3) := dc9_180 (by decide +kernel)
theorem d_Sc_weigh_21 : decode y_Sc_weigh.2.1 21 = .ok (.iload_n 2, 1) := dc9_28 (by decide +kernel)
theorem d_Sc_weigh_22 : decode y_Sc_weigh.2.1 22 = .ok (.iaload, 1) := dc9_46 (by decide +kernel)
theorem d_Sc_weigh_23 : decode y_Sc_weigh.2.1 23 = .ok (.istore 5, 2) := dc9_54 (by decide +kernel)
theorem d_Sc_weigh_25 : decode y_Sc_weigh.2.1 25 = .ok (.iload 5, 2) := dc9_21 (by decide +kernel)
theorem d_Sc_weigh_27 : decode y_Sc_weigh.2.1 27 = .ok (.aload_n 1, 1) := dc9_43 (by decide +kernel)
theorem d_Sc_weigh_28 : decode y_Sc_weigh.2.1 28 = .ok (.getfield 140, 3) := dc9_180 (by decide +kernel)
theorem d_Sc_weigh_31 : decode y_Sc_weigh.2.1 31 = .ok (.iload_n 2, 1) := dc9_28 (by decide +kernel)
theorem d_Sc_weigh_32 : decode y_Sc_weigh.2.1 32 = .ok (.iconst 1, 1) := dc9_4 (by decide +kernel)
theorem d_Sc_weigh_33 : decode y_Sc_weigh.2.1 33 = .ok (.iadd, 1) := dc9_96 (by decide +kernel)
theorem d_Sc_weigh_34 : decode y_Sc_weigh.2.1 34 = .ok (.iaload, 1) := dc9_46 (by decide +kernel)
theorem d_Sc_weigh_35 : decode y_Sc_weigh.2.1 35 = .ok (.if_icmp .ge 262, 3) := dc9_162 (by decide +kernel)
theorem d_Sc_weigh_297 : decode y_Sc_weigh.2.1 297 = .ok (.return_, 1) := dc9_177 (by decide +kernel)
theorem d_Sc_weigh_38 : decode y_Sc_weigh.2.1 38 = .ok (.aload_n 3, 1) := dc9_45 (by decide +kernel)
theorem d_Sc_weigh_39 : decode y_Sc_weigh.2.1 39 = .ok (.getfield 143, 3) := dc9_180 (by decide +kernel)
theorem d_Sc_weigh_42 : decode y_Sc_weigh.2.1 42 = .ok (.aload_n 1, 1) := dc9_43 (by decide +kernel)
theorem d_Sc_weigh_43 : decode y_Sc_weigh.2.1 43 = .ok (.getfield 149, 3) := dc9_180 (by decide +kernel)
theorem d_Sc_weigh_46 : decode y_Sc_weigh.2.1 46 = .ok (.iload 5, 2) := dc9_21 (by decide +kernel)
theorem d_Sc_weigh_48 : decode y_Sc_weigh.2.1 48 = .ok (.iaload, 1) := dc9_46 (by decide +kernel)
theorem d_Sc_weigh_49 : decode y_Sc_weigh.2.1 49 = .ok (.aaload, 1) := dc9_50 (by decide +kernel)
theorem d_Sc_weigh_50 : decode y_Sc_weigh.2.1 50 = .ok (.astore 6, 2) := dc9_58 (by decide +kernel)
theorem d_Sc_weigh_52 : decode y_Sc_weigh.2.1 52 = .ok (.aload_n 1, 1) := dc9_43 (by decide +kernel)
theorem d_Sc_weigh_53 : decode y_Sc_weigh.2.1 53 = .ok (.getfield 152, 3) := dc9_180 (by decide +kernel)
theorem d_Sc_weigh_56 : decode y_Sc_weigh.2.1 56 = .ok (.iload 5, 2) := dc9_21 (by decide +kernel)
theorem d_Sc_weigh_58 : decode y_Sc_weigh.2.1 58 = .ok (.iaload, 1) := dc9_46 (by decide +kernel)
theorem d_Sc_weigh_59 : decode y_Sc_weigh.2.1 59 = .ok (.istore 7, 2) := dc9_54 (by decide +kernel)
theorem d_Sc_weigh_61 : decode y_Sc_weigh.2.1 61 = .ok (.aload 6, 2) := dc9_25 (by decide +kernel)
theorem d_Sc_weigh_63 : decode y_Sc_weigh.2.1 63 = .ok (.getfield 118, 3) := dc9_180 (by decide +kernel)
theorem d_Sc_weigh_66 : decode y_Sc_weigh.2.1 66 = .ok (.getfield 57, 3) := dc9_180 (by decide +kernel)
theorem d_Sc_weigh_69 : decode y_Sc_weigh.2.1 69 = .ok (.ifCond .ne 6, 3) := dc9_154 (by decide +kernel)
theorem d_Sc_weigh_72 : decode y_Sc_weigh.2.1 72 = .ok (.goto 219, 3) := dc9_167 (by decide +kernel)
theorem d_Sc_weigh_75 : decode y_Sc_weigh.2.1 75 = .ok (.aload 4, 2) := dc9_25 (by decide +kernel)
theorem d_Sc_weigh_77 : decode y_Sc_weigh.2.1 77 = .ok (.getfield 108, 3) := dc9_180 (by decide +kernel)
theorem d_Sc_weigh_80 : decode y_Sc_weigh.2.1 80 = .ok (.aload 6, 2) := dc9_25 (by decide +kernel)
theorem d_Sc_weigh_82 : decode y_Sc_weigh.2.1 82 = .ok (.getfield 108, 3) := dc9_180 (by decide +kernel)
theorem d_Sc_weigh_85 : decode y_Sc_weigh.2.1 85 = .ok (.invokestatic 65, 3) := dc9_184 (by decide +kernel)
theorem d_Sc_weigh_88 : decode y_Sc_weigh.2.1 88 = .ok (.ifCond .ne 21, 3) := dc9_154 (by decide +kernel)
theorem d_Sc_weigh_91 : decode y_Sc_weigh.2.1 91 = .ok (.aload 4, 2) := dc9_25 (by decide +kernel)
theorem d_Sc_weigh_93 : decode y_Sc_weigh.2.1 93 = .ok (.getfield 118, 3) := dc9_180 (by decide +kernel)
theorem d_Sc_weigh_96 : decode y_Sc_weigh.2.1 96 = .ok (.aload 6, 2) := dc9_25 (by decide +kernel)
theorem d_Sc_weigh_98 : decode y_Sc_weigh.2.1 98 = .ok (.getfield 118, 3) := dc9_180 (by decide +kernel)
theorem d_Sc_weigh_101 : decode y_Sc_weigh.2.1 101 = .ok (.iload 7, 2) := dc9_21 (by decide +kernel)
theorem d_Sc_weigh_109 : decode y_Sc_weigh.2.1 109 = .ok (.aload_n 0, 1) := dc9_42 (by decide +kernel)
theorem d_Sc_weigh_110 : decode y_Sc_weigh.2.1 110 = .ok (.aload 4, 2) := dc9_25 (by decide +kernel)
theorem d_Sc_weigh_112 : decode y_Sc_weigh.2.1 112 = .ok (.getfield 108, 3) := dc9_180 (by decide +kernel)
theorem d_Sc_weigh_115 : decode y_Sc_weigh.2.1 115 = .ok (.aload 6, 2) := dc9_25 (by decide +kernel)
theorem d_Sc_weigh_117 : decode y_Sc_weigh.2.1 117 = .ok (.getfield 108, 3) := dc9_180 (by decide +kernel)
theorem d_Sc_weigh_103 : decode y_Sc_weigh.2.1 103 = .ok (.invokevirtual 155, 3) := dc9_182 (by decide +kernel)
theorem d_Sc_weigh_106 : decode y_Sc_weigh.2.1 106 = .ok (.goto 185, 3) := dc9_167 (by decide +kernel)
theorem d_Sc_weigh_120 : decode y_Sc_weigh.2.1 120 = .ok (.invokevirtual 123, 3) := dc9_182 (by decide +kernel)
theorem d_Sc_weigh_123 : decode y_Sc_weigh.2.1 123 = .ok (.astore 8, 2) := dc9_58 (by decide +kernel)
theorem d_Sc_weigh_125 : decode y_Sc_weigh.2.1 125 = .ok (.aload_n 0, 1) := dc9_42 (by decide +kernel)
theorem d_Sc_weigh_126 : decode y_Sc_weigh.2.1 126 = .ok (.getfield 37, 3) := dc9_180 (by decide +kernel)
theorem d_Sc_weigh_129 : decode y_Sc_weigh.2.1 129 = .ok (.aload 4, 2) := dc9_25 (by decide +kernel)
theorem d_Sc_weigh_131 : decode y_Sc_weigh.2.1 131 = .ok (.getfield 108, 3) := dc9_180 (by decide +kernel)
theorem d_Sc_weigh_134 : decode y_Sc_weigh.2.1 134 = .ok (.invokevirtual 69, 3) := dc9_182 (by decide +kernel)
theorem d_Sc_weigh_137 : decode y_Sc_weigh.2.1 137 = .ok (.aload_n 0, 1) := dc9_42 (by decide +kernel)
theorem d_Sc_weigh_138 : decode y_Sc_weigh.2.1 138 = .ok (.getfield 37, 3) := dc9_180 (by decide +kernel)
theorem d_Sc_weigh_141 : decode y_Sc_weigh.2.1 141 = .ok (.aload 8, 2) := dc9_25 (by decide +kernel)
theorem d_Sc_weigh_143 : decode y_Sc_weigh.2.1 143 = .ok (.aload_n 0, 1) := dc9_42 (by decide +kernel)
theorem d_Sc_weigh_144 : decode y_Sc_weigh.2.1 144 = .ok (.getfield 21, 3) := dc9_180 (by decide +kernel)
theorem d_Sc_weigh_147 : decode y_Sc_weigh.2.1 147 = .ok (.aload_n 0, 1) := dc9_42 (by decide +kernel)
theorem d_Sc_weigh_148 : decode y_Sc_weigh.2.1 148 = .ok (.getfield 24, 3) := dc9_180 (by decide +kernel)
theorem d_Sc_weigh_151 : decode y_Sc_weigh.2.1 151 = .ok (.invokevirtual 53, 3) := dc9_182 (by decide +kernel)
theorem d_Sc_weigh_154 : decode y_Sc_weigh.2.1 154 = .ok (.aload_n 0, 1) := dc9_42 (by decide +kernel)
theorem d_Sc_weigh_155 : decode y_Sc_weigh.2.1 155 = .ok (.getfield 37, 3) := dc9_180 (by decide +kernel)
theorem d_Sc_weigh_158 : decode y_Sc_weigh.2.1 158 = .ok (.aload_n 0, 1) := dc9_42 (by decide +kernel)
theorem d_Sc_weigh_159 : decode y_Sc_weigh.2.1 159 = .ok (.getfield 21, 3) := dc9_180 (by decide +kernel)
theorem d_Sc_weigh_162 : decode y_Sc_weigh.2.1 162 = .ok (.invokevirtual 69, 3) := dc9_182 (by decide +kernel)
theorem d_Sc_weigh_165 : decode y_Sc_weigh.2.1 165 = .ok (.aload_n 0, 1) := dc9_42 (by decide +kernel)
theorem d_Sc_weigh_166 : decode y_Sc_weigh.2.1 166 = .ok (.getfield 40, 3) := dc9_180 (by decide +kernel)
theorem d_Sc_weigh_169 : decode y_Sc_weigh.2.1 169 = .ok (.aload 6, 2) := dc9_25 (by decide +kernel)
theorem d_Sc_weigh_171 : decode y_Sc_weigh.2.1 171 = .ok (.getfield 108, 3) := dc9_180 (by decide +kernel)
theorem d_Sc_weigh_174 : decode y_Sc_weigh.2.1 174 = .ok (.invokevirtual 69, 3) := dc9_182 (by decide +kernel)
theorem d_Sc_weigh_177 : decode y_Sc_weigh.2.1 177 = .ok (.aload_n 0, 1) := dc9_42 (by decide +kernel)
theorem d_Sc_weigh_178 : decode y_Sc_weigh.2.1 178 = .ok (.getfield 40, 3) := dc9_180 (by decide +kernel)
theorem d_Sc_weigh_181 : decode y_Sc_weigh.2.1 181 = .ok (.aload 8, 2) := dc9_25 (by decide +kernel)
theorem d_Sc_weigh_183 : decode y_Sc_weigh.2.1 183 = .ok (.aload_n 0, 1) := dc9_42 (by decide +kernel)
theorem d_Sc_weigh_184 : decode y_Sc_weigh.2.1 184 = .ok (.getfield 21, 3) := dc9_180 (by decide +kernel)
theorem d_Sc_weigh_187 : decode y_Sc_weigh.2.1 187 = .ok (.aload_n 0, 1) := dc9_42 (by decide +kernel)
theorem d_Sc_weigh_188 : decode y_Sc_weigh.2.1 188 = .ok (.getfield 24, 3) := dc9_180 (by decide +kernel)
theorem d_Sc_weigh_191 : decode y_Sc_weigh.2.1 191 = .ok (.invokevirtual 53, 3) := dc9_182 (by decide +kernel)
theorem d_Sc_weigh_194 : decode y_Sc_weigh.2.1 194 = .ok (.aload_n 0, 1) := dc9_42 (by decide +kernel)
theorem d_Sc_weigh_195 : decode y_Sc_weigh.2.1 195 = .ok (.getfield 40, 3) := dc9_180 (by decide +kernel)
theorem d_Sc_weigh_198 : decode y_Sc_weigh.2.1 198 = .ok (.aload_n 0, 1) := dc9_42 (by decide +kernel)
theorem d_Sc_weigh_199 : decode y_Sc_weigh.2.1 199 = .ok (.getfield 21, 3) := dc9_180 (by decide +kernel)
theorem d_Sc_weigh_202 : decode y_Sc_weigh.2.1 202 = .ok (.invokevirtual 69, 3) := dc9_182 (by decide +kernel)
theorem d_Sc_weigh_205 : decode y_Sc_weigh.2.1 205 = .ok (.aload_n 0, 1) := dc9_42 (by decide +kernel)
theorem d_Sc_weigh_206 : decode y_Sc_weigh.2.1 206 = .ok (.getfield 30, 3) := dc9_180 (by decide +kernel)
theorem d_Sc_weigh_209 : decode y_Sc_weigh.2.1 209 = .ok (.aload 4, 2) := dc9_25 (by decide +kernel)
theorem d_Sc_weigh_211 : decode y_Sc_weigh.2.1 211 = .ok (.getfield 118, 3) := dc9_180 (by decide +kernel)
theorem d_Sc_weigh_214 : decode y_Sc_weigh.2.1 214 = .ok (.aload_n 0, 1) := dc9_42 (by decide +kernel)
theorem d_Sc_weigh_215 : decode y_Sc_weigh.2.1 215 = .ok (.getfield 40, 3) := dc9_180 (by decide +kernel)
theorem d_Sc_weigh_218 : decode y_Sc_weigh.2.1 218 = .ok (.invokevirtual 130, 3) := dc9_182 (by decide +kernel)
theorem d_Sc_weigh_221 : decode y_Sc_weigh.2.1 221 = .ok (.aload 4, 2) := dc9_25 (by decide +kernel)
theorem d_Sc_weigh_223 : decode y_Sc_weigh.2.1 223 = .ok (.getfield 118, 3) := dc9_180 (by decide +kernel)
theorem d_Sc_weigh_226 : decode y_Sc_weigh.2.1 226 = .ok (.aload_n 0, 1) := dc9_42 (by decide +kernel)
theorem d_Sc_weigh_227 : decode y_Sc_weigh.2.1 227 = .ok (.getfield 30, 3) := dc9_180 (by decide +kernel)
theorem d_Sc_weigh_230 : decode y_Sc_weigh.2.1 230 = .ok (.invokevirtual 69, 3) := dc9_182 (by decide +kernel)
theorem d_Sc_weigh_233 : decode y_Sc_weigh.2.1 233 = .ok (.aload_n 0, 1) := dc9_42 (by decide +kernel)
theorem d_Sc_weigh_234 : decode y_Sc_weigh.2.1 234 = .ok (.getfield 30, 3) := dc9_180 (by decide +kernel)
theorem d_Sc_weigh_237 : decode y_Sc_weigh.2.1 237 = .ok (.aload 6, 2) := dc9_25 (by decide +kernel)
theorem d_Sc_weigh_239 : decode y_Sc_weigh.2.1 239 = .ok (.getfield 118, 3) := dc9_180 (by decide +kernel)
theorem d_Sc_weigh_242 : decode y_Sc_weigh.2.1 242 = .ok (.aload_n 0, 1) := dc9_42 (by decide +kernel)
theorem d_Sc_weigh_243 : decode y_Sc_weigh.2.1 243 = .ok (.getfield 37, 3) := dc9_180 (by decide +kernel)
theorem d_Sc_weigh_246 : decode y_Sc_weigh.2.1 246 = .ok (.invokevirtual 130, 3) := dc9_182 (by decide +kernel)
theorem d_Sc_weigh_249 : decode y_Sc_weigh.2.1 249 = .ok (.aload 4, 2) := dc9_25 (by decide +kernel)
theorem d_Sc_weigh_251 : decode y_Sc_weigh.2.1 251 = .ok (.getfield 118, 3) := dc9_180 (by decide +kernel)
theorem d_Sc_weigh_254 : decode y_Sc_weigh.2.1 254 = .ok (.aload_n 0, 1) := dc9_42 (by decide +kernel)
theorem d_Sc_weigh_255 : decode y_Sc_weigh.2.1 255 = .ok (.getfield 30, 3) := dc9_180 (by decide +kernel)
theorem d_Sc_weigh_258 : decode y_Sc_weigh.2.1 258 = .ok (.iload 7, 2) := dc9_21 (by decide +kernel)
theorem d_Sc_weigh_260 : decode y_Sc_weigh.2.1 260 = .ok (.invokevirtual 155, 3) := dc9_182 (by decide +kernel)
theorem d_Sc_weigh_263 : decode y_Sc_weigh.2.1 263 = .ok (.aload_n 0, 1) := dc9_42 (by decide +kernel)
theorem d_Sc_weigh_264 : decode y_Sc_weigh.2.1 264 = .ok (.getfield 30, 3) := dc9_180 (by decide +kernel)
theorem d_Sc_weigh_267 : decode y_Sc_weigh.2.1 267 = .ok (.aload 4, 2) := dc9_25 (by decide +kernel)
theorem d_Sc_weigh_269 : decode y_Sc_weigh.2.1 269 = .ok (.getfield 108, 3) := dc9_180 (by decide +kernel)
theorem d_Sc_weigh_272 : decode y_Sc_weigh.2.1 272 = .ok (.aload_n 0, 1) := dc9_42 (by decide +kernel)
theorem d_Sc_weigh_273 : decode y_Sc_weigh.2.1 273 = .ok (.getfield 40, 3) := dc9_180 (by decide +kernel)
theorem d_Sc_weigh_276 : decode y_Sc_weigh.2.1 276 = .ok (.invokevirtual 130, 3) := dc9_182 (by decide +kernel)
theorem d_Sc_weigh_279 : decode y_Sc_weigh.2.1 279 = .ok (.aload 4, 2) := dc9_25 (by decide +kernel)
theorem d_Sc_weigh_281 : decode y_Sc_weigh.2.1 281 = .ok (.getfield 108, 3) := dc9_180 (by decide +kernel)
theorem d_Sc_weigh_284 : decode y_Sc_weigh.2.1 284 = .ok (.aload_n 0, 1) := dc9_42 (by decide +kernel)
theorem d_Sc_weigh_285 : decode y_Sc_weigh.2.1 285 = .ok (.getfield 30, 3) := dc9_180 (by decide +kernel)
theorem d_Sc_weigh_288 : decode y_Sc_weigh.2.1 288 = .ok (.invokevirtual 69, 3) := dc9_182 (by decide +kernel)
theorem d_Sc_weigh_291 : decode y_Sc_weigh.2.1 291 = .ok (.iinc 5 1, 3) := by decide +kernel
theorem d_Sc_weigh_294 : decode y_Sc_weigh.2.1 294 = .ok (.goto (-269), 3) := dc9_167 (by decide +kernel)
def h_Sc_weigh_25 (G : mG) (d : Nat) (a0 : Nat) (a1 : Nat) (l2 : Int) (a3 : Nat) (a4 : Nat) (l5 : Int) (M : mM) (Q : mM → Prop) : Prop := mWm G y_Sc_weigh (d + 1) 25 [vr a0, vr a1, vi l2, vr a3, vr a4, vi l5, vd, vd, vd] [] M (fun r9 M9 => r9 = none ∧ Q M9)
def h_Sc_weigh_291 (G : mG) (d : Nat) (a0 : Nat) (a1 : Nat) (l2 : Int) (a3 : Nat) (a4 : Nat) (l5 : Int) (M : mM) (Q : mM → Prop) : Prop := mWm G y_Sc_weigh (d + 1) 291 [vr a0, vr a1, vi l2, vr a3, vr a4, vi l5, vd, vd, vd] [] M (fun r9 M9 => r9 = none ∧ Q M9)
theorem k_Sc_weigh {G : mG} {d : Nat} {a0 : Nat} {a1 : Nat} {l2 : Int} {a3 : Nat} {a4 : Nat} {M : mM} {Q : mM → Prop} (hO : mOk M) (hi_l2 : i32 l2)
    (h : mK M a4 = 11 ∧ Cv G y_Fr_put0 d [vr a4, vi 0] M (fun M2 => mOk M2 ∧ (mK M2 a1 = 7 ∧ mK M2 (mR M2 a1 6) = 30 ∧ ((0 : Int) ≤ l2 ∧ l2 < (mN M2 (mR M2 a1 6) : Int)) ∧ mK M2 a4 = 11 ∧ ∀ M9, M9 = mUI M2 a4 2 (mI M2 (mR M2 a1 6) (Int.toNat l2)) → mK M9 (mR M9 a1 7) = 30 ∧ ((0 : Int) ≤ l2 ∧ l2 < (mN M9 (mR M9 a1 7) : Int)) ∧ h_Sc_weigh_25 G d a0 a1 l2 a3 a4 (mI M9 (mR M9 a1 7) (Int.toNat l2)) M9 Q))) :
    Cv G y_Sc_weigh (d + 1) [vr a0, vr a1, vi l2, vr a3, vr a4] M Q := by
  refine wm_open (y := y_Sc_weigh) rfl (Nat.le_of_ble_eq_true rfl) (L := [vr a0, vr a1, vi l2, vr a3, vr a4, vd, vd, vd, vd]) rfl ?_
  obtain ⟨h1, h⟩ := h
  refine wm_aload d_Sc_weigh_0 rfl ?_
  refine wm_iconst d_Sc_weigh_2 ?_
  refine cf_Sc_134 rfl d_Sc_weigh_3 h1 (Nat.le_of_ble_eq_true rfl) (Cv.mono h (fun M2 h => ?_))
  obtain ⟨hOM2, h⟩ := h
  obtain ⟨h5, h⟩ := h
  obtain ⟨h6, h⟩ := h
  obtain ⟨h7, h⟩ := h
  obtain ⟨h8, h⟩ := h
  obtain ⟨M9, e10⟩ : ∃ M9, M9 = mUI M2 a4 2 (mI M2 (mR M2 a1 6) (Int.toNat l2)) := ⟨_, rfl⟩
  replace h := h M9 e10
  obtain ⟨h11, h⟩ := h
  obtain ⟨h12, h⟩ := h
  refine wm_aload d_Sc_weigh_6 rfl ?_
  refine wm_aload_n d_Sc_weigh_8 rfl rfl ?_
  refine gf_Sc_135 rfl d_Sc_weigh_9 h5 ?_
  refine wm_iload_n d_Sc_weigh_12 rfl rfl ?_
  refine wm_iald d_Sc_weigh_13 h6 h7 ?_
  have hOM9 : mOk M9 := by rw [e10]; exact mOk_UI hOM2 (hOM2 _ _).1
  refine pf_Sc_111 rfl d_Sc_weigh_14 h8 (hOM2 _ _).1 e10 ?_
  refine wm_aload_n d_Sc_weigh_17 rfl rfl ?_
  refine gf_Sc_140 rfl d_Sc_weigh_18 (by rw [e10]; exact h5) ?_
  refine wm_iload_n d_Sc_weigh_21 rfl rfl ?_
  refine wm_iald d_Sc_weigh_22 h11 h12 ?_
  refine wm_istore d_Sc_weigh_23 (by decide) (L' := [vr a0, vr a1, vi l2, vr a3, vr a4, vi (mI M9 (mR M9 a1 7) (Int.toNat l2)), vd, vd, vd]) rfl ?_
  exact h
theorem k_Sc_weigh_25 {G : mG} {d : Nat} {a0 : Nat} {a1 : Nat} {l2 : Int} {a3 : Nat} {a4 : Nat} {l5 : Int} {M : mM} {Q : mM → Prop} (hO : mOk M) (hi_l2 : i32 l2) (hi_l5 : i32 l5)
    (h : mK M a1 = 7 ∧ mK M (mR M a1 7) = 30 ∧ ((0 : Int) ≤ l2 + 1 ∧ l2 + 1 < (mN M (mR M a1 7) : Int)) ∧ ((mI M (mR M a1 7) (Int.toNat (l2 + 1)) ≤ l5) → (Q M)) ∧ (¬ (mI M (mR M a1 7) (Int.toNat (l2 + 1)) ≤ l5) → (mK M a3 = 13 ∧ mK M (mR M a1 8) = 30 ∧ ((0 : Int) ≤ l5 ∧ l5 < (mN M (mR M a1 8) : Int)) ∧ mK M (mR M a3 0) = 35 ∧ ((0 : Int) ≤ mI M (mR M a1 8) (Int.toNat l5) ∧ mI M (mR M a1 8) (Int.toNat l5) < (mN M (mR M a3 0) : Int)) ∧ mK M (mR M a1 9) = 30 ∧ ((0 : Int) ≤ l5 ∧ l5 < (mN M (mR M a1 9) : Int)) ∧ mK M (mR M (mR M a3 0) (Int.toNat (mI M (mR M a1 8) (Int.toNat l5)))) = 11 ∧ mK M (mR M (mR M (mR M a3 0) (Int.toNat (mI M (mR M a1 8) (Int.toNat l5)))) 0) = 10 ∧ ((mI M (mR M (mR M (mR M a3 0) (Int.toNat (mI M (mR M a1 8) (Int.toNat l5)))) 0) 1 = 0) → (h_Sc_weigh_291 G d a0 a1 l2 a3 a4 l5 M Q)) ∧ (¬ (mI M (mR M (mR M (mR M a3 0) (Int.toNat (mI M (mR M a1 8) (Int.toNat l5)))) 0) 1 = 0) → (mK M a4 = 11 ∧ Ci G y_Na_order d [vr (mR M a4 1), vr (mR M (mR M (mR M a3 0) (Int.toNat (mI M (mR M a1 8) (Int.toNat l5)))) 1)] M (fun x40 M39 => i32 x40 ∧ mOk M39 ∧ (((x40 = 0) → (mK M39 a4 = 11 ∧ mK M39 (mR M (mR M a3 0) (Int.toNat (mI M (mR M a1 8) (Int.toNat l5)))) = 11 ∧ mK M39 (mR M39 a4 0) = 10 ∧ Cv G y_Na_add d [vr (mR M39 a4 0), vr (mR M39 (mR M (mR M a3 0) (Int.toNat (mI M (mR M a1 8) (Int.toNat l5)))) 0), vi (mI M (mR M a1 9) (Int.toNat l5))] M39 (fun M47 => mOk M47 ∧ (h_Sc_weigh_291 G d a0 a1 l2 a3 a4 l5 M47 Q)))) ∧ (¬ (x40 = 0) → (mK M39 a4 = 11 ∧ mK M39 (mR M (mR M a3 0) (Int.toNat (mI M (mR M a1 8) (Int.toNat l5)))) = 11 ∧ mK M39 a0 = 9 ∧ Cr G y_Sc_commonDivisor d [vr a0, vr (mR M39 a4 1), vr (mR M39 (mR M (mR M a3 0) (Int.toNat (mI M (mR M a1 8) (Int.toNat l5)))) 1)] M39 (fun x54 M53 => mOk M53 ∧ (mK M53 a0 = 9 ∧ mK M53 a4 = 11 ∧ mK M53 (mR M53 a0 7) = 10 ∧ Cv G y_Na_put1 d [vr (mR M53 a0 7), vr (mR M53 a4 1)] M53 (fun M59 => mOk M59 ∧ (mK M59 a0 = 9 ∧ mK M59 (mR M59 a0 7) = 10 ∧ Cv G y_Na_divide d [vr (mR M59 a0 7), vr x54, vr (mR M59 a0 2), vr (mR M59 a0 3)] M59 (fun M64 => mOk M64 ∧ (mK M64 a0 = 9 ∧ mK M64 (mR M64 a0 7) = 10 ∧ Cv G y_Na_put1 d [vr (mR M64 a0 7), vr (mR M64 a0 2)] M64 (fun M69 => mOk M69 ∧ (mK M69 a0 = 9 ∧ mK M69 (mR M (mR M a3 0) (Int.toNat (mI M (mR M a1 8) (Int.toNat l5)))) = 11 ∧ mK M69 (mR M69 a0 8) = 10 ∧ Cv G y_Na_put1 d [vr (mR M69 a0 8), vr (mR M69 (mR M (mR M a3 0) (Int.toNat (mI M (mR M a1 8) (Int.toNat l5)))) 1)] M69 (fun M75 => mOk M75 ∧ (mK M75 a0 = 9 ∧ mK M75 (mR M75 a0 8) = 10 ∧ Cv G y_Na_divide d [vr (mR M75 a0 8), vr x54, vr (mR M75 a0 2), vr (mR M75 a0 3)] M75 (fun M80 => mOk M80 ∧ (mK M80 a0 = 9 ∧ mK M80 (mR M80 a0 8) = 10 ∧ Cv G y_Na_put1 d [vr (mR M80 a0 8), vr (mR M80 a0 2)] M80 (fun M85 => mOk M85 ∧ (mK M85 a0 = 9 ∧ mK M85 a4 = 11 ∧ mK M85 (mR M85 a0 5) = 10 ∧ Cv G y_Na_putProduct d [vr (mR M85 a0 5), vr (mR M85 a4 0), vr (mR M85 a0 8)] M85 (fun M91 => mOk M91 ∧ (mK M91 a4 = 11 ∧ mK M91 a0 = 9 ∧ mK M91 (mR M91 a4 0) = 10 ∧ Cv G y_Na_put1 d [vr (mR M91 a4 0), vr (mR M91 a0 5)] M91 (fun M97 => mOk M97 ∧ (mK M97 a0 = 9 ∧ mK M97 (mR M (mR M a3 0) (Int.toNat (mI M (mR M a1 8) (Int.toNat l5)))) = 11 ∧ mK M97 (mR M97 a0 5) = 10 ∧ Cv G y_Na_putProduct d [vr (mR M97 a0 5), vr (mR M97 (mR M (mR M a3 0) (Int.toNat (mI M (mR M a1 8) (Int.toNat l5)))) 0), vr (mR M97 a0 7)] M97 (fun M103 => mOk M103 ∧ (mK M103 a4 = 11 ∧ mK M103 a0 = 9 ∧ mK M103 (mR M103 a4 0) = 10 ∧ Cv G y_Na_add d [vr (mR M103 a4 0), vr (mR M103 a0 5), vi (mI M (mR M a1 9) (Int.toNat l5))] M103 (fun M109 => mOk M109 ∧ (mK M109 a0 = 9 ∧ mK M109 a4 = 11 ∧ mK M109 (mR M109 a0 5) = 10 ∧ Cv G y_Na_putProduct d [vr (mR M109 a0 5), vr (mR M109 a4 1), vr (mR M109 a0 8)] M109 (fun M115 => mOk M115 ∧ (mK M115 a4 = 11 ∧ mK M115 a0 = 9 ∧ mK M115 (mR M115 a4 1) = 10 ∧ Cv G y_Na_put1 d [vr (mR M115 a4 1), vr (mR M115 a0 5)] M115 (fun M121 => mOk M121 ∧ (h_Sc_weigh_291 G d a0 a1 l2 a3 a4 l5 M121 Q))))))))))))))))))))))))))))))))))) :
    h_Sc_weigh_25 G d a0 a1 l2 a3 a4 l5 M Q := by
  unfold h_Sc_weigh_25
  obtain ⟨h13, h⟩ := h
  obtain ⟨h14, h⟩ := h
  obtain ⟨h15, h⟩ := h
  refine wm_iload d_Sc_weigh_25 rfl ?_
  refine wm_aload_n d_Sc_weigh_27 rfl rfl ?_
  refine gf_Sc_140 rfl d_Sc_weigh_28 h13 ?_
  refine wm_iload_n d_Sc_weigh_31 rfl rfl ?_
  refine wm_iconst d_Sc_weigh_32 ?_
  refine wm_iadd d_Sc_weigh_33 ?_
  refine wm_iald d_Sc_weigh_34 h14 h15 ?_
  refine wm_icmp_ge (tgt := 297) d_Sc_weigh_35 rfl hi_l5 (hO _ _).1 (fun c26 => ?_) (fun c26 => ?_)
  · replace h := h.1 c26
    refine wm_return d_Sc_weigh_297 rfl ?_
    exact ⟨rfl, h⟩
  · replace h := h.2 c26
    obtain ⟨h27, h⟩ := h
    obtain ⟨h28, h⟩ := h
    obtain ⟨h29, h⟩ := h
    obtain ⟨h30, h⟩ := h
    obtain ⟨h31, h⟩ := h
    obtain ⟨h32, h⟩ := h
    obtain ⟨h33, h⟩ := h
    obtain ⟨h34, h⟩ := h
    obtain ⟨h35, h⟩ := h
    refine wm_aload_n d_Sc_weigh_38 rfl rfl ?_
    refine gf_Sc_143 rfl d_Sc_weigh_39 h27 ?_
    refine wm_aload_n d_Sc_weigh_42 rfl rfl ?_
    refine gf_Sc_149 rfl d_Sc_weigh_43 h13 ?_
    refine wm_iload d_Sc_weigh_46 rfl ?_
    refine wm_iald d_Sc_weigh_48 h28 h29 ?_
    refine wm_aald5 d_Sc_weigh_49 h30 h31 ?_
    refine wm_astore d_Sc_weigh_50 (by decide) (L' := [vr a0, vr a1, vi l2, vr a3, vr a4, vi l5, vr (mR M (mR M a3 0) (Int.toNat (mI M (mR M a1 8) (Int.toNat l5)))), vd, vd]) rfl ?_
    refine wm_aload_n d_Sc_weigh_52 rfl rfl ?_
    refine gf_Sc_152 rfl d_Sc_weigh_53 h13 ?_
    refine wm_iload d_Sc_weigh_56 rfl ?_
    refine wm_iald d_Sc_weigh_58 h32 h33 ?_
    refine wm_istore d_Sc_weigh_59 (by decide) (L' := [vr a0, vr a1, vi l2, vr a3, vr a4, vi l5, vr (mR M (mR M a3 0) (Int.toNat (mI M (mR M a1 8) (Int.toNat l5)))), vi (mI M (mR M a1 9) (Int.toNat l5)), vd]) rfl ?_
    refine wm_aload d_Sc_weigh_61 rfl ?_
    refine gf_Sc_118 rfl d_Sc_weigh_63 h34 ?_
    refine gf_Sc_57 rfl d_Sc_weigh_66 h35 ?_
    refine wm_if_ne (tgt := 75) d_Sc_weigh_69 rfl (hO _ _).1 (fun c37 => ?_) (fun c37 => ?_)
    · replace h := h.2 c37
      obtain ⟨h38, h⟩ := h
      refine wm_aload d_Sc_weigh_75 rfl ?_
      refine gf_Sc_108 rfl d_Sc_weigh_77 h38 ?_
      refine wm_aload d_Sc_weigh_80 rfl ?_
      refine gf_Sc_108 rfl d_Sc_weigh_82 h34 ?_
      refine cf_Sc_65 rfl d_Sc_weigh_85 (Nat.le_of_ble_eq_true rfl) (Ci.mono h (fun x40 M39 h => ?_))
      obtain ⟨h41, hOM39, h⟩ := h
      refine wm_if_ne (tgt := 109) d_Sc_weigh_88 rfl h41 (fun c43 => ?_) (fun c43 => ?_)
      · replace h := h.2 c43
        obtain ⟨h50, h⟩ := h
        obtain ⟨h51, h⟩ := h
        obtain ⟨h52, h⟩ := h
        refine wm_aload_n d_Sc_weigh_109 rfl rfl ?_
        refine wm_aload d_Sc_weigh_110 rfl ?_
        refine gf_Sc_108 rfl d_Sc_weigh_112 h50 ?_
        refine wm_aload d_Sc_weigh_115 rfl ?_
        refine gf_Sc_108 rfl d_Sc_weigh_117 h51 ?_
        refine cf_Sc_123 rfl d_Sc_weigh_120 h52 (Nat.le_of_ble_eq_true rfl) (Cr.mono h (fun x54 M53 h => ?_))
        obtain ⟨hOM53, h⟩ := h
        obtain ⟨h56, h⟩ := h
        obtain ⟨h57, h⟩ := h
        obtain ⟨h58, h⟩ := h
        refine wm_astore d_Sc_weigh_123 (by decide) (L' := [vr a0, vr a1, vi l2, vr a3, vr a4, vi l5, vr (mR M (mR M a3 0) (Int.toNat (mI M (mR M a1 8) (Int.toNat l5)))), vi (mI M (mR M a1 9) (Int.toNat l5)), vr x54]) rfl ?_
        refine wm_aload_n d_Sc_weigh_125 rfl rfl ?_
        refine gf_Sc_37 rfl d_Sc_weigh_126 h56 ?_
        refine wm_aload d_Sc_weigh_129 rfl ?_
        refine gf_Sc_108 rfl d_Sc_weigh_131 h57 ?_
        refine cf_Sc_69 rfl d_Sc_weigh_134 h58 (Nat.le_of_ble_eq_true rfl) (Cv.mono h (fun M59 h => ?_))
        obtain ⟨hOM59, h⟩ := h
        obtain ⟨h62, h⟩ := h
        obtain ⟨h63, h⟩ := h
        refine wm_aload_n d_Sc_weigh_137 rfl rfl ?_
        refine gf_Sc_37 rfl d_Sc_weigh_138 h62 ?_
        refine wm_aload d_Sc_weigh_141 rfl ?_
        refine wm_aload_n d_Sc_weigh_143 rfl rfl ?_
        refine gf_Sc_21 rfl d_Sc_weigh_144 h62 ?_
        refine wm_aload_n d_Sc_weigh_147 rfl rfl ?_
        refine gf_Sc_24 rfl d_Sc_weigh_148 h62 ?_
        refine cf_Sc_53 rfl d_Sc_weigh_151 h63 (Nat.le_of_ble_eq_true rfl) (Cv.mono h (fun M64 h => ?_))
        obtain ⟨hOM64, h⟩ := h
        obtain ⟨h67, h⟩ := h
        obtain ⟨h68, h⟩ := h
        refine wm_aload_n d_Sc_weigh_154 rfl rfl ?_
        refine gf_Sc_37 rfl d_Sc_weigh_155 h67 ?_
        refine wm_aload_n d_Sc_weigh_158 rfl rfl ?_
        refine gf_Sc_21 rfl d_Sc_weigh_159 h67 ?_
        refine cf_Sc_69 rfl d_Sc_weigh_162 h68 (Nat.le_of_ble_eq_true rfl) (Cv.mono h (fun M69 h => ?_))
        obtain ⟨hOM69, h⟩ := h
        obtain ⟨h72, h⟩ := h
        obtain ⟨h73, h⟩ := h
        obtain ⟨h74, h⟩ := h
        refine wm_aload_n d_Sc_weigh_165 rfl rfl ?_
        refine gf_Sc_40 rfl d_Sc_weigh_166 h72 ?_
        refine wm_aload d_Sc_weigh_169 rfl ?_
        refine gf_Sc_108 rfl d_Sc_weigh_171 h73 ?_
        refine cf_Sc_69 rfl d_Sc_weigh_174 h74 (Nat.le_of_ble_eq_true rfl) (Cv.mono h (fun M75 h => ?_))
        obtain ⟨hOM75, h⟩ := h
        obtain ⟨h78, h⟩ := h
        obtain ⟨h79, h⟩ := h
        refine wm_aload_n d_Sc_weigh_177 rfl rfl ?_
        refine gf_Sc_40 rfl d_Sc_weigh_178 h78 ?_
        refine wm_aload d_Sc_weigh_181 rfl ?_
        refine wm_aload_n d_Sc_weigh_183 rfl rfl ?_
        refine gf_Sc_21 rfl d_Sc_weigh_184 h78 ?_
        refine wm_aload_n d_Sc_weigh_187 rfl rfl ?_
        refine gf_Sc_24 rfl d_Sc_weigh_188 h78 ?_
        refine cf_Sc_53 rfl d_Sc_weigh_191 h79 (Nat.le_of_ble_eq_true rfl) (Cv.mono h (fun M80 h => ?_))
        obtain ⟨hOM80, h⟩ := h
        obtain ⟨h83, h⟩ := h
        obtain ⟨h84, h⟩ := h
        refine wm_aload_n d_Sc_weigh_194 rfl rfl ?_
        refine gf_Sc_40 rfl d_Sc_weigh_195 h83 ?_
        refine wm_aload_n d_Sc_weigh_198 rfl rfl ?_
        refine gf_Sc_21 rfl d_Sc_weigh_199 h83 ?_
        refine cf_Sc_69 rfl d_Sc_weigh_202 h84 (Nat.le_of_ble_eq_true rfl) (Cv.mono h (fun M85 h => ?_))
        obtain ⟨hOM85, h⟩ := h
        obtain ⟨h88, h⟩ := h
        obtain ⟨h89, h⟩ := h
        obtain ⟨h90, h⟩ := h
        refine wm_aload_n d_Sc_weigh_205 rfl rfl ?_
        refine gf_Sc_30 rfl d_Sc_weigh_206 h88 ?_
        refine wm_aload d_Sc_weigh_209 rfl ?_
        refine gf_Sc_118 rfl d_Sc_weigh_211 h89 ?_
        refine wm_aload_n d_Sc_weigh_214 rfl rfl ?_
        refine gf_Sc_40 rfl d_Sc_weigh_215 h88 ?_
        refine cf_Sc_130 rfl d_Sc_weigh_218 h90 (Nat.le_of_ble_eq_true rfl) (Cv.mono h (fun M91 h => ?_))
        obtain ⟨hOM91, h⟩ := h
        obtain ⟨h94, h⟩ := h
        obtain ⟨h95, h⟩ := h
        obtain ⟨h96, h⟩ := h
        refine wm_aload d_Sc_weigh_221 rfl ?_
        refine gf_Sc_118 rfl d_Sc_weigh_223 h94 ?_
        refine wm_aload_n d_Sc_weigh_226 rfl rfl ?_
        refine gf_Sc_30 rfl d_Sc_weigh_227 h95 ?_
        refine cf_Sc_69 rfl d_Sc_weigh_230 h96 (Nat.le_of_ble_eq_true rfl) (Cv.mono h (fun M97 h => ?_))
        obtain ⟨hOM97, h⟩ := h
        obtain ⟨h100, h⟩ := h
        obtain ⟨h101, h⟩ := h
        obtain ⟨h102, h⟩ := h
        refine wm_aload_n d_Sc_weigh_233 rfl rfl ?_
        refine gf_Sc_30 rfl d_Sc_weigh_234 h100 ?_
        refine wm_aload d_Sc_weigh_237 rfl ?_
        refine gf_Sc_118 rfl d_Sc_weigh_239 h101 ?_
        refine wm_aload_n d_Sc_weigh_242 rfl rfl ?_
        refine gf_Sc_37 rfl d_Sc_weigh_243 h100 ?_
        refine cf_Sc_130 rfl d_Sc_weigh_246 h102 (Nat.le_of_ble_eq_true rfl) (Cv.mono h (fun M103 h => ?_))
        obtain ⟨hOM103, h⟩ := h
        obtain ⟨h106, h⟩ := h
        obtain ⟨h107, h⟩ := h
        obtain ⟨h108, h⟩ := h
        refine wm_aload d_Sc_weigh_249 rfl ?_
        refine gf_Sc_118 rfl d_Sc_weigh_251 h106 ?_
        refine wm_aload_n d_Sc_weigh_254 rfl rfl ?_
        refine gf_Sc_30 rfl d_Sc_weigh_255 h107 ?_
        refine wm_iload d_Sc_weigh_258 rfl ?_
        refine cf_Sc_155 rfl d_Sc_weigh_260 h108 (Nat.le_of_ble_eq_true rfl) (Cv.mono h (fun M109 h => ?_))
        obtain ⟨hOM109, h⟩ := h
        obtain ⟨h112, h⟩ := h
        obtain ⟨h113, h⟩ := h
        obtain ⟨h114, h⟩ := h
        refine wm_aload_n d_Sc_weigh_263 rfl rfl ?_
        refine gf_Sc_30 rfl d_Sc_weigh_264 h112 ?_
        refine wm_aload d_Sc_weigh_267 rfl ?_
        refine gf_Sc_108 rfl d_Sc_weigh_269 h113 ?_
        refine wm_aload_n d_Sc_weigh_272 rfl rfl ?_
        refine gf_Sc_40 rfl d_Sc_weigh_273 h112 ?_
        refine cf_Sc_130 rfl d_Sc_weigh_276 h114 (Nat.le_of_ble_eq_true rfl) (Cv.mono h (fun M115 h => ?_))
        obtain ⟨hOM115, h⟩ := h
        obtain ⟨h118, h⟩ := h
        obtain ⟨h119, h⟩ := h
        obtain ⟨h120, h⟩ := h
        refine wm_aload d_Sc_weigh_279 rfl ?_
        refine gf_Sc_108 rfl d_Sc_weigh_281 h118 ?_
        refine wm_aload_n d_Sc_weigh_284 rfl rfl ?_
        refine gf_Sc_30 rfl d_Sc_weigh_285 h119 ?_
        refine cf_Sc_69 rfl d_Sc_weigh_288 h120 (Nat.le_of_ble_eq_true rfl) (Cv.mono h (fun M121 h => ?_))
        obtain ⟨hOM121, h⟩ := h
        refine wm_less (L' := [vr a0, vr a1, vi l2, vr a3, vr a4, vi l5, vd, vd, vd]) ⟨Or.inr rfl, Or.inr rfl, Or.inr rfl, Or.inr rfl, Or.inr rfl, Or.inr rfl, Or.inl rfl, Or.inl rfl, Or.inl rfl, trivial⟩ ?_
        exact h
      · replace c43 := Classical.not_not.mp c43
        replace h := h.1 c43
        obtain ⟨h44, h⟩ := h
        obtain ⟨h45, h⟩ := h
        obtain ⟨h46, h⟩ := h
        refine wm_aload d_Sc_weigh_91 rfl ?_
        refine gf_Sc_118 rfl d_Sc_weigh_93 h44 ?_
        refine wm_aload d_Sc_weigh_96 rfl ?_
        refine gf_Sc_118 rfl d_Sc_weigh_98 h45 ?_
        refine wm_iload d_Sc_weigh_101 rfl ?_
        refine cf_Sc_155 rfl d_Sc_weigh_103 h46 (Nat.le_of_ble_eq_true rfl) (Cv.mono h (fun M47 h => ?_))
        obtain ⟨hOM47, h⟩ := h
        refine wm_goto (tgt := 291) d_Sc_weigh_106 rfl ?_
        refine wm_less (L' := [vr a0, vr a1, vi l2, vr a3, vr a4, vi l5, vd, vd, vd]) ⟨Or.inr rfl, Or.inr rfl, Or.inr rfl, Or.inr rfl, Or.inr rfl, Or.inr rfl, Or.inl rfl, Or.inl rfl, Or.inl rfl, trivial⟩ ?_
        exact h
    · replace c37 := Classical.not_not.mp c37
      replace h := h.1 c37
      refine wm_goto (tgt := 291) d_Sc_weigh_72 rfl ?_
      refine wm_less (L' := [vr a0, vr a1, vi l2, vr a3, vr a4, vi l5, vd, vd, vd]) ⟨Or.inr rfl, Or.inr rfl, Or.inr rfl, Or.inr rfl, Or.inr rfl, Or.inr rfl, Or.inl rfl, Or.inl rfl, Or.inl rfl, trivial⟩ ?_
      exact h
theorem k_Sc_weigh_291 {G : mG} {d : Nat} {a0 : Nat} {a1 : Nat} {l2 : Int} {a3 : Nat} {a4 : Nat} {l5 : Int} {M : mM} {Q : mM → Prop} (hO : mOk M) (hi_l2 : i32 l2) (hi_l5 : i32 l5)
    (h : h_Sc_weigh_25 G d a0 a1 l2 a3 a4 (l5 + 1) M Q) :
    h_Sc_weigh_291 G d a0 a1 l2 a3 a4 l5 M Q := by
  unfold h_Sc_weigh_291
  refine wm_iinc d_Sc_weigh_291 (by decide) rfl (L' := [vr a0, vr a1, vi l2, vr a3, vr a4, vi (l5 + 1), vd, vd, vd]) rfl ?_
  refine wm_goto (tgt := 25) d_Sc_weigh_294 rfl ?_
  exact h
end
section
theorem d_Sc_pick_0 : decode y_Sc_pick.2.1 0 = .ok (.aload_n 0, 1) := dc9_42 (by decide +kernel)
theorem d_Sc_pick_1 : decode y_Sc_pick.2.1 1 = .ok (.aload_n 1, 1) := dc9_43 (by decide +kernel)
theorem d_Sc_pick_2 : decode y_Sc_pick.2.1 2 = .ok (.iload_n 2, 1) := dc9_28 (by decide +kernel)
theorem d_Sc_pick_3 : decode y_Sc_pick.2.1 3 = .ok (.aload 5, 2) := dc9_25 (by decide +kernel)
theorem d_Sc_pick_5 : decode y_Sc_pick.2.1 5 = .ok (.aload_n 0, 1) := dc9_42 (by decide +kernel)
theorem d_Sc_pick_6 : decode y_Sc_pick.2.1 6 = .ok (.getfield 46, 3) := dc9_180 (by decide +kernel)
theorem d_Sc_pick_9 : decode y_Sc_pick.2.1 9 = .ok (.invokevirtual 159, 3) := dc9_182 (by decide +kernel)
theorem d_Sc_pick_12 : decode y_Sc_pick.2.1 12 = .ok (.iload_n 2, 1) := dc9_28 (by decide +kernel)
theorem d_Sc_pick_13 : decode y_Sc_pick.2.1 13 = .ok (.istore 6, 2) := dc9_54 (by decide +kernel)
theorem d_Sc_pick_15 : decode y_Sc_pick.2.1 15 = .ok (.iload_n 2, 1) := dc9_28 (by decide +kernel)
theorem d_Sc_pick_16 : decode y_Sc_pick.2.1 16 = .ok (.iconst 1, 1) := dc9_4 (by decide +kernel)
theorem d_Sc_pick_17 : decode y_Sc_pick.2.1 17 = .ok (.iadd, 1) := dc9_96 (by decide +kernel)
theorem d_Sc_pick_18 : decode y_Sc_pick.2.1 18 = .ok (.istore 7, 2) := dc9_54 (by decide +kernel)
theorem d_Sc_pick_20 : decode y_Sc_pick.2.1 20 = .ok (.iload 7, 2) := dc9_21 (by decide +kernel)
theorem d_Sc_pick_22 : decode y_Sc_pick.2.1 22 = .ok (.iload_n 3, 1) := dc9_29 (by decide +kernel)
theorem d_Sc_pick_23 : decode y_Sc_pick.2.1 23 = .ok (.if_icmp .ge 78, 3) := dc9_162 (by decide +kernel)
theorem d_Sc_pick_101 : decode y_Sc_pick.2.1 101 = .ok (.iload 6, 2) := dc9_21 (by decide +kernel)
theorem d_Sc_pick_103 : decode y_Sc_pick.2.1 103 = .ok (.ireturn, 1) := dc9_172 (by decide +kernel)
theorem d_Sc_pick_26 : decode y_Sc_pick.2.1 26 = .ok (.aload_n 0, 1) := dc9_42 (by decide +kernel)
theorem d_Sc_pick_27 : decode y_Sc_pick.2.1 27 = .ok (.aload_n 1, 1) := dc9_43 (by decide +kernel)
theorem d_Sc_pick_28 : decode y_Sc_pick.2.1 28 = .ok (.iload 7, 2) := dc9_21 (by decide +kernel)
theorem d_Sc_pick_30 : decode y_Sc_pick.2.1 30 = .ok (.aload 5, 2) := dc9_25 (by decide +kernel)
theorem d_Sc_pick_32 : decode y_Sc_pick.2.1 32 = .ok (.aload_n 0, 1) := dc9_42 (by decide +kernel)
theorem d_Sc_pick_33 : decode y_Sc_pick.2.1 33 = .ok (.getfield 50, 3) := dc9_180 (by decide +kernel)
theorem d_Sc_pick_36 : decode y_Sc_pick.2.1 36 = .ok (.invokevirtual 159, 3) := dc9_182 (by decide +kernel)
theorem d_Sc_pick_39 : decode y_Sc_pick.2.1 39 = .ok (.aload_n 0, 1) := dc9_42 (by decide +kernel)
theorem d_Sc_pick_40 : decode y_Sc_pick.2.1 40 = .ok (.aload_n 0, 1) := dc9_42 (by decide +kernel)
theorem d_Sc_pick_41 : decode y_Sc_pick.2.1 41 = .ok (.getfield 50, 3) := dc9_180 (by decide +kernel)
theorem d_Sc_pick_44 : decode y_Sc_pick.2.1 44 = .ok (.aload_n 0, 1) := dc9_42 (by decide +kernel)
theorem d_Sc_pick_45 : decode y_Sc_pick.2.1 45 = .ok (.getfield 46, 3) := dc9_180 (by decide +kernel)
theorem d_Sc_pick_48 : decode y_Sc_pick.2.1 48 = .ok (.invokevirtual 163, 3) := dc9_182 (by decide +kernel)
theorem d_Sc_pick_51 : decode y_Sc_pick.2.1 51 = .ok (.istore 8, 2) := dc9_54 (by decide +kernel)
theorem d_Sc_pick_53 : decode y_Sc_pick.2.1 53 = .ok (.iload 4, 2) := dc9_21 (by decide +kernel)
theorem d_Sc_pick_55 : decode y_Sc_pick.2.1 55 = .ok (.ifCond .eq 11, 3) := dc9_153 (by decide +kernel)
theorem d_Sc_pick_66 : decode y_Sc_pick.2.1 66 = .ok (.iload 8, 2) := dc9_21 (by decide +kernel)
theorem d_Sc_pick_68 : decode y_Sc_pick.2.1 68 = .ok (.ifCond .ge 27, 3) := dc9_156 (by decide +kernel)
theorem d_Sc_pick_71 : decode y_Sc_pick.2.1 71 = .ok (.aload_n 0, 1) := dc9_42 (by decide +kernel)
theorem d_Sc_pick_72 : decode y_Sc_pick.2.1 72 = .ok (.getfield 46, 3) := dc9_180 (by decide +kernel)
theorem d_Sc_pick_75 : decode y_Sc_pick.2.1 75 = .ok (.astore 9, 2) := dc9_58 (by decide +kernel)
theorem d_Sc_pick_77 : decode y_Sc_pick.2.1 77 = .ok (.aload_n 0, 1) := dc9_42 (by decide +kernel)
theorem d_Sc_pick_78 : decode y_Sc_pick.2.1 78 = .ok (.aload_n 0, 1) := dc9_42 (by decide +kernel)
theorem d_Sc_pick_79 : decode y_Sc_pick.2.1 79 = .ok (.getfield 50, 3) := dc9_180 (by decide +kernel)
theorem d_Sc_pick_82 : decode y_Sc_pick.2.1 82 = .ok (.putfield 46, 3) := dc9_181 (by decide +kernel)
theorem d_Sc_pick_85 : decode y_Sc_pick.2.1 85 = .ok (.aload_n 0, 1) := dc9_42 (by decide +kernel)
theorem d_Sc_pick_86 : decode y_Sc_pick.2.1 86 = .ok (.aload 9, 2) := dc9_25 (by decide +kernel)
theorem d_Sc_pick_88 : decode y_Sc_pick.2.1 88 = .ok (.putfield 50, 3) := dc9_181 (by decide +kernel)
theorem d_Sc_pick_58 : decode y_Sc_pick.2.1 58 = .ok (.iload 8, 2) := dc9_21 (by decide +kernel)
theorem d_Sc_pick_60 : decode y_Sc_pick.2.1 60 = .ok (.ifCond .le 35, 3) := dc9_158 (by decide +kernel)
theorem d_Sc_pick_63 : decode y_Sc_pick.2.1 63 = .ok (.goto 8, 3) := dc9_167 (by decide +kernel)
theorem d_Sc_pick_95 : decode y_Sc_pick.2.1 95 = .ok (.iinc 7 1, 3) := by decide +kernel
theorem d_Sc_pick_98 : decode y_Sc_pick.2.1 98 = .ok (.goto (-78), 3) := dc9_167 (by decide +kernel)
theorem d_Sc_pick_91 : decode y_Sc_pick.2.1 91 = .ok (.iload 7, 2) := dc9_21 (by decide +kernel)
theorem d_Sc_pick_93 : decode y_Sc_pick.2.1 93 = .ok (.istore 6, 2) := dc9_54 (by decide +kernel)
def h_Sc_pick_20 (G : mG) (d : Nat) (a0 : Nat) (a1 : Nat) (l3 : Int) (l4 : Int) (a5 : Nat) (l6 : Int) (l7 : Int) (M : mM) (Q : Int → mM → Prop) : Prop := mWm G y_Sc_pick (d + 1) 20 [vr a0, vr a1, vd, vi l3, vi l4, vr a5, vi l6, vi l7, vd, vd] [] M (fun r9 M9 => ∃ x9, r9 = some (vi x9) ∧ Q x9 M9)
theorem k_Sc_pick {G : mG} {d : Nat} {a0 : Nat} {a1 : Nat} {l2 : Int} {l3 : Int} {l4 : Int} {a5 : Nat} {M : mM} {Q : Int → mM → Prop} (hO : mOk M) (hi_l2 : i32 l2) (hi_l3 : i32 l3) (hi_l4 : i32 l4)
    (h : mK M a0 = 9 ∧ Cv G y_Sc_weigh d [vr a0, vr a1, vi l2, vr a5, vr (mR M a0 9)] M (fun M2 => mOk M2 ∧ (h_Sc_pick_20 G d a0 a1 l3 l4 a5 l2 (l2 + 1) M2 Q))) :
    Ci G y_Sc_pick (d + 1) [vr a0, vr a1, vi l2, vi l3, vi l4, vr a5] M Q := by
  refine wm_open (y := y_Sc_pick) rfl (Nat.le_of_ble_eq_true rfl) (L := [vr a0, vr a1, vi l2, vi l3, vi l4, vr a5, vd, vd, vd, vd]) rfl ?_
  obtain ⟨h1, h⟩ := h
  refine wm_aload_n d_Sc_pick_0 rfl rfl ?_
  refine wm_aload_n d_Sc_pick_1 rfl rfl ?_
  refine wm_iload_n d_Sc_pick_2 rfl rfl ?_
  refine wm_aload d_Sc_pick_3 rfl ?_
  refine wm_aload_n d_Sc_pick_5 rfl rfl ?_
  refine gf_Sc_46 rfl d_Sc_pick_6 h1 ?_
  refine cf_Sc_159 rfl d_Sc_pick_9 h1 (Nat.le_of_ble_eq_true rfl) (Cv.mono h (fun M2 h => ?_))
  obtain ⟨hOM2, h⟩ := h
  refine wm_iload_n d_Sc_pick_12 rfl rfl ?_
  refine wm_istore d_Sc_pick_13 (by decide) (L' := [vr a0, vr a1, vi l2, vi l3, vi l4, vr a5, vi l2, vd, vd, vd]) rfl ?_
  refine wm_iload_n d_Sc_pick_15 rfl rfl ?_
  refine wm_iconst d_Sc_pick_16 ?_
  refine wm_iadd d_Sc_pick_17 ?_
  refine wm_istore d_Sc_pick_18 (by decide) (L' := [vr a0, vr a1, vi l2, vi l3, vi l4, vr a5, vi l2, vi (l2 + 1), vd, vd]) rfl ?_
  refine wm_less (L' := [vr a0, vr a1, vd, vi l3, vi l4, vr a5, vi l2, vi (l2 + 1), vd, vd]) ⟨Or.inr rfl, Or.inr rfl, Or.inl rfl, Or.inr rfl, Or.inr rfl, Or.inr rfl, Or.inr rfl, Or.inr rfl, Or.inl rfl, Or.inl rfl, trivial⟩ ?_
  exact h
theorem k_Sc_pick_20 {G : mG} {d : Nat} {a0 : Nat} {a1 : Nat} {l3 : Int} {l4 : Int} {a5 : Nat} {l6 : Int} {l7 : Int} {M : mM} {Q : Int → mM → Prop} (hO : mOk M) (hi_l3 : i32 l3) (hi_l4 : i32 l4) (hi_l6 : i32 l6) (hi_l7 : i32 l7)
    (h : ((l3 ≤ l7) → (Q l6 M)) ∧ (¬ (l3 ≤ l7) → (mK M a0 = 9 ∧ Cv G y_Sc_weigh d [vr a0, vr a1, vi l7, vr a5, vr (mR M a0 10)] M (fun M8 => mOk M8 ∧ (mK M8 a0 = 9 ∧ Ci G y_Sc_order d [vr a0, vr (mR M8 a0 10), vr (mR M8 a0 9)] M8 (fun x13 M12 => i32 x13 ∧ mOk M12 ∧ (((l4 = 0) → (((0 ≤ x13) → (h_Sc_pick_20 G d a0 a1 l3 l4 a5 l6 (l7 + 1) M12 Q)) ∧ (¬ (0 ≤ x13) → (mK M12 a0 = 9 ∧ ∀ M29, M29 = mUR M12 a0 9 (mR M12 a0 10) → ∀ M31, M31 = mUR M29 a0 10 (mR M12 a0 9) → h_Sc_pick_20 G d a0 a1 l3 l4 a5 l7 (l7 + 1) M31 Q)))) ∧ (¬ (l4 = 0) → (((x13 ≤ 0) → (h_Sc_pick_20 G d a0 a1 l3 l4 a5 l6 (l7 + 1) M12 Q)) ∧ (¬ (x13 ≤ 0) → (mK M12 a0 = 9 ∧ ∀ M38, M38 = mUR M12 a0 9 (mR M12 a0 10) → ∀ M40, M40 = mUR M38 a0 10 (mR M12 a0 9) → h_Sc_pick_20 G d a0 a1 l3 l4 a5 l7 (l7 + 1) M40 Q))))))))))) :
    h_Sc_pick_20 G d a0 a1 l3 l4 a5 l6 l7 M Q := by
  unfold h_Sc_pick_20
  refine wm_iload d_Sc_pick_20 rfl ?_
  refine wm_iload_n d_Sc_pick_22 rfl rfl ?_
  refine wm_icmp_ge (tgt := 101) d_Sc_pick_23 rfl hi_l7 hi_l3 (fun c6 => ?_) (fun c6 => ?_)
  · replace h := h.1 c6
    refine wm_iload d_Sc_pick_101 rfl ?_
    refine wm_ireturn d_Sc_pick_103 rfl rfl ?_
    exact ⟨_, rfl, h⟩
  · replace h := h.2 c6
    obtain ⟨h7, h⟩ := h
    refine wm_aload_n d_Sc_pick_26 rfl rfl ?_
    refine wm_aload_n d_Sc_pick_27 rfl rfl ?_
    refine wm_iload d_Sc_pick_28 rfl ?_
    refine wm_aload d_Sc_pick_30 rfl ?_
    refine wm_aload_n d_Sc_pick_32 rfl rfl ?_
    refine gf_Sc_50 rfl d_Sc_pick_33 h7 ?_
    refine cf_Sc_159 rfl d_Sc_pick_36 h7 (Nat.le_of_ble_eq_true rfl) (Cv.mono h (fun M8 h => ?_))
    obtain ⟨hOM8, h⟩ := h
    obtain ⟨h11, h⟩ := h
    refine wm_aload_n d_Sc_pick_39 rfl rfl ?_
    refine wm_aload_n d_Sc_pick_40 rfl rfl ?_
    refine gf_Sc_50 rfl d_Sc_pick_41 h11 ?_
    refine wm_aload_n d_Sc_pick_44 rfl rfl ?_
    refine gf_Sc_46 rfl d_Sc_pick_45 h11 ?_
    refine cf_Sc_163 rfl d_Sc_pick_48 h11 (Nat.le_of_ble_eq_true rfl) (Ci.mono h (fun x13 M12 h => ?_))
    obtain ⟨h14, hOM12, h⟩ := h
    refine wm_istore d_Sc_pick_51 (by decide) (L' := [vr a0, vr a1, vd, vi l3, vi l4, vr a5, vi l6, vi l7, vi x13, vd]) rfl ?_
    refine wm_iload d_Sc_pick_53 rfl ?_
    refine wm_if_eq (tgt := 66) d_Sc_pick_55 rfl hi_l4 (fun c23 => ?_) (fun c23 => ?_)
    · replace h := h.1 c23
      refine wm_iload d_Sc_pick_66 rfl ?_
      refine wm_if_ge (tgt := 95) d_Sc_pick_68 rfl h14 (fun c27 => ?_) (fun c27 => ?_)
      · replace h := h.1 c27
        refine wm_iinc d_Sc_pick_95 (by decide) rfl (L' := [vr a0, vr a1, vd, vi l3, vi l4, vr a5, vi l6, vi (l7 + 1), vi x13, vd]) rfl ?_
        refine wm_goto (tgt := 20) d_Sc_pick_98 rfl ?_
        refine wm_less (L' := [vr a0, vr a1, vd, vi l3, vi l4, vr a5, vi l6, vi (l7 + 1), vd, vd]) ⟨Or.inr rfl, Or.inr rfl, Or.inl rfl, Or.inr rfl, Or.inr rfl, Or.inr rfl, Or.inr rfl, Or.inr rfl, Or.inl rfl, Or.inl rfl, trivial⟩ ?_
        exact h
      · replace h := h.2 c27
        obtain ⟨h28, h⟩ := h
        obtain ⟨M29, e30⟩ : ∃ M29, M29 = mUR M12 a0 9 (mR M12 a0 10) := ⟨_, rfl⟩
        replace h := h M29 e30
        obtain ⟨M31, e32⟩ : ∃ M31, M31 = mUR M29 a0 10 (mR M12 a0 9) := ⟨_, rfl⟩
        replace h := h M31 e32
        refine wm_aload_n d_Sc_pick_71 rfl rfl ?_
        refine gf_Sc_46 rfl d_Sc_pick_72 h28 ?_
        refine wm_astore d_Sc_pick_75 (by decide) (L' := [vr a0, vr a1, vd, vi l3, vi l4, vr a5, vi l6, vi l7, vi x13, vr (mR M12 a0 9)]) rfl ?_
        refine wm_aload_n d_Sc_pick_77 rfl rfl ?_
        refine wm_aload_n d_Sc_pick_78 rfl rfl ?_
        refine gf_Sc_50 rfl d_Sc_pick_79 h28 ?_
        have hOM29 : mOk M29 := by rw [e30]; exact mOk_UR hOM12
        refine pf_Sc_46 rfl d_Sc_pick_82 h28 e30 ?_
        refine wm_aload_n d_Sc_pick_85 rfl rfl ?_
        refine wm_aload d_Sc_pick_86 rfl ?_
        have hOM31 : mOk M31 := by rw [e32]; exact mOk_UR hOM29
        refine pf_Sc_50 rfl d_Sc_pick_88 (by rw [e30]; exact h28) e32 ?_
        refine wm_iload d_Sc_pick_91 rfl ?_
        refine wm_istore d_Sc_pick_93 (by decide) (L' := [vr a0, vr a1, vd, vi l3, vi l4, vr a5, vi l7, vi l7, vi x13, vr (mR M12 a0 9)]) rfl ?_
        refine wm_iinc d_Sc_pick_95 (by decide) rfl (L' := [vr a0, vr a1, vd, vi l3, vi l4, vr a5, vi l7, vi (l7 + 1), vi x13, vr (mR M12 a0 9)]) rfl ?_
        refine wm_goto (tgt := 20) d_Sc_pick_98 rfl ?_
        refine wm_less (L' := [vr a0, vr a1, vd, vi l3, vi l4, vr a5, vi l7, vi (l7 + 1), vd, vd]) ⟨Or.inr rfl, Or.inr rfl, Or.inl rfl, Or.inr rfl, Or.inr rfl, Or.inr rfl, Or.inr rfl, Or.inr rfl, Or.inl rfl, Or.inl rfl, trivial⟩ ?_
        exact h
    · replace h := h.2 c23
      refine wm_iload d_Sc_pick_58 rfl ?_
      refine wm_if_le (tgt := 95) d_Sc_pick_60 rfl h14 (fun c36 => ?_) (fun c36 => ?_)
      · replace h := h.1 c36
        refine wm_iinc d_Sc_pick_95 (by decide) rfl (L' := [vr a0, vr a1, vd, vi l3, vi l4, vr a5, vi l6, vi (l7 + 1), vi x13, vd]) rfl ?_
        refine wm_goto (tgt := 20) d_Sc_pick_98 rfl ?_
        refine wm_less (L' := [vr a0, vr a1, vd, vi l3, vi l4, vr a5, vi l6, vi (l7 + 1), vd, vd]) ⟨Or.inr rfl, Or.inr rfl, Or.inl rfl, Or.inr rfl, Or.inr rfl, Or.inr rfl, Or.inr rfl, Or.inr rfl, Or.inl rfl, Or.inl rfl, trivial⟩ ?_
        exact h
      · replace h := h.2 c36
        obtain ⟨h37, h⟩ := h
        obtain ⟨M38, e39⟩ : ∃ M38, M38 = mUR M12 a0 9 (mR M12 a0 10) := ⟨_, rfl⟩
        replace h := h M38 e39
        obtain ⟨M40, e41⟩ : ∃ M40, M40 = mUR M38 a0 10 (mR M12 a0 9) := ⟨_, rfl⟩
        replace h := h M40 e41
        refine wm_goto (tgt := 71) d_Sc_pick_63 rfl ?_
        refine wm_aload_n d_Sc_pick_71 rfl rfl ?_
        refine gf_Sc_46 rfl d_Sc_pick_72 h37 ?_
        refine wm_astore d_Sc_pick_75 (by decide) (L' := [vr a0, vr a1, vd, vi l3, vi l4, vr a5, vi l6, vi l7, vi x13, vr (mR M12 a0 9)]) rfl ?_
        refine wm_aload_n d_Sc_pick_77 rfl rfl ?_
        refine wm_aload_n d_Sc_pick_78 rfl rfl ?_
        refine gf_Sc_50 rfl d_Sc_pick_79 h37 ?_
        have hOM38 : mOk M38 := by rw [e39]; exact mOk_UR hOM12
        refine pf_Sc_46 rfl d_Sc_pick_82 h37 e39 ?_
        refine wm_aload_n d_Sc_pick_85 rfl rfl ?_
        refine wm_aload d_Sc_pick_86 rfl ?_
        have hOM40 : mOk M40 := by rw [e41]; exact mOk_UR hOM38
        refine pf_Sc_50 rfl d_Sc_pick_88 (by rw [e39]; exact h37) e41 ?_
        refine wm_iload d_Sc_pick_91 rfl ?_
        refine wm_istore d_Sc_pick_93 (by decide) (L' := [vr a0, vr a1, vd, vi l3, vi l4, vr a5, vi l7, vi l7, vi x13, vr (mR M12 a0 9)]) rfl ?_
        refine wm_iinc d_Sc_pick_95 (by decide) rfl (L' := [vr a0, vr a1, vd, vi l3, vi l4, vr a5, vi l7, vi (l7 + 1), vi x13, vr (mR M12 a0 9)]) rfl ?_
        refine wm_goto (tgt := 20) d_Sc_pick_98 rfl ?_
        refine wm_less (L' := [vr a0, vr a1, vd, vi l3, vi l4, vr a5, vi l7, vi (l7 + 1), vd, vd]) ⟨Or.inr rfl, Or.inr rfl, Or.inl rfl, Or.inr rfl, Or.inr rfl, Or.inr rfl, Or.inr rfl, Or.inr rfl, Or.inl rfl, Or.inl rfl, trivial⟩ ?_
        exact h
theorem d_Sc_orderOfPicked_0 : decode y_Sc_orderOfPicked.2.1 0 = .ok (.aload_n 0, 1) := dc9_42 (by decide +kernel)
theorem d_Sc_orderOfPicked_1 : decode y_Sc_orderOfPicked.2.1 1 = .ok (.aload_n 0, 1) := dc9_42 (by decide +kernel)
theorem d_Sc_orderOfPicked_2 : decode y_Sc_orderOfPicked.2.1 2 = .ok (.getfield 46, 3) := dc9_180 (by decide +kernel)
theorem d_Sc_orderOfPicked_5 : decode y_Sc_orderOfPicked.2.1 5 = .ok (.aload_n 1, 1) := dc9_43 (by decide +kernel)
theorem d_Sc_orderOfPicked_6 : decode y_Sc_orderOfPicked.2.1 6 = .ok (.invokevirtual 163, 3) := dc9_182 (by decide +kernel)
theorem d_Sc_orderOfPicked_9 : decode y_Sc_orderOfPicked.2.1 9 = .ok (.ireturn, 1) := dc9_172 (by decide +kernel)
theorem k_Sc_orderOfPicked {G : mG} {d : Nat} {a0 : Nat} {a1 : Nat} {M : mM} {Q : Int → mM → Prop} (hO : mOk M)
    (h : mK M a0 = 9 ∧ Ci G y_Sc_order d [vr a0, vr (mR M a0 9), vr a1] M (fun x3 M2 => i32 x3 ∧ mOk M2 ∧ (Q x3 M2))) :
    Ci G y_Sc_orderOfPicked (d + 1) [vr a0, vr a1] M Q := by
  refine wm_open (y := y_Sc_orderOfPicked) rfl (Nat.le_of_ble_eq_true rfl) (L := [vr a0, vr a1]) rfl ?_
  obtain ⟨h1, h⟩ := h
  refine wm_aload_n d_Sc_orderOfPicked_0 rfl rfl ?_
  refine wm_aload_n d_Sc_orderOfPicked_1 rfl rfl ?_
  refine gf_Sc_46 rfl d_Sc_orderOfPicked_2 h1 ?_
  refine wm_aload_n d_Sc_orderOfPicked_5 rfl rfl ?_
  refine cf_Sc_163 rfl d_Sc_orderOfPicked_6 h1 (Nat.le_of_ble_eq_true rfl) (Ci.mono h (fun x3 M2 h => ?_))
  obtain ⟨h4, hOM2, h⟩ := h
  refine wm_ireturn d_Sc_orderOfPicked_9 rfl rfl ?_
  exact ⟨_, rfl, h⟩
theorem d_Sc_move_0 : decode y_Sc_move.2.1 0 = .ok (.aload_n 3, 1) := dc9_45 (by decide +kernel)
theorem d_Sc_move_1 : decode y_Sc_move.2.1 1 = .ok (.aload_n 1, 1) := dc9_43 (by decide +kernel)
theorem d_Sc_move_2 : decode y_Sc_move.2.1 2 = .ok (.getfield 166, 3) := dc9_180 (by decide +kernel)
theorem d_Sc_move_5 : decode y_Sc_move.2.1 5 = .ok (.invokevirtual 169, 3) := dc9_182 (by decide +kernel)
theorem d_Sc_move_8 : decode y_Sc_move.2.1 8 = .ok (.iconst 0, 1) := dc9_3 (by decide +kernel)
theorem d_Sc_move_9 : decode y_Sc_move.2.1 9 = .ok (.istore 4, 2) := dc9_54 (by decide +kernel)
theorem d_Sc_move_11 : decode y_Sc_move.2.1 11 = .ok (.iload 4, 2) := dc9_21 (by decide +kernel)
theorem d_Sc_move_13 : decode y_Sc_move.2.1 13 = .ok (.aload_n 1, 1) := dc9_43 (by decide +kernel)
theorem d_Sc_move_14 : decode y_Sc_move.2.1 14 = .ok (.getfield 166, 3) := dc9_180 (by decide +kernel)
theorem d_Sc_move_17 : decode y_Sc_move.2.1 17 = .ok (.if_icmp .ge 110, 3) := dc9_162 (by decide +kernel)
theorem d_Sc_move_127 : decode y_Sc_move.2.1 127 = .ok (.iconst 1, 1) := dc9_4 (by decide +kernel)
theorem d_Sc_move_128 : decode y_Sc_move.2.1 128 = .ok (.ireturn, 1) := dc9_172 (by decide +kernel)
theorem d_Sc_move_20 : decode y_Sc_move.2.1 20 = .ok (.aload_n 1, 1) := dc9_43 (by decide +kernel)
theorem d_Sc_move_21 : decode y_Sc_move.2.1 21 = .ok (.getfield 172, 3) := dc9_180 (by decide +kernel)
theorem d_Sc_move_24 : decode y_Sc_move.2.1 24 = .ok (.iload 4, 2) := dc9_21 (by decide +kernel)
theorem d_Sc_move_26 : decode y_Sc_move.2.1 26 = .ok (.iaload, 1) := dc9_46 (by decide +kernel)
theorem d_Sc_move_27 : decode y_Sc_move.2.1 27 = .ok (.istore 5, 2) := dc9_54 (by decide +kernel)
theorem d_Sc_move_29 : decode y_Sc_move.2.1 29 = .ok (.aload_n 1, 1) := dc9_43 (by decide +kernel)
theorem d_Sc_move_30 : decode y_Sc_move.2.1 30 = .ok (.getfield 172, 3) := dc9_180 (by decide +kernel)
theorem d_Sc_move_33 : decode y_Sc_move.2.1 33 = .ok (.iload 4, 2) := dc9_21 (by decide +kernel)
theorem d_Sc_move_35 : decode y_Sc_move.2.1 35 = .ok (.iconst 1, 1) := dc9_4 (by decide +kernel)
theorem d_Sc_move_36 : decode y_Sc_move.2.1 36 = .ok (.iadd, 1) := dc9_96 (by decide +kernel)
theorem d_Sc_move_37 : decode y_Sc_move.2.1 37 = .ok (.iaload, 1) := dc9_46 (by decide +kernel)
theorem d_Sc_move_38 : decode y_Sc_move.2.1 38 = .ok (.istore 6, 2) := dc9_54 (by decide +kernel)
theorem d_Sc_move_40 : decode y_Sc_move.2.1 40 = .ok (.iload 5, 2) := dc9_21 (by decide +kernel)
theorem d_Sc_move_42 : decode y_Sc_move.2.1 42 = .ok (.iload 6, 2) := dc9_21 (by decide +kernel)
theorem d_Sc_move_44 : decode y_Sc_move.2.1 44 = .ok (.if_icmp .ne 23, 3) := dc9_160 (by decide +kernel)
theorem d_Sc_move_47 : decode y_Sc_move.2.1 47 = .ok (.aload_n 3, 1) := dc9_45 (by decide +kernel)
theorem d_Sc_move_48 : decode y_Sc_move.2.1 48 = .ok (.getfield 143, 3) := dc9_180 (by decide +kernel)
theorem d_Sc_move_51 : decode y_Sc_move.2.1 51 = .ok (.iload 4, 2) := dc9_21 (by decide +kernel)
theorem d_Sc_move_53 : decode y_Sc_move.2.1 53 = .ok (.aaload, 1) := dc9_50 (by decide +kernel)
theorem d_Sc_move_54 : decode y_Sc_move.2.1 54 = .ok (.aload_n 2, 1) := dc9_44 (by decide +kernel)
theorem d_Sc_move_55 : decode y_Sc_move.2.1 55 = .ok (.getfield 143, 3) := dc9_180 (by decide +kernel)
theorem d_Sc_move_58 : decode y_Sc_move.2.1 58 = .ok (.iload 4, 2) := dc9_21 (by decide +kernel)
theorem d_Sc_move_60 : decode y_Sc_move.2.1 60 = .ok (.aaload, 1) := dc9_50 (by decide +kernel)
theorem d_Sc_move_67 : decode y_Sc_move.2.1 67 = .ok (.aload_n 0, 1) := dc9_42 (by decide +kernel)
theorem d_Sc_move_68 : decode y_Sc_move.2.1 68 = .ok (.aload_n 1, 1) := dc9_43 (by decide +kernel)
theorem d_Sc_move_69 : decode y_Sc_move.2.1 69 = .ok (.iload 5, 2) := dc9_21 (by decide +kernel)
theorem d_Sc_move_71 : decode y_Sc_move.2.1 71 = .ok (.iload 6, 2) := dc9_21 (by decide +kernel)
theorem d_Sc_move_73 : decode y_Sc_move.2.1 73 = .ok (.aload_n 1, 1) := dc9_43 (by decide +kernel)
theorem d_Sc_move_74 : decode y_Sc_move.2.1 74 = .ok (.getfield 178, 3) := dc9_180 (by decide +kernel)
theorem d_Sc_move_77 : decode y_Sc_move.2.1 77 = .ok (.iload 4, 2) := dc9_21 (by decide +kernel)
theorem d_Sc_move_79 : decode y_Sc_move.2.1 79 = .ok (.iaload, 1) := dc9_46 (by decide +kernel)
theorem d_Sc_move_80 : decode y_Sc_move.2.1 80 = .ok (.iconst 1, 1) := dc9_4 (by decide +kernel)
theorem d_Sc_move_61 : decode y_Sc_move.2.1 61 = .ok (.invokevirtual 175, 3) := dc9_182 (by decide +kernel)
theorem d_Sc_move_64 : decode y_Sc_move.2.1 64 = .ok (.goto 57, 3) := dc9_167 (by decide +kernel)
theorem d_Sc_move_121 : decode y_Sc_move.2.1 121 = .ok (.iinc 4 1, 3) := by decide +kernel
theorem d_Sc_move_124 : decode y_Sc_move.2.1 124 = .ok (.goto (-113), 3) := dc9_167 (by decide +kernel)
theorem d_Sc_move_81 : decode y_Sc_move.2.1 81 = .ok (.if_icmp .ne 7, 3) := dc9_160 (by decide +kernel)
theorem d_Sc_move_84 : decode y_Sc_move.2.1 84 = .ok (.iconst 1, 1) := dc9_4 (by decide +kernel)
theorem d_Sc_move_85 : decode y_Sc_move.2.1 85 = .ok (.goto 4, 3) := dc9_167 (by decide +kernel)
theorem d_Sc_move_88 : decode y_Sc_move.2.1 88 = .ok (.iconst 0, 1) := dc9_3 (by decide +kernel)
theorem d_Sc_move_89 : decode y_Sc_move.2.1 89 = .ok (.aload_n 2, 1) := dc9_44 (by decide +kernel)
theorem d_Sc_move_90 : decode y_Sc_move.2.1 90 = .ok (.invokevirtual 181, 3) := dc9_182 (by decide +kernel)
theorem d_Sc_move_93 : decode y_Sc_move.2.1 93 = .ok (.pop, 1) := dc9_87 (by decide +kernel)
theorem d_Sc_move_94 : decode y_Sc_move.2.1 94 = .ok (.aload_n 0, 1) := dc9_42 (by decide +kernel)
theorem d_Sc_move_95 : decode y_Sc_move.2.1 95 = .ok (.aload_n 0, 1) := dc9_42 (by decide +kernel)
theorem d_Sc_move_96 : decode y_Sc_move.2.1 96 = .ok (.getfield 46, 3) := dc9_180 (by decide +kernel)
theorem d_Sc_move_99 : decode y_Sc_move.2.1 99 = .ok (.invokevirtual 185, 3) := dc9_182 (by decide +kernel)
theorem d_Sc_move_102 : decode y_Sc_move.2.1 102 = .ok (.ifCond .ne 5, 3) := dc9_154 (by decide +kernel)
theorem d_Sc_move_105 : decode y_Sc_move.2.1 105 = .ok (.iconst 0, 1) := dc9_3 (by decide +kernel)
theorem d_Sc_move_106 : decode y_Sc_move.2.1 106 = .ok (.ireturn, 1) := dc9_172 (by decide +kernel)
theorem d_Sc_move_107 : decode y_Sc_move.2.1 107 = .ok (.aload_n 3, 1) := dc9_45 (by decide +kernel)
theorem d_Sc_move_108 : decode y_Sc_move.2.1 108 = .ok (.getfield 143, 3) := dc9_180 (by decide +kernel)
theorem d_Sc_move_111 : decode y_Sc_move.2.1 111 = .ok (.iload 4, 2) := dc9_21 (by decide +kernel)
theorem d_Sc_move_113 : decode y_Sc_move.2.1 113 = .ok (.aaload, 1) := dc9_50 (by decide +kernel)
theorem d_Sc_move_114 : decode y_Sc_move.2.1 114 = .ok (.aload_n 0, 1) := dc9_42 (by decide +kernel)
theorem d_Sc_move_115 : decode y_Sc_move.2.1 115 = .ok (.getfield 46, 3) := dc9_180 (by decide +kernel)
theorem d_Sc_move_118 : decode y_Sc_move.2.1 118 = .ok (.invokevirtual 175, 3) := dc9_182 (by decide +kernel)
def h_Sc_move_11 (G : mG) (d : Nat) (a0 : Nat) (a1 : Nat) (a2 : Nat) (a3 : Nat) (l4 : Int) (M : mM) (Q : Int → mM → Prop) : Prop := mWm G y_Sc_move (d + 1) 11 [vr a0, vr a1, vr a2, vr a3, vi l4, vd, vd] [] M (fun r9 M9 => ∃ x9, r9 = some (vi x9) ∧ Q x9 M9)
theorem k_Sc_move {G : mG} {d : Nat} {a0 : Nat} {a1 : Nat} {a2 : Nat} {a3 : Nat} {M : mM} {Q : Int → mM → Prop} (hO : mOk M)
    (h : mK M a1 = 7 ∧ mK M a3 = 13 ∧ Cv G y_Fs_reserve d [vr a3, vi (mI M a1 0)] M (fun M3 => mOk M3 ∧ (h_Sc_move_11 G d a0 a1 a2 a3 0 M3 Q))) :
    Ci G y_Sc_move (d + 1) [vr a0, vr a1, vr a2, vr a3] M Q := by
  refine wm_open (y := y_Sc_move) rfl (Nat.le_of_ble_eq_true rfl) (L := [vr a0, vr a1, vr a2, vr a3, vd, vd, vd]) rfl ?_
  obtain ⟨h1, h⟩ := h
  obtain ⟨h2, h⟩ := h
  refine wm_aload_n d_Sc_move_0 rfl rfl ?_
  refine wm_aload_n d_Sc_move_1 rfl rfl ?_
  refine gf_Sc_166 rfl d_Sc_move_2 h1 ?_
  refine cf_Sc_169 rfl d_Sc_move_5 h2 (Nat.le_of_ble_eq_true rfl) (Cv.mono h (fun M3 h => ?_))
  obtain ⟨hOM3, h⟩ := h
  refine wm_iconst d_Sc_move_8 ?_
  refine wm_istore d_Sc_move_9 (by decide) (L' := [vr a0, vr a1, vr a2, vr a3, vi 0, vd, vd]) rfl ?_
  exact h
theorem k_Sc_move_11 {G : mG} {d : Nat} {a0 : Nat} {a1 : Nat} {a2 : Nat} {a3 : Nat} {l4 : Int} {M : mM} {Q : Int → mM → Prop} (hO : mOk M) (hi_l4 : i32 l4)
    (h : mK M a1 = 7 ∧ ((mI M a1 0 ≤ l4) → (Q 1 M)) ∧ (¬ (mI M a1 0 ≤ l4) → (mK M (mR M a1 4) = 30 ∧ ((0 : Int) ≤ l4 ∧ l4 < (mN M (mR M a1 4) : Int)) ∧ ((0 : Int) ≤ l4 + 1 ∧ l4 + 1 < (mN M (mR M a1 4) : Int)) ∧ ((mI M (mR M a1 4) (Int.toNat l4) = mI M (mR M a1 4) (Int.toNat (l4 + 1))) → (mK M a3 = 13 ∧ mK M (mR M a3 0) = 35 ∧ ((0 : Int) ≤ l4 ∧ l4 < (mN M (mR M a3 0) : Int)) ∧ mK M a2 = 13 ∧ mK M (mR M a2 0) = 35 ∧ ((0 : Int) ≤ l4 ∧ l4 < (mN M (mR M a2 0) : Int)) ∧ mK M (mR M (mR M a3 0) (Int.toNat l4)) = 11 ∧ Cv G y_Fr_put1 d [vr (mR M (mR M a3 0) (Int.toNat l4)), vr (mR M (mR M a2 0) (Int.toNat l4))] M (fun M26 => mOk M26 ∧ (h_Sc_move_11 G d a0 a1 a2 a3 (l4 + 1) M26 Q)))) ∧ (¬ (mI M (mR M a1 4) (Int.toNat l4) = mI M (mR M a1 4) (Int.toNat (l4 + 1))) → (mK M (mR M a1 2) = 30 ∧ ((0 : Int) ≤ l4 ∧ l4 < (mN M (mR M a1 2) : Int)) ∧ ∀ v32 : Int, v32 = (if (mI M (mR M a1 2) (Int.toNat l4) = 1) then 1 else 0) → mK M a0 = 9 ∧ Ci G y_Sc_pick d [vr a0, vr a1, vi (mI M (mR M a1 4) (Int.toNat l4)), vi (mI M (mR M a1 4) (Int.toNat (l4 + 1))), vi v32, vr a2] M (fun x39 M38 => i32 x39 ∧ mOk M38 ∧ (mK M38 a0 = 9 ∧ Ci G y_Sc_fits d [vr a0, vr (mR M38 a0 9)] M38 (fun x43 M42 => i32 x43 ∧ mOk M42 ∧ (((x43 = 0) → (Q 0 M42)) ∧ (¬ (x43 = 0) → (mK M42 a3 = 13 ∧ mK M42 (mR M42 a3 0) = 35 ∧ ((0 : Int) ≤ l4 ∧ l4 < (mN M42 (mR M42 a3 0) : Int)) ∧ mK M42 a0 = 9 ∧ mK M42 (mR M42 (mR M42 a3 0) (Int.toNat l4)) = 11 ∧ Cv G y_Fr_put1 d [vr (mR M42 (mR M42 a3 0) (Int.toNat l4)), vr (mR M42 a0 9)] M42 (fun M52 => mOk M52 ∧ (h_Sc_move_11 G d a0 a1 a2 a3 (l4 + 1) M52 Q))))))))))))) :
    h_Sc_move_11 G d a0 a1 a2 a3 l4 M Q := by
  unfold h_Sc_move_11
  obtain ⟨h6, h⟩ := h
  refine wm_iload d_Sc_move_11 rfl ?_
  refine wm_aload_n d_Sc_move_13 rfl rfl ?_
  refine gf_Sc_166 rfl d_Sc_move_14 h6 ?_
  refine wm_icmp_ge (tgt := 127) d_Sc_move_17 rfl hi_l4 (hO _ _).1 (fun c11 => ?_) (fun c11 => ?_)
  · replace h := h.1 c11
    refine wm_iconst d_Sc_move_127 ?_
    refine wm_ireturn d_Sc_move_128 rfl (m_nb (by decide)) ?_
    exact ⟨_, rfl, h⟩
  · replace h := h.2 c11
    obtain ⟨h12, h⟩ := h
    obtain ⟨h13, h⟩ := h
    obtain ⟨h14, h⟩ := h
    refine wm_aload_n d_Sc_move_20 rfl rfl ?_
    refine gf_Sc_172 rfl d_Sc_move_21 h6 ?_
    refine wm_iload d_Sc_move_24 rfl ?_
    refine wm_iald d_Sc_move_26 h12 h13 ?_
    refine wm_istore d_Sc_move_27 (by decide) (L' := [vr a0, vr a1, vr a2, vr a3, vi l4, vi (mI M (mR M a1 4) (Int.toNat l4)), vd]) rfl ?_
    refine wm_aload_n d_Sc_move_29 rfl rfl ?_
    refine gf_Sc_172 rfl d_Sc_move_30 h6 ?_
    refine wm_iload d_Sc_move_33 rfl ?_
    refine wm_iconst d_Sc_move_35 ?_
    refine wm_iadd d_Sc_move_36 ?_
    refine wm_iald d_Sc_move_37 h12 h14 ?_
    refine wm_istore d_Sc_move_38 (by decide) (L' := [vr a0, vr a1, vr a2, vr a3, vi l4, vi (mI M (mR M a1 4) (Int.toNat l4)), vi (mI M (mR M a1 4) (Int.toNat (l4 + 1)))]) rfl ?_
    refine wm_iload d_Sc_move_40 rfl ?_
    refine wm_iload d_Sc_move_42 rfl ?_
    refine wm_icmp_ne (tgt := 67) d_Sc_move_44 rfl (hO _ _).1 (hO _ _).1 (fun c18 => ?_) (fun c18 => ?_)
    · replace h := h.2 c18
      obtain ⟨h29, h⟩ := h
      obtain ⟨h30, h⟩ := h
      refine wm_aload_n d_Sc_move_67 rfl rfl ?_
      refine wm_aload_n d_Sc_move_68 rfl rfl ?_
      refine wm_iload d_Sc_move_69 rfl ?_
      refine wm_iload d_Sc_move_71 rfl ?_
      refine wm_aload_n d_Sc_move_73 rfl rfl ?_
      refine gf_Sc_178 rfl d_Sc_move_74 h6 ?_
      refine wm_iload d_Sc_move_77 rfl ?_
      refine wm_iald d_Sc_move_79 h29 h30 ?_
      refine wm_iconst d_Sc_move_80 ?_
      have hJ : ∀ v32 : Int, v32 = (if (mI M (mR M a1 2) (Int.toNat l4) = 1) then 1 else 0) → mWm G y_Sc_move (d + 1) 89 [vr a0, vr a1, vr a2, vr a3, vi l4, vd, vd] [vi v32, vi (mI M (mR M a1 4) (Int.toNat (l4 + 1))), vi (mI M (mR M a1 4) (Int.toNat l4)), vr a1, vr a0] M (fun r9 M9 => ∃ x9, r9 = some (vi x9) ∧ Q x9 M9) := by
        intro v32 e34
        have h := h v32 e34
        have h35 : i32 v32 := by rw [e34]; (repeat' split) <;> first | exact ⟨by decide, by decide⟩ | exact ⟨by decide, by decide⟩
        have h36 : (v32 = 0 ∨ v32 = 1) := by rw [e34]; (repeat' split) <;> decide
        obtain ⟨h37, h⟩ := h
        refine wm_aload_n d_Sc_move_89 rfl rfl ?_
        refine cf_Sc_181 rfl d_Sc_move_90 h37 (Nat.le_of_ble_eq_true rfl) (Ci.mono h (fun x39 M38 h => ?_))
        obtain ⟨h40, hOM38, h⟩ := h
        obtain ⟨h41, h⟩ := h
        refine wm_pop d_Sc_move_93 rfl ?_
        refine wm_aload_n d_Sc_move_94 rfl rfl ?_
        refine wm_aload_n d_Sc_move_95 rfl rfl ?_
        refine gf_Sc_46 rfl d_Sc_move_96 h41 ?_
        refine cf_Sc_185 rfl d_Sc_move_99 h41 (Nat.le_of_ble_eq_true rfl) (Ci.mono h (fun x43 M42 h => ?_))
        obtain ⟨h44, hOM42, h⟩ := h
        refine wm_if_ne (tgt := 107) d_Sc_move_102 rfl h44 (fun c46 => ?_) (fun c46 => ?_)
        · replace h := h.2 c46
          obtain ⟨h47, h⟩ := h
          obtain ⟨h48, h⟩ := h
          obtain ⟨h49, h⟩ := h
          obtain ⟨h50, h⟩ := h
          obtain ⟨h51, h⟩ := h
          refine wm_aload_n d_Sc_move_107 rfl rfl ?_
          refine gf_Sc_143 rfl d_Sc_move_108 h47 ?_
          refine wm_iload d_Sc_move_111 rfl ?_
          refine wm_aald5 d_Sc_move_113 h48 h49 ?_
          refine wm_aload_n d_Sc_move_114 rfl rfl ?_
          refine gf_Sc_46 rfl d_Sc_move_115 h50 ?_
          refine cf_Sc_175 rfl d_Sc_move_118 h51 (Nat.le_of_ble_eq_true rfl) (Cv.mono h (fun M52 h => ?_))
          obtain ⟨hOM52, h⟩ := h
          refine wm_iinc d_Sc_move_121 (by decide) rfl (L' := [vr a0, vr a1, vr a2, vr a3, vi (l4 + 1), vd, vd]) rfl ?_
          refine wm_goto (tgt := 11) d_Sc_move_124 rfl ?_
          exact h
        · replace c46 := Classical.not_not.mp c46
          replace h := h.1 c46
          refine wm_iconst d_Sc_move_105 ?_
          refine wm_ireturn d_Sc_move_106 rfl (m_nb (by decide)) ?_
          exact ⟨_, rfl, h⟩
      clear h
      refine wm_icmp_ne (tgt := 88) d_Sc_move_81 rfl (hO _ _).1 ⟨by decide, by decide⟩ (fun c31 => ?_) (fun c31 => ?_)
      · refine wm_iconst d_Sc_move_88 ?_
        refine wm_less (L' := [vr a0, vr a1, vr a2, vr a3, vi l4, vd, vd]) ⟨Or.inr rfl, Or.inr rfl, Or.inr rfl, Or.inr rfl, Or.inr rfl, Or.inl rfl, Or.inl rfl, trivial⟩ ?_
        exact hJ 0 (if_neg c31).symm
      · replace c31 := Classical.not_not.mp c31
        refine wm_iconst d_Sc_move_84 ?_
        refine wm_goto (tgt := 89) d_Sc_move_85 rfl ?_
        refine wm_less (L' := [vr a0, vr a1, vr a2, vr a3, vi l4, vd, vd]) ⟨Or.inr rfl, Or.inr rfl, Or.inr rfl, Or.inr rfl, Or.inr rfl, Or.inl rfl, Or.inl rfl, trivial⟩ ?_
        exact hJ 1 (if_pos c31).symm
    · replace c18 := Classical.not_not.mp c18
      replace h := h.1 c18
      obtain ⟨h19, h⟩ := h
      obtain ⟨h20, h⟩ := h
      obtain ⟨h21, h⟩ := h
      obtain ⟨h22, h⟩ := h
      obtain ⟨h23, h⟩ := h
      obtain ⟨h24, h⟩ := h
      obtain ⟨h25, h⟩ := h
      refine wm_aload_n d_Sc_move_47 rfl rfl ?_
      refine gf_Sc_143 rfl d_Sc_move_48 h19 ?_
      refine wm_iload d_Sc_move_51 rfl ?_
      refine wm_aald5 d_Sc_move_53 h20 h21 ?_
      refine wm_aload_n d_Sc_move_54 rfl rfl ?_
      refine gf_Sc_143 rfl d_Sc_move_55 h22 ?_
      refine wm_iload d_Sc_move_58 rfl ?_
      refine wm_aald5 d_Sc_move_60 h23 h24 ?_
      refine cf_Sc_175 rfl d_Sc_move_61 h25 (Nat.le_of_ble_eq_true rfl) (Cv.mono h (fun M26 h => ?_))
      obtain ⟨hOM26, h⟩ := h
      refine wm_goto (tgt := 121) d_Sc_move_64 rfl ?_
      refine wm_iinc d_Sc_move_121 (by decide) rfl (L' := [vr a0, vr a1, vr a2, vr a3, vi (l4 + 1), vi (mI M (mR M a1 4) (Int.toNat l4)), vi (mI M (mR M a1 4) (Int.toNat (l4 + 1)))]) rfl ?_
      refine wm_goto (tgt := 11) d_Sc_move_124 rfl ?_
      refine wm_less (L' := [vr a0, vr a1, vr a2, vr a3, vi (l4 + 1), vd, vd]) ⟨Or.inr rfl, Or.inr rfl, Or.inr rfl, Or.inr rfl, Or.inr rfl, Or.inl rfl, Or.inl rfl, trivial⟩ ?_
      exact h
theorem d_Sc_fits_0 : decode y_Sc_fits.2.1 0 = .ok (.aload_n 1, 1) := dc9_43 (by decide +kernel)
theorem d_Sc_fits_1 : decode y_Sc_fits.2.1 1 = .ok (.getfield 108, 3) := dc9_180 (by decide +kernel)
theorem d_Sc_fits_4 : decode y_Sc_fits.2.1 4 = .ok (.aload_n 1, 1) := dc9_43 (by decide +kernel)
theorem d_Sc_fits_5 : decode y_Sc_fits.2.1 5 = .ok (.getfield 111, 3) := dc9_180 (by decide +kernel)
theorem d_Sc_fits_8 : decode y_Sc_fits.2.1 8 = .ok (.invokevirtual 114, 3) := dc9_182 (by decide +kernel)
theorem d_Sc_fits_11 : decode y_Sc_fits.2.1 11 = .ok (.aload_n 1, 1) := dc9_43 (by decide +kernel)
theorem d_Sc_fits_12 : decode y_Sc_fits.2.1 12 = .ok (.iconst 1, 1) := dc9_4 (by decide +kernel)
theorem d_Sc_fits_13 : decode y_Sc_fits.2.1 13 = .ok (.putfield 111, 3) := dc9_181 (by decide +kernel)
theorem d_Sc_fits_16 : decode y_Sc_fits.2.1 16 = .ok (.aload_n 1, 1) := dc9_43 (by decide +kernel)
theorem d_Sc_fits_17 : decode y_Sc_fits.2.1 17 = .ok (.getfield 118, 3) := dc9_180 (by decide +kernel)
theorem d_Sc_fits_20 : decode y_Sc_fits.2.1 20 = .ok (.getfield 57, 3) := dc9_180 (by decide +kernel)
theorem d_Sc_fits_23 : decode y_Sc_fits.2.1 23 = .ok (.ifCond .ne 11, 3) := dc9_154 (by decide +kernel)
theorem d_Sc_fits_26 : decode y_Sc_fits.2.1 26 = .ok (.aload_n 1, 1) := dc9_43 (by decide +kernel)
theorem d_Sc_fits_27 : decode y_Sc_fits.2.1 27 = .ok (.iconst 0, 1) := dc9_3 (by decide +kernel)
theorem d_Sc_fits_34 : decode y_Sc_fits.2.1 34 = .ok (.aload_n 1, 1) := dc9_43 (by decide +kernel)
theorem d_Sc_fits_35 : decode y_Sc_fits.2.1 35 = .ok (.getfield 118, 3) := dc9_180 (by decide +kernel)
theorem d_Sc_fits_38 : decode y_Sc_fits.2.1 38 = .ok (.aload_n 1, 1) := dc9_43 (by decide +kernel)
theorem d_Sc_fits_39 : decode y_Sc_fits.2.1 39 = .ok (.getfield 108, 3) := dc9_180 (by decide +kernel)
theorem d_Sc_fits_28 : decode y_Sc_fits.2.1 28 = .ok (.invokevirtual 134, 3) := dc9_182 (by decide +kernel)
theorem d_Sc_fits_31 : decode y_Sc_fits.2.1 31 = .ok (.goto 43, 3) := dc9_167 (by decide +kernel)
theorem d_Sc_fits_42 : decode y_Sc_fits.2.1 42 = .ok (.invokestatic 65, 3) := dc9_184 (by decide +kernel)
theorem d_Sc_fits_45 : decode y_Sc_fits.2.1 45 = .ok (.ifCond .ne 11, 3) := dc9_154 (by decide +kernel)
theorem d_Sc_fits_48 : decode y_Sc_fits.2.1 48 = .ok (.aload_n 1, 1) := dc9_43 (by decide +kernel)
theorem d_Sc_fits_49 : decode y_Sc_fits.2.1 49 = .ok (.iconst 1, 1) := dc9_4 (by decide +kernel)
theorem d_Sc_fits_56 : decode y_Sc_fits.2.1 56 = .ok (.aload_n 1, 1) := dc9_43 (by decide +kernel)
theorem d_Sc_fits_57 : decode y_Sc_fits.2.1 57 = .ok (.getfield 108, 3) := dc9_180 (by decide +kernel)
theorem d_Sc_fits_50 : decode y_Sc_fits.2.1 50 = .ok (.invokevirtual 134, 3) := dc9_182 (by decide +kernel)
theorem d_Sc_fits_53 : decode y_Sc_fits.2.1 53 = .ok (.goto 21, 3) := dc9_167 (by decide +kernel)
theorem d_Sc_fits_60 : decode y_Sc_fits.2.1 60 = .ok (.invokevirtual 88, 3) := dc9_182 (by decide +kernel)
theorem d_Sc_fits_63 : decode y_Sc_fits.2.1 63 = .ok (.sipush 480, 3) := dc9_17 (by decide +kernel)
theorem d_Sc_fits_66 : decode y_Sc_fits.2.1 66 = .ok (.if_icmp .le 8, 3) := dc9_164 (by decide +kernel)
theorem d_Sc_fits_69 : decode y_Sc_fits.2.1 69 = .ok (.aload_n 0, 1) := dc9_42 (by decide +kernel)
theorem d_Sc_fits_70 : decode y_Sc_fits.2.1 70 = .ok (.aload_n 1, 1) := dc9_43 (by decide +kernel)
theorem d_Sc_fits_71 : decode y_Sc_fits.2.1 71 = .ok (.invokevirtual 189, 3) := dc9_182 (by decide +kernel)
theorem d_Sc_fits_74 : decode y_Sc_fits.2.1 74 = .ok (.aload_n 1, 1) := dc9_43 (by decide +kernel)
theorem d_Sc_fits_75 : decode y_Sc_fits.2.1 75 = .ok (.getfield 108, 3) := dc9_180 (by decide +kernel)
theorem d_Sc_fits_78 : decode y_Sc_fits.2.1 78 = .ok (.invokevirtual 88, 3) := dc9_182 (by decide +kernel)
theorem d_Sc_fits_81 : decode y_Sc_fits.2.1 81 = .ok (.sipush 480, 3) := dc9_17 (by decide +kernel)
theorem d_Sc_fits_84 : decode y_Sc_fits.2.1 84 = .ok (.if_icmp .gt 7, 3) := dc9_163 (by decide +kernel)
theorem d_Sc_fits_91 : decode y_Sc_fits.2.1 91 = .ok (.iconst 0, 1) := dc9_3 (by decide +kernel)
theorem d_Sc_fits_87 : decode y_Sc_fits.2.1 87 = .ok (.iconst 1, 1) := dc9_4 (by decide +kernel)
theorem d_Sc_fits_88 : decode y_Sc_fits.2.1 88 = .ok (.goto 4, 3) := dc9_167 (by decide +kernel)
theorem d_Sc_fits_92 : decode y_Sc_fits.2.1 92 = .ok (.ireturn, 1) := dc9_172 (by decide +kernel)
def h_Sc_fits_74 (G : mG) (d : Nat) (a1 : Nat) (M : mM) (Q : Int → mM → Prop) : Prop := mWm G y_Sc_fits (d + 1) 74 [vd, vr a1] [] M (fun r9 M9 => ∃ x9, r9 = some (vi x9) ∧ Q x9 M9)
theorem k_Sc_fits {G : mG} {d : Nat} {a0 : Nat} {a1 : Nat} {M : mM} {Q : Int → mM → Prop} (hO : mOk M)
    (h : mK M a1 = 11 ∧ mK M (mR M a1 1) = 10 ∧ Cv G y_Na_multiply d [vr (mR M a1 1), vi (mI M a1 2)] M (fun M3 => mOk M3 ∧ (mK M3 a1 = 11 ∧ ∀ M7, M7 = mUI M3 a1 2 1 → mK M7 (mR M7 a1 0) = 10 ∧ ((mI M7 (mR M7 a1 0) 1 = 0) → (Cv G y_Fr_put0 d [vr a1, vi 0] M7 (fun M12 => mOk M12 ∧ (h_Sc_fits_74 G d a1 M12 Q)))) ∧ (¬ (mI M7 (mR M7 a1 0) 1 = 0) → (Ci G y_Na_order d [vr (mR M7 a1 0), vr (mR M7 a1 1)] M7 (fun x16 M15 => i32 x16 ∧ mOk M15 ∧ (((x16 = 0) → (mK M15 a1 = 11 ∧ Cv G y_Fr_put0 d [vr a1, vi 1] M15 (fun M21 => mOk M21 ∧ (h_Sc_fits_74 G d a1 M21 Q)))) ∧ (¬ (x16 = 0) → (mK M15 a1 = 11 ∧ mK M15 (mR M15 a1 1) = 10 ∧ Ci G y_Na_bits d [vr (mR M15 a1 1)] M15 (fun x27 M26 => i32 x27 ∧ mOk M26 ∧ (((x27 ≤ 480) → (h_Sc_fits_74 G d a1 M26 Q)) ∧ (¬ (x27 ≤ 480) → (mK M26 a0 = 9 ∧ Cv G y_Sc_reduce d [vr a0, vr a1] M26 (fun M32 => mOk M32 ∧ (h_Sc_fits_74 G d a1 M32 Q))))))))))))))) :
    Ci G y_Sc_fits (d + 1) [vr a0, vr a1] M Q := by
  refine wm_open (y := y_Sc_fits) rfl (Nat.le_of_ble_eq_true rfl) (L := [vr a0, vr a1]) rfl ?_
  obtain ⟨h1, h⟩ := h
  obtain ⟨h2, h⟩ := h
  refine wm_aload_n d_Sc_fits_0 rfl rfl ?_
  refine gf_Sc_108 rfl d_Sc_fits_1 h1 ?_
  refine wm_aload_n d_Sc_fits_4 rfl rfl ?_
  refine gf_Sc_111 rfl d_Sc_fits_5 h1 ?_
  refine cf_Sc_114 rfl d_Sc_fits_8 h2 (Nat.le_of_ble_eq_true rfl) (Cv.mono h (fun M3 h => ?_))
  obtain ⟨hOM3, h⟩ := h
  obtain ⟨h6, h⟩ := h
  obtain ⟨M7, e8⟩ : ∃ M7, M7 = mUI M3 a1 2 1 := ⟨_, rfl⟩
  replace h := h M7 e8
  obtain ⟨h9, h⟩ := h
  refine wm_aload_n d_Sc_fits_11 rfl rfl ?_
  refine wm_iconst d_Sc_fits_12 ?_
  have hOM7 : mOk M7 := by rw [e8]; exact mOk_UI hOM3 ⟨by decide, by decide⟩
  refine pf_Sc_111 rfl d_Sc_fits_13 h6 ⟨by decide, by decide⟩ e8 ?_
  refine wm_aload_n d_Sc_fits_16 rfl rfl ?_
  refine gf_Sc_118 rfl d_Sc_fits_17 (by rw [e8]; exact h6) ?_
  refine gf_Sc_57 rfl d_Sc_fits_20 h9 ?_
  refine wm_if_ne (tgt := 34) d_Sc_fits_23 rfl (hOM7 _ _).1 (fun c11 => ?_) (fun c11 => ?_)
  · replace h := h.2 c11
    refine wm_aload_n d_Sc_fits_34 rfl rfl ?_
    refine gf_Sc_118 rfl d_Sc_fits_35 (by rw [e8]; exact h6) ?_
    refine wm_aload_n d_Sc_fits_38 rfl rfl ?_
    refine gf_Sc_108 rfl d_Sc_fits_39 (by rw [e8]; exact h6) ?_
    refine cf_Sc_65 rfl d_Sc_fits_42 (Nat.le_of_ble_eq_true rfl) (Ci.mono h (fun x16 M15 h => ?_))
    obtain ⟨h17, hOM15, h⟩ := h
    refine wm_if_ne (tgt := 56) d_Sc_fits_45 rfl h17 (fun c19 => ?_) (fun c19 => ?_)
    · replace h := h.2 c19
      obtain ⟨h24, h⟩ := h
      obtain ⟨h25, h⟩ := h
      refine wm_aload_n d_Sc_fits_56 rfl rfl ?_
      refine gf_Sc_108 rfl d_Sc_fits_57 h24 ?_
      refine cf_Sc_88 rfl d_Sc_fits_60 h25 (Nat.le_of_ble_eq_true rfl) (Ci.mono h (fun x27 M26 h => ?_))
      obtain ⟨h28, hOM26, h⟩ := h
      refine wm_sipush d_Sc_fits_63 (by decide) ?_
      refine wm_icmp_le (tgt := 74) d_Sc_fits_66 rfl h28 ⟨by decide, by decide⟩ (fun c30 => ?_) (fun c30 => ?_)
      · replace h := h.1 c30
        refine wm_less (L' := [vd, vr a1]) ⟨Or.inl rfl, Or.inr rfl, trivial⟩ ?_
        exact h
      · replace h := h.2 c30
        obtain ⟨h31, h⟩ := h
        refine wm_aload_n d_Sc_fits_69 rfl rfl ?_
        refine wm_aload_n d_Sc_fits_70 rfl rfl ?_
        refine cf_Sc_189 rfl d_Sc_fits_71 h31 (Nat.le_of_ble_eq_true rfl) (Cv.mono h (fun M32 h => ?_))
        obtain ⟨hOM32, h⟩ := h
        refine wm_less (L' := [vd, vr a1]) ⟨Or.inl rfl, Or.inr rfl, trivial⟩ ?_
        exact h
    · replace c19 := Classical.not_not.mp c19
      replace h := h.1 c19
      obtain ⟨h20, h⟩ := h
      refine wm_aload_n d_Sc_fits_48 rfl rfl ?_
      refine wm_iconst d_Sc_fits_49 ?_
      refine cf_Sc_134 rfl d_Sc_fits_50 h20 (Nat.le_of_ble_eq_true rfl) (Cv.mono h (fun M21 h => ?_))
      obtain ⟨hOM21, h⟩ := h
      refine wm_goto (tgt := 74) d_Sc_fits_53 rfl ?_
      refine wm_less (L' := [vd, vr a1]) ⟨Or.inl rfl, Or.inr rfl, trivial⟩ ?_
      exact h
  · replace c11 := Classical.not_not.mp c11
    replace h := h.1 c11
    refine wm_aload_n d_Sc_fits_26 rfl rfl ?_
    refine wm_iconst d_Sc_fits_27 ?_
    refine cf_Sc_134 rfl d_Sc_fits_28 (by rw [e8]; exact h6) (Nat.le_of_ble_eq_true rfl) (Cv.mono h (fun M12 h => ?_))
    obtain ⟨hOM12, h⟩ := h
    refine wm_goto (tgt := 74) d_Sc_fits_31 rfl ?_
    refine wm_less (L' := [vd, vr a1]) ⟨Or.inl rfl, Or.inr rfl, trivial⟩ ?_
    exact h
theorem k_Sc_fits_74 {G : mG} {d : Nat} {a1 : Nat} {M : mM} {Q : Int → mM → Prop} (hO : mOk M)
    (h : mK M a1 = 11 ∧ mK M (mR M a1 1) = 10 ∧ Ci G y_Na_bits d [vr (mR M a1 1)] M (fun x38 M37 => i32 x38 ∧ mOk M37 ∧ (∀ v41 : Int, v41 = (if (480 < x38) then 0 else 1) → Q v41 M37))) :
    h_Sc_fits_74 G d a1 M Q := by
  unfold h_Sc_fits_74
  obtain ⟨h35, h⟩ := h
  obtain ⟨h36, h⟩ := h
  refine wm_aload_n d_Sc_fits_74 rfl rfl ?_
  refine gf_Sc_108 rfl d_Sc_fits_75 h35 ?_
  refine cf_Sc_88 rfl d_Sc_fits_78 h36 (Nat.le_of_ble_eq_true rfl) (Ci.mono h (fun x38 M37 h => ?_))
  obtain ⟨h39, hOM37, h⟩ := h
  refine wm_sipush d_Sc_fits_81 (by decide) ?_
  have hJ : ∀ v41 : Int, v41 = (if (480 < x38) then 0 else 1) → mWm G y_Sc_fits (d + 1) 92 [vd, vd] [vi v41] M37 (fun r9 M9 => ∃ x9, r9 = some (vi x9) ∧ Q x9 M9) := by
    intro v41 e43
    have h := h v41 e43
    have h44 : i32 v41 := by rw [e43]; (repeat' split) <;> first | exact ⟨by decide, by decide⟩ | exact ⟨by decide, by decide⟩
    have h45 : (v41 = 0 ∨ v41 = 1) := by rw [e43]; (repeat' split) <;> decide
    refine wm_ireturn d_Sc_fits_92 rfl (m_nb h45) ?_
    exact ⟨_, rfl, h⟩
  clear h
  refine wm_icmp_gt (tgt := 91) d_Sc_fits_84 rfl h39 ⟨by decide, by decide⟩ (fun c40 => ?_) (fun c40 => ?_)
  · refine wm_iconst d_Sc_fits_91 ?_
    refine wm_less (L' := [vd, vd]) ⟨Or.inl rfl, Or.inl rfl, trivial⟩ ?_
    exact hJ 0 (if_pos c40).symm
  · refine wm_iconst d_Sc_fits_87 ?_
    refine wm_goto (tgt := 92) d_Sc_fits_88 rfl ?_
    refine wm_less (L' := [vd, vd]) ⟨Or.inl rfl, Or.inl rfl, trivial⟩ ?_
    exact hJ 1 (if_neg c40).symm
theorem d_So_init_0 : decode y_So_init.2.1 0 = .ok (.aload_n 0, 1) := dc9_42 (by decide +kernel)
theorem d_So_init_1 : decode y_So_init.2.1 1 = .ok (.invokespecial 3, 3) := dc9_183 (by decide +kernel)
theorem d_So_init_4 : decode y_So_init.2.1 4 = .ok (.aload_n 0, 1) := dc9_42 (by decide +kernel)
theorem d_So_init_5 : decode y_So_init.2.1 5 = .ok (.new 9, 3) := dc9_187 (by decide +kernel)
theorem d_So_init_8 : decode y_So_init.2.1 8 = .ok (.dup, 1) := dc9_89 (by decide +kernel)
theorem d_So_init_9 : decode y_So_init.2.1 9 = .ok (.invokespecial 11, 3) := dc9_183 (by decide +kernel)
theorem d_So_init_12 : decode y_So_init.2.1 12 = .ok (.putfield 12, 3) := dc9_181 (by decide +kernel)
theorem d_So_init_15 : decode y_So_init.2.1 15 = .ok (.aload_n 0, 1) := dc9_42 (by decide +kernel)
theorem d_So_init_16 : decode y_So_init.2.1 16 = .ok (.sipush 512, 3) := dc9_17 (by decide +kernel)
theorem d_So_init_19 : decode y_So_init.2.1 19 = .ok (.newarray .int, 2) := by decide +kernel
theorem d_So_init_21 : decode y_So_init.2.1 21 = .ok (.putfield 18, 3) := dc9_181 (by decide +kernel)
theorem d_So_init_24 : decode y_So_init.2.1 24 = .ok (.aload_n 0, 1) := dc9_42 (by decide +kernel)
theorem d_So_init_25 : decode y_So_init.2.1 25 = .ok (.sipush 512, 3) := dc9_17 (by decide +kernel)
theorem d_So_init_28 : decode y_So_init.2.1 28 = .ok (.newarray .int, 2) := by decide +kernel
theorem d_So_init_30 : decode y_So_init.2.1 30 = .ok (.putfield 22, 3) := dc9_181 (by decide +kernel)
theorem d_So_init_33 : decode y_So_init.2.1 33 = .ok (.aload_n 0, 1) := dc9_42 (by decide +kernel)
theorem d_So_init_34 : decode y_So_init.2.1 34 = .ok (.new 25, 3) := dc9_187 (by decide +kernel)
theorem d_So_init_37 : decode y_So_init.2.1 37 = .ok (.dup, 1) := dc9_89 (by decide +kernel)
theorem d_So_init_38 : decode y_So_init.2.1 38 = .ok (.invokespecial 27, 3) := dc9_183 (by decide +kernel)
theorem d_So_init_41 : decode y_So_init.2.1 41 = .ok (.putfield 28, 3) := dc9_181 (by decide +kernel)
theorem d_So_init_44 : decode y_So_init.2.1 44 = .ok (.aload_n 0, 1) := dc9_42 (by decide +kernel)
theorem d_So_init_45 : decode y_So_init.2.1 45 = .ok (.sipush 512, 3) := dc9_17 (by decide +kernel)
theorem d_So_init_48 : decode y_So_init.2.1 48 = .ok (.newarray .int, 2) := by decide +kernel
theorem d_So_init_50 : decode y_So_init.2.1 50 = .ok (.putfield 32, 3) := dc9_181 (by decide +kernel)
theorem d_So_init_53 : decode y_So_init.2.1 53 = .ok (.aload_n 0, 1) := dc9_42 (by decide +kernel)
theorem d_So_init_54 : decode y_So_init.2.1 54 = .ok (.sipush 512, 3) := dc9_17 (by decide +kernel)
theorem d_So_init_57 : decode y_So_init.2.1 57 = .ok (.newarray .int, 2) := by decide +kernel
theorem d_So_init_59 : decode y_So_init.2.1 59 = .ok (.putfield 35, 3) := dc9_181 (by decide +kernel)
theorem d_So_init_62 : decode y_So_init.2.1 62 = .ok (.aload_n 0, 1) := dc9_42 (by decide +kernel)
theorem d_So_init_63 : decode y_So_init.2.1 63 = .ok (.sipush 512, 3) := dc9_17 (by decide +kernel)
theorem d_So_init_66 : decode y_So_init.2.1 66 = .ok (.newarray .int, 2) := by decide +kernel
theorem d_So_init_68 : decode y_So_init.2.1 68 = .ok (.putfield 38, 3) := dc9_181 (by decide +kernel)
theorem d_So_init_71 : decode y_So_init.2.1 71 = .ok (.aload_n 0, 1) := dc9_42 (by decide +kernel)
theorem d_So_init_72 : decode y_So_init.2.1 72 = .ok (.bipush 40, 2) := dc9_16 (by decide +kernel)
theorem d_So_init_74 : decode y_So_init.2.1 74 = .ok (.newarray .int, 2) := by decide +kernel
theorem d_So_init_76 : decode y_So_init.2.1 76 = .ok (.putfield 41, 3) := dc9_181 (by decide +kernel)
theorem d_So_init_79 : decode y_So_init.2.1 79 = .ok (.aload_n 0, 1) := dc9_42 (by decide +kernel)
theorem d_So_init_80 : decode y_So_init.2.1 80 = .ok (.bipush 40, 2) := dc9_16 (by decide +kernel)
theorem d_So_init_82 : decode y_So_init.2.1 82 = .ok (.newarray .int, 2) := by decide +kernel
theorem d_So_init_84 : decode y_So_init.2.1 84 = .ok (.putfield 44, 3) := dc9_181 (by decide +kernel)
theorem d_So_init_87 : decode y_So_init.2.1 87 = .ok (.aload_n 0, 1) := dc9_42 (by decide +kernel)
theorem d_So_init_88 : decode y_So_init.2.1 88 = .ok (.iconst 0, 1) := dc9_3 (by decide +kernel)
theorem d_So_init_89 : decode y_So_init.2.1 89 = .ok (.newarray .int, 2) := by decide +kernel
theorem d_So_init_91 : decode y_So_init.2.1 91 = .ok (.putfield 47, 3) := dc9_181 (by decide +kernel)
theorem d_So_init_94 : decode y_So_init.2.1 94 = .ok (.aload_n 0, 1) := dc9_42 (by decide +kernel)
theorem d_So_init_95 : decode y_So_init.2.1 95 = .ok (.sipush 4097, 3) := dc9_17 (by decide +kernel)
theorem d_So_init_98 : decode y_So_init.2.1 98 = .ok (.newarray .boolean, 2) := by decide +kernel
theorem d_So_init_100 : decode y_So_init.2.1 100 = .ok (.putfield 50, 3) := dc9_181 (by decide +kernel)
theorem d_So_init_103 : decode y_So_init.2.1 103 = .ok (.aload_n 0, 1) := dc9_42 (by decide +kernel)
theorem d_So_init_104 : decode y_So_init.2.1 104 = .ok (.sipush 512, 3) := dc9_17 (by decide +kernel)
theorem d_So_init_107 : decode y_So_init.2.1 107 = .ok (.newarray .int, 2) := by decide +kernel
theorem d_So_init_109 : decode y_So_init.2.1 109 = .ok (.putfield 54, 3) := dc9_181 (by decide +kernel)
theorem d_So_init_112 : decode y_So_init.2.1 112 = .ok (.aload_n 0, 1) := dc9_42 (by decide +kernel)
theorem d_So_init_113 : decode y_So_init.2.1 113 = .ok (.new 57, 3) := dc9_187 (by decide +kernel)
theorem d_So_init_116 : decode y_So_init.2.1 116 = .ok (.dup, 1) := dc9_89 (by decide +kernel)
theorem d_So_init_117 : decode y_So_init.2.1 117 = .ok (.invokespecial 59, 3) := dc9_183 (by decide +kernel)
theorem d_So_init_120 : decode y_So_init.2.1 120 = .ok (.putfield 60, 3) := dc9_181 (by decide +kernel)
theorem d_So_init_123 : decode y_So_init.2.1 123 = .ok (.aload_n 0, 1) := dc9_42 (by decide +kernel)
theorem d_So_init_124 : decode y_So_init.2.1 124 = .ok (.aload_n 1, 1) := dc9_43 (by decide +kernel)
theorem d_So_init_125 : decode y_So_init.2.1 125 = .ok (.putfield 64, 3) := dc9_181 (by decide +kernel)
theorem d_So_init_128 : decode y_So_init.2.1 128 = .ok (.return_, 1) := dc9_177 (by decide +kernel)
theorem k_So_init {G : mG} {d : Nat} {a0 : Nat} {a1 : Nat} {M : mM} {Q : mM → Prop} (hO : mOk M)
    (h : 0 < a0 ∧ ∀ M2, M2 = mNew M 9 0 11 → Cv G y_Sc_init d [vr (mZ M)] M2 (fun M4 => mOk M4 ∧ (mK M4 a0 = 8 ∧ ∀ M8, M8 = mUR M4 a0 0 (mZ M) → ∀ M10, M10 = mNew M8 30 512 512 → mK M10 a0 = 8 ∧ ∀ M13, M13 = mUR M10 a0 1 (mZ M8) → ∀ M15, M15 = mNew M13 30 512 512 → mK M15 a0 = 8 ∧ ∀ M18, M18 = mUR M15 a0 2 (mZ M13) → ∀ M20, M20 = mNew M18 12 0 7 → Cv G y_Re_init d [vr (mZ M18)] M20 (fun M22 => mOk M22 ∧ (mK M22 a0 = 8 ∧ ∀ M26, M26 = mUR M22 a0 4 (mZ M18) → ∀ M28, M28 = mNew M26 30 512 512 → mK M28 a0 = 8 ∧ ∀ M31, M31 = mUR M28 a0 5 (mZ M26) → ∀ M33, M33 = mNew M31 30 512 512 → mK M33 a0 = 8 ∧ ∀ M36, M36 = mUR M33 a0 6 (mZ M31) → ∀ M38, M38 = mNew M36 30 512 512 → mK M38 a0 = 8 ∧ ∀ M41, M41 = mUR M38 a0 7 (mZ M36) → ∀ M43, M43 = mNew M41 30 40 40 → mK M43 a0 = 8 ∧ ∀ M46, M46 = mUR M43 a0 8 (mZ M41) → ∀ M48, M48 = mNew M46 30 40 40 → mK M48 a0 = 8 ∧ ∀ M51, M51 = mUR M48 a0 9 (mZ M46) → ∀ M53, M53 = mNew M51 30 0 0 → mK M53 a0 = 8 ∧ ∀ M56, M56 = mUR M53 a0 11 (mZ M51) → ∀ M58, M58 = mNew M56 31 4097 4097 → mK M58 a0 = 8 ∧ ∀ M61, M61 = mUR M58 a0 15 (mZ M56) → ∀ M63, M63 = mNew M61 30 512 512 → mK M63 a0 = 8 ∧ ∀ M66, M66 = mUR M63 a0 16 (mZ M61) → ∀ M68, M68 = mNew M66 11 0 3 → Cv G y_Fr_init d [vr (mZ M66)] M68 (fun M70 => mOk M70 ∧ (mK M70 a0 = 8 ∧ ∀ M74, M74 = mUR M70 a0 17 (mZ M66) → ∀ M76, M76 = mUR M74 a0 3 a1 → Q M76))))))) :
    Cv G y_So_init (d + 1) [vr a0, vr a1] M Q := by
  refine wm_open (y := y_So_init) rfl (Nat.le_of_ble_eq_true rfl) (L := [vr a0, vr a1]) rfl ?_
  obtain ⟨h1, h⟩ := h
  obtain ⟨M2, e3⟩ : ∃ M2, M2 = mNew M 9 0 11 := ⟨_, rfl⟩
  replace h := h M2 e3
  refine wm_aload_n d_So_init_0 rfl rfl ?_
  refine wm_objInit trivial k2_226 kO_inst kO_code (Nat.le_of_ble_eq_true rfl) d_So_init_1 h1 ?_
  refine wm_aload_n d_So_init_4 rfl rfl ?_
  have hOM2 : mOk M2 := by rw [e3]; exact mOk_New hO
  refine nf_So_9 rfl d_So_init_5 e3 ?_
  refine wm_dup d_So_init_8 rfl ?_
  refine cf_So_11 rfl d_So_init_9 (by rw [e3]; exact if_pos rfl) (Nat.le_of_ble_eq_true rfl) (Cv.mono h (fun M4 h => ?_))
  obtain ⟨hOM4, h⟩ := h
  obtain ⟨h7, h⟩ := h
  obtain ⟨M8, e9⟩ : ∃ M8, M8 = mUR M4 a0 0 (mZ M) := ⟨_, rfl⟩
  replace h := h M8 e9
  obtain ⟨M10, e11⟩ : ∃ M10, M10 = mNew M8 30 512 512 := ⟨_, rfl⟩
  replace h := h M10 e11
  obtain ⟨h12, h⟩ := h
  obtain ⟨M13, e14⟩ : ∃ M13, M13 = mUR M10 a0 1 (mZ M8) := ⟨_, rfl⟩
  replace h := h M13 e14
  obtain ⟨M15, e16⟩ : ∃ M15, M15 = mNew M13 30 512 512 := ⟨_, rfl⟩
  replace h := h M15 e16
  obtain ⟨h17, h⟩ := h
  obtain ⟨M18, e19⟩ : ∃ M18, M18 = mUR M15 a0 2 (mZ M13) := ⟨_, rfl⟩
  replace h := h M18 e19
  obtain ⟨M20, e21⟩ : ∃ M20, M20 = mNew M18 12 0 7 := ⟨_, rfl⟩
  replace h := h M20 e21
  have hOM8 : mOk M8 := by rw [e9]; exact mOk_UR hOM4
  refine pf_So_12 rfl rfl d_So_init_12 h7 e9 ?_
  refine wm_aload_n d_So_init_15 rfl rfl ?_
  refine wm_sipush d_So_init_16 (by decide) ?_
  have hOM10 : mOk M10 := by rw [e11]; exact mOk_New hOM8
  refine wm_newarrE 0 (atype := .int) (ty := .int) rfl rfl (fun _ => rfl) rfl rfl (by decide) k1_82 ⟨by decide, by decide⟩ d_So_init_19 e11 ?_
  have hOM13 : mOk M13 := by rw [e14]; exact mOk_UR hOM10
  refine pf_So_18 rfl rfl d_So_init_21 h12 e14 ?_
  refine wm_aload_n d_So_init_24 rfl rfl ?_
  refine wm_sipush d_So_init_25 (by decide) ?_
  have hOM15 : mOk M15 := by rw [e16]; exact mOk_New hOM13
  refine wm_newarrE 0 (atype := .int) (ty := .int) rfl rfl (fun _ => rfl) rfl rfl (by decide) k1_82 ⟨by decide, by decide⟩ d_So_init_28 e16 ?_
  have hOM18 : mOk M18 := by rw [e19]; exact mOk_UR hOM15
  refine pf_So_22 rfl rfl d_So_init_30 h17 e19 ?_
  refine wm_aload_n d_So_init_33 rfl rfl ?_
  have hOM20 : mOk M20 := by rw [e21]; exact mOk_New hOM18
  refine nf_So_25 rfl d_So_init_34 e21 ?_
  refine wm_dup d_So_init_37 rfl ?_
  refine cf_So_27 rfl d_So_init_38 (by rw [e21]; exact if_pos rfl) (Nat.le_of_ble_eq_true rfl) (Cv.mono h (fun M22 h => ?_))
  obtain ⟨hOM22, h⟩ := h
  obtain ⟨h25, h⟩ := h
  obtain ⟨M26, e27⟩ : ∃ M26, M26 = mUR M22 a0 4 (mZ M18) := ⟨_, rfl⟩
  replace h := h M26 e27
  obtain ⟨M28, e29⟩ : ∃ M28, M28 = mNew M26 30 512 512 := ⟨_, rfl⟩
  replace h := h M28 e29
  obtain ⟨h30, h⟩ := h
  obtain ⟨M31, e32⟩ : ∃ M31, M31 = mUR M28 a0 5 (mZ M26) := ⟨_, rfl⟩
  replace h := h M31 e32
  obtain ⟨M33, e34⟩ : ∃ M33, M33 = mNew M31 30 512 512 := ⟨_, rfl⟩
  replace h := h M33 e34
  obtain ⟨h35, h⟩ := h
  obtain ⟨M36, e37⟩ : ∃ M36, M36 = mUR M33 a0 6 (mZ M31) := ⟨_, rfl⟩
  replace h := h M36 e37
  obtain ⟨M38, e39⟩ : ∃ M38, M38 = mNew M36 30 512 512 := ⟨_, rfl⟩
  replace h := h M38 e39
  obtain ⟨h40, h⟩ := h
  obtain ⟨M41, e42⟩ : ∃ M41, M41 = mUR M38 a0 7 (mZ M36) := ⟨_, rfl⟩
  replace h := h M41 e42
  obtain ⟨M43, e44⟩ : ∃ M43, M43 = mNew M41 30 40 40 := ⟨_, rfl⟩
  replace h := h M43 e44
  obtain ⟨h45, h⟩ := h
  obtain ⟨M46, e47⟩ : ∃ M46, M46 = mUR M43 a0 8 (mZ M41) := ⟨_, rfl⟩
  replace h := h M46 e47
  obtain ⟨M48, e49⟩ : ∃ M48, M48 = mNew M46 30 40 40 := ⟨_, rfl⟩
  replace h := h M48 e49
  obtain ⟨h50, h⟩ := h
  obtain ⟨M51, e52⟩ : ∃ M51, M51 = mUR M48 a0 9 (mZ M46) := ⟨_, rfl⟩
  replace h := h M51 e52
  obtain ⟨M53, e54⟩ : ∃ M53, M53 = mNew M51 30 0 0 := ⟨_, rfl⟩
  replace h := h M53 e54
  obtain ⟨h55, h⟩ := h
  obtain ⟨M56, e57⟩ : ∃ M56, M56 = mUR M53 a0 11 (mZ M51) := ⟨_, rfl⟩
  replace h := h M56 e57
  obtain ⟨M58, e59⟩ : ∃ M58, M58 = mNew M56 31 4097 4097 := ⟨_, rfl⟩
  replace h := h M58 e59
  obtain ⟨h60, h⟩ := h
  obtain ⟨M61, e62⟩ : ∃ M61, M61 = mUR M58 a0 15 (mZ M56) := ⟨_, rfl⟩
  replace h := h M61 e62
  obtain ⟨M63, e64⟩ : ∃ M63, M63 = mNew M61 30 512 512 := ⟨_, rfl⟩
  replace h := h M63 e64
  obtain ⟨h65, h⟩ := h
  obtain ⟨M66, e67⟩ : ∃ M66, M66 = mUR M63 a0 16 (mZ M61) := ⟨_, rfl⟩
  replace h := h M66 e67
  obtain ⟨M68, e69⟩ : ∃ M68, M68 = mNew M66 11 0 3 := ⟨_, rfl⟩
  replace h := h M68 e69
  have hOM26 : mOk M26 := by rw [e27]; exact mOk_UR hOM22
  refine pf_So_28 rfl rfl d_So_init_41 h25 e27 ?_
  refine wm_aload_n d_So_init_44 rfl rfl ?_
  refine wm_sipush d_So_init_45 (by decide) ?_
  have hOM28 : mOk M28 := by rw [e29]; exact mOk_New hOM26
  refine wm_newarrE 0 (atype := .int) (ty := .int) rfl rfl (fun _ => rfl) rfl rfl (by decide) k1_82 ⟨by decide, by decide⟩ d_So_init_48 e29 ?_
  have hOM31 : mOk M31 := by rw [e32]; exact mOk_UR hOM28
  refine pf_So_32 rfl rfl d_So_init_50 h30 e32 ?_
  refine wm_aload_n d_So_init_53 rfl rfl ?_
  refine wm_sipush d_So_init_54 (by decide) ?_
  have hOM33 : mOk M33 := by rw [e34]; exact mOk_New hOM31
  refine wm_newarrE 0 (atype := .int) (ty := .int) rfl rfl (fun _ => rfl) rfl rfl (by decide) k1_82 ⟨by decide, by decide⟩ d_So_init_57 e34 ?_
  have hOM36 : mOk M36 := by rw [e37]; exact mOk_UR hOM33
  refine pf_So_35 rfl rfl d_So_init_59 h35 e37 ?_
  refine wm_aload_n d_So_init_62 rfl rfl ?_
  refine wm_sipush d_So_init_63 (by decide) ?_
  have hOM38 : mOk M38 := by rw [e39]; exact mOk_New hOM36
  refine wm_newarrE 0 (atype := .int) (ty := .int) rfl rfl (fun _ => rfl) rfl rfl (by decide) k1_82 ⟨by decide, by decide⟩ d_So_init_66 e39 ?_
  have hOM41 : mOk M41 := by rw [e42]; exact mOk_UR hOM38
  refine pf_So_38 rfl rfl d_So_init_68 h40 e42 ?_
  refine wm_aload_n d_So_init_71 rfl rfl ?_
  refine wm_bipush d_So_init_72 (by decide) ?_
  have hOM43 : mOk M43 := by rw [e44]; exact mOk_New hOM41
  refine wm_newarrE 0 (atype := .int) (ty := .int) rfl rfl (fun _ => rfl) rfl rfl (by decide) k1_82 ⟨by decide, by decide⟩ d_So_init_74 e44 ?_
  have hOM46 : mOk M46 := by rw [e47]; exact mOk_UR hOM43
  refine pf_So_41 rfl rfl d_So_init_76 h45 e47 ?_
  refine wm_aload_n d_So_init_79 rfl rfl ?_
  refine wm_bipush d_So_init_80 (by decide) ?_
  have hOM48 : mOk M48 := by rw [e49]; exact mOk_New hOM46
  refine wm_newarrE 0 (atype := .int) (ty := .int) rfl rfl (fun _ => rfl) rfl rfl (by decide) k1_82 ⟨by decide, by decide⟩ d_So_init_82 e49 ?_
  have hOM51 : mOk M51 := by rw [e52]; exact mOk_UR hOM48
  refine pf_So_44 rfl rfl d_So_init_84 h50 e52 ?_
  refine wm_aload_n d_So_init_87 rfl rfl ?_
  refine wm_iconst d_So_init_88 ?_
  have hOM53 : mOk M53 := by rw [e54]; exact mOk_New hOM51
  refine wm_newarrE 0 (atype := .int) (ty := .int) rfl rfl (fun _ => rfl) rfl rfl (by decide) k1_82 ⟨by decide, by decide⟩ d_So_init_89 e54 ?_
  have hOM56 : mOk M56 := by rw [e57]; exact mOk_UR hOM53
  refine pf_So_47 rfl d_So_init_91 h55 e57 ?_
  refine wm_aload_n d_So_init_94 rfl rfl ?_
  refine wm_sipush d_So_init_95 (by decide) ?_
  have hOM58 : mOk M58 := by rw [e59]; exact mOk_New hOM56
  refine wm_newarrE 1 (atype := .boolean) (ty := .boolean) rfl rfl (fun _ => rfl) rfl rfl (by decide) k1_162 ⟨by decide, by decide⟩ d_So_init_98 e59 ?_
  have hOM61 : mOk M61 := by rw [e62]; exact mOk_UR hOM58
  refine pf_So_50 rfl rfl d_So_init_100 h60 e62 ?_
  refine wm_aload_n d_So_init_103 rfl rfl ?_
  refine wm_sipush d_So_init_104 (by decide) ?_
  have hOM63 : mOk M63 := by rw [e64]; exact mOk_New hOM61
  refine wm_newarrE 0 (atype := .int) (ty := .int) rfl rfl (fun _ => rfl) rfl rfl (by decide) k1_82 ⟨by decide, by decide⟩ d_So_init_107 e64 ?_
  have hOM66 : mOk M66 := by rw [e67]; exact mOk_UR hOM63
  refine pf_So_54 rfl rfl d_So_init_109 h65 e67 ?_
  refine wm_aload_n d_So_init_112 rfl rfl ?_
  have hOM68 : mOk M68 := by rw [e69]; exact mOk_New hOM66
  refine nf_So_57 rfl d_So_init_113 e69 ?_
  refine wm_dup d_So_init_116 rfl ?_
  refine cf_So_59 rfl d_So_init_117 (by rw [e69]; exact if_pos rfl) (Nat.le_of_ble_eq_true rfl) (Cv.mono h (fun M70 h => ?_))
  obtain ⟨hOM70, h⟩ := h
  obtain ⟨h73, h⟩ := h
  obtain ⟨M74, e75⟩ : ∃ M74, M74 = mUR M70 a0 17 (mZ M66) := ⟨_, rfl⟩
  replace h := h M74 e75
  obtain ⟨M76, e77⟩ : ∃ M76, M76 = mUR M74 a0 3 a1 := ⟨_, rfl⟩
  replace h := h M76 e77
  have hOM74 : mOk M74 := by rw [e75]; exact mOk_UR hOM70
  refine pf_So_60 rfl rfl d_So_init_120 h73 e75 ?_
  refine wm_aload_n d_So_init_123 rfl rfl ?_
  refine wm_aload_n d_So_init_124 rfl rfl ?_
  have hOM76 : mOk M76 := by rw [e77]; exact mOk_UR hOM74
  refine pf_So_64 rfl rfl d_So_init_125 (by rw [e75]; exact h73) e77 ?_
  refine wm_return d_So_init_128 rfl ?_
  exact ⟨rfl, h⟩
theorem d_So_workOut_0 : decode y_So_workOut.2.1 0 = .ok (.aload_n 2, 1) := dc9_44 (by decide +kernel)
theorem d_So_workOut_1 : decode y_So_workOut.2.1 1 = .ok (.iconst 0, 1) := dc9_3 (by decide +kernel)
theorem d_So_workOut_2 : decode y_So_workOut.2.1 2 = .ok (.putfield 68, 3) := dc9_181 (by decide +kernel)
theorem d_So_workOut_5 : decode y_So_workOut.2.1 5 = .ok (.aload_n 0, 1) := dc9_42 (by decide +kernel)
theorem d_So_workOut_6 : decode y_So_workOut.2.1 6 = .ok (.iload_n 1, 1) := dc9_27 (by decide +kernel)
theorem d_So_workOut_7 : decode y_So_workOut.2.1 7 = .ok (.invokevirtual 74, 3) := dc9_182 (by decide +kernel)
theorem d_So_workOut_10 : decode y_So_workOut.2.1 10 = .ok (.aload_n 0, 1) := dc9_42 (by decide +kernel)
theorem d_So_workOut_11 : decode y_So_workOut.2.1 11 = .ok (.invokevirtual 78, 3) := dc9_182 (by decide +kernel)
theorem d_So_workOut_14 : decode y_So_workOut.2.1 14 = .ok (.ifCond .ne 5, 3) := dc9_154 (by decide +kernel)
theorem d_So_workOut_17 : decode y_So_workOut.2.1 17 = .ok (.iconst 5, 1) := dc9_8 (by decide +kernel)
theorem d_So_workOut_18 : decode y_So_workOut.2.1 18 = .ok (.ireturn, 1) := dc9_172 (by decide +kernel)
theorem d_So_workOut_19 : decode y_So_workOut.2.1 19 = .ok (.aload_n 0, 1) := dc9_42 (by decide +kernel)
theorem d_So_workOut_20 : decode y_So_workOut.2.1 20 = .ok (.invokevirtual 82, 3) := dc9_182 (by decide +kernel)
theorem d_So_workOut_23 : decode y_So_workOut.2.1 23 = .ok (.sipush 480, 3) := dc9_17 (by decide +kernel)
theorem d_So_workOut_26 : decode y_So_workOut.2.1 26 = .ok (.if_icmp .le 6, 3) := dc9_164 (by decide +kernel)
theorem d_So_workOut_32 : decode y_So_workOut.2.1 32 = .ok (.aload_n 2, 1) := dc9_44 (by decide +kernel)
theorem d_So_workOut_33 : decode y_So_workOut.2.1 33 = .ok (.aload_n 0, 1) := dc9_42 (by decide +kernel)
theorem d_So_workOut_34 : decode y_So_workOut.2.1 34 = .ok (.getfield 64, 3) := dc9_180 (by decide +kernel)
theorem d_So_workOut_29 : decode y_So_workOut.2.1 29 = .ok (.bipush 6, 2) := dc9_16 (by decide +kernel)
theorem d_So_workOut_31 : decode y_So_workOut.2.1 31 = .ok (.ireturn, 1) := dc9_172 (by decide +kernel)
theorem d_So_workOut_37 : decode y_So_workOut.2.1 37 = .ok (.invokevirtual 86, 3) := dc9_182 (by decide +kernel)
theorem d_So_workOut_40 : decode y_So_workOut.2.1 40 = .ok (.iconst 1, 1) := dc9_4 (by decide +kernel)
theorem d_So_workOut_41 : decode y_So_workOut.2.1 41 = .ok (.istore_n 3, 1) := dc9_62 (by decide +kernel)
theorem d_So_workOut_42 : decode y_So_workOut.2.1 42 = .ok (.iconst 0, 1) := dc9_3 (by decide +kernel)
theorem d_So_workOut_43 : decode y_So_workOut.2.1 43 = .ok (.istore 4, 2) := dc9_54 (by decide +kernel)
theorem d_So_workOut_45 : decode y_So_workOut.2.1 45 = .ok (.iload 4, 2) := dc9_21 (by decide +kernel)
theorem d_So_workOut_47 : decode y_So_workOut.2.1 47 = .ok (.bipush 100, 2) := dc9_16 (by decide +kernel)
theorem d_So_workOut_49 : decode y_So_workOut.2.1 49 = .ok (.if_icmp .ge 42, 3) := dc9_162 (by decide +kernel)
theorem d_So_workOut_52 : decode y_So_workOut.2.1 52 = .ok (.iload_n 3, 1) := dc9_29 (by decide +kernel)
theorem d_So_workOut_53 : decode y_So_workOut.2.1 53 = .ok (.ifCond .eq 38, 3) := dc9_153 (by decide +kernel)
theorem d_So_workOut_56 : decode y_So_workOut.2.1 56 = .ok (.aload_n 0, 1) := dc9_42 (by decide +kernel)
theorem d_So_workOut_57 : decode y_So_workOut.2.1 57 = .ok (.aload_n 2, 1) := dc9_44 (by decide +kernel)
theorem d_So_workOut_91 : decode y_So_workOut.2.1 91 = .ok (.iload_n 3, 1) := dc9_29 (by decide +kernel)
theorem d_So_workOut_92 : decode y_So_workOut.2.1 92 = .ok (.ifCond .eq 7, 3) := dc9_153 (by decide +kernel)
theorem d_So_workOut_95 : decode y_So_workOut.2.1 95 = .ok (.aload_n 0, 1) := dc9_42 (by decide +kernel)
theorem d_So_workOut_99 : decode y_So_workOut.2.1 99 = .ok (.lconst 0, 1) := dc9_9 (by decide +kernel)
theorem d_So_workOut_100 : decode y_So_workOut.2.1 100 = .ok (.lstore 4, 2) := dc9_55 (by decide +kernel)
theorem d_So_workOut_96 : decode y_So_workOut.2.1 96 = .ok (.invokevirtual 98, 3) := dc9_182 (by decide +kernel)
theorem d_So_workOut_58 : decode y_So_workOut.2.1 58 = .ok (.invokevirtual 90, 3) := dc9_182 (by decide +kernel)
theorem d_So_workOut_61 : decode y_So_workOut.2.1 61 = .ok (.aload_n 0, 1) := dc9_42 (by decide +kernel)
theorem d_So_workOut_62 : decode y_So_workOut.2.1 62 = .ok (.iconst 2, 1) := dc9_5 (by decide +kernel)
theorem d_So_workOut_63 : decode y_So_workOut.2.1 63 = .ok (.aload_n 2, 1) := dc9_44 (by decide +kernel)
theorem d_So_workOut_64 : decode y_So_workOut.2.1 64 = .ok (.invokevirtual 94, 3) := dc9_182 (by decide +kernel)
theorem d_So_workOut_67 : decode y_So_workOut.2.1 67 = .ok (.ifCond .ne 12, 3) := dc9_154 (by decide +kernel)
theorem d_So_workOut_70 : decode y_So_workOut.2.1 70 = .ok (.aload_n 0, 1) := dc9_42 (by decide +kernel)
theorem d_So_workOut_71 : decode y_So_workOut.2.1 71 = .ok (.iconst 1, 1) := dc9_4 (by decide +kernel)
theorem d_So_workOut_72 : decode y_So_workOut.2.1 72 = .ok (.aload_n 2, 1) := dc9_44 (by decide +kernel)
theorem d_So_workOut_73 : decode y_So_workOut.2.1 73 = .ok (.invokevirtual 94, 3) := dc9_182 (by decide +kernel)
theorem d_So_workOut_76 : decode y_So_workOut.2.1 76 = .ok (.ifCond .eq 7, 3) := dc9_153 (by decide +kernel)
theorem d_So_workOut_83 : decode y_So_workOut.2.1 83 = .ok (.iconst 0, 1) := dc9_3 (by decide +kernel)
theorem d_So_workOut_79 : decode y_So_workOut.2.1 79 = .ok (.iconst 1, 1) := dc9_4 (by decide +kernel)
theorem d_So_workOut_80 : decode y_So_workOut.2.1 80 = .ok (.goto 4, 3) := dc9_167 (by decide +kernel)
theorem d_So_workOut_84 : decode y_So_workOut.2.1 84 = .ok (.istore_n 3, 1) := dc9_62 (by decide +kernel)
theorem d_So_workOut_85 : decode y_So_workOut.2.1 85 = .ok (.iinc 4 1, 3) := by decide +kernel
theorem d_So_workOut_88 : decode y_So_workOut.2.1 88 = .ok (.goto (-43), 3) := dc9_167 (by decide +kernel)
theorem d_So_workOut_102 : decode y_So_workOut.2.1 102 = .ok (.lload 4, 2) := dc9_22 (by decide +kernel)
theorem d_So_workOut_104 : decode y_So_workOut.2.1 104 = .ok (.ldc2_w 101, 3) := dc9_20 (by decide +kernel)
theorem d_So_workOut_107 : decode y_So_workOut.2.1 107 = .ok (.lcmp, 1) := dc9_148 (by decide +kernel)
theorem d_So_workOut_108 : decode y_So_workOut.2.1 108 = .ok (.ifCond .ge 27, 3) := dc9_156 (by decide +kernel)
theorem d_So_workOut_111 : decode y_So_workOut.2.1 111 = .ok (.iload_n 3, 1) := dc9_29 (by decide +kernel)
theorem d_So_workOut_112 : decode y_So_workOut.2.1 112 = .ok (.ifCond .eq 23, 3) := dc9_153 (by decide +kernel)
theorem d_So_workOut_115 : decode y_So_workOut.2.1 115 = .ok (.aload_n 0, 1) := dc9_42 (by decide +kernel)
theorem d_So_workOut_116 : decode y_So_workOut.2.1 116 = .ok (.aload_n 2, 1) := dc9_44 (by decide +kernel)
theorem d_So_workOut_135 : decode y_So_workOut.2.1 135 = .ok (.aload_n 2, 1) := dc9_44 (by decide +kernel)
theorem d_So_workOut_136 : decode y_So_workOut.2.1 136 = .ok (.iconst 1, 1) := dc9_4 (by decide +kernel)
theorem d_So_workOut_137 : decode y_So_workOut.2.1 137 = .ok (.putfield 68, 3) := dc9_181 (by decide +kernel)
theorem d_So_workOut_140 : decode y_So_workOut.2.1 140 = .ok (.iconst 0, 1) := dc9_3 (by decide +kernel)
theorem d_So_workOut_141 : decode y_So_workOut.2.1 141 = .ok (.ireturn, 1) := dc9_172 (by decide +kernel)
theorem d_So_workOut_117 : decode y_So_workOut.2.1 117 = .ok (.invokevirtual 90, 3) := dc9_182 (by decide +kernel)
theorem d_So_workOut_120 : decode y_So_workOut.2.1 120 = .ok (.aload_n 0, 1) := dc9_42 (by decide +kernel)
theorem d_So_workOut_121 : decode y_So_workOut.2.1 121 = .ok (.aload_n 2, 1) := dc9_44 (by decide +kernel)
theorem d_So_workOut_122 : decode y_So_workOut.2.1 122 = .ok (.invokevirtual 103, 3) := dc9_182 (by decide +kernel)
theorem d_So_workOut_125 : decode y_So_workOut.2.1 125 = .ok (.istore_n 3, 1) := dc9_62 (by decide +kernel)
theorem d_So_workOut_126 : decode y_So_workOut.2.1 126 = .ok (.lload 4, 2) := dc9_22 (by decide +kernel)
theorem d_So_workOut_128 : decode y_So_workOut.2.1 128 = .ok (.lconst 1, 1) := dc9_10 (by decide +kernel)
theorem d_So_workOut_129 : decode y_So_workOut.2.1 129 = .ok (.ladd, 1) := dc9_97 (by decide +kernel)
theorem d_So_workOut_130 : decode y_So_workOut.2.1 130 = .ok (.lstore 4, 2) := dc9_55 (by decide +kernel)
theorem d_So_workOut_132 : decode y_So_workOut.2.1 132 = .ok (.goto (-30), 3) := dc9_167 (by decide +kernel)
def h_So_workOut_45 (G : mG) (d : Nat) (a0 : Nat) (a2 : Nat) (l3 : Int) (l4 : Int) (M : mM) (Q : Int → mM → Prop) : Prop := mWm G y_So_workOut (d + 1) 45 [vr a0, vd, vr a2, vi l3, vi l4, vd] [] M (fun r9 M9 => ∃ x9, r9 = some (vi x9) ∧ Q x9 M9)
def h_So_workOut_102 (G : mG) (d : Nat) (a0 : Nat) (a2 : Nat) (l3 : Int) (j4 : Int) (M : mM) (Q : Int → mM → Prop) : Prop := mWm G y_So_workOut (d + 1) 102 [vr a0, vd, vr a2, vi l3, vl j4, vd] [] M (fun r9 M9 => ∃ x9, r9 = some (vi x9) ∧ Q x9 M9)
theorem k_So_workOut {G : mG} {d : Nat} {a0 : Nat} {l1 : Int} {a2 : Nat} {M : mM} {Q : Int → mM → Prop} (hO : mOk M) (hi_l1 : i32 l1)
    (h : mK M a2 = 13 ∧ ∀ M2, M2 = mUI M a2 1 0 → mK M2 a0 = 8 ∧ Cv G y_So_leaveCommands d [vr a0, vi l1] M2 (fun M5 => mOk M5 ∧ (mK M5 a0 = 8 ∧ Ci G y_So_findUnknown d [vr a0] M5 (fun x10 M9 => i32 x10 ∧ mOk M9 ∧ (((x10 = 0) → (Q 5 M9)) ∧ (¬ (x10 = 0) → (mK M9 a0 = 8 ∧ Ci G y_So_weights d [vr a0] M9 (fun x16 M15 => i32 x16 ∧ mOk M15 ∧ (((x16 ≤ 480) → (mK M15 a0 = 8 ∧ mK M15 a2 = 13 ∧ Cv G y_Fs_begin d [vr a2, vr (mR M15 a0 3)] M15 (fun M22 => mOk M22 ∧ (h_So_workOut_45 G d a0 a2 1 0 M22 Q)))) ∧ (¬ (x16 ≤ 480) → (Q 6 M15))))))))))) :
    Ci G y_So_workOut (d + 1) [vr a0, vi l1, vr a2] M Q := by
  refine wm_open (y := y_So_workOut) rfl (Nat.le_of_ble_eq_true rfl) (L := [vr a0, vi l1, vr a2, vd, vd, vd]) rfl ?_
  obtain ⟨h1, h⟩ := h
  obtain ⟨M2, e3⟩ : ∃ M2, M2 = mUI M a2 1 0 := ⟨_, rfl⟩
  replace h := h M2 e3
  obtain ⟨h4, h⟩ := h
  refine wm_aload_n d_So_workOut_0 rfl rfl ?_
  refine wm_iconst d_So_workOut_1 ?_
  have hOM2 : mOk M2 := by rw [e3]; exact mOk_UI hO (m_b32 (by decide))
  refine pf_So_68 rfl d_So_workOut_2 h1 (by decide) e3 ?_
  refine wm_aload_n d_So_workOut_5 rfl rfl ?_
  refine wm_iload_n d_So_workOut_6 rfl rfl ?_
  refine cf_So_74 rfl d_So_workOut_7 h4 (Nat.le_of_ble_eq_true rfl) (Cv.mono h (fun M5 h => ?_))
  obtain ⟨hOM5, h⟩ := h
  obtain ⟨h8, h⟩ := h
  refine wm_aload_n d_So_workOut_10 rfl rfl ?_
  refine cf_So_78 rfl d_So_workOut_11 h8 (Nat.le_of_ble_eq_true rfl) (Ci.mono h (fun x10 M9 h => ?_))
  obtain ⟨h11, hOM9, h⟩ := h
  refine wm_if_ne (tgt := 19) d_So_workOut_14 rfl h11 (fun c13 => ?_) (fun c13 => ?_)
  · replace h := h.2 c13
    obtain ⟨h14, h⟩ := h
    refine wm_aload_n d_So_workOut_19 rfl rfl ?_
    refine cf_So_82 rfl d_So_workOut_20 h14 (Nat.le_of_ble_eq_true rfl) (Ci.mono h (fun x16 M15 h => ?_))
    obtain ⟨h17, hOM15, h⟩ := h
    refine wm_sipush d_So_workOut_23 (by decide) ?_
    refine wm_icmp_le (tgt := 32) d_So_workOut_26 rfl h17 ⟨by decide, by decide⟩ (fun c19 => ?_) (fun c19 => ?_)
    · replace h := h.1 c19
      obtain ⟨h20, h⟩ := h
      obtain ⟨h21, h⟩ := h
      refine wm_aload_n d_So_workOut_32 rfl rfl ?_
      refine wm_aload_n d_So_workOut_33 rfl rfl ?_
      refine gf_So_64 rfl d_So_workOut_34 h20 ?_
      refine cf_So_86 rfl d_So_workOut_37 h21 (Nat.le_of_ble_eq_true rfl) (Cv.mono h (fun M22 h => ?_))
      obtain ⟨hOM22, h⟩ := h
      refine wm_iconst d_So_workOut_40 ?_
      refine wm_istore_n d_So_workOut_41 rfl (by decide) (L' := [vr a0, vi l1, vr a2, vi 1, vd, vd]) rfl ?_
      refine wm_iconst d_So_workOut_42 ?_
      refine wm_istore d_So_workOut_43 (by decide) (L' := [vr a0, vi l1, vr a2, vi 1, vi 0, vd]) rfl ?_
      refine wm_less (L' := [vr a0, vd, vr a2, vi 1, vi 0, vd]) ⟨Or.inr rfl, Or.inl rfl, Or.inr rfl, Or.inr rfl, Or.inr rfl, Or.inl rfl, trivial⟩ ?_
      exact h
    · replace h := h.2 c19
      refine wm_bipush d_So_workOut_29 (by decide) ?_
      refine wm_ireturn d_So_workOut_31 rfl rfl ?_
      exact ⟨_, rfl, h⟩
  · replace c13 := Classical.not_not.mp c13
    replace h := h.1 c13
    refine wm_iconst d_So_workOut_17 ?_
    refine wm_ireturn d_So_workOut_18 rfl rfl ?_
    exact ⟨_, rfl, h⟩
theorem k_So_workOut_45 {G : mG} {d : Nat} {a0 : Nat} {a2 : Nat} {l3 : Int} {l4 : Int} {M : mM} {Q : Int → mM → Prop} (hO : mOk M) (hi_l3 : i32 l3) (hi_l4 : i32 l4)
    (h : (((100 ≤ l4) ∨ (l3 = 0)) → (((l3 = 0) → (h_So_workOut_102 G d a0 a2 l3 0 M Q)) ∧ (¬ (l3 = 0) → (mK M a0 = 8 ∧ Cv G y_So_listOthers d [vr a0] M (fun M33 => mOk M33 ∧ (h_So_workOut_102 G d a0 a2 l3 0 M33 Q)))))) ∧ (¬ ((100 ≤ l4) ∨ (l3 = 0)) → (mK M a0 = 8 ∧ Cv G y_So_evaluate d [vr a0, vr a2] M (fun M38 => mOk M38 ∧ (mK M38 a0 = 8 ∧ Ci G y_So_improve d [vr a0, vi 2, vr a2] M38 (fun x43 M42 => i32 x43 ∧ mOk M42 ∧ (((x43 = 0) → (mK M42 a0 = 8 ∧ Ci G y_So_improve d [vr a0, vi 1, vr a2] M42 (fun x50 M49 => i32 x50 ∧ mOk M49 ∧ (∀ v53 : Int, v53 = (if (x50 = 0) then 0 else 1) → h_So_workOut_45 G d a0 a2 v53 (l4 + 1) M49 Q)))) ∧ (¬ (x43 = 0) → (h_So_workOut_45 G d a0 a2 1 (l4 + 1) M42 Q))))))))) :
    h_So_workOut_45 G d a0 a2 l3 l4 M Q := by
  unfold h_So_workOut_45
  refine wm_iload d_So_workOut_45 rfl ?_
  refine wm_bipush d_So_workOut_47 (by decide) ?_
  have hE0 : ((100 ≤ l4) ∨ (l3 = 0)) → mWm G y_So_workOut (d + 1) 91 [vr a0, vd, vr a2, vi l3, vi l4, vd] [] M (fun r9 M9 => ∃ x9, r9 = some (vi x9) ∧ Q x9 M9) := by
    intro q28
    have h := h.1 q28
    refine wm_iload_n d_So_workOut_91 rfl rfl ?_
    refine wm_if_eq (tgt := 99) d_So_workOut_92 rfl hi_l3 (fun c31 => ?_) (fun c31 => ?_)
    · replace h := h.1 c31
      refine wm_lconst (x := 0) d_So_workOut_99 rfl ?_
      refine wm_lstore d_So_workOut_100 (by decide) (L' := [vr a0, vd, vr a2, vi l3, vl 0, vd]) rfl ?_
      exact h
    · replace h := h.2 c31
      obtain ⟨h32, h⟩ := h
      refine wm_aload_n d_So_workOut_95 rfl rfl ?_
      refine cf_So_98 rfl d_So_workOut_96 h32 (Nat.le_of_ble_eq_true rfl) (Cv.mono h (fun M33 h => ?_))
      obtain ⟨hOM33, h⟩ := h
      refine wm_lconst (x := 0) d_So_workOut_99 rfl ?_
      refine wm_lstore d_So_workOut_100 (by decide) (L' := [vr a0, vd, vr a2, vi l3, vl 0, vd]) rfl ?_
      exact h
  have hE1 : ¬ ((100 ≤ l4) ∨ (l3 = 0)) → mWm G y_So_workOut (d + 1) 56 [vr a0, vd, vr a2, vi l3, vi l4, vd] [] M (fun r9 M9 => ∃ x9, r9 = some (vi x9) ∧ Q x9 M9) := by
    intro q36
    have h := h.2 q36
    obtain ⟨h37, h⟩ := h
    refine wm_aload_n d_So_workOut_56 rfl rfl ?_
    refine wm_aload_n d_So_workOut_57 rfl rfl ?_
    refine cf_So_90 rfl d_So_workOut_58 h37 (Nat.le_of_ble_eq_true rfl) (Cv.mono h (fun M38 h => ?_))
    obtain ⟨hOM38, h⟩ := h
    obtain ⟨h41, h⟩ := h
    refine wm_aload_n d_So_workOut_61 rfl rfl ?_
    refine wm_iconst d_So_workOut_62 ?_
    refine wm_aload_n d_So_workOut_63 rfl rfl ?_
    refine cf_So_94 rfl d_So_workOut_64 h41 (Nat.le_of_ble_eq_true rfl) (Ci.mono h (fun x43 M42 h => ?_))
    obtain ⟨h44, hOM42, h⟩ := h
    refine wm_if_ne (tgt := 79) d_So_workOut_67 rfl h44 (fun c47 => ?_) (fun c47 => ?_)
    · replace h := h.2 c47
      refine wm_iconst d_So_workOut_79 ?_
      refine wm_goto (tgt := 84) d_So_workOut_80 rfl ?_
      refine wm_istore_n d_So_workOut_84 rfl (by decide) (L' := [vr a0, vd, vr a2, vi 1, vi l4, vd]) rfl ?_
      refine wm_iinc d_So_workOut_85 (by decide) rfl (L' := [vr a0, vd, vr a2, vi 1, vi (l4 + 1), vd]) rfl ?_
      refine wm_goto (tgt := 45) d_So_workOut_88 rfl ?_
      exact h
    · replace c47 := Classical.not_not.mp c47
      replace h := h.1 c47
      obtain ⟨h48, h⟩ := h
      refine wm_aload_n d_So_workOut_70 rfl rfl ?_
      refine wm_iconst d_So_workOut_71 ?_
      refine wm_aload_n d_So_workOut_72 rfl rfl ?_
      refine cf_So_94 rfl d_So_workOut_73 h48 (Nat.le_of_ble_eq_true rfl) (Ci.mono h (fun x50 M49 h => ?_))
      obtain ⟨h51, hOM49, h⟩ := h
      have hJ : ∀ v53 : Int, v53 = (if (x50 = 0) then 0 else 1) → mWm G y_So_workOut (d + 1) 84 [vr a0, vd, vr a2, vd, vi l4, vd] [vi v53] M49 (fun r9 M9 => ∃ x9, r9 = some (vi x9) ∧ Q x9 M9) := by
        intro v53 e55
        have h := h v53 e55
        have h56 : i32 v53 := by rw [e55]; (repeat' split) <;> first | exact ⟨by decide, by decide⟩ | exact ⟨by decide, by decide⟩
        have h57 : (v53 = 0 ∨ v53 = 1) := by rw [e55]; (repeat' split) <;> decide
        refine wm_istore_n d_So_workOut_84 rfl (by decide) (L' := [vr a0, vd, vr a2, vi v53, vi l4, vd]) rfl ?_
        refine wm_iinc d_So_workOut_85 (by decide) rfl (L' := [vr a0, vd, vr a2, vi v53, vi (l4 + 1), vd]) rfl ?_
        refine wm_goto (tgt := 45) d_So_workOut_88 rfl ?_
        exact h
      clear h
      refine wm_if_eq (tgt := 83) d_So_workOut_76 rfl h51 (fun c52 => ?_) (fun c52 => ?_)
      · refine wm_iconst d_So_workOut_83 ?_
        refine wm_less (L' := [vr a0, vd, vr a2, vd, vi l4, vd]) ⟨Or.inr rfl, Or.inl rfl, Or.inr rfl, Or.inl rfl, Or.inr rfl, Or.inl rfl, trivial⟩ ?_
        exact hJ 0 (if_pos c52).symm
      · refine wm_iconst d_So_workOut_79 ?_
        refine wm_goto (tgt := 84) d_So_workOut_80 rfl ?_
        refine wm_less (L' := [vr a0, vd, vr a2, vd, vi l4, vd]) ⟨Or.inr rfl, Or.inl rfl, Or.inr rfl, Or.inl rfl, Or.inr rfl, Or.inl rfl, trivial⟩ ?_
        exact hJ 1 (if_neg c52).symm
  clear h
  refine wm_icmp_ge (tgt := 91) d_So_workOut_49 rfl hi_l4 ⟨by decide, by decide⟩ (fun c26 => ?_) (fun c26 => ?_)
  · exact hE0 (Or.inl c26)
  · refine wm_iload_n d_So_workOut_52 rfl rfl ?_
    refine wm_if_eq (tgt := 91) d_So_workOut_53 rfl hi_l3 (fun c25 => ?_) (fun c25 => ?_)
    · exact hE0 (Or.inr c25)
    · exact hE1 (fun z59 => Or.elim z59 c26 c25)
theorem k_So_workOut_102 {G : mG} {d : Nat} {a0 : Nat} {a2 : Nat} {l3 : Int} {j4 : Int} {M : mM} {Q : Int → mM → Prop} (hO : mOk M) (hi_l3 : i32 l3) (hi_j4 : i64 j4)
    (h : (((0 ≤ cmpL j4 4611686018427387904) ∨ (l3 = 0)) → (mK M a2 = 13 ∧ ∀ M66, M66 = mUI M a2 1 1 → Q 0 M66)) ∧ (¬ ((0 ≤ cmpL j4 4611686018427387904) ∨ (l3 = 0)) → (mK M a0 = 8 ∧ Cv G y_So_evaluate d [vr a0, vr a2] M (fun M70 => mOk M70 ∧ (mK M70 a0 = 8 ∧ Ci G y_So_improveOne d [vr a0, vr a2] M70 (fun x75 M74 => i32 x75 ∧ mOk M74 ∧ (h_So_workOut_102 G d a0 a2 x75 (j4 + 1) M74 Q))))))) :
    h_So_workOut_102 G d a0 a2 l3 j4 M Q := by
  unfold h_So_workOut_102
  refine wm_lload d_So_workOut_102 rfl ?_
  refine wm_ldc2 (x := 4611686018427387904) d_So_workOut_104 k8_182 (by decide) ?_
  refine wm_lcmp d_So_workOut_107 hi_j4 ⟨by decide, by decide⟩ ?_
  have hE0 : ((0 ≤ cmpL j4 4611686018427387904) ∨ (l3 = 0)) → mWm G y_So_workOut (d + 1) 135 [vr a0, vd, vr a2, vi l3, vl j4, vd] [] M (fun r9 M9 => ∃ x9, r9 = some (vi x9) ∧ Q x9 M9) := by
    intro q64
    have h := h.1 q64
    obtain ⟨h65, h⟩ := h
    obtain ⟨M66, e67⟩ : ∃ M66, M66 = mUI M a2 1 1 := ⟨_, rfl⟩
    replace h := h M66 e67
    refine wm_aload_n d_So_workOut_135 rfl rfl ?_
    refine wm_iconst d_So_workOut_136 ?_
    have hOM66 : mOk M66 := by rw [e67]; exact mOk_UI hO (m_b32 (by decide))
    refine pf_So_68 rfl d_So_workOut_137 h65 (by decide) e67 ?_
    refine wm_iconst d_So_workOut_140 ?_
    refine wm_ireturn d_So_workOut_141 rfl rfl ?_
    exact ⟨_, rfl, h⟩
  have hE1 : ¬ ((0 ≤ cmpL j4 4611686018427387904) ∨ (l3 = 0)) → mWm G y_So_workOut (d + 1) 115 [vr a0, vd, vr a2, vi l3, vl j4, vd] [] M (fun r9 M9 => ∃ x9, r9 = some (vi x9) ∧ Q x9 M9) := by
    intro q68
    have h := h.2 q68
    obtain ⟨h69, h⟩ := h
    refine wm_aload_n d_So_workOut_115 rfl rfl ?_
    refine wm_aload_n d_So_workOut_116 rfl rfl ?_
    refine cf_So_90 rfl d_So_workOut_117 h69 (Nat.le_of_ble_eq_true rfl) (Cv.mono h (fun M70 h => ?_))
    obtain ⟨hOM70, h⟩ := h
    obtain ⟨h73, h⟩ := h
    refine wm_aload_n d_So_workOut_120 rfl rfl ?_
    refine wm_aload_n d_So_workOut_121 rfl rfl ?_
    refine cf_So_103 rfl d_So_workOut_122 h73 (Nat.le_of_ble_eq_true rfl) (Ci.mono h (fun x75 M74 h => ?_))
    obtain ⟨h76, hOM74, h⟩ := h
    refine wm_istore_n d_So_workOut_125 rfl (by decide) (L' := [vr a0, vd, vr a2, vi x75, vl j4, vd]) rfl ?_
    refine wm_lload d_So_workOut_126 rfl ?_
    refine wm_lconst (x := 1) d_So_workOut_128 rfl ?_
    refine wm_ladd d_So_workOut_129 ?_
    refine wm_lstore d_So_workOut_130 (by decide) (L' := [vr a0, vd, vr a2, vi x75, vl (j4 + 1), vd]) rfl ?_
    refine wm_goto (tgt := 102) d_So_workOut_132 rfl ?_
    exact h
  clear h
  refine wm_if_ge (tgt := 135) d_So_workOut_108 rfl (m_cmp32 _ _) (fun c62 => ?_) (fun c62 => ?_)
  · exact hE0 (Or.inl c62)
  · refine wm_iload_n d_So_workOut_111 rfl rfl ?_
    refine wm_if_eq (tgt := 135) d_So_workOut_112 rfl hi_l3 (fun c61 => ?_) (fun c61 => ?_)
    · exact hE0 (Or.inr c61)
    · exact hE1 (fun z77 => Or.elim z77 c62 c61)
theorem d_So_leaveCommands_0 : decode y_So_leaveCommands.2.1 0 = .ok (.iconst 0, 1) := dc9_3 (by decide +kernel)
theorem d_So_leaveCommands_1 : decode y_So_leaveCommands.2.1 1 = .ok (.istore_n 2, 1) := dc9_61 (by decide +kernel)
theorem d_So_leaveCommands_2 : decode y_So_leaveCommands.2.1 2 = .ok (.iload_n 2, 1) := dc9_28 (by decide +kernel)
theorem d_So_leaveCommands_3 : decode y_So_leaveCommands.2.1 3 = .ok (.aload_n 0, 1) := dc9_42 (by decide +kernel)
theorem d_So_leaveCommands_4 : decode y_So_leaveCommands.2.1 4 = .ok (.getfield 64, 3) := dc9_180 (by decide +kernel)
theorem d_So_leaveCommands_7 : decode y_So_leaveCommands.2.1 7 = .ok (.getfield 107, 3) := dc9_180 (by decide +kernel)
theorem d_So_leaveCommands_10 : decode y_So_leaveCommands.2.1 10 = .ok (.if_icmp .ge 97, 3) := dc9_162 (by decide +kernel)
theorem d_So_leaveCommands_107 : decode y_So_leaveCommands.2.1 107 = .ok (.return_, 1) := dc9_177 (by decide +kernel)
theorem d_So_leaveCommands_13 : decode y_So_leaveCommands.2.1 13 = .ok (.iload_n 1, 1) := dc9_27 (by decide +kernel)
theorem d_So_leaveCommands_14 : decode y_So_leaveCommands.2.1 14 = .ok (.ifCond .eq 20, 3) := dc9_153 (by decide +kernel)
theorem d_So_leaveCommands_17 : decode y_So_leaveCommands.2.1 17 = .ok (.aload_n 0, 1) := dc9_42 (by decide +kernel)
theorem d_So_leaveCommands_18 : decode y_So_leaveCommands.2.1 18 = .ok (.getfield 64, 3) := dc9_180 (by decide +kernel)
theorem d_So_leaveCommands_21 : decode y_So_leaveCommands.2.1 21 = .ok (.getfield 113, 3) := dc9_180 (by decide +kernel)
theorem d_So_leaveCommands_24 : decode y_So_leaveCommands.2.1 24 = .ok (.iload_n 2, 1) := dc9_28 (by decide +kernel)
theorem d_So_leaveCommands_25 : decode y_So_leaveCommands.2.1 25 = .ok (.iaload, 1) := dc9_46 (by decide +kernel)
theorem d_So_leaveCommands_26 : decode y_So_leaveCommands.2.1 26 = .ok (.iload_n 1, 1) := dc9_27 (by decide +kernel)
theorem d_So_leaveCommands_27 : decode y_So_leaveCommands.2.1 27 = .ok (.if_icmp .ne 7, 3) := dc9_160 (by decide +kernel)
theorem d_So_leaveCommands_30 : decode y_So_leaveCommands.2.1 30 = .ok (.iconst 1, 1) := dc9_4 (by decide +kernel)
theorem d_So_leaveCommands_31 : decode y_So_leaveCommands.2.1 31 = .ok (.goto 4, 3) := dc9_167 (by decide +kernel)
theorem d_So_leaveCommands_35 : decode y_So_leaveCommands.2.1 35 = .ok (.istore_n 3, 1) := dc9_62 (by decide +kernel)
theorem d_So_leaveCommands_36 : decode y_So_leaveCommands.2.1 36 = .ok (.aload_n 0, 1) := dc9_42 (by decide +kernel)
theorem d_So_leaveCommands_37 : decode y_So_leaveCommands.2.1 37 = .ok (.getfield 32, 3) := dc9_180 (by decide +kernel)
theorem d_So_leaveCommands_40 : decode y_So_leaveCommands.2.1 40 = .ok (.iload_n 2, 1) := dc9_28 (by decide +kernel)
theorem d_So_leaveCommands_41 : decode y_So_leaveCommands.2.1 41 = .ok (.aload_n 0, 1) := dc9_42 (by decide +kernel)
theorem d_So_leaveCommands_42 : decode y_So_leaveCommands.2.1 42 = .ok (.getfield 64, 3) := dc9_180 (by decide +kernel)
theorem d_So_leaveCommands_45 : decode y_So_leaveCommands.2.1 45 = .ok (.getfield 116, 3) := dc9_180 (by decide +kernel)
theorem d_So_leaveCommands_48 : decode y_So_leaveCommands.2.1 48 = .ok (.iload_n 2, 1) := dc9_28 (by decide +kernel)
theorem d_So_leaveCommands_49 : decode y_So_leaveCommands.2.1 49 = .ok (.iaload, 1) := dc9_46 (by decide +kernel)
theorem d_So_leaveCommands_50 : decode y_So_leaveCommands.2.1 50 = .ok (.iload_n 3, 1) := dc9_29 (by decide +kernel)
theorem d_So_leaveCommands_34 : decode y_So_leaveCommands.2.1 34 = .ok (.iconst 0, 1) := dc9_3 (by decide +kernel)
theorem d_So_leaveCommands_51 : decode y_So_leaveCommands.2.1 51 = .ok (.ifCond .eq 15, 3) := dc9_153 (by decide +kernel)
theorem d_So_leaveCommands_66 : decode y_So_leaveCommands.2.1 66 = .ok (.iconst 0, 1) := dc9_3 (by decide +kernel)
theorem d_So_leaveCommands_54 : decode y_So_leaveCommands.2.1 54 = .ok (.aload_n 0, 1) := dc9_42 (by decide +kernel)
theorem d_So_leaveCommands_55 : decode y_So_leaveCommands.2.1 55 = .ok (.getfield 64, 3) := dc9_180 (by decide +kernel)
theorem d_So_leaveCommands_58 : decode y_So_leaveCommands.2.1 58 = .ok (.getfield 119, 3) := dc9_180 (by decide +kernel)
theorem d_So_leaveCommands_61 : decode y_So_leaveCommands.2.1 61 = .ok (.iload_n 2, 1) := dc9_28 (by decide +kernel)
theorem d_So_leaveCommands_62 : decode y_So_leaveCommands.2.1 62 = .ok (.iaload, 1) := dc9_46 (by decide +kernel)
theorem d_So_leaveCommands_63 : decode y_So_leaveCommands.2.1 63 = .ok (.goto 4, 3) := dc9_167 (by decide +kernel)
theorem d_So_leaveCommands_67 : decode y_So_leaveCommands.2.1 67 = .ok (.iadd, 1) := dc9_96 (by decide +kernel)
theorem d_So_leaveCommands_68 : decode y_So_leaveCommands.2.1 68 = .ok (.iastore, 1) := dc9_79 (by decide +kernel)
theorem d_So_leaveCommands_69 : decode y_So_leaveCommands.2.1 69 = .ok (.aload_n 0, 1) := dc9_42 (by decide +kernel)
theorem d_So_leaveCommands_70 : decode y_So_leaveCommands.2.1 70 = .ok (.getfield 35, 3) := dc9_180 (by decide +kernel)
theorem d_So_leaveCommands_73 : decode y_So_leaveCommands.2.1 73 = .ok (.iload_n 2, 1) := dc9_28 (by decide +kernel)
theorem d_So_leaveCommands_74 : decode y_So_leaveCommands.2.1 74 = .ok (.iload_n 3, 1) := dc9_29 (by decide +kernel)
theorem d_So_leaveCommands_75 : decode y_So_leaveCommands.2.1 75 = .ok (.ifCond .eq 14, 3) := dc9_153 (by decide +kernel)
theorem d_So_leaveCommands_89 : decode y_So_leaveCommands.2.1 89 = .ok (.aload_n 0, 1) := dc9_42 (by decide +kernel)
theorem d_So_leaveCommands_90 : decode y_So_leaveCommands.2.1 90 = .ok (.getfield 64, 3) := dc9_180 (by decide +kernel)
theorem d_So_leaveCommands_93 : decode y_So_leaveCommands.2.1 93 = .ok (.getfield 116, 3) := dc9_180 (by decide +kernel)
theorem d_So_leaveCommands_96 : decode y_So_leaveCommands.2.1 96 = .ok (.iload_n 2, 1) := dc9_28 (by decide +kernel)
theorem d_So_leaveCommands_97 : decode y_So_leaveCommands.2.1 97 = .ok (.iconst 1, 1) := dc9_4 (by decide +kernel)
theorem d_So_leaveCommands_98 : decode y_So_leaveCommands.2.1 98 = .ok (.iadd, 1) := dc9_96 (by decide +kernel)
theorem d_So_leaveCommands_99 : decode y_So_leaveCommands.2.1 99 = .ok (.iaload, 1) := dc9_46 (by decide +kernel)
theorem d_So_leaveCommands_78 : decode y_So_leaveCommands.2.1 78 = .ok (.aload_n 0, 1) := dc9_42 (by decide +kernel)
theorem d_So_leaveCommands_79 : decode y_So_leaveCommands.2.1 79 = .ok (.getfield 32, 3) := dc9_180 (by decide +kernel)
theorem d_So_leaveCommands_82 : decode y_So_leaveCommands.2.1 82 = .ok (.iload_n 2, 1) := dc9_28 (by decide +kernel)
theorem d_So_leaveCommands_83 : decode y_So_leaveCommands.2.1 83 = .ok (.iaload, 1) := dc9_46 (by decide +kernel)
theorem d_So_leaveCommands_84 : decode y_So_leaveCommands.2.1 84 = .ok (.iconst 1, 1) := dc9_4 (by decide +kernel)
theorem d_So_leaveCommands_85 : decode y_So_leaveCommands.2.1 85 = .ok (.iadd, 1) := dc9_96 (by decide +kernel)
theorem d_So_leaveCommands_86 : decode y_So_leaveCommands.2.1 86 = .ok (.goto 14, 3) := dc9_167 (by decide +kernel)
theorem d_So_leaveCommands_100 : decode y_So_leaveCommands.2.1 100 = .ok (.iastore, 1) := dc9_79 (by decide +kernel)
theorem d_So_leaveCommands_101 : decode y_So_leaveCommands.2.1 101 = .ok (.iinc 2 1, 3) := by decide +kernel
theorem d_So_leaveCommands_104 : decode y_So_leaveCommands.2.1 104 = .ok (.goto (-102), 3) := dc9_167 (by decide +kernel)
def h_So_leaveCommands_2 (G : mG) (d : Nat) (a0 : Nat) (l1 : Int) (l2 : Int) (M : mM) (Q : mM → Prop) : Prop := mWm G y_So_leaveCommands d 2 [vr a0, vi l1, vi l2, vd] [] M (fun r9 M9 => r9 = none ∧ Q M9)
theorem k_So_leaveCommands {G : mG} {d : Nat} {a0 : Nat} {l1 : Int} {M : mM} {Q : mM → Prop} (hO : mOk M) (hi_l1 : i32 l1)
    (h : h_So_leaveCommands_2 G d a0 l1 0 M Q) :
    Cv G y_So_leaveCommands d [vr a0, vi l1] M Q := by
  refine wm_open (y := y_So_leaveCommands) rfl (Nat.le_of_ble_eq_true rfl) (L := [vr a0, vi l1, vd, vd]) rfl ?_
  refine wm_iconst d_So_leaveCommands_0 ?_
  refine wm_istore_n d_So_leaveCommands_1 rfl (by decide) (L' := [vr a0, vi l1, vi 0, vd]) rfl ?_
  exact h
theorem k_So_leaveCommands_2 {G : mG} {d : Nat} {a0 : Nat} {l1 : Int} {l2 : Int} {M : mM} {Q : mM → Prop} (hO : mOk M) (hi_l1 : i32 l1) (hi_l2 : i32 l2)
    (h : mK M a0 = 8 ∧ mK M (mR M a0 3) = 7 ∧ ((mI M (mR M a0 3) 0 ≤ l2) → (Q M)) ∧ (¬ (mI M (mR M a0 3) 0 ≤ l2) → ((¬ (l1 = 0) → (mK M (mR M (mR M a0 3) 2) = 30 ∧ ((0 : Int) ≤ l2 ∧ l2 < (mN M (mR M (mR M a0 3) 2) : Int)))) ∧ ∀ v15 : Int, v15 = (if ((l1 = 0) ∨ (¬ (mI M (mR M (mR M a0 3) 2) (Int.toNat l2) = l1))) then 0 else 1) → mK M (mR M (mR M a0 3) 4) = 30 ∧ ((0 : Int) ≤ l2 ∧ l2 < (mN M (mR M (mR M a0 3) 4) : Int)) ∧ (¬ (v15 = 0) → (mK M (mR M (mR M a0 3) 3) = 30 ∧ ((0 : Int) ≤ l2 ∧ l2 < (mN M (mR M (mR M a0 3) 3) : Int)))) ∧ ∀ v25 : Int, v25 = (if (v15 = 0) then 0 else mI M (mR M (mR M a0 3) 3) (Int.toNat l2)) → mK M (mR M a0 5) = 30 ∧ ((0 : Int) ≤ l2 ∧ l2 < (mN M (mR M a0 5) : Int)) ∧ i32 ((mI M (mR M (mR M a0 3) 4) (Int.toNat l2)) + v25) ∧ ∀ M31, M31 = mUI M (mR M a0 5) (Int.toNat l2) ((mI M (mR M (mR M a0 3) 4) (Int.toNat l2)) + v25) → (((v15 = 0) → (mK M31 (mR M31 a0 3) = 7 ∧ mK M31 (mR M31 (mR M31 a0 3) 4) = 30 ∧ ((0 : Int) ≤ l2 + 1 ∧ l2 + 1 < (mN M31 (mR M31 (mR M31 a0 3) 4) : Int)))) ∧ (¬ (v15 = 0) → (mK M31 (mR M31 a0 5) = 30 ∧ ((0 : Int) ≤ l2 ∧ l2 < (mN M31 (mR M31 a0 5) : Int))))) ∧ ∀ v39 : Int, v39 = (if (v15 = 0) then mI M31 (mR M31 (mR M31 a0 3) 4) (Int.toNat (l2 + 1)) else (mI M31 (mR M31 a0 5) (Int.toNat l2)) + 1) → mK M31 (mR M31 a0 6) = 30 ∧ ((0 : Int) ≤ l2 ∧ l2 < (mN M31 (mR M31 a0 6) : Int)) ∧ i32 v39 ∧ ∀ M45, M45 = mUI M31 (mR M31 a0 6) (Int.toNat l2) v39 → h_So_leaveCommands_2 G d a0 l1 (l2 + 1) M45 Q))) :
    h_So_leaveCommands_2 G d a0 l1 l2 M Q := by
  unfold h_So_leaveCommands_2
  obtain ⟨h1, h⟩ := h
  obtain ⟨h2, h⟩ := h
  refine wm_iload_n d_So_leaveCommands_2 rfl rfl ?_
  refine wm_aload_n d_So_leaveCommands_3 rfl rfl ?_
  refine gf_So_64 rfl d_So_leaveCommands_4 h1 ?_
  refine gf_So_107 rfl d_So_leaveCommands_7 h2 ?_
  refine wm_icmp_ge (tgt := 107) d_So_leaveCommands_10 rfl hi_l2 (hO _ _).1 (fun c10 => ?_) (fun c10 => ?_)
  · replace h := h.1 c10
    refine wm_return d_So_leaveCommands_107 rfl ?_
    exact ⟨rfl, h⟩
  · replace h := h.2 c10
    refine wm_iload_n d_So_leaveCommands_13 rfl rfl ?_
    obtain ⟨s16, h⟩ := h
    have hJ : ∀ v15 : Int, v15 = (if ((l1 = 0) ∨ (¬ (mI M (mR M (mR M a0 3) 2) (Int.toNat l2) = l1))) then 0 else 1) → mWm G y_So_leaveCommands d 35 [vr a0, vi l1, vi l2, vd] [vi v15] M (fun r9 M9 => r9 = none ∧ Q M9) := by
      intro v15 e17
      have h := h v15 e17
      have h18 : i32 v15 := by rw [e17]; (repeat' split) <;> first | exact ⟨by decide, by decide⟩ | exact ⟨by decide, by decide⟩
      have h19 : (v15 = 0 ∨ v15 = 1) := by rw [e17]; (repeat' split) <;> decide
      obtain ⟨h20, h⟩ := h
      obtain ⟨h21, h⟩ := h
      refine wm_istore_n d_So_leaveCommands_35 rfl (by decide) (L' := [vr a0, vi l1, vi l2, vi v15]) rfl ?_
      refine wm_aload_n d_So_leaveCommands_36 rfl rfl ?_
      refine gf_So_32 rfl d_So_leaveCommands_37 h1 ?_
      refine wm_iload_n d_So_leaveCommands_40 rfl rfl ?_
      refine wm_aload_n d_So_leaveCommands_41 rfl rfl ?_
      refine gf_So_64 rfl d_So_leaveCommands_42 h1 ?_
      refine gf_So_116 rfl d_So_leaveCommands_45 h2 ?_
      refine wm_iload_n d_So_leaveCommands_48 rfl rfl ?_
      refine wm_iald d_So_leaveCommands_49 h20 h21 ?_
      refine wm_iload_n d_So_leaveCommands_50 rfl rfl ?_
      obtain ⟨s26, h⟩ := h
      have hJ : ∀ v25 : Int, v25 = (if (v15 = 0) then 0 else mI M (mR M (mR M a0 3) 3) (Int.toNat l2)) → mWm G y_So_leaveCommands d 67 [vr a0, vi l1, vi l2, vi v15] [vi v25, vi (mI M (mR M (mR M a0 3) 4) (Int.toNat l2)), vi l2, vr (mR M a0 5)] M (fun r9 M9 => r9 = none ∧ Q M9) := by
        intro v25 e27
        have h := h v25 e27
        obtain ⟨h28, h⟩ := h
        obtain ⟨h29, h⟩ := h
        obtain ⟨h30, h⟩ := h
        obtain ⟨M31, e32⟩ : ∃ M31, M31 = mUI M (mR M a0 5) (Int.toNat l2) ((mI M (mR M (mR M a0 3) 4) (Int.toNat l2)) + v25) := ⟨_, rfl⟩
        replace h := h M31 e32
        refine wm_iadd d_So_leaveCommands_67 ?_
        have hOM31 : mOk M31 := by rw [e32]; exact mOk_UI hO h30
        refine wm_iastE d_So_leaveCommands_68 h28 h29 h30 e32 ?_
        refine wm_aload_n d_So_leaveCommands_69 rfl rfl ?_
        refine gf_So_35 rfl d_So_leaveCommands_70 (by rw [e32]; exact h1) ?_
        refine wm_iload_n d_So_leaveCommands_73 rfl rfl ?_
        refine wm_iload_n d_So_leaveCommands_74 rfl rfl ?_
        obtain ⟨s40, h⟩ := h
        have hJ : ∀ v39 : Int, v39 = (if (v15 = 0) then mI M31 (mR M31 (mR M31 a0 3) 4) (Int.toNat (l2 + 1)) else (mI M31 (mR M31 a0 5) (Int.toNat l2)) + 1) → mWm G y_So_leaveCommands d 100 [vr a0, vi l1, vi l2, vd] [vi v39, vi l2, vr (mR M31 a0 6)] M31 (fun r9 M9 => r9 = none ∧ Q M9) := by
          intro v39 e41
          have h := h v39 e41
          obtain ⟨h42, h⟩ := h
          obtain ⟨h43, h⟩ := h
          obtain ⟨h44, h⟩ := h
          obtain ⟨M45, e46⟩ : ∃ M45, M45 = mUI M31 (mR M31 a0 6) (Int.toNat l2) v39 := ⟨_, rfl⟩
          replace h := h M45 e46
          have hOM45 : mOk M45 := by rw [e46]; exact mOk_UI hOM31 h44
          refine wm_iastE d_So_leaveCommands_100 h42 h43 h44 e46 ?_
          refine wm_iinc d_So_leaveCommands_101 (by decide) rfl (L' := [vr a0, vi l1, vi (l2 + 1), vd]) rfl ?_
          refine wm_goto (tgt := 2) d_So_leaveCommands_104 rfl ?_
          exact h
        clear h
        obtain ⟨s47, s48⟩ := s40
        refine wm_if_eq (tgt := 89) d_So_leaveCommands_75 rfl h18 (fun c33 => ?_) (fun c33 => ?_)
        · have s47 := s47 c33
          obtain ⟨h34, h35, h36⟩ := s47
          refine wm_aload_n d_So_leaveCommands_89 rfl rfl ?_
          refine gf_So_64 rfl d_So_leaveCommands_90 (by rw [e32]; exact h1) ?_
          refine gf_So_116 rfl d_So_leaveCommands_93 h34 ?_
          refine wm_iload_n d_So_leaveCommands_96 rfl rfl ?_
          refine wm_iconst d_So_leaveCommands_97 ?_
          refine wm_iadd d_So_leaveCommands_98 ?_
          refine wm_iald d_So_leaveCommands_99 h35 h36 ?_
          refine wm_less (L' := [vr a0, vi l1, vi l2, vd]) ⟨Or.inr rfl, Or.inr rfl, Or.inr rfl, Or.inl rfl, trivial⟩ ?_
          exact hJ (mI M31 (mR M31 (mR M31 a0 3) 4) (Int.toNat (l2 + 1))) (if_pos c33).symm
        · have s48 := s48 c33
          obtain ⟨h37, h38⟩ := s48
          refine wm_aload_n d_So_leaveCommands_78 rfl rfl ?_
          refine gf_So_32 rfl d_So_leaveCommands_79 (by rw [e32]; exact h1) ?_
          refine wm_iload_n d_So_leaveCommands_82 rfl rfl ?_
          refine wm_iald d_So_leaveCommands_83 h37 h38 ?_
          refine wm_iconst d_So_leaveCommands_84 ?_
          refine wm_iadd d_So_leaveCommands_85 ?_
          refine wm_goto (tgt := 100) d_So_leaveCommands_86 rfl ?_
          refine wm_less (L' := [vr a0, vi l1, vi l2, vd]) ⟨Or.inr rfl, Or.inr rfl, Or.inr rfl, Or.inl rfl, trivial⟩ ?_
          exact hJ ((mI M31 (mR M31 a0 5) (Int.toNat l2)) + 1) (if_neg c33).symm
      clear h
      have s50 := s26
      refine wm_if_eq (tgt := 66) d_So_leaveCommands_51 rfl h18 (fun c22 => ?_) (fun c22 => ?_)
      · refine wm_iconst d_So_leaveCommands_66 ?_
        exact hJ 0 (if_pos c22).symm
      · have s50 := s50 c22
        obtain ⟨h23, h24⟩ := s50
        refine wm_aload_n d_So_leaveCommands_54 rfl rfl ?_
        refine gf_So_64 rfl d_So_leaveCommands_55 h1 ?_
        refine gf_So_119 rfl d_So_leaveCommands_58 h2 ?_
        refine wm_iload_n d_So_leaveCommands_61 rfl rfl ?_
        refine wm_iald d_So_leaveCommands_62 h23 h24 ?_
        refine wm_goto (tgt := 67) d_So_leaveCommands_63 rfl ?_
        exact hJ (mI M (mR M (mR M a0 3) 3) (Int.toNat l2)) (if_neg c22).symm
    clear h
    have s52 := s16
    refine wm_if_eq (tgt := 34) d_So_leaveCommands_14 rfl hi_l1 (fun c11 => ?_) (fun c11 => ?_)
    · refine wm_iconst d_So_leaveCommands_34 ?_
      exact hJ 0 (if_pos (Or.inl c11)).symm
    · have s52 := s52 c11
      obtain ⟨h12, h13⟩ := s52
      refine wm_aload_n d_So_leaveCommands_17 rfl rfl ?_
      refine gf_So_64 rfl d_So_leaveCommands_18 h1 ?_
      refine gf_So_113 rfl d_So_leaveCommands_21 h2 ?_
      refine wm_iload_n d_So_leaveCommands_24 rfl rfl ?_
      refine wm_iald d_So_leaveCommands_25 h12 h13 ?_
      refine wm_iload_n d_So_leaveCommands_26 rfl rfl ?_
      refine wm_icmp_ne (tgt := 34) d_So_leaveCommands_27 rfl (hO _ _).1 hi_l1 (fun c14 => ?_) (fun c14 => ?_)
      · refine wm_iconst d_So_leaveCommands_34 ?_
        exact hJ 0 (if_pos (Or.inr c14)).symm
      · replace c14 := Classical.not_not.mp c14
        refine wm_iconst d_So_leaveCommands_30 ?_
        refine wm_goto (tgt := 35) d_So_leaveCommands_31 rfl ?_
        exact hJ 1 (if_neg (fun z53 => Or.elim z53 c11 (fun z54 => z54 c14))).symm
theorem d_So_findUnknown_0 : decode y_So_findUnknown.2.1 0 = .ok (.aload_n 0, 1) := dc9_42 (by decide +kernel)
theorem d_So_findUnknown_1 : decode y_So_findUnknown.2.1 1 = .ok (.iconst 0, 1) := dc9_3 (by decide +kernel)
theorem d_So_findUnknown_2 : decode y_So_findUnknown.2.1 2 = .ok (.putfield 122, 3) := dc9_181 (by decide +kernel)
theorem d_So_findUnknown_5 : decode y_So_findUnknown.2.1 5 = .ok (.aload_n 0, 1) := dc9_42 (by decide +kernel)
theorem d_So_findUnknown_6 : decode y_So_findUnknown.2.1 6 = .ok (.getfield 38, 3) := dc9_180 (by decide +kernel)
theorem d_So_findUnknown_9 : decode y_So_findUnknown.2.1 9 = .ok (.iconst (-1), 1) := dc9_2 (by decide +kernel)
theorem d_So_findUnknown_10 : decode y_So_findUnknown.2.1 10 = .ok (.invokestatic 125, 3) := dc9_184 (by decide +kernel)
theorem d_So_findUnknown_13 : decode y_So_findUnknown.2.1 13 = .ok (.iconst 1, 1) := dc9_4 (by decide +kernel)
theorem d_So_findUnknown_14 : decode y_So_findUnknown.2.1 14 = .ok (.istore_n 1, 1) := dc9_60 (by decide +kernel)
theorem d_So_findUnknown_15 : decode y_So_findUnknown.2.1 15 = .ok (.iconst 0, 1) := dc9_3 (by decide +kernel)
theorem d_So_findUnknown_16 : decode y_So_findUnknown.2.1 16 = .ok (.istore_n 2, 1) := dc9_61 (by decide +kernel)
theorem d_So_findUnknown_17 : decode y_So_findUnknown.2.1 17 = .ok (.iload_n 2, 1) := dc9_28 (by decide +kernel)
theorem d_So_findUnknown_18 : decode y_So_findUnknown.2.1 18 = .ok (.sipush 512, 3) := dc9_17 (by decide +kernel)
theorem d_So_findUnknown_21 : decode y_So_findUnknown.2.1 21 = .ok (.if_icmp .gt 119, 3) := dc9_163 (by decide +kernel)
theorem d_So_findUnknown_24 : decode y_So_findUnknown.2.1 24 = .ok (.iload_n 1, 1) := dc9_27 (by decide +kernel)
theorem d_So_findUnknown_25 : decode y_So_findUnknown.2.1 25 = .ok (.ifCond .eq 115, 3) := dc9_153 (by decide +kernel)
theorem d_So_findUnknown_28 : decode y_So_findUnknown.2.1 28 = .ok (.iconst 0, 1) := dc9_3 (by decide +kernel)
theorem d_So_findUnknown_29 : decode y_So_findUnknown.2.1 29 = .ok (.istore_n 1, 1) := dc9_60 (by decide +kernel)
theorem d_So_findUnknown_30 : decode y_So_findUnknown.2.1 30 = .ok (.aload_n 0, 1) := dc9_42 (by decide +kernel)
theorem d_So_findUnknown_31 : decode y_So_findUnknown.2.1 31 = .ok (.getfield 64, 3) := dc9_180 (by decide +kernel)
theorem d_So_findUnknown_34 : decode y_So_findUnknown.2.1 34 = .ok (.getfield 107, 3) := dc9_180 (by decide +kernel)
theorem d_So_findUnknown_37 : decode y_So_findUnknown.2.1 37 = .ok (.iconst 1, 1) := dc9_4 (by decide +kernel)
theorem d_So_findUnknown_38 : decode y_So_findUnknown.2.1 38 = .ok (.isub, 1) := dc9_100 (by decide +kernel)
theorem d_So_findUnknown_39 : decode y_So_findUnknown.2.1 39 = .ok (.istore_n 3, 1) := dc9_62 (by decide +kernel)
theorem d_So_findUnknown_140 : decode y_So_findUnknown.2.1 140 = .ok (.iconst 1, 1) := dc9_4 (by decide +kernel)
theorem d_So_findUnknown_141 : decode y_So_findUnknown.2.1 141 = .ok (.ireturn, 1) := dc9_172 (by decide +kernel)
theorem d_So_findUnknown_40 : decode y_So_findUnknown.2.1 40 = .ok (.iload_n 3, 1) := dc9_29 (by decide +kernel)
theorem d_So_findUnknown_41 : decode y_So_findUnknown.2.1 41 = .ok (.ifCond .lt 93, 3) := dc9_155 (by decide +kernel)
theorem d_So_findUnknown_134 : decode y_So_findUnknown.2.1 134 = .ok (.iinc 2 1, 3) := by decide +kernel
theorem d_So_findUnknown_137 : decode y_So_findUnknown.2.1 137 = .ok (.goto (-120), 3) := dc9_167 (by decide +kernel)
theorem d_So_findUnknown_44 : decode y_So_findUnknown.2.1 44 = .ok (.aload_n 0, 1) := dc9_42 (by decide +kernel)
theorem d_So_findUnknown_45 : decode y_So_findUnknown.2.1 45 = .ok (.getfield 38, 3) := dc9_180 (by decide +kernel)
theorem d_So_findUnknown_48 : decode y_So_findUnknown.2.1 48 = .ok (.iload_n 3, 1) := dc9_29 (by decide +kernel)
theorem d_So_findUnknown_49 : decode y_So_findUnknown.2.1 49 = .ok (.iaload, 1) := dc9_46 (by decide +kernel)
theorem d_So_findUnknown_50 : decode y_So_findUnknown.2.1 50 = .ok (.iconst (-1), 1) := dc9_2 (by decide +kernel)
theorem d_So_findUnknown_51 : decode y_So_findUnknown.2.1 51 = .ok (.if_icmp .ne 11, 3) := dc9_160 (by decide +kernel)
theorem d_So_findUnknown_54 : decode y_So_findUnknown.2.1 54 = .ok (.aload_n 0, 1) := dc9_42 (by decide +kernel)
theorem d_So_findUnknown_55 : decode y_So_findUnknown.2.1 55 = .ok (.iload_n 3, 1) := dc9_29 (by decide +kernel)
theorem d_So_findUnknown_62 : decode y_So_findUnknown.2.1 62 = .ok (.iconst (-1), 1) := dc9_2 (by decide +kernel)
theorem d_So_findUnknown_56 : decode y_So_findUnknown.2.1 56 = .ok (.invokevirtual 131, 3) := dc9_182 (by decide +kernel)
theorem d_So_findUnknown_59 : decode y_So_findUnknown.2.1 59 = .ok (.goto 4, 3) := dc9_167 (by decide +kernel)
theorem d_So_findUnknown_63 : decode y_So_findUnknown.2.1 63 = .ok (.istore 4, 2) := dc9_54 (by decide +kernel)
theorem d_So_findUnknown_65 : decode y_So_findUnknown.2.1 65 = .ok (.iload 4, 2) := dc9_21 (by decide +kernel)
theorem d_So_findUnknown_67 : decode y_So_findUnknown.2.1 67 = .ok (.iconst (-1), 1) := dc9_2 (by decide +kernel)
theorem d_So_findUnknown_68 : decode y_So_findUnknown.2.1 68 = .ok (.if_icmp .ne 6, 3) := dc9_160 (by decide +kernel)
theorem d_So_findUnknown_71 : decode y_So_findUnknown.2.1 71 = .ok (.goto 57, 3) := dc9_167 (by decide +kernel)
theorem d_So_findUnknown_128 : decode y_So_findUnknown.2.1 128 = .ok (.iinc 3 (-1), 3) := by decide +kernel
theorem d_So_findUnknown_131 : decode y_So_findUnknown.2.1 131 = .ok (.goto (-91), 3) := dc9_167 (by decide +kernel)
theorem d_So_findUnknown_74 : decode y_So_findUnknown.2.1 74 = .ok (.aload_n 0, 1) := dc9_42 (by decide +kernel)
theorem d_So_findUnknown_75 : decode y_So_findUnknown.2.1 75 = .ok (.getfield 122, 3) := dc9_180 (by decide +kernel)
theorem d_So_findUnknown_78 : decode y_So_findUnknown.2.1 78 = .ok (.bipush 40, 2) := dc9_16 (by decide +kernel)
theorem d_So_findUnknown_80 : decode y_So_findUnknown.2.1 80 = .ok (.if_icmp .ne 5, 3) := dc9_160 (by decide +kernel)
theorem d_So_findUnknown_83 : decode y_So_findUnknown.2.1 83 = .ok (.iconst 0, 1) := dc9_3 (by decide +kernel)
theorem d_So_findUnknown_84 : decode y_So_findUnknown.2.1 84 = .ok (.ireturn, 1) := dc9_172 (by decide +kernel)
theorem d_So_findUnknown_85 : decode y_So_findUnknown.2.1 85 = .ok (.aload_n 0, 1) := dc9_42 (by decide +kernel)
theorem d_So_findUnknown_86 : decode y_So_findUnknown.2.1 86 = .ok (.getfield 38, 3) := dc9_180 (by decide +kernel)
theorem d_So_findUnknown_89 : decode y_So_findUnknown.2.1 89 = .ok (.iload_n 3, 1) := dc9_29 (by decide +kernel)
theorem d_So_findUnknown_90 : decode y_So_findUnknown.2.1 90 = .ok (.aload_n 0, 1) := dc9_42 (by decide +kernel)
theorem d_So_findUnknown_91 : decode y_So_findUnknown.2.1 91 = .ok (.getfield 122, 3) := dc9_180 (by decide +kernel)
theorem d_So_findUnknown_94 : decode y_So_findUnknown.2.1 94 = .ok (.iastore, 1) := dc9_79 (by decide +kernel)
theorem d_So_findUnknown_95 : decode y_So_findUnknown.2.1 95 = .ok (.aload_n 0, 1) := dc9_42 (by decide +kernel)
theorem d_So_findUnknown_96 : decode y_So_findUnknown.2.1 96 = .ok (.getfield 41, 3) := dc9_180 (by decide +kernel)
theorem d_So_findUnknown_99 : decode y_So_findUnknown.2.1 99 = .ok (.aload_n 0, 1) := dc9_42 (by decide +kernel)
theorem d_So_findUnknown_100 : decode y_So_findUnknown.2.1 100 = .ok (.getfield 122, 3) := dc9_180 (by decide +kernel)
theorem d_So_findUnknown_103 : decode y_So_findUnknown.2.1 103 = .ok (.iload_n 3, 1) := dc9_29 (by decide +kernel)
theorem d_So_findUnknown_104 : decode y_So_findUnknown.2.1 104 = .ok (.iastore, 1) := dc9_79 (by decide +kernel)
theorem d_So_findUnknown_105 : decode y_So_findUnknown.2.1 105 = .ok (.aload_n 0, 1) := dc9_42 (by decide +kernel)
theorem d_So_findUnknown_106 : decode y_So_findUnknown.2.1 106 = .ok (.getfield 44, 3) := dc9_180 (by decide +kernel)
theorem d_So_findUnknown_109 : decode y_So_findUnknown.2.1 109 = .ok (.aload_n 0, 1) := dc9_42 (by decide +kernel)
theorem d_So_findUnknown_110 : decode y_So_findUnknown.2.1 110 = .ok (.getfield 122, 3) := dc9_180 (by decide +kernel)
theorem d_So_findUnknown_113 : decode y_So_findUnknown.2.1 113 = .ok (.iload 4, 2) := dc9_21 (by decide +kernel)
theorem d_So_findUnknown_115 : decode y_So_findUnknown.2.1 115 = .ok (.iastore, 1) := dc9_79 (by decide +kernel)
theorem d_So_findUnknown_116 : decode y_So_findUnknown.2.1 116 = .ok (.aload_n 0, 1) := dc9_42 (by decide +kernel)
theorem d_So_findUnknown_117 : decode y_So_findUnknown.2.1 117 = .ok (.dup, 1) := dc9_89 (by decide +kernel)
theorem d_So_findUnknown_118 : decode y_So_findUnknown.2.1 118 = .ok (.getfield 122, 3) := dc9_180 (by decide +kernel)
theorem d_So_findUnknown_121 : decode y_So_findUnknown.2.1 121 = .ok (.iconst 1, 1) := dc9_4 (by decide +kernel)
theorem d_So_findUnknown_122 : decode y_So_findUnknown.2.1 122 = .ok (.iadd, 1) := dc9_96 (by decide +kernel)
theorem d_So_findUnknown_123 : decode y_So_findUnknown.2.1 123 = .ok (.putfield 122, 3) := dc9_181 (by decide +kernel)
theorem d_So_findUnknown_126 : decode y_So_findUnknown.2.1 126 = .ok (.iconst 1, 1) := dc9_4 (by decide +kernel)
theorem d_So_findUnknown_127 : decode y_So_findUnknown.2.1 127 = .ok (.istore_n 1, 1) := dc9_60 (by decide +kernel)
def h_So_findUnknown_17 (G : mG) (d : Nat) (a0 : Nat) (l1 : Int) (l2 : Int) (M : mM) (Q : Int → mM → Prop) : Prop := mWm G y_So_findUnknown (d + 1) 17 [vr a0, vi l1, vi l2, vd, vd] [] M (fun r9 M9 => ∃ x9, r9 = some (vi x9) ∧ Q x9 M9)
def h_So_findUnknown_40 (G : mG) (d : Nat) (a0 : Nat) (l1 : Int) (l2 : Int) (l3 : Int) (M : mM) (Q : Int → mM → Prop) : Prop := mWm G y_So_findUnknown (d + 1) 40 [vr a0, vi l1, vi l2, vi l3, vd] [] M (fun r9 M9 => ∃ x9, r9 = some (vi x9) ∧ Q x9 M9)
def h_So_findUnknown_63 (G : mG) (d : Nat) (a0 : Nat) (l1 : Int) (l2 : Int) (l3 : Int) (k0 : Int) (M : mM) (Q : Int → mM → Prop) : Prop := mWm G y_So_findUnknown (d + 1) 63 [vr a0, vi l1, vi l2, vi l3, vd] [vi k0] M (fun r9 M9 => ∃ x9, r9 = some (vi x9) ∧ Q x9 M9)
theorem k_So_findUnknown {G : mG} {d : Nat} {a0 : Nat} {M : mM} {Q : Int → mM → Prop} (hO : mOk M)
    (h : mK M a0 = 8 ∧ ∀ M2, M2 = mUI M a0 10 0 → Cv G y_JA_fill d [vr (mR M2 a0 7), vi (-1)] M2 (fun M4 => mOk M4 ∧ (h_So_findUnknown_17 G d a0 1 0 M4 Q))) :
    Ci G y_So_findUnknown (d + 1) [vr a0] M Q := by
  refine wm_open (y := y_So_findUnknown) rfl (Nat.le_of_ble_eq_true rfl) (L := [vr a0, vd, vd, vd, vd]) rfl ?_
  obtain ⟨h1, h⟩ := h
  obtain ⟨M2, e3⟩ : ∃ M2, M2 = mUI M a0 10 0 := ⟨_, rfl⟩
  replace h := h M2 e3
  refine wm_aload_n d_So_findUnknown_0 rfl rfl ?_
  refine wm_iconst d_So_findUnknown_1 ?_
  have hOM2 : mOk M2 := by rw [e3]; exact mOk_UI hO ⟨by decide, by decide⟩
  refine pf_So_122 rfl d_So_findUnknown_2 h1 ⟨by decide, by decide⟩ e3 ?_
  refine wm_aload_n d_So_findUnknown_5 rfl rfl ?_
  refine gf_So_38 rfl d_So_findUnknown_6 (by rw [e3]; exact h1) ?_
  refine wm_iconst d_So_findUnknown_9 ?_
  refine cf_So_125 rfl d_So_findUnknown_10 (Nat.le_of_ble_eq_true rfl) (Cv.mono h (fun M4 h => ?_))
  obtain ⟨hOM4, h⟩ := h
  refine wm_iconst d_So_findUnknown_13 ?_
  refine wm_istore_n d_So_findUnknown_14 rfl (by decide) (L' := [vr a0, vi 1, vd, vd, vd]) rfl ?_
  refine wm_iconst d_So_findUnknown_15 ?_
  refine wm_istore_n d_So_findUnknown_16 rfl (by decide) (L' := [vr a0, vi 1, vi 0, vd, vd]) rfl ?_
  exact h
theorem k_So_findUnknown_17 {G : mG} {d : Nat} {a0 : Nat} {l1 : Int} {l2 : Int} {M : mM} {Q : Int → mM → Prop} (hO : mOk M) (hi_l1 : i32 l1) (hi_l2 : i32 l2)
    (h : (((512 < l2) ∨ (l1 = 0)) → (Q 1 M)) ∧ (¬ ((512 < l2) ∨ (l1 = 0)) → (mK M a0 = 8 ∧ mK M (mR M a0 3) = 7 ∧ h_So_findUnknown_40 G d a0 0 l2 ((mI M (mR M a0 3) 0) - 1) M Q))) :
    h_So_findUnknown_17 G d a0 l1 l2 M Q := by
  unfold h_So_findUnknown_17
  refine wm_iload_n d_So_findUnknown_17 rfl rfl ?_
  refine wm_sipush d_So_findUnknown_18 (by decide) ?_
  have hE0 : ((512 < l2) ∨ (l1 = 0)) → mWm G y_So_findUnknown (d + 1) 140 [vr a0, vi l1, vi l2, vd, vd] [] M (fun r9 M9 => ∃ x9, r9 = some (vi x9) ∧ Q x9 M9) := by
    intro q12
    have h := h.1 q12
    refine wm_iconst d_So_findUnknown_140 ?_
    refine wm_ireturn d_So_findUnknown_141 rfl (m_nb (by decide)) ?_
    exact ⟨_, rfl, h⟩
  have hE1 : ¬ ((512 < l2) ∨ (l1 = 0)) → mWm G y_So_findUnknown (d + 1) 28 [vr a0, vi l1, vi l2, vd, vd] [] M (fun r9 M9 => ∃ x9, r9 = some (vi x9) ∧ Q x9 M9) := by
    intro q13
    have h := h.2 q13
    obtain ⟨h14, h⟩ := h
    obtain ⟨h15, h⟩ := h
    refine wm_iconst d_So_findUnknown_28 ?_
    refine wm_istore_n d_So_findUnknown_29 rfl (by decide) (L' := [vr a0, vi 0, vi l2, vd, vd]) rfl ?_
    refine wm_aload_n d_So_findUnknown_30 rfl rfl ?_
    refine gf_So_64 rfl d_So_findUnknown_31 h14 ?_
    refine gf_So_107 rfl d_So_findUnknown_34 h15 ?_
    refine wm_iconst d_So_findUnknown_37 ?_
    refine wm_isub d_So_findUnknown_38 ?_
    refine wm_istore_n d_So_findUnknown_39 rfl (by decide) (L' := [vr a0, vi 0, vi l2, vi ((mI M (mR M a0 3) 0) - 1), vd]) rfl ?_
    exact h
  clear h
  refine wm_icmp_gt (tgt := 140) d_So_findUnknown_21 rfl hi_l2 ⟨by decide, by decide⟩ (fun c10 => ?_) (fun c10 => ?_)
  · exact hE0 (Or.inl c10)
  · refine wm_iload_n d_So_findUnknown_24 rfl rfl ?_
    refine wm_if_eq (tgt := 140) d_So_findUnknown_25 rfl hi_l1 (fun c9 => ?_) (fun c9 => ?_)
    · exact hE0 (Or.inr c9)
    · exact hE1 (fun z16 => Or.elim z16 c10 c9)
theorem k_So_findUnknown_40 {G : mG} {d : Nat} {a0 : Nat} {l1 : Int} {l2 : Int} {l3 : Int} {M : mM} {Q : Int → mM → Prop} (hO : mOk M) (hi_l1 : i32 l1) (hi_l2 : i32 l2) (hi_l3 : i32 l3)
    (h : ((l3 < 0) → (h_So_findUnknown_17 G d a0 l1 (l2 + 1) M Q)) ∧ (¬ (l3 < 0) → (mK M a0 = 8 ∧ mK M (mR M a0 7) = 30 ∧ ((0 : Int) ≤ l3 ∧ l3 < (mN M (mR M a0 7) : Int)) ∧ ((mI M (mR M a0 7) (Int.toNat l3) = (-1)) → (Ci G y_So_wayFrom d [vr a0, vi l3] M (fun x30 M29 => i32 x30 ∧ mOk M29 ∧ (h_So_findUnknown_63 G d a0 l1 l2 l3 x30 M29 Q)))) ∧ (¬ (mI M (mR M a0 7) (Int.toNat l3) = (-1)) → (h_So_findUnknown_63 G d a0 l1 l2 l3 (-1) M Q))))) :
    h_So_findUnknown_40 G d a0 l1 l2 l3 M Q := by
  unfold h_So_findUnknown_40
  refine wm_iload_n d_So_findUnknown_40 rfl rfl ?_
  refine wm_if_lt (tgt := 134) d_So_findUnknown_41 rfl hi_l3 (fun c23 => ?_) (fun c23 => ?_)
  · replace h := h.1 c23
    refine wm_iinc d_So_findUnknown_134 (by decide) rfl (L' := [vr a0, vi l1, vi (l2 + 1), vi l3, vd]) rfl ?_
    refine wm_goto (tgt := 17) d_So_findUnknown_137 rfl ?_
    refine wm_less (L' := [vr a0, vi l1, vi (l2 + 1), vd, vd]) ⟨Or.inr rfl, Or.inr rfl, Or.inr rfl, Or.inl rfl, Or.inl rfl, trivial⟩ ?_
    exact h
  · replace h := h.2 c23
    obtain ⟨h24, h⟩ := h
    obtain ⟨h25, h⟩ := h
    obtain ⟨h26, h⟩ := h
    refine wm_aload_n d_So_findUnknown_44 rfl rfl ?_
    refine gf_So_38 rfl d_So_findUnknown_45 h24 ?_
    refine wm_iload_n d_So_findUnknown_48 rfl rfl ?_
    refine wm_iald d_So_findUnknown_49 h25 h26 ?_
    refine wm_iconst d_So_findUnknown_50 ?_
    refine wm_icmp_ne (tgt := 62) d_So_findUnknown_51 rfl (hO _ _).1 ⟨by decide, by decide⟩ (fun c28 => ?_) (fun c28 => ?_)
    · replace h := h.2 c28
      refine wm_iconst d_So_findUnknown_62 ?_
      exact h
    · replace c28 := Classical.not_not.mp c28
      replace h := h.1 c28
      refine wm_aload_n d_So_findUnknown_54 rfl rfl ?_
      refine wm_iload_n d_So_findUnknown_55 rfl rfl ?_
      refine cf_So_131 rfl d_So_findUnknown_56 h24 (Nat.le_of_ble_eq_true rfl) (Ci.mono h (fun x30 M29 h => ?_))
      obtain ⟨h31, hOM29, h⟩ := h
      refine wm_goto (tgt := 63) d_So_findUnknown_59 rfl ?_
      exact h
theorem k_So_findUnknown_63 {G : mG} {d : Nat} {a0 : Nat} {l1 : Int} {l2 : Int} {l3 : Int} {k0 : Int} {M : mM} {Q : Int → mM → Prop} (hO : mOk M) (hi_l1 : i32 l1) (hi_l2 : i32 l2) (hi_l3 : i32 l3) (hi_k0 : i32 k0)
    (h : ((k0 = (-1)) → (h_So_findUnknown_40 G d a0 l1 l2 (l3 + (-1)) M Q)) ∧ (¬ (k0 = (-1)) → (mK M a0 = 8 ∧ ((mI M a0 10 = 40) → (Q 0 M)) ∧ (¬ (mI M a0 10 = 40) → (mK M (mR M a0 7) = 30 ∧ ((0 : Int) ≤ l3 ∧ l3 < (mN M (mR M a0 7) : Int)) ∧ ∀ M41, M41 = mUI M (mR M a0 7) (Int.toNat l3) (mI M a0 10) → mK M41 (mR M41 a0 8) = 30 ∧ ((0 : Int) ≤ mI M41 a0 10 ∧ mI M41 a0 10 < (mN M41 (mR M41 a0 8) : Int)) ∧ ∀ M45, M45 = mUI M41 (mR M41 a0 8) (Int.toNat (mI M41 a0 10)) l3 → mK M45 (mR M45 a0 9) = 30 ∧ ((0 : Int) ≤ mI M45 a0 10 ∧ mI M45 a0 10 < (mN M45 (mR M45 a0 9) : Int)) ∧ ∀ M49, M49 = mUI M45 (mR M45 a0 9) (Int.toNat (mI M45 a0 10)) k0 → i32 ((mI M49 a0 10) + 1) ∧ ∀ M52, M52 = mUI M49 a0 10 ((mI M49 a0 10) + 1) → h_So_findUnknown_40 G d a0 1 l2 (l3 + (-1)) M52 Q))))) :
    h_So_findUnknown_63 G d a0 l1 l2 l3 k0 M Q := by
  unfold h_So_findUnknown_63
  refine wm_istore d_So_findUnknown_63 (by decide) (L' := [vr a0, vi l1, vi l2, vi l3, vi k0]) rfl ?_
  refine wm_iload d_So_findUnknown_65 rfl ?_
  refine wm_iconst d_So_findUnknown_67 ?_
  refine wm_icmp_ne (tgt := 74) d_So_findUnknown_68 rfl hi_k0 ⟨by decide, by decide⟩ (fun c35 => ?_) (fun c35 => ?_)
  · replace h := h.2 c35
    obtain ⟨h36, h⟩ := h
    refine wm_aload_n d_So_findUnknown_74 rfl rfl ?_
    refine gf_So_122 rfl d_So_findUnknown_75 h36 ?_
    refine wm_bipush d_So_findUnknown_78 (by decide) ?_
    refine wm_icmp_ne (tgt := 85) d_So_findUnknown_80 rfl (hO _ _).1 ⟨by decide, by decide⟩ (fun c38 => ?_) (fun c38 => ?_)
    · replace h := h.2 c38
      obtain ⟨h39, h⟩ := h
      obtain ⟨h40, h⟩ := h
      obtain ⟨M41, e42⟩ : ∃ M41, M41 = mUI M (mR M a0 7) (Int.toNat l3) (mI M a0 10) := ⟨_, rfl⟩
      replace h := h M41 e42
      obtain ⟨h43, h⟩ := h
      obtain ⟨h44, h⟩ := h
      obtain ⟨M45, e46⟩ : ∃ M45, M45 = mUI M41 (mR M41 a0 8) (Int.toNat (mI M41 a0 10)) l3 := ⟨_, rfl⟩
      replace h := h M45 e46
      obtain ⟨h47, h⟩ := h
      obtain ⟨h48, h⟩ := h
      obtain ⟨M49, e50⟩ : ∃ M49, M49 = mUI M45 (mR M45 a0 9) (Int.toNat (mI M45 a0 10)) k0 := ⟨_, rfl⟩
      replace h := h M49 e50
      obtain ⟨h51, h⟩ := h
      obtain ⟨M52, e53⟩ : ∃ M52, M52 = mUI M49 a0 10 ((mI M49 a0 10) + 1) := ⟨_, rfl⟩
      replace h := h M52 e53
      refine wm_aload_n d_So_findUnknown_85 rfl rfl ?_
      refine gf_So_38 rfl d_So_findUnknown_86 h36 ?_
      refine wm_iload_n d_So_findUnknown_89 rfl rfl ?_
      refine wm_aload_n d_So_findUnknown_90 rfl rfl ?_
      refine gf_So_122 rfl d_So_findUnknown_91 h36 ?_
      have hOM41 : mOk M41 := by rw [e42]; exact mOk_UI hO (hO _ _).1
      refine wm_iastE d_So_findUnknown_94 h39 h40 (hO _ _).1 e42 ?_
      refine wm_aload_n d_So_findUnknown_95 rfl rfl ?_
      refine gf_So_41 rfl d_So_findUnknown_96 (by rw [e42]; exact h36) ?_
      refine wm_aload_n d_So_findUnknown_99 rfl rfl ?_
      refine gf_So_122 rfl d_So_findUnknown_100 (by rw [e42]; exact h36) ?_
      refine wm_iload_n d_So_findUnknown_103 rfl rfl ?_
      have hOM45 : mOk M45 := by rw [e46]; exact mOk_UI hOM41 hi_l3
      refine wm_iastE d_So_findUnknown_104 h43 h44 hi_l3 e46 ?_
      refine wm_aload_n d_So_findUnknown_105 rfl rfl ?_
      refine gf_So_44 rfl d_So_findUnknown_106 (by rw [e46, e42]; exact h36) ?_
      refine wm_aload_n d_So_findUnknown_109 rfl rfl ?_
      refine gf_So_122 rfl d_So_findUnknown_110 (by rw [e46, e42]; exact h36) ?_
      refine wm_iload d_So_findUnknown_113 rfl ?_
      have hOM49 : mOk M49 := by rw [e50]; exact mOk_UI hOM45 hi_k0
      refine wm_iastE d_So_findUnknown_115 h47 h48 hi_k0 e50 ?_
      refine wm_aload_n d_So_findUnknown_116 rfl rfl ?_
      refine wm_dup d_So_findUnknown_117 rfl ?_
      refine gf_So_122 rfl d_So_findUnknown_118 (by rw [e50, e46, e42]; exact h36) ?_
      refine wm_iconst d_So_findUnknown_121 ?_
      refine wm_iadd d_So_findUnknown_122 ?_
      have hOM52 : mOk M52 := by rw [e53]; exact mOk_UI hOM49 h51
      refine pf_So_122 rfl d_So_findUnknown_123 (by rw [e50, e46, e42]; exact h36) h51 e53 ?_
      refine wm_iconst d_So_findUnknown_126 ?_
      refine wm_istore_n d_So_findUnknown_127 rfl (by decide) (L' := [vr a0, vi 1, vi l2, vi l3, vi k0]) rfl ?_
      refine wm_iinc d_So_findUnknown_128 (by decide) rfl (L' := [vr a0, vi 1, vi l2, vi (l3 + (-1)), vi k0]) rfl ?_
      refine wm_goto (tgt := 40) d_So_findUnknown_131 rfl ?_
      refine wm_less (L' := [vr a0, vi 1, vi l2, vi (l3 + (-1)), vd]) ⟨Or.inr rfl, Or.inr rfl, Or.inr rfl, Or.inr rfl, Or.inl rfl, trivial⟩ ?_
      exact h
    · replace c38 := Classical.not_not.mp c38
      replace h := h.1 c38
      refine wm_iconst d_So_findUnknown_83 ?_
      refine wm_ireturn d_So_findUnknown_84 rfl (m_nb (by decide)) ?_
      exact ⟨_, rfl, h⟩
  · replace c35 := Classical.not_not.mp c35
    replace h := h.1 c35
    refine wm_goto (tgt := 128) d_So_findUnknown_71 rfl ?_
    refine wm_iinc d_So_findUnknown_128 (by decide) rfl (L' := [vr a0, vi l1, vi l2, vi (l3 + (-1)), vi k0]) rfl ?_
    refine wm_goto (tgt := 40) d_So_findUnknown_131 rfl ?_
    refine wm_less (L' := [vr a0, vi l1, vi l2, vi (l3 + (-1)), vd]) ⟨Or.inr rfl, Or.inr rfl, Or.inr rfl, Or.inr rfl, Or.inl rfl, trivial⟩ ?_
    exact h
theorem d_So_wayFrom_0 : decode y_So_wayFrom.2.1 0 = .ok (.aload_n 0, 1) := dc9_42 (by decide +kernel)
theorem d_So_wayFrom_1 : decode y_So_wayFrom.2.1 1 = .ok (.getfield 64, 3) := dc9_180 (by decide +kernel)
theorem d_So_wayFrom_4 : decode y_So_wayFrom.2.1 4 = .ok (.getfield 113, 3) := dc9_180 (by decide +kernel)
theorem d_So_wayFrom_7 : decode y_So_wayFrom.2.1 7 = .ok (.iload_n 1, 1) := dc9_27 (by decide +kernel)
theorem d_So_wayFrom_8 : decode y_So_wayFrom.2.1 8 = .ok (.iaload, 1) := dc9_46 (by decide +kernel)
theorem d_So_wayFrom_9 : decode y_So_wayFrom.2.1 9 = .ok (.iconst 1, 1) := dc9_4 (by decide +kernel)
theorem d_So_wayFrom_10 : decode y_So_wayFrom.2.1 10 = .ok (.if_icmp .ne 7, 3) := dc9_160 (by decide +kernel)
theorem d_So_wayFrom_13 : decode y_So_wayFrom.2.1 13 = .ok (.iconst 1, 1) := dc9_4 (by decide +kernel)
theorem d_So_wayFrom_14 : decode y_So_wayFrom.2.1 14 = .ok (.goto 4, 3) := dc9_167 (by decide +kernel)
theorem d_So_wayFrom_17 : decode y_So_wayFrom.2.1 17 = .ok (.iconst 0, 1) := dc9_3 (by decide +kernel)
theorem d_So_wayFrom_18 : decode y_So_wayFrom.2.1 18 = .ok (.istore_n 2, 1) := dc9_61 (by decide +kernel)
theorem d_So_wayFrom_19 : decode y_So_wayFrom.2.1 19 = .ok (.aload_n 0, 1) := dc9_42 (by decide +kernel)
theorem d_So_wayFrom_20 : decode y_So_wayFrom.2.1 20 = .ok (.getfield 32, 3) := dc9_180 (by decide +kernel)
theorem d_So_wayFrom_23 : decode y_So_wayFrom.2.1 23 = .ok (.iload_n 1, 1) := dc9_27 (by decide +kernel)
theorem d_So_wayFrom_24 : decode y_So_wayFrom.2.1 24 = .ok (.iaload, 1) := dc9_46 (by decide +kernel)
theorem d_So_wayFrom_25 : decode y_So_wayFrom.2.1 25 = .ok (.istore_n 3, 1) := dc9_62 (by decide +kernel)
theorem d_So_wayFrom_26 : decode y_So_wayFrom.2.1 26 = .ok (.iload_n 3, 1) := dc9_29 (by decide +kernel)
theorem d_So_wayFrom_27 : decode y_So_wayFrom.2.1 27 = .ok (.aload_n 0, 1) := dc9_42 (by decide +kernel)
theorem d_So_wayFrom_28 : decode y_So_wayFrom.2.1 28 = .ok (.getfield 35, 3) := dc9_180 (by decide +kernel)
theorem d_So_wayFrom_31 : decode y_So_wayFrom.2.1 31 = .ok (.iload_n 1, 1) := dc9_27 (by decide +kernel)
theorem d_So_wayFrom_32 : decode y_So_wayFrom.2.1 32 = .ok (.iaload, 1) := dc9_46 (by decide +kernel)
theorem d_So_wayFrom_33 : decode y_So_wayFrom.2.1 33 = .ok (.if_icmp .ge 28, 3) := dc9_162 (by decide +kernel)
theorem d_So_wayFrom_61 : decode y_So_wayFrom.2.1 61 = .ok (.iload_n 2, 1) := dc9_28 (by decide +kernel)
theorem d_So_wayFrom_36 : decode y_So_wayFrom.2.1 36 = .ok (.aload_n 0, 1) := dc9_42 (by decide +kernel)
theorem d_So_wayFrom_37 : decode y_So_wayFrom.2.1 37 = .ok (.iload_n 3, 1) := dc9_29 (by decide +kernel)
theorem d_So_wayFrom_62 : decode y_So_wayFrom.2.1 62 = .ok (.ifCond .ne 18, 3) := dc9_154 (by decide +kernel)
theorem d_So_wayFrom_65 : decode y_So_wayFrom.2.1 65 = .ok (.aload_n 0, 1) := dc9_42 (by decide +kernel)
theorem d_So_wayFrom_66 : decode y_So_wayFrom.2.1 66 = .ok (.getfield 32, 3) := dc9_180 (by decide +kernel)
theorem d_So_wayFrom_69 : decode y_So_wayFrom.2.1 69 = .ok (.iload_n 1, 1) := dc9_27 (by decide +kernel)
theorem d_So_wayFrom_70 : decode y_So_wayFrom.2.1 70 = .ok (.iaload, 1) := dc9_46 (by decide +kernel)
theorem d_So_wayFrom_71 : decode y_So_wayFrom.2.1 71 = .ok (.aload_n 0, 1) := dc9_42 (by decide +kernel)
theorem d_So_wayFrom_72 : decode y_So_wayFrom.2.1 72 = .ok (.getfield 35, 3) := dc9_180 (by decide +kernel)
theorem d_So_wayFrom_75 : decode y_So_wayFrom.2.1 75 = .ok (.iload_n 1, 1) := dc9_27 (by decide +kernel)
theorem d_So_wayFrom_76 : decode y_So_wayFrom.2.1 76 = .ok (.iaload, 1) := dc9_46 (by decide +kernel)
theorem d_So_wayFrom_77 : decode y_So_wayFrom.2.1 77 = .ok (.if_icmp .ne 7, 3) := dc9_160 (by decide +kernel)
theorem d_So_wayFrom_84 : decode y_So_wayFrom.2.1 84 = .ok (.aload_n 0, 1) := dc9_42 (by decide +kernel)
theorem d_So_wayFrom_85 : decode y_So_wayFrom.2.1 85 = .ok (.getfield 32, 3) := dc9_180 (by decide +kernel)
theorem d_So_wayFrom_88 : decode y_So_wayFrom.2.1 88 = .ok (.iload_n 1, 1) := dc9_27 (by decide +kernel)
theorem d_So_wayFrom_89 : decode y_So_wayFrom.2.1 89 = .ok (.iaload, 1) := dc9_46 (by decide +kernel)
theorem d_So_wayFrom_90 : decode y_So_wayFrom.2.1 90 = .ok (.ireturn, 1) := dc9_172 (by decide +kernel)
theorem d_So_wayFrom_80 : decode y_So_wayFrom.2.1 80 = .ok (.iconst (-1), 1) := dc9_2 (by decide +kernel)
theorem d_So_wayFrom_81 : decode y_So_wayFrom.2.1 81 = .ok (.goto 9, 3) := dc9_167 (by decide +kernel)
theorem d_So_wayFrom_38 : decode y_So_wayFrom.2.1 38 = .ok (.invokevirtual 135, 3) := dc9_182 (by decide +kernel)
theorem d_So_wayFrom_41 : decode y_So_wayFrom.2.1 41 = .ok (.iload_n 2, 1) := dc9_28 (by decide +kernel)
theorem d_So_wayFrom_42 : decode y_So_wayFrom.2.1 42 = .ok (.if_icmp .ne 13, 3) := dc9_160 (by decide +kernel)
theorem d_So_wayFrom_45 : decode y_So_wayFrom.2.1 45 = .ok (.iload_n 2, 1) := dc9_28 (by decide +kernel)
theorem d_So_wayFrom_55 : decode y_So_wayFrom.2.1 55 = .ok (.iinc 3 1, 3) := by decide +kernel
theorem d_So_wayFrom_58 : decode y_So_wayFrom.2.1 58 = .ok (.goto (-32), 3) := dc9_167 (by decide +kernel)
theorem d_So_wayFrom_46 : decode y_So_wayFrom.2.1 46 = .ok (.ifCond .eq 7, 3) := dc9_153 (by decide +kernel)
theorem d_So_wayFrom_53 : decode y_So_wayFrom.2.1 53 = .ok (.iconst (-1), 1) := dc9_2 (by decide +kernel)
theorem d_So_wayFrom_54 : decode y_So_wayFrom.2.1 54 = .ok (.ireturn, 1) := dc9_172 (by decide +kernel)
theorem d_So_wayFrom_49 : decode y_So_wayFrom.2.1 49 = .ok (.iload_n 3, 1) := dc9_29 (by decide +kernel)
theorem d_So_wayFrom_50 : decode y_So_wayFrom.2.1 50 = .ok (.goto 4, 3) := dc9_167 (by decide +kernel)
def h_So_wayFrom_26 (G : mG) (d : Nat) (a0 : Nat) (l1 : Int) (l2 : Int) (l3 : Int) (M : mM) (Q : Int → mM → Prop) : Prop := mWm G y_So_wayFrom (d + 1) 26 [vr a0, vi l1, vi l2, vi l3] [] M (fun r9 M9 => ∃ x9, r9 = some (vi x9) ∧ Q x9 M9)
theorem k_So_wayFrom {G : mG} {d : Nat} {a0 : Nat} {l1 : Int} {M : mM} {Q : Int → mM → Prop} (hO : mOk M) (hi_l1 : i32 l1)
    (h : mK M a0 = 8 ∧ mK M (mR M a0 3) = 7 ∧ mK M (mR M (mR M a0 3) 2) = 30 ∧ ((0 : Int) ≤ l1 ∧ l1 < (mN M (mR M (mR M a0 3) 2) : Int)) ∧ ∀ v6 : Int, v6 = (if (mI M (mR M (mR M a0 3) 2) (Int.toNat l1) = 1) then 1 else 0) → mK M (mR M a0 5) = 30 ∧ ((0 : Int) ≤ l1 ∧ l1 < (mN M (mR M a0 5) : Int)) ∧ h_So_wayFrom_26 G d a0 l1 v6 (mI M (mR M a0 5) (Int.toNat l1)) M Q) :
    Ci G y_So_wayFrom (d + 1) [vr a0, vi l1] M Q := by
  refine wm_open (y := y_So_wayFrom) rfl (Nat.le_of_ble_eq_true rfl) (L := [vr a0, vi l1, vd, vd]) rfl ?_
  obtain ⟨h1, h⟩ := h
  obtain ⟨h2, h⟩ := h
  obtain ⟨h3, h⟩ := h
  obtain ⟨h4, h⟩ := h
  refine wm_aload_n d_So_wayFrom_0 rfl rfl ?_
  refine gf_So_64 rfl d_So_wayFrom_1 h1 ?_
  refine gf_So_113 rfl d_So_wayFrom_4 h2 ?_
  refine wm_iload_n d_So_wayFrom_7 rfl rfl ?_
  refine wm_iald d_So_wayFrom_8 h3 h4 ?_
  refine wm_iconst d_So_wayFrom_9 ?_
  have hJ : ∀ v6 : Int, v6 = (if (mI M (mR M (mR M a0 3) 2) (Int.toNat l1) = 1) then 1 else 0) → mWm G y_So_wayFrom (d + 1) 18 [vr a0, vi l1, vd, vd] [vi v6] M (fun r9 M9 => ∃ x9, r9 = some (vi x9) ∧ Q x9 M9) := by
    intro v6 e8
    have h := h v6 e8
    have h9 : i32 v6 := by rw [e8]; (repeat' split) <;> first | exact ⟨by decide, by decide⟩ | exact ⟨by decide, by decide⟩
    have h10 : (v6 = 0 ∨ v6 = 1) := by rw [e8]; (repeat' split) <;> decide
    obtain ⟨h11, h⟩ := h
    obtain ⟨h12, h⟩ := h
    refine wm_istore_n d_So_wayFrom_18 rfl (by decide) (L' := [vr a0, vi l1, vi v6, vd]) rfl ?_
    refine wm_aload_n d_So_wayFrom_19 rfl rfl ?_
    refine gf_So_32 rfl d_So_wayFrom_20 h1 ?_
    refine wm_iload_n d_So_wayFrom_23 rfl rfl ?_
    refine wm_iald d_So_wayFrom_24 h11 h12 ?_
    refine wm_istore_n d_So_wayFrom_25 rfl (by decide) (L' := [vr a0, vi l1, vi v6, vi (mI M (mR M a0 5) (Int.toNat l1))]) rfl ?_
    exact h
  clear h
  refine wm_icmp_ne (tgt := 17) d_So_wayFrom_10 rfl (hO _ _).1 ⟨by decide, by decide⟩ (fun c5 => ?_) (fun c5 => ?_)
  · refine wm_iconst d_So_wayFrom_17 ?_
    exact hJ 0 (if_neg c5).symm
  · replace c5 := Classical.not_not.mp c5
    refine wm_iconst d_So_wayFrom_13 ?_
    refine wm_goto (tgt := 18) d_So_wayFrom_14 rfl ?_
    exact hJ 1 (if_pos c5).symm
theorem k_So_wayFrom_26 {G : mG} {d : Nat} {a0 : Nat} {l1 : Int} {l2 : Int} {l3 : Int} {M : mM} {Q : Int → mM → Prop} (hO : mOk M) (hi_l1 : i32 l1) (hi_l2 : i32 l2) (hi_l3 : i32 l3)
    (h : mK M a0 = 8 ∧ mK M (mR M a0 6) = 30 ∧ ((0 : Int) ≤ l1 ∧ l1 < (mN M (mR M a0 6) : Int)) ∧ ((mI M (mR M a0 6) (Int.toNat l1) ≤ l3) → (((l2 = 0) → (mK M (mR M a0 5) = 30 ∧ ((0 : Int) ≤ l1 ∧ l1 < (mN M (mR M a0 5) : Int)) ∧ ((0 : Int) ≤ l1 ∧ l1 < (mN M (mR M a0 6) : Int)) ∧ (¬ (mI M (mR M a0 5) (Int.toNat l1) = mI M (mR M a0 6) (Int.toNat l1)) → ((0 : Int) ≤ l1 ∧ l1 < (mN M (mR M a0 5) : Int))))) ∧ ∀ v31 : Int, v31 = (if ((¬ (l2 = 0)) ∨ (mI M (mR M a0 5) (Int.toNat l1) = mI M (mR M a0 6) (Int.toNat l1))) then (-1) else mI M (mR M a0 5) (Int.toNat l1)) → Q v31 M)) ∧ (¬ (mI M (mR M a0 6) (Int.toNat l1) ≤ l3) → (Ci G y_So_comesOn d [vr a0, vi l3] M (fun x39 M38 => i32 x39 ∧ mOk M38 ∧ (((x39 = l2) → (∀ v45 : Int, v45 = (if (l2 = 0) then (-1) else l3) → Q v45 M38)) ∧ (¬ (x39 = l2) → (h_So_wayFrom_26 G d a0 l1 l2 (l3 + 1) M38 Q))))))) :
    h_So_wayFrom_26 G d a0 l1 l2 l3 M Q := by
  unfold h_So_wayFrom_26
  obtain ⟨h14, h⟩ := h
  obtain ⟨h15, h⟩ := h
  obtain ⟨h16, h⟩ := h
  refine wm_iload_n d_So_wayFrom_26 rfl rfl ?_
  refine wm_aload_n d_So_wayFrom_27 rfl rfl ?_
  refine gf_So_35 rfl d_So_wayFrom_28 h14 ?_
  refine wm_iload_n d_So_wayFrom_31 rfl rfl ?_
  refine wm_iald d_So_wayFrom_32 h15 h16 ?_
  refine wm_icmp_ge (tgt := 61) d_So_wayFrom_33 rfl hi_l3 (hO _ _).1 (fun c24 => ?_) (fun c24 => ?_)
  · replace h := h.1 c24
    refine wm_iload_n d_So_wayFrom_61 rfl rfl ?_
    obtain ⟨s32, h⟩ := h
    have hJ : ∀ v31 : Int, v31 = (if ((¬ (l2 = 0)) ∨ (mI M (mR M a0 5) (Int.toNat l1) = mI M (mR M a0 6) (Int.toNat l1))) then (-1) else mI M (mR M a0 5) (Int.toNat l1)) → mWm G y_So_wayFrom (d + 1) 90 [vd, vd, vd, vd] [vi v31] M (fun r9 M9 => ∃ x9, r9 = some (vi x9) ∧ Q x9 M9) := by
      intro v31 e33
      have h := h v31 e33
      refine wm_ireturn d_So_wayFrom_90 rfl rfl ?_
      exact ⟨_, rfl, h⟩
    clear h
    have s34 := s32
    refine wm_if_ne (tgt := 80) d_So_wayFrom_62 rfl hi_l2 (fun c25 => ?_) (fun c25 => ?_)
    · refine wm_iconst d_So_wayFrom_80 ?_
      refine wm_goto (tgt := 90) d_So_wayFrom_81 rfl ?_
      refine wm_less (L' := [vd, vd, vd, vd]) ⟨Or.inl rfl, Or.inl rfl, Or.inl rfl, Or.inl rfl, trivial⟩ ?_
      exact hJ (-1) (if_pos (Or.inl c25)).symm
    · replace c25 := Classical.not_not.mp c25
      have s34 := s34 c25
      obtain ⟨h26, h27, h28, s35⟩ := s34
      refine wm_aload_n d_So_wayFrom_65 rfl rfl ?_
      refine gf_So_32 rfl d_So_wayFrom_66 h14 ?_
      refine wm_iload_n d_So_wayFrom_69 rfl rfl ?_
      refine wm_iald d_So_wayFrom_70 h26 h27 ?_
      refine wm_aload_n d_So_wayFrom_71 rfl rfl ?_
      refine gf_So_35 rfl d_So_wayFrom_72 h14 ?_
      refine wm_iload_n d_So_wayFrom_75 rfl rfl ?_
      refine wm_iald d_So_wayFrom_76 h15 h28 ?_
      refine wm_icmp_ne (tgt := 84) d_So_wayFrom_77 rfl (hO _ _).1 (hO _ _).1 (fun c29 => ?_) (fun c29 => ?_)
      · have s35 := s35 c29
        have h30 := s35
        refine wm_aload_n d_So_wayFrom_84 rfl rfl ?_
        refine gf_So_32 rfl d_So_wayFrom_85 h14 ?_
        refine wm_iload_n d_So_wayFrom_88 rfl rfl ?_
        refine wm_iald d_So_wayFrom_89 h26 h30 ?_
        refine wm_less (L' := [vd, vd, vd, vd]) ⟨Or.inl rfl, Or.inl rfl, Or.inl rfl, Or.inl rfl, trivial⟩ ?_
        exact hJ (mI M (mR M a0 5) (Int.toNat l1)) (if_neg (fun z36 => Or.elim z36 (fun w => w c25) c29)).symm
      · replace c29 := Classical.not_not.mp c29
        refine wm_iconst d_So_wayFrom_80 ?_
        refine wm_goto (tgt := 90) d_So_wayFrom_81 rfl ?_
        refine wm_less (L' := [vd, vd, vd, vd]) ⟨Or.inl rfl, Or.inl rfl, Or.inl rfl, Or.inl rfl, trivial⟩ ?_
        exact hJ (-1) (if_pos (Or.inr c29)).symm
  · replace h := h.2 c24
    refine wm_aload_n d_So_wayFrom_36 rfl rfl ?_
    refine wm_iload_n d_So_wayFrom_37 rfl rfl ?_
    refine cf_So_135 rfl d_So_wayFrom_38 h14 (Nat.le_of_ble_eq_true rfl) (Ci.mono h (fun x39 M38 h => ?_))
    obtain ⟨h40, hOM38, h⟩ := h
    refine wm_iload_n d_So_wayFrom_41 rfl rfl ?_
    refine wm_icmp_ne (tgt := 55) d_So_wayFrom_42 rfl h40 hi_l2 (fun c43 => ?_) (fun c43 => ?_)
    · replace h := h.2 c43
      refine wm_iinc d_So_wayFrom_55 (by decide) rfl (L' := [vr a0, vi l1, vi l2, vi (l3 + 1)]) rfl ?_
      refine wm_goto (tgt := 26) d_So_wayFrom_58 rfl ?_
      exact h
    · replace c43 := Classical.not_not.mp c43
      replace h := h.1 c43
      refine wm_iload_n d_So_wayFrom_45 rfl rfl ?_
      have hJ : ∀ v45 : Int, v45 = (if (l2 = 0) then (-1) else l3) → mWm G y_So_wayFrom (d + 1) 54 [vd, vd, vd, vd] [vi v45] M38 (fun r9 M9 => ∃ x9, r9 = some (vi x9) ∧ Q x9 M9) := by
        intro v45 e47
        have h := h v45 e47
        have h48 : i32 v45 := by rw [e47]; (repeat' split) <;> first | exact ⟨by decide, by decide⟩ | exact hi_l3
        refine wm_ireturn d_So_wayFrom_54 rfl rfl ?_
        exact ⟨_, rfl, h⟩
      clear h
      refine wm_if_eq (tgt := 53) d_So_wayFrom_46 rfl hi_l2 (fun c44 => ?_) (fun c44 => ?_)
      · refine wm_iconst d_So_wayFrom_53 ?_
        refine wm_less (L' := [vd, vd, vd, vd]) ⟨Or.inl rfl, Or.inl rfl, Or.inl rfl, Or.inl rfl, trivial⟩ ?_
        exact hJ (-1) (if_pos c44).symm
      · refine wm_iload_n d_So_wayFrom_49 rfl rfl ?_
        refine wm_goto (tgt := 54) d_So_wayFrom_50 rfl ?_
        refine wm_less (L' := [vd, vd, vd, vd]) ⟨Or.inl rfl, Or.inl rfl, Or.inl rfl, Or.inl rfl, trivial⟩ ?_
        exact hJ l3 (if_neg c44).symm
theorem d_So_comesOn_0 : decode y_So_comesOn.2.1 0 = .ok (.aload_n 0, 1) := dc9_42 (by decide +kernel)
theorem d_So_comesOn_1 : decode y_So_comesOn.2.1 1 = .ok (.getfield 64, 3) := dc9_180 (by decide +kernel)
theorem d_So_comesOn_4 : decode y_So_comesOn.2.1 4 = .ok (.getfield 139, 3) := dc9_180 (by decide +kernel)
theorem d_So_comesOn_7 : decode y_So_comesOn.2.1 7 = .ok (.iload_n 1, 1) := dc9_27 (by decide +kernel)
theorem d_So_comesOn_8 : decode y_So_comesOn.2.1 8 = .ok (.iaload, 1) := dc9_46 (by decide +kernel)
theorem d_So_comesOn_9 : decode y_So_comesOn.2.1 9 = .ok (.istore_n 2, 1) := dc9_61 (by decide +kernel)
theorem d_So_comesOn_10 : decode y_So_comesOn.2.1 10 = .ok (.iload_n 2, 1) := dc9_28 (by decide +kernel)
theorem d_So_comesOn_11 : decode y_So_comesOn.2.1 11 = .ok (.aload_n 0, 1) := dc9_42 (by decide +kernel)
theorem d_So_comesOn_12 : decode y_So_comesOn.2.1 12 = .ok (.getfield 64, 3) := dc9_180 (by decide +kernel)
theorem d_So_comesOn_15 : decode y_So_comesOn.2.1 15 = .ok (.getfield 139, 3) := dc9_180 (by decide +kernel)
theorem d_So_comesOn_18 : decode y_So_comesOn.2.1 18 = .ok (.iload_n 1, 1) := dc9_27 (by decide +kernel)
theorem d_So_comesOn_19 : decode y_So_comesOn.2.1 19 = .ok (.iconst 1, 1) := dc9_4 (by decide +kernel)
theorem d_So_comesOn_20 : decode y_So_comesOn.2.1 20 = .ok (.iadd, 1) := dc9_96 (by decide +kernel)
theorem d_So_comesOn_21 : decode y_So_comesOn.2.1 21 = .ok (.iaload, 1) := dc9_46 (by decide +kernel)
theorem d_So_comesOn_22 : decode y_So_comesOn.2.1 22 = .ok (.if_icmp .ge 44, 3) := dc9_162 (by decide +kernel)
theorem d_So_comesOn_66 : decode y_So_comesOn.2.1 66 = .ok (.iconst 0, 1) := dc9_3 (by decide +kernel)
theorem d_So_comesOn_67 : decode y_So_comesOn.2.1 67 = .ok (.ireturn, 1) := dc9_172 (by decide +kernel)
theorem d_So_comesOn_25 : decode y_So_comesOn.2.1 25 = .ok (.aload_n 0, 1) := dc9_42 (by decide +kernel)
theorem d_So_comesOn_26 : decode y_So_comesOn.2.1 26 = .ok (.getfield 64, 3) := dc9_180 (by decide +kernel)
theorem d_So_comesOn_29 : decode y_So_comesOn.2.1 29 = .ok (.getfield 142, 3) := dc9_180 (by decide +kernel)
theorem d_So_comesOn_32 : decode y_So_comesOn.2.1 32 = .ok (.iload_n 2, 1) := dc9_28 (by decide +kernel)
theorem d_So_comesOn_33 : decode y_So_comesOn.2.1 33 = .ok (.iaload, 1) := dc9_46 (by decide +kernel)
theorem d_So_comesOn_34 : decode y_So_comesOn.2.1 34 = .ok (.istore_n 3, 1) := dc9_62 (by decide +kernel)
theorem d_So_comesOn_35 : decode y_So_comesOn.2.1 35 = .ok (.aload_n 0, 1) := dc9_42 (by decide +kernel)
theorem d_So_comesOn_36 : decode y_So_comesOn.2.1 36 = .ok (.getfield 38, 3) := dc9_180 (by decide +kernel)
theorem d_So_comesOn_39 : decode y_So_comesOn.2.1 39 = .ok (.iload_n 3, 1) := dc9_29 (by decide +kernel)
theorem d_So_comesOn_40 : decode y_So_comesOn.2.1 40 = .ok (.iaload, 1) := dc9_46 (by decide +kernel)
theorem d_So_comesOn_41 : decode y_So_comesOn.2.1 41 = .ok (.iconst (-1), 1) := dc9_2 (by decide +kernel)
theorem d_So_comesOn_42 : decode y_So_comesOn.2.1 42 = .ok (.if_icmp .ne 16, 3) := dc9_160 (by decide +kernel)
theorem d_So_comesOn_45 : decode y_So_comesOn.2.1 45 = .ok (.aload_n 0, 1) := dc9_42 (by decide +kernel)
theorem d_So_comesOn_46 : decode y_So_comesOn.2.1 46 = .ok (.getfield 64, 3) := dc9_180 (by decide +kernel)
theorem d_So_comesOn_49 : decode y_So_comesOn.2.1 49 = .ok (.getfield 113, 3) := dc9_180 (by decide +kernel)
theorem d_So_comesOn_52 : decode y_So_comesOn.2.1 52 = .ok (.iload_n 3, 1) := dc9_29 (by decide +kernel)
theorem d_So_comesOn_53 : decode y_So_comesOn.2.1 53 = .ok (.iaload, 1) := dc9_46 (by decide +kernel)
theorem d_So_comesOn_54 : decode y_So_comesOn.2.1 54 = .ok (.iconst 3, 1) := dc9_6 (by decide +kernel)
theorem d_So_comesOn_55 : decode y_So_comesOn.2.1 55 = .ok (.if_icmp .ne 5, 3) := dc9_160 (by decide +kernel)
theorem d_So_comesOn_60 : decode y_So_comesOn.2.1 60 = .ok (.iinc 2 1, 3) := by decide +kernel
theorem d_So_comesOn_63 : decode y_So_comesOn.2.1 63 = .ok (.goto (-53), 3) := dc9_167 (by decide +kernel)
theorem d_So_comesOn_58 : decode y_So_comesOn.2.1 58 = .ok (.iconst 1, 1) := dc9_4 (by decide +kernel)
theorem d_So_comesOn_59 : decode y_So_comesOn.2.1 59 = .ok (.ireturn, 1) := dc9_172 (by decide +kernel)
def h_So_comesOn_10 (G : mG) (d : Nat) (a0 : Nat) (l1 : Int) (l2 : Int) (M : mM) (Q : Int → mM → Prop) : Prop := mWm G y_So_comesOn d 10 [vr a0, vi l1, vi l2, vd] [] M (fun r9 M9 => ∃ x9, r9 = some (vi x9) ∧ Q x9 M9)
theorem k_So_comesOn {G : mG} {d : Nat} {a0 : Nat} {l1 : Int} {M : mM} {Q : Int → mM → Prop} (hO : mOk M) (hi_l1 : i32 l1)
    (h : mK M a0 = 8 ∧ mK M (mR M a0 3) = 7 ∧ mK M (mR M (mR M a0 3) 7) = 30 ∧ ((0 : Int) ≤ l1 ∧ l1 < (mN M (mR M (mR M a0 3) 7) : Int)) ∧ h_So_comesOn_10 G d a0 l1 (mI M (mR M (mR M a0 3) 7) (Int.toNat l1)) M Q) :
    Ci G y_So_comesOn d [vr a0, vi l1] M Q := by
  refine wm_open (y := y_So_comesOn) rfl (Nat.le_of_ble_eq_true rfl) (L := [vr a0, vi l1, vd, vd]) rfl ?_
  obtain ⟨h1, h⟩ := h
  obtain ⟨h2, h⟩ := h
  obtain ⟨h3, h⟩ := h
  obtain ⟨h4, h⟩ := h
  refine wm_aload_n d_So_comesOn_0 rfl rfl ?_
  refine gf_So_64 rfl d_So_comesOn_1 h1 ?_
  refine gf_So_139 rfl d_So_comesOn_4 h2 ?_
  refine wm_iload_n d_So_comesOn_7 rfl rfl ?_
  refine wm_iald d_So_comesOn_8 h3 h4 ?_
  refine wm_istore_n d_So_comesOn_9 rfl (by decide) (L' := [vr a0, vi l1, vi (mI M (mR M (mR M a0 3) 7) (Int.toNat l1)), vd]) rfl ?_
  exact h
theorem k_So_comesOn_10 {G : mG} {d : Nat} {a0 : Nat} {l1 : Int} {l2 : Int} {M : mM} {Q : Int → mM → Prop} (hO : mOk M) (hi_l1 : i32 l1) (hi_l2 : i32 l2)
    (h : mK M a0 = 8 ∧ mK M (mR M a0 3) = 7 ∧ mK M (mR M (mR M a0 3) 7) = 30 ∧ ((0 : Int) ≤ l1 + 1 ∧ l1 + 1 < (mN M (mR M (mR M a0 3) 7) : Int)) ∧ ((mI M (mR M (mR M a0 3) 7) (Int.toNat (l1 + 1)) ≤ l2) → (Q 0 M)) ∧ (¬ (mI M (mR M (mR M a0 3) 7) (Int.toNat (l1 + 1)) ≤ l2) → (mK M (mR M (mR M a0 3) 8) = 30 ∧ ((0 : Int) ≤ l2 ∧ l2 < (mN M (mR M (mR M a0 3) 8) : Int)) ∧ mK M (mR M a0 7) = 30 ∧ ((0 : Int) ≤ mI M (mR M (mR M a0 3) 8) (Int.toNat l2) ∧ mI M (mR M (mR M a0 3) 8) (Int.toNat l2) < (mN M (mR M a0 7) : Int)) ∧ ((mI M (mR M a0 7) (Int.toNat (mI M (mR M (mR M a0 3) 8) (Int.toNat l2))) = (-1)) → (mK M (mR M (mR M a0 3) 2) = 30 ∧ ((0 : Int) ≤ mI M (mR M (mR M a0 3) 8) (Int.toNat l2) ∧ mI M (mR M (mR M a0 3) 8) (Int.toNat l2) < (mN M (mR M (mR M a0 3) 2) : Int)))) ∧ (((¬ (mI M (mR M a0 7) (Int.toNat (mI M (mR M (mR M a0 3) 8) (Int.toNat l2))) = (-1))) ∨ (mI M (mR M (mR M a0 3) 2) (Int.toNat (mI M (mR M (mR M a0 3) 8) (Int.toNat l2))) = 3)) → (Q 1 M)) ∧ (¬ ((¬ (mI M (mR M a0 7) (Int.toNat (mI M (mR M (mR M a0 3) 8) (Int.toNat l2))) = (-1))) ∨ (mI M (mR M (mR M a0 3) 2) (Int.toNat (mI M (mR M (mR M a0 3) 8) (Int.toNat l2))) = 3)) → (h_So_comesOn_10 G d a0 l1 (l2 + 1) M Q))))) :
    h_So_comesOn_10 G d a0 l1 l2 M Q := by
  unfold h_So_comesOn_10
  obtain ⟨h5, h⟩ := h
  obtain ⟨h6, h⟩ := h
  obtain ⟨h7, h⟩ := h
  obtain ⟨h8, h⟩ := h
  refine wm_iload_n d_So_comesOn_10 rfl rfl ?_
  refine wm_aload_n d_So_comesOn_11 rfl rfl ?_
  refine gf_So_64 rfl d_So_comesOn_12 h5 ?_
  refine gf_So_139 rfl d_So_comesOn_15 h6 ?_
  refine wm_iload_n d_So_comesOn_18 rfl rfl ?_
  refine wm_iconst d_So_comesOn_19 ?_
  refine wm_iadd d_So_comesOn_20 ?_
  refine wm_iald d_So_comesOn_21 h7 h8 ?_
  refine wm_icmp_ge (tgt := 66) d_So_comesOn_22 rfl hi_l2 (hO _ _).1 (fun c14 => ?_) (fun c14 => ?_)
  · replace h := h.1 c14
    refine wm_iconst d_So_comesOn_66 ?_
    refine wm_ireturn d_So_comesOn_67 rfl (m_nb (by decide)) ?_
    exact ⟨_, rfl, h⟩
  · replace h := h.2 c14
    obtain ⟨h15, h⟩ := h
    obtain ⟨h16, h⟩ := h
    obtain ⟨h17, h⟩ := h
    obtain ⟨h18, h⟩ := h
    refine wm_aload_n d_So_comesOn_25 rfl rfl ?_
    refine gf_So_64 rfl d_So_comesOn_26 h5 ?_
    refine gf_So_142 rfl d_So_comesOn_29 h6 ?_
    refine wm_iload_n d_So_comesOn_32 rfl rfl ?_
    refine wm_iald d_So_comesOn_33 h15 h16 ?_
    refine wm_istore_n d_So_comesOn_34 rfl (by decide) (L' := [vr a0, vi l1, vi l2, vi (mI M (mR M (mR M a0 3) 8) (Int.toNat l2))]) rfl ?_
    refine wm_aload_n d_So_comesOn_35 rfl rfl ?_
    refine gf_So_38 rfl d_So_comesOn_36 h5 ?_
    refine wm_iload_n d_So_comesOn_39 rfl rfl ?_
    refine wm_iald d_So_comesOn_40 h17 h18 ?_
    refine wm_iconst d_So_comesOn_41 ?_
    obtain ⟨s23, h⟩ := h
    have hE0 : ((¬ (mI M (mR M a0 7) (Int.toNat (mI M (mR M (mR M a0 3) 8) (Int.toNat l2))) = (-1))) ∨ (mI M (mR M (mR M a0 3) 2) (Int.toNat (mI M (mR M (mR M a0 3) 8) (Int.toNat l2))) = 3)) → mWm G y_So_comesOn d 58 [vr a0, vi l1, vi l2, vi (mI M (mR M (mR M a0 3) 8) (Int.toNat l2))] [] M (fun r9 M9 => ∃ x9, r9 = some (vi x9) ∧ Q x9 M9) := by
      intro q24
      have h := h.1 q24
      refine wm_iconst d_So_comesOn_58 ?_
      refine wm_ireturn d_So_comesOn_59 rfl (m_nb (by decide)) ?_
      exact ⟨_, rfl, h⟩
    have hE1 : ¬ ((¬ (mI M (mR M a0 7) (Int.toNat (mI M (mR M (mR M a0 3) 8) (Int.toNat l2))) = (-1))) ∨ (mI M (mR M (mR M a0 3) 2) (Int.toNat (mI M (mR M (mR M a0 3) 8) (Int.toNat l2))) = 3)) → mWm G y_So_comesOn d 60 [vr a0, vi l1, vi l2, vi (mI M (mR M (mR M a0 3) 8) (Int.toNat l2))] [] M (fun r9 M9 => ∃ x9, r9 = some (vi x9) ∧ Q x9 M9) := by
      intro q25
      have h := h.2 q25
      refine wm_iinc d_So_comesOn_60 (by decide) rfl (L' := [vr a0, vi l1, vi (l2 + 1), vi (mI M (mR M (mR M a0 3) 8) (Int.toNat l2))]) rfl ?_
      refine wm_goto (tgt := 10) d_So_comesOn_63 rfl ?_
      refine wm_less (L' := [vr a0, vi l1, vi (l2 + 1), vd]) ⟨Or.inr rfl, Or.inr rfl, Or.inr rfl, Or.inl rfl, trivial⟩ ?_
      exact h
    clear h
    have s26 := s23
    refine wm_icmp_ne (tgt := 58) d_So_comesOn_42 rfl (hO _ _).1 ⟨by decide, by decide⟩ (fun c22 => ?_) (fun c22 => ?_)
    · exact hE0 (Or.inl c22)
    · replace c22 := Classical.not_not.mp c22
      have s26 := s26 c22
      obtain ⟨h19, h20⟩ := s26
      refine wm_aload_n d_So_comesOn_45 rfl rfl ?_
      refine gf_So_64 rfl d_So_comesOn_46 h5 ?_
      refine gf_So_113 rfl d_So_comesOn_49 h6 ?_
      refine wm_iload_n d_So_comesOn_52 rfl rfl ?_
      refine wm_iald d_So_comesOn_53 h19 h20 ?_
      refine wm_iconst d_So_comesOn_54 ?_
      refine wm_icmp_ne (tgt := 60) d_So_comesOn_55 rfl (hO _ _).1 ⟨by decide, by decide⟩ (fun c21 => ?_) (fun c21 => ?_)
      · exact hE1 (fun z27 => Or.elim z27 (fun w => w c22) c21)
      · replace c21 := Classical.not_not.mp c21
        exact hE0 (Or.inr c21)
theorem d_So_weights_0 : decode y_So_weights.2.1 0 = .ok (.iconst 0, 1) := dc9_3 (by decide +kernel)
theorem d_So_weights_1 : decode y_So_weights.2.1 1 = .ok (.istore_n 1, 1) := dc9_60 (by decide +kernel)
theorem d_So_weights_2 : decode y_So_weights.2.1 2 = .ok (.iconst 0, 1) := dc9_3 (by decide +kernel)
theorem d_So_weights_3 : decode y_So_weights.2.1 3 = .ok (.istore_n 2, 1) := dc9_61 (by decide +kernel)
theorem d_So_weights_4 : decode y_So_weights.2.1 4 = .ok (.iload_n 2, 1) := dc9_28 (by decide +kernel)
theorem d_So_weights_5 : decode y_So_weights.2.1 5 = .ok (.aload_n 0, 1) := dc9_42 (by decide +kernel)
theorem d_So_weights_6 : decode y_So_weights.2.1 6 = .ok (.getfield 122, 3) := dc9_180 (by decide +kernel)
theorem d_So_weights_9 : decode y_So_weights.2.1 9 = .ok (.if_icmp .ge 73, 3) := dc9_162 (by decide +kernel)
theorem d_So_weights_82 : decode y_So_weights.2.1 82 = .ok (.iload_n 1, 1) := dc9_27 (by decide +kernel)
theorem d_So_weights_83 : decode y_So_weights.2.1 83 = .ok (.ireturn, 1) := dc9_172 (by decide +kernel)
theorem d_So_weights_12 : decode y_So_weights.2.1 12 = .ok (.iconst 1, 1) := dc9_4 (by decide +kernel)
theorem d_So_weights_13 : decode y_So_weights.2.1 13 = .ok (.istore_n 3, 1) := dc9_62 (by decide +kernel)
theorem d_So_weights_14 : decode y_So_weights.2.1 14 = .ok (.aload_n 0, 1) := dc9_42 (by decide +kernel)
theorem d_So_weights_15 : decode y_So_weights.2.1 15 = .ok (.getfield 32, 3) := dc9_180 (by decide +kernel)
theorem d_So_weights_18 : decode y_So_weights.2.1 18 = .ok (.aload_n 0, 1) := dc9_42 (by decide +kernel)
theorem d_So_weights_19 : decode y_So_weights.2.1 19 = .ok (.getfield 41, 3) := dc9_180 (by decide +kernel)
theorem d_So_weights_22 : decode y_So_weights.2.1 22 = .ok (.iload_n 2, 1) := dc9_28 (by decide +kernel)
theorem d_So_weights_23 : decode y_So_weights.2.1 23 = .ok (.iaload, 1) := dc9_46 (by decide +kernel)
theorem d_So_weights_24 : decode y_So_weights.2.1 24 = .ok (.iaload, 1) := dc9_46 (by decide +kernel)
theorem d_So_weights_25 : decode y_So_weights.2.1 25 = .ok (.istore 4, 2) := dc9_54 (by decide +kernel)
theorem d_So_weights_27 : decode y_So_weights.2.1 27 = .ok (.iload 4, 2) := dc9_21 (by decide +kernel)
theorem d_So_weights_29 : decode y_So_weights.2.1 29 = .ok (.aload_n 0, 1) := dc9_42 (by decide +kernel)
theorem d_So_weights_30 : decode y_So_weights.2.1 30 = .ok (.getfield 35, 3) := dc9_180 (by decide +kernel)
theorem d_So_weights_33 : decode y_So_weights.2.1 33 = .ok (.aload_n 0, 1) := dc9_42 (by decide +kernel)
theorem d_So_weights_34 : decode y_So_weights.2.1 34 = .ok (.getfield 41, 3) := dc9_180 (by decide +kernel)
theorem d_So_weights_37 : decode y_So_weights.2.1 37 = .ok (.iload_n 2, 1) := dc9_28 (by decide +kernel)
theorem d_So_weights_38 : decode y_So_weights.2.1 38 = .ok (.iaload, 1) := dc9_46 (by decide +kernel)
theorem d_So_weights_39 : decode y_So_weights.2.1 39 = .ok (.iaload, 1) := dc9_46 (by decide +kernel)
theorem d_So_weights_40 : decode y_So_weights.2.1 40 = .ok (.if_icmp .ge 24, 3) := dc9_162 (by decide +kernel)
theorem d_So_weights_64 : decode y_So_weights.2.1 64 = .ok (.iload_n 1, 1) := dc9_27 (by decide +kernel)
theorem d_So_weights_65 : decode y_So_weights.2.1 65 = .ok (.bipush 33, 2) := dc9_16 (by decide +kernel)
theorem d_So_weights_67 : decode y_So_weights.2.1 67 = .ok (.iload_n 3, 1) := dc9_29 (by decide +kernel)
theorem d_So_weights_68 : decode y_So_weights.2.1 68 = .ok (.iconst 1, 1) := dc9_4 (by decide +kernel)
theorem d_So_weights_69 : decode y_So_weights.2.1 69 = .ok (.isub, 1) := dc9_100 (by decide +kernel)
theorem d_So_weights_43 : decode y_So_weights.2.1 43 = .ok (.iload_n 3, 1) := dc9_29 (by decide +kernel)
theorem d_So_weights_44 : decode y_So_weights.2.1 44 = .ok (.aload_n 0, 1) := dc9_42 (by decide +kernel)
theorem d_So_weights_45 : decode y_So_weights.2.1 45 = .ok (.getfield 64, 3) := dc9_180 (by decide +kernel)
theorem d_So_weights_48 : decode y_So_weights.2.1 48 = .ok (.getfield 145, 3) := dc9_180 (by decide +kernel)
theorem d_So_weights_51 : decode y_So_weights.2.1 51 = .ok (.iload 4, 2) := dc9_21 (by decide +kernel)
theorem d_So_weights_53 : decode y_So_weights.2.1 53 = .ok (.iaload, 1) := dc9_46 (by decide +kernel)
theorem d_So_weights_54 : decode y_So_weights.2.1 54 = .ok (.invokestatic 148, 3) := dc9_184 (by decide +kernel)
theorem d_So_weights_57 : decode y_So_weights.2.1 57 = .ok (.istore_n 3, 1) := dc9_62 (by decide +kernel)
theorem d_So_weights_58 : decode y_So_weights.2.1 58 = .ok (.iinc 4 1, 3) := by decide +kernel
theorem d_So_weights_61 : decode y_So_weights.2.1 61 = .ok (.goto (-34), 3) := dc9_167 (by decide +kernel)
theorem d_So_weights_70 : decode y_So_weights.2.1 70 = .ok (.invokestatic 154, 3) := dc9_184 (by decide +kernel)
theorem d_So_weights_73 : decode y_So_weights.2.1 73 = .ok (.isub, 1) := dc9_100 (by decide +kernel)
theorem d_So_weights_74 : decode y_So_weights.2.1 74 = .ok (.iadd, 1) := dc9_96 (by decide +kernel)
theorem d_So_weights_75 : decode y_So_weights.2.1 75 = .ok (.istore_n 1, 1) := dc9_60 (by decide +kernel)
theorem d_So_weights_76 : decode y_So_weights.2.1 76 = .ok (.iinc 2 1, 3) := by decide +kernel
theorem d_So_weights_79 : decode y_So_weights.2.1 79 = .ok (.goto (-75), 3) := dc9_167 (by decide +kernel)
def h_So_weights_4 (G : mG) (d : Nat) (a0 : Nat) (l1 : Int) (l2 : Int) (M : mM) (Q : Int → mM → Prop) : Prop := mWm G y_So_weights (d + 1) 4 [vr a0, vi l1, vi l2, vd, vd] [] M (fun r9 M9 => ∃ x9, r9 = some (vi x9) ∧ Q x9 M9)
def h_So_weights_27 (G : mG) (d : Nat) (a0 : Nat) (l1 : Int) (l2 : Int) (l3 : Int) (l4 : Int) (M : mM) (Q : Int → mM → Prop) : Prop := mWm G y_So_weights (d + 1) 27 [vr a0, vi l1, vi l2, vi l3, vi l4] [] M (fun r9 M9 => ∃ x9, r9 = some (vi x9) ∧ Q x9 M9)
theorem k_So_weights {G : mG} {d : Nat} {a0 : Nat} {M : mM} {Q : Int → mM → Prop} (hO : mOk M)
    (h : h_So_weights_4 G d a0 0 0 M Q) :
    Ci G y_So_weights (d + 1) [vr a0] M Q := by
  refine wm_open (y := y_So_weights) rfl (Nat.le_of_ble_eq_true rfl) (L := [vr a0, vd, vd, vd, vd]) rfl ?_
  refine wm_iconst d_So_weights_0 ?_
  refine wm_istore_n d_So_weights_1 rfl (by decide) (L' := [vr a0, vi 0, vd, vd, vd]) rfl ?_
  refine wm_iconst d_So_weights_2 ?_
  refine wm_istore_n d_So_weights_3 rfl (by decide) (L' := [vr a0, vi 0, vi 0, vd, vd]) rfl ?_
  exact h
theorem k_So_weights_4 {G : mG} {d : Nat} {a0 : Nat} {l1 : Int} {l2 : Int} {M : mM} {Q : Int → mM → Prop} (hO : mOk M) (hi_l1 : i32 l1) (hi_l2 : i32 l2)
    (h : mK M a0 = 8 ∧ ((mI M a0 10 ≤ l2) → (Q l1 M)) ∧ (¬ (mI M a0 10 ≤ l2) → (mK M (mR M a0 8) = 30 ∧ ((0 : Int) ≤ l2 ∧ l2 < (mN M (mR M a0 8) : Int)) ∧ mK M (mR M a0 5) = 30 ∧ ((0 : Int) ≤ mI M (mR M a0 8) (Int.toNat l2) ∧ mI M (mR M a0 8) (Int.toNat l2) < (mN M (mR M a0 5) : Int)) ∧ h_So_weights_27 G d a0 l1 l2 1 (mI M (mR M a0 5) (Int.toNat (mI M (mR M a0 8) (Int.toNat l2)))) M Q))) :
    h_So_weights_4 G d a0 l1 l2 M Q := by
  unfold h_So_weights_4
  obtain ⟨h1, h⟩ := h
  refine wm_iload_n d_So_weights_4 rfl rfl ?_
  refine wm_aload_n d_So_weights_5 rfl rfl ?_
  refine gf_So_122 rfl d_So_weights_6 h1 ?_
  refine wm_icmp_ge (tgt := 82) d_So_weights_9 rfl hi_l2 (hO _ _).1 (fun c7 => ?_) (fun c7 => ?_)
  · replace h := h.1 c7
    refine wm_iload_n d_So_weights_82 rfl rfl ?_
    refine wm_ireturn d_So_weights_83 rfl rfl ?_
    exact ⟨_, rfl, h⟩
  · replace h := h.2 c7
    obtain ⟨h8, h⟩ := h
    obtain ⟨h9, h⟩ := h
    obtain ⟨h10, h⟩ := h
    obtain ⟨h11, h⟩ := h
    refine wm_iconst d_So_weights_12 ?_
    refine wm_istore_n d_So_weights_13 rfl (by decide) (L' := [vr a0, vi l1, vi l2, vi 1, vd]) rfl ?_
    refine wm_aload_n d_So_weights_14 rfl rfl ?_
    refine gf_So_32 rfl d_So_weights_15 h1 ?_
    refine wm_aload_n d_So_weights_18 rfl rfl ?_
    refine gf_So_41 rfl d_So_weights_19 h1 ?_
    refine wm_iload_n d_So_weights_22 rfl rfl ?_
    refine wm_iald d_So_weights_23 h8 h9 ?_
    refine wm_iald d_So_weights_24 h10 h11 ?_
    refine wm_istore d_So_weights_25 (by decide) (L' := [vr a0, vi l1, vi l2, vi 1, vi (mI M (mR M a0 5) (Int.toNat (mI M (mR M a0 8) (Int.toNat l2))))]) rfl ?_
    exact h
theorem k_So_weights_27 {G : mG} {d : Nat} {a0 : Nat} {l1 : Int} {l2 : Int} {l3 : Int} {l4 : Int} {M : mM} {Q : Int → mM → Prop} (hO : mOk M) (hi_l1 : i32 l1) (hi_l2 : i32 l2) (hi_l3 : i32 l3) (hi_l4 : i32 l4)
    (h : mK M a0 = 8 ∧ mK M (mR M a0 8) = 30 ∧ ((0 : Int) ≤ l2 ∧ l2 < (mN M (mR M a0 8) : Int)) ∧ mK M (mR M a0 6) = 30 ∧ ((0 : Int) ≤ mI M (mR M a0 8) (Int.toNat l2) ∧ mI M (mR M a0 8) (Int.toNat l2) < (mN M (mR M a0 6) : Int)) ∧ ((mI M (mR M a0 6) (Int.toNat (mI M (mR M a0 8) (Int.toNat l2))) ≤ l4) → (Ci G y_JI_nlz d [vi (l3 - 1)] M (fun x23 M22 => i32 x23 ∧ mOk M22 ∧ (h_So_weights_4 G d a0 (l1 + (33 - x23)) (l2 + 1) M22 Q)))) ∧ (¬ (mI M (mR M a0 6) (Int.toNat (mI M (mR M a0 8) (Int.toNat l2))) ≤ l4) → (mK M (mR M a0 3) = 7 ∧ mK M (mR M (mR M a0 3) 6) = 30 ∧ ((0 : Int) ≤ l4 ∧ l4 < (mN M (mR M (mR M a0 3) 6) : Int)) ∧ h_So_weights_27 G d a0 l1 l2 (if l3 < mI M (mR M (mR M a0 3) 6) (Int.toNat l4) then mI M (mR M (mR M a0 3) 6) (Int.toNat l4) else l3) (l4 + 1) M Q))) :
    h_So_weights_27 G d a0 l1 l2 l3 l4 M Q := by
  unfold h_So_weights_27
  obtain ⟨h12, h⟩ := h
  obtain ⟨h13, h⟩ := h
  obtain ⟨h14, h⟩ := h
  obtain ⟨h15, h⟩ := h
  obtain ⟨h16, h⟩ := h
  refine wm_iload d_So_weights_27 rfl ?_
  refine wm_aload_n d_So_weights_29 rfl rfl ?_
  refine gf_So_35 rfl d_So_weights_30 h12 ?_
  refine wm_aload_n d_So_weights_33 rfl rfl ?_
  refine gf_So_41 rfl d_So_weights_34 h12 ?_
  refine wm_iload_n d_So_weights_37 rfl rfl ?_
  refine wm_iald d_So_weights_38 h13 h14 ?_
  refine wm_iald d_So_weights_39 h15 h16 ?_
  refine wm_icmp_ge (tgt := 64) d_So_weights_40 rfl hi_l4 (hO _ _).1 (fun c21 => ?_) (fun c21 => ?_)
  · replace h := h.1 c21
    refine wm_iload_n d_So_weights_64 rfl rfl ?_
    refine wm_bipush d_So_weights_65 (by decide) ?_
    refine wm_iload_n d_So_weights_67 rfl rfl ?_
    refine wm_iconst d_So_weights_68 ?_
    refine wm_isub d_So_weights_69 ?_
    refine cf_So_154 rfl d_So_weights_70 (Nat.le_of_ble_eq_true rfl) (Ci.mono h (fun x23 M22 h => ?_))
    obtain ⟨h24, hOM22, h⟩ := h
    refine wm_isub d_So_weights_73 ?_
    refine wm_iadd d_So_weights_74 ?_
    refine wm_istore_n d_So_weights_75 rfl (by decide) (L' := [vr a0, vi (l1 + (33 - x23)), vi l2, vi l3, vi l4]) rfl ?_
    refine wm_iinc d_So_weights_76 (by decide) rfl (L' := [vr a0, vi (l1 + (33 - x23)), vi (l2 + 1), vi l3, vi l4]) rfl ?_
    refine wm_goto (tgt := 4) d_So_weights_79 rfl ?_
    refine wm_less (L' := [vr a0, vi (l1 + (33 - x23)), vi (l2 + 1), vd, vd]) ⟨Or.inr rfl, Or.inr rfl, Or.inr rfl, Or.inl rfl, Or.inl rfl, trivial⟩ ?_
    exact h
  · replace h := h.2 c21
    obtain ⟨h25, h⟩ := h
    obtain ⟨h26, h⟩ := h
    obtain ⟨h27, h⟩ := h
    refine wm_iload_n d_So_weights_43 rfl rfl ?_
    refine wm_aload_n d_So_weights_44 rfl rfl ?_
    refine gf_So_64 rfl d_So_weights_45 h12 ?_
    refine gf_So_145 rfl d_So_weights_48 h25 ?_
    refine wm_iload d_So_weights_51 rfl ?_
    refine wm_iald d_So_weights_53 h26 h27 ?_
    refine wm_mmax k8_94 (Nat.le_of_ble_eq_true rfl) hi_l3 (hO _ _).1 d_So_weights_54 ?_
    refine wm_istore_n d_So_weights_57 rfl (by decide) (L' := [vr a0, vi l1, vi l2, vi (if l3 < mI M (mR M (mR M a0 3) 6) (Int.toNat l4) then mI M (mR M (mR M a0 3) 6) (Int.toNat l4) else l3), vi l4]) rfl ?_
    refine wm_iinc d_So_weights_58 (by decide) rfl (L' := [vr a0, vi l1, vi l2, vi (if l3 < mI M (mR M (mR M a0 3) 6) (Int.toNat l4) then mI M (mR M (mR M a0 3) 6) (Int.toNat l4) else l3), vi (l4 + 1)]) rfl ?_
    refine wm_goto (tgt := 27) d_So_weights_61 rfl ?_
    exact h
end
section
theorem d_So_evaluate_0 : decode y_So_evaluate.2.1 0 = .ok (.aload_n 0, 1) := dc9_42 (by decide +kernel)
theorem d_So_evaluate_1 : decode y_So_evaluate.2.1 1 = .ok (.getfield 28, 3) := dc9_180 (by decide +kernel)
theorem d_So_evaluate_4 : decode y_So_evaluate.2.1 4 = .ok (.getfield 159, 3) := dc9_180 (by decide +kernel)
theorem d_So_evaluate_7 : decode y_So_evaluate.2.1 7 = .ok (.iconst 0, 1) := dc9_3 (by decide +kernel)
theorem d_So_evaluate_8 : decode y_So_evaluate.2.1 8 = .ok (.invokestatic 125, 3) := dc9_184 (by decide +kernel)
theorem d_So_evaluate_11 : decode y_So_evaluate.2.1 11 = .ok (.iconst 0, 1) := dc9_3 (by decide +kernel)
theorem d_So_evaluate_12 : decode y_So_evaluate.2.1 12 = .ok (.istore_n 2, 1) := dc9_61 (by decide +kernel)
theorem d_So_evaluate_13 : decode y_So_evaluate.2.1 13 = .ok (.iconst 0, 1) := dc9_3 (by decide +kernel)
theorem d_So_evaluate_14 : decode y_So_evaluate.2.1 14 = .ok (.istore_n 3, 1) := dc9_62 (by decide +kernel)
theorem d_So_evaluate_15 : decode y_So_evaluate.2.1 15 = .ok (.iload_n 3, 1) := dc9_29 (by decide +kernel)
theorem d_So_evaluate_16 : decode y_So_evaluate.2.1 16 = .ok (.aload_n 0, 1) := dc9_42 (by decide +kernel)
theorem d_So_evaluate_17 : decode y_So_evaluate.2.1 17 = .ok (.getfield 122, 3) := dc9_180 (by decide +kernel)
theorem d_So_evaluate_20 : decode y_So_evaluate.2.1 20 = .ok (.if_icmp .ge 192, 3) := dc9_162 (by decide +kernel)
theorem d_So_evaluate_212 : decode y_So_evaluate.2.1 212 = .ok (.aload_n 0, 1) := dc9_42 (by decide +kernel)
theorem d_So_evaluate_213 : decode y_So_evaluate.2.1 213 = .ok (.getfield 28, 3) := dc9_180 (by decide +kernel)
theorem d_So_evaluate_216 : decode y_So_evaluate.2.1 216 = .ok (.aload_n 0, 1) := dc9_42 (by decide +kernel)
theorem d_So_evaluate_217 : decode y_So_evaluate.2.1 217 = .ok (.getfield 122, 3) := dc9_180 (by decide +kernel)
theorem d_So_evaluate_220 : decode y_So_evaluate.2.1 220 = .ok (.iload_n 2, 1) := dc9_28 (by decide +kernel)
theorem d_So_evaluate_23 : decode y_So_evaluate.2.1 23 = .ok (.iload_n 3, 1) := dc9_29 (by decide +kernel)
theorem d_So_evaluate_24 : decode y_So_evaluate.2.1 24 = .ok (.bipush 41, 2) := dc9_16 (by decide +kernel)
theorem d_So_evaluate_26 : decode y_So_evaluate.2.1 26 = .ok (.imul, 1) := dc9_104 (by decide +kernel)
theorem d_So_evaluate_27 : decode y_So_evaluate.2.1 27 = .ok (.istore 4, 2) := dc9_54 (by decide +kernel)
theorem d_So_evaluate_29 : decode y_So_evaluate.2.1 29 = .ok (.aload_n 0, 1) := dc9_42 (by decide +kernel)
theorem d_So_evaluate_30 : decode y_So_evaluate.2.1 30 = .ok (.getfield 44, 3) := dc9_180 (by decide +kernel)
theorem d_So_evaluate_33 : decode y_So_evaluate.2.1 33 = .ok (.iload_n 3, 1) := dc9_29 (by decide +kernel)
theorem d_So_evaluate_34 : decode y_So_evaluate.2.1 34 = .ok (.iaload, 1) := dc9_46 (by decide +kernel)
theorem d_So_evaluate_35 : decode y_So_evaluate.2.1 35 = .ok (.istore 5, 2) := dc9_54 (by decide +kernel)
theorem d_So_evaluate_37 : decode y_So_evaluate.2.1 37 = .ok (.aload_n 0, 1) := dc9_42 (by decide +kernel)
theorem d_So_evaluate_38 : decode y_So_evaluate.2.1 38 = .ok (.getfield 64, 3) := dc9_180 (by decide +kernel)
theorem d_So_evaluate_41 : decode y_So_evaluate.2.1 41 = .ok (.getfield 145, 3) := dc9_180 (by decide +kernel)
theorem d_So_evaluate_44 : decode y_So_evaluate.2.1 44 = .ok (.iload 5, 2) := dc9_21 (by decide +kernel)
theorem d_So_evaluate_46 : decode y_So_evaluate.2.1 46 = .ok (.iaload, 1) := dc9_46 (by decide +kernel)
theorem d_So_evaluate_47 : decode y_So_evaluate.2.1 47 = .ok (.istore 6, 2) := dc9_54 (by decide +kernel)
theorem d_So_evaluate_49 : decode y_So_evaluate.2.1 49 = .ok (.aload_n 0, 1) := dc9_42 (by decide +kernel)
theorem d_So_evaluate_50 : decode y_So_evaluate.2.1 50 = .ok (.getfield 28, 3) := dc9_180 (by decide +kernel)
theorem d_So_evaluate_53 : decode y_So_evaluate.2.1 53 = .ok (.getfield 159, 3) := dc9_180 (by decide +kernel)
theorem d_So_evaluate_56 : decode y_So_evaluate.2.1 56 = .ok (.iload 4, 2) := dc9_21 (by decide +kernel)
theorem d_So_evaluate_58 : decode y_So_evaluate.2.1 58 = .ok (.iload_n 3, 1) := dc9_29 (by decide +kernel)
theorem d_So_evaluate_59 : decode y_So_evaluate.2.1 59 = .ok (.iadd, 1) := dc9_96 (by decide +kernel)
theorem d_So_evaluate_60 : decode y_So_evaluate.2.1 60 = .ok (.iload 6, 2) := dc9_21 (by decide +kernel)
theorem d_So_evaluate_62 : decode y_So_evaluate.2.1 62 = .ok (.iastore, 1) := dc9_79 (by decide +kernel)
theorem d_So_evaluate_63 : decode y_So_evaluate.2.1 63 = .ok (.iload_n 2, 1) := dc9_28 (by decide +kernel)
theorem d_So_evaluate_64 : decode y_So_evaluate.2.1 64 = .ok (.bipush 32, 2) := dc9_16 (by decide +kernel)
theorem d_So_evaluate_66 : decode y_So_evaluate.2.1 66 = .ok (.iload 6, 2) := dc9_21 (by decide +kernel)
theorem d_So_evaluate_221 : decode y_So_evaluate.2.1 221 = .ok (.invokevirtual 165, 3) := dc9_182 (by decide +kernel)
theorem d_So_evaluate_224 : decode y_So_evaluate.2.1 224 = .ok (.iconst 0, 1) := dc9_3 (by decide +kernel)
theorem d_So_evaluate_225 : decode y_So_evaluate.2.1 225 = .ok (.istore_n 3, 1) := dc9_62 (by decide +kernel)
theorem d_So_evaluate_68 : decode y_So_evaluate.2.1 68 = .ok (.invokestatic 154, 3) := dc9_184 (by decide +kernel)
theorem d_So_evaluate_71 : decode y_So_evaluate.2.1 71 = .ok (.isub, 1) := dc9_100 (by decide +kernel)
theorem d_So_evaluate_72 : decode y_So_evaluate.2.1 72 = .ok (.iadd, 1) := dc9_96 (by decide +kernel)
theorem d_So_evaluate_73 : decode y_So_evaluate.2.1 73 = .ok (.istore_n 2, 1) := dc9_61 (by decide +kernel)
theorem d_So_evaluate_74 : decode y_So_evaluate.2.1 74 = .ok (.aload_n 0, 1) := dc9_42 (by decide +kernel)
theorem d_So_evaluate_75 : decode y_So_evaluate.2.1 75 = .ok (.getfield 64, 3) := dc9_180 (by decide +kernel)
theorem d_So_evaluate_78 : decode y_So_evaluate.2.1 78 = .ok (.getfield 139, 3) := dc9_180 (by decide +kernel)
theorem d_So_evaluate_81 : decode y_So_evaluate.2.1 81 = .ok (.iload 5, 2) := dc9_21 (by decide +kernel)
theorem d_So_evaluate_83 : decode y_So_evaluate.2.1 83 = .ok (.iaload, 1) := dc9_46 (by decide +kernel)
theorem d_So_evaluate_84 : decode y_So_evaluate.2.1 84 = .ok (.istore 7, 2) := dc9_54 (by decide +kernel)
theorem d_So_evaluate_86 : decode y_So_evaluate.2.1 86 = .ok (.iload 7, 2) := dc9_21 (by decide +kernel)
theorem d_So_evaluate_88 : decode y_So_evaluate.2.1 88 = .ok (.aload_n 0, 1) := dc9_42 (by decide +kernel)
theorem d_So_evaluate_89 : decode y_So_evaluate.2.1 89 = .ok (.getfield 64, 3) := dc9_180 (by decide +kernel)
theorem d_So_evaluate_92 : decode y_So_evaluate.2.1 92 = .ok (.getfield 139, 3) := dc9_180 (by decide +kernel)
theorem d_So_evaluate_95 : decode y_So_evaluate.2.1 95 = .ok (.iload 5, 2) := dc9_21 (by decide +kernel)
theorem d_So_evaluate_97 : decode y_So_evaluate.2.1 97 = .ok (.iconst 1, 1) := dc9_4 (by decide +kernel)
theorem d_So_evaluate_98 : decode y_So_evaluate.2.1 98 = .ok (.iadd, 1) := dc9_96 (by decide +kernel)
theorem d_So_evaluate_99 : decode y_So_evaluate.2.1 99 = .ok (.iaload, 1) := dc9_46 (by decide +kernel)
theorem d_So_evaluate_100 : decode y_So_evaluate.2.1 100 = .ok (.if_icmp .ge 106, 3) := dc9_162 (by decide +kernel)
theorem d_So_evaluate_206 : decode y_So_evaluate.2.1 206 = .ok (.iinc 3 1, 3) := by decide +kernel
theorem d_So_evaluate_209 : decode y_So_evaluate.2.1 209 = .ok (.goto (-194), 3) := dc9_167 (by decide +kernel)
theorem d_So_evaluate_103 : decode y_So_evaluate.2.1 103 = .ok (.aload_n 0, 1) := dc9_42 (by decide +kernel)
theorem d_So_evaluate_104 : decode y_So_evaluate.2.1 104 = .ok (.getfield 64, 3) := dc9_180 (by decide +kernel)
theorem d_So_evaluate_107 : decode y_So_evaluate.2.1 107 = .ok (.getfield 142, 3) := dc9_180 (by decide +kernel)
theorem d_So_evaluate_110 : decode y_So_evaluate.2.1 110 = .ok (.iload 7, 2) := dc9_21 (by decide +kernel)
theorem d_So_evaluate_112 : decode y_So_evaluate.2.1 112 = .ok (.iaload, 1) := dc9_46 (by decide +kernel)
theorem d_So_evaluate_113 : decode y_So_evaluate.2.1 113 = .ok (.istore 8, 2) := dc9_54 (by decide +kernel)
theorem d_So_evaluate_115 : decode y_So_evaluate.2.1 115 = .ok (.aload_n 0, 1) := dc9_42 (by decide +kernel)
theorem d_So_evaluate_116 : decode y_So_evaluate.2.1 116 = .ok (.getfield 38, 3) := dc9_180 (by decide +kernel)
theorem d_So_evaluate_119 : decode y_So_evaluate.2.1 119 = .ok (.iload 8, 2) := dc9_21 (by decide +kernel)
theorem d_So_evaluate_121 : decode y_So_evaluate.2.1 121 = .ok (.iaload, 1) := dc9_46 (by decide +kernel)
theorem d_So_evaluate_122 : decode y_So_evaluate.2.1 122 = .ok (.iconst (-1), 1) := dc9_2 (by decide +kernel)
theorem d_So_evaluate_123 : decode y_So_evaluate.2.1 123 = .ok (.if_icmp .eq 37, 3) := dc9_159 (by decide +kernel)
theorem d_So_evaluate_160 : decode y_So_evaluate.2.1 160 = .ok (.aload_n 0, 1) := dc9_42 (by decide +kernel)
theorem d_So_evaluate_161 : decode y_So_evaluate.2.1 161 = .ok (.getfield 64, 3) := dc9_180 (by decide +kernel)
theorem d_So_evaluate_164 : decode y_So_evaluate.2.1 164 = .ok (.getfield 113, 3) := dc9_180 (by decide +kernel)
theorem d_So_evaluate_167 : decode y_So_evaluate.2.1 167 = .ok (.iload 8, 2) := dc9_21 (by decide +kernel)
theorem d_So_evaluate_169 : decode y_So_evaluate.2.1 169 = .ok (.iaload, 1) := dc9_46 (by decide +kernel)
theorem d_So_evaluate_170 : decode y_So_evaluate.2.1 170 = .ok (.iconst 3, 1) := dc9_6 (by decide +kernel)
theorem d_So_evaluate_171 : decode y_So_evaluate.2.1 171 = .ok (.if_icmp .ne 29, 3) := dc9_160 (by decide +kernel)
theorem d_So_evaluate_174 : decode y_So_evaluate.2.1 174 = .ok (.aload_n 0, 1) := dc9_42 (by decide +kernel)
theorem d_So_evaluate_175 : decode y_So_evaluate.2.1 175 = .ok (.getfield 28, 3) := dc9_180 (by decide +kernel)
theorem d_So_evaluate_178 : decode y_So_evaluate.2.1 178 = .ok (.getfield 159, 3) := dc9_180 (by decide +kernel)
theorem d_So_evaluate_181 : decode y_So_evaluate.2.1 181 = .ok (.iload 4, 2) := dc9_21 (by decide +kernel)
theorem d_So_evaluate_183 : decode y_So_evaluate.2.1 183 = .ok (.bipush 40, 2) := dc9_16 (by decide +kernel)
theorem d_So_evaluate_185 : decode y_So_evaluate.2.1 185 = .ok (.iadd, 1) := dc9_96 (by decide +kernel)
theorem d_So_evaluate_186 : decode y_So_evaluate.2.1 186 = .ok (.dup2, 1) := dc9_92 (by decide +kernel)
theorem d_So_evaluate_187 : decode y_So_evaluate.2.1 187 = .ok (.iaload, 1) := dc9_46 (by decide +kernel)
theorem d_So_evaluate_188 : decode y_So_evaluate.2.1 188 = .ok (.aload_n 0, 1) := dc9_42 (by decide +kernel)
theorem d_So_evaluate_189 : decode y_So_evaluate.2.1 189 = .ok (.getfield 64, 3) := dc9_180 (by decide +kernel)
theorem d_So_evaluate_192 : decode y_So_evaluate.2.1 192 = .ok (.getfield 162, 3) := dc9_180 (by decide +kernel)
theorem d_So_evaluate_195 : decode y_So_evaluate.2.1 195 = .ok (.iload 7, 2) := dc9_21 (by decide +kernel)
theorem d_So_evaluate_197 : decode y_So_evaluate.2.1 197 = .ok (.iaload, 1) := dc9_46 (by decide +kernel)
theorem d_So_evaluate_198 : decode y_So_evaluate.2.1 198 = .ok (.iadd, 1) := dc9_96 (by decide +kernel)
theorem d_So_evaluate_199 : decode y_So_evaluate.2.1 199 = .ok (.iastore, 1) := dc9_79 (by decide +kernel)
theorem d_So_evaluate_126 : decode y_So_evaluate.2.1 126 = .ok (.aload_n 0, 1) := dc9_42 (by decide +kernel)
theorem d_So_evaluate_127 : decode y_So_evaluate.2.1 127 = .ok (.getfield 28, 3) := dc9_180 (by decide +kernel)
theorem d_So_evaluate_130 : decode y_So_evaluate.2.1 130 = .ok (.getfield 159, 3) := dc9_180 (by decide +kernel)
theorem d_So_evaluate_133 : decode y_So_evaluate.2.1 133 = .ok (.iload 4, 2) := dc9_21 (by decide +kernel)
theorem d_So_evaluate_135 : decode y_So_evaluate.2.1 135 = .ok (.aload_n 0, 1) := dc9_42 (by decide +kernel)
theorem d_So_evaluate_136 : decode y_So_evaluate.2.1 136 = .ok (.getfield 38, 3) := dc9_180 (by decide +kernel)
theorem d_So_evaluate_139 : decode y_So_evaluate.2.1 139 = .ok (.iload 8, 2) := dc9_21 (by decide +kernel)
theorem d_So_evaluate_141 : decode y_So_evaluate.2.1 141 = .ok (.iaload, 1) := dc9_46 (by decide +kernel)
theorem d_So_evaluate_142 : decode y_So_evaluate.2.1 142 = .ok (.iadd, 1) := dc9_96 (by decide +kernel)
theorem d_So_evaluate_143 : decode y_So_evaluate.2.1 143 = .ok (.dup2, 1) := dc9_92 (by decide +kernel)
theorem d_So_evaluate_144 : decode y_So_evaluate.2.1 144 = .ok (.iaload, 1) := dc9_46 (by decide +kernel)
theorem d_So_evaluate_145 : decode y_So_evaluate.2.1 145 = .ok (.aload_n 0, 1) := dc9_42 (by decide +kernel)
theorem d_So_evaluate_146 : decode y_So_evaluate.2.1 146 = .ok (.getfield 64, 3) := dc9_180 (by decide +kernel)
theorem d_So_evaluate_149 : decode y_So_evaluate.2.1 149 = .ok (.getfield 162, 3) := dc9_180 (by decide +kernel)
theorem d_So_evaluate_152 : decode y_So_evaluate.2.1 152 = .ok (.iload 7, 2) := dc9_21 (by decide +kernel)
theorem d_So_evaluate_154 : decode y_So_evaluate.2.1 154 = .ok (.iaload, 1) := dc9_46 (by decide +kernel)
theorem d_So_evaluate_155 : decode y_So_evaluate.2.1 155 = .ok (.isub, 1) := dc9_100 (by decide +kernel)
theorem d_So_evaluate_156 : decode y_So_evaluate.2.1 156 = .ok (.iastore, 1) := dc9_79 (by decide +kernel)
theorem d_So_evaluate_157 : decode y_So_evaluate.2.1 157 = .ok (.goto 43, 3) := dc9_167 (by decide +kernel)
theorem d_So_evaluate_200 : decode y_So_evaluate.2.1 200 = .ok (.iinc 7 1, 3) := by decide +kernel
theorem d_So_evaluate_203 : decode y_So_evaluate.2.1 203 = .ok (.goto (-117), 3) := dc9_167 (by decide +kernel)
theorem d_So_evaluate_226 : decode y_So_evaluate.2.1 226 = .ok (.iload_n 3, 1) := dc9_29 (by decide +kernel)
theorem d_So_evaluate_227 : decode y_So_evaluate.2.1 227 = .ok (.aload_n 0, 1) := dc9_42 (by decide +kernel)
theorem d_So_evaluate_228 : decode y_So_evaluate.2.1 228 = .ok (.getfield 122, 3) := dc9_180 (by decide +kernel)
theorem d_So_evaluate_231 : decode y_So_evaluate.2.1 231 = .ok (.if_icmp .ge 59, 3) := dc9_162 (by decide +kernel)
theorem d_So_evaluate_290 : decode y_So_evaluate.2.1 290 = .ok (.return_, 1) := dc9_177 (by decide +kernel)
theorem d_So_evaluate_234 : decode y_So_evaluate.2.1 234 = .ok (.aload_n 1, 1) := dc9_43 (by decide +kernel)
theorem d_So_evaluate_235 : decode y_So_evaluate.2.1 235 = .ok (.getfield 169, 3) := dc9_180 (by decide +kernel)
theorem d_So_evaluate_238 : decode y_So_evaluate.2.1 238 = .ok (.aload_n 0, 1) := dc9_42 (by decide +kernel)
theorem d_So_evaluate_239 : decode y_So_evaluate.2.1 239 = .ok (.getfield 41, 3) := dc9_180 (by decide +kernel)
theorem d_So_evaluate_242 : decode y_So_evaluate.2.1 242 = .ok (.iload_n 3, 1) := dc9_29 (by decide +kernel)
theorem d_So_evaluate_243 : decode y_So_evaluate.2.1 243 = .ok (.iaload, 1) := dc9_46 (by decide +kernel)
theorem d_So_evaluate_244 : decode y_So_evaluate.2.1 244 = .ok (.aaload, 1) := dc9_50 (by decide +kernel)
theorem d_So_evaluate_245 : decode y_So_evaluate.2.1 245 = .ok (.astore 4, 2) := dc9_58 (by decide +kernel)
theorem d_So_evaluate_247 : decode y_So_evaluate.2.1 247 = .ok (.aload 4, 2) := dc9_25 (by decide +kernel)
theorem d_So_evaluate_249 : decode y_So_evaluate.2.1 249 = .ok (.getfield 173, 3) := dc9_180 (by decide +kernel)
theorem d_So_evaluate_252 : decode y_So_evaluate.2.1 252 = .ok (.aload_n 0, 1) := dc9_42 (by decide +kernel)
theorem d_So_evaluate_253 : decode y_So_evaluate.2.1 253 = .ok (.getfield 28, 3) := dc9_180 (by decide +kernel)
theorem d_So_evaluate_256 : decode y_So_evaluate.2.1 256 = .ok (.getfield 177, 3) := dc9_180 (by decide +kernel)
theorem d_So_evaluate_259 : decode y_So_evaluate.2.1 259 = .ok (.iload_n 3, 1) := dc9_29 (by decide +kernel)
theorem d_So_evaluate_260 : decode y_So_evaluate.2.1 260 = .ok (.aaload, 1) := dc9_50 (by decide +kernel)
theorem d_So_evaluate_261 : decode y_So_evaluate.2.1 261 = .ok (.invokevirtual 181, 3) := dc9_182 (by decide +kernel)
theorem d_So_evaluate_264 : decode y_So_evaluate.2.1 264 = .ok (.aload 4, 2) := dc9_25 (by decide +kernel)
theorem d_So_evaluate_266 : decode y_So_evaluate.2.1 266 = .ok (.getfield 187, 3) := dc9_180 (by decide +kernel)
theorem d_So_evaluate_269 : decode y_So_evaluate.2.1 269 = .ok (.aload_n 0, 1) := dc9_42 (by decide +kernel)
theorem d_So_evaluate_270 : decode y_So_evaluate.2.1 270 = .ok (.getfield 28, 3) := dc9_180 (by decide +kernel)
theorem d_So_evaluate_273 : decode y_So_evaluate.2.1 273 = .ok (.getfield 177, 3) := dc9_180 (by decide +kernel)
theorem d_So_evaluate_276 : decode y_So_evaluate.2.1 276 = .ok (.aload_n 0, 1) := dc9_42 (by decide +kernel)
theorem d_So_evaluate_277 : decode y_So_evaluate.2.1 277 = .ok (.getfield 122, 3) := dc9_180 (by decide +kernel)
theorem d_So_evaluate_280 : decode y_So_evaluate.2.1 280 = .ok (.aaload, 1) := dc9_50 (by decide +kernel)
theorem d_So_evaluate_281 : decode y_So_evaluate.2.1 281 = .ok (.invokevirtual 181, 3) := dc9_182 (by decide +kernel)
theorem d_So_evaluate_284 : decode y_So_evaluate.2.1 284 = .ok (.iinc 3 1, 3) := by decide +kernel
theorem d_So_evaluate_287 : decode y_So_evaluate.2.1 287 = .ok (.goto (-61), 3) := dc9_167 (by decide +kernel)
def h_So_evaluate_15 (G : mG) (d : Nat) (a0 : Nat) (a1 : Nat) (l2 : Int) (l3 : Int) (M : mM) (Q : mM → Prop) : Prop := mWm G y_So_evaluate (d + 1) 15 [vr a0, vr a1, vi l2, vi l3, vd, vd, vd, vd, vd] [] M (fun r9 M9 => r9 = none ∧ Q M9)
def h_So_evaluate_86 (G : mG) (d : Nat) (a0 : Nat) (a1 : Nat) (l2 : Int) (l3 : Int) (l4 : Int) (l5 : Int) (l7 : Int) (M : mM) (Q : mM → Prop) : Prop := mWm G y_So_evaluate (d + 1) 86 [vr a0, vr a1, vi l2, vi l3, vi l4, vi l5, vd, vi l7, vd] [] M (fun r9 M9 => r9 = none ∧ Q M9)
def h_So_evaluate_226 (G : mG) (d : Nat) (a0 : Nat) (a1 : Nat) (l3 : Int) (M : mM) (Q : mM → Prop) : Prop := mWm G y_So_evaluate (d + 1) 226 [vr a0, vr a1, vd, vi l3, vd, vd, vd, vd, vd] [] M (fun r9 M9 => r9 = none ∧ Q M9)
theorem k_So_evaluate {G : mG} {d : Nat} {a0 : Nat} {a1 : Nat} {M : mM} {Q : mM → Prop} (hO : mOk M)
    (h : mK M a0 = 8 ∧ mK M (mR M a0 4) = 12 ∧ Cv G y_JA_fill d [vr (mR M (mR M a0 4) 0), vi 0] M (fun M3 => mOk M3 ∧ (h_So_evaluate_15 G d a0 a1 0 0 M3 Q))) :
    Cv G y_So_evaluate (d + 1) [vr a0, vr a1] M Q := by
  refine wm_open (y := y_So_evaluate) rfl (Nat.le_of_ble_eq_true rfl) (L := [vr a0, vr a1, vd, vd, vd, vd, vd, vd, vd]) rfl ?_
  obtain ⟨h1, h⟩ := h
  obtain ⟨h2, h⟩ := h
  refine wm_aload_n d_So_evaluate_0 rfl rfl ?_
  refine gf_So_28 rfl d_So_evaluate_1 h1 ?_
  refine gf_So_159 rfl d_So_evaluate_4 h2 ?_
  refine wm_iconst d_So_evaluate_7 ?_
  refine cf_So_125 rfl d_So_evaluate_8 (Nat.le_of_ble_eq_true rfl) (Cv.mono h (fun M3 h => ?_))
  obtain ⟨hOM3, h⟩ := h
  refine wm_iconst d_So_evaluate_11 ?_
  refine wm_istore_n d_So_evaluate_12 rfl (by decide) (L' := [vr a0, vr a1, vi 0, vd, vd, vd, vd, vd, vd]) rfl ?_
  refine wm_iconst d_So_evaluate_13 ?_
  refine wm_istore_n d_So_evaluate_14 rfl (by decide) (L' := [vr a0, vr a1, vi 0, vi 0, vd, vd, vd, vd, vd]) rfl ?_
  exact h
theorem k_So_evaluate_15 {G : mG} {d : Nat} {a0 : Nat} {a1 : Nat} {l2 : Int} {l3 : Int} {M : mM} {Q : mM → Prop} (hO : mOk M) (hi_l2 : i32 l2) (hi_l3 : i32 l3)
    (h : mK M a0 = 8 ∧ ((mI M a0 10 ≤ l3) → (mK M (mR M a0 4) = 12 ∧ Cv G y_Re_settle d [vr (mR M a0 4), vi (mI M a0 10), vi l2] M (fun M10 => mOk M10 ∧ (h_So_evaluate_226 G d a0 a1 0 M10 Q)))) ∧ (¬ (mI M a0 10 ≤ l3) → (mK M (mR M a0 9) = 30 ∧ ((0 : Int) ≤ l3 ∧ l3 < (mN M (mR M a0 9) : Int)) ∧ mK M (mR M a0 3) = 7 ∧ mK M (mR M (mR M a0 3) 6) = 30 ∧ ((0 : Int) ≤ mI M (mR M a0 9) (Int.toNat l3) ∧ mI M (mR M a0 9) (Int.toNat l3) < (mN M (mR M (mR M a0 3) 6) : Int)) ∧ mK M (mR M a0 4) = 12 ∧ mK M (mR M (mR M a0 4) 0) = 30 ∧ ((0 : Int) ≤ (l3 * 41) + l3 ∧ (l3 * 41) + l3 < (mN M (mR M (mR M a0 4) 0) : Int)) ∧ ∀ M21, M21 = mUI M (mR M (mR M a0 4) 0) (Int.toNat ((l3 * 41) + l3)) (mI M (mR M (mR M a0 3) 6) (Int.toNat (mI M (mR M a0 9) (Int.toNat l3)))) → Ci G y_JI_nlz d [vi (mI M (mR M (mR M a0 3) 6) (Int.toNat (mI M (mR M a0 9) (Int.toNat l3))))] M21 (fun x24 M23 => i32 x24 ∧ mOk M23 ∧ (mK M23 a0 = 8 ∧ mK M23 (mR M23 a0 3) = 7 ∧ mK M23 (mR M23 (mR M23 a0 3) 7) = 30 ∧ ((0 : Int) ≤ mI M (mR M a0 9) (Int.toNat l3) ∧ mI M (mR M a0 9) (Int.toNat l3) < (mN M23 (mR M23 (mR M23 a0 3) 7) : Int)) ∧ h_So_evaluate_86 G d a0 a1 (l2 + (32 - x24)) l3 (l3 * 41) (mI M (mR M a0 9) (Int.toNat l3)) (mI M23 (mR M23 (mR M23 a0 3) 7) (Int.toNat (mI M (mR M a0 9) (Int.toNat l3)))) M23 Q))))) :
    h_So_evaluate_15 G d a0 a1 l2 l3 M Q := by
  unfold h_So_evaluate_15
  obtain ⟨h6, h⟩ := h
  refine wm_iload_n d_So_evaluate_15 rfl rfl ?_
  refine wm_aload_n d_So_evaluate_16 rfl rfl ?_
  refine gf_So_122 rfl d_So_evaluate_17 h6 ?_
  refine wm_icmp_ge (tgt := 212) d_So_evaluate_20 rfl hi_l3 (hO _ _).1 (fun c8 => ?_) (fun c8 => ?_)
  · replace h := h.1 c8
    obtain ⟨h9, h⟩ := h
    refine wm_aload_n d_So_evaluate_212 rfl rfl ?_
    refine gf_So_28 rfl d_So_evaluate_213 h6 ?_
    refine wm_aload_n d_So_evaluate_216 rfl rfl ?_
    refine gf_So_122 rfl d_So_evaluate_217 h6 ?_
    refine wm_iload_n d_So_evaluate_220 rfl rfl ?_
    refine cf_So_165 rfl d_So_evaluate_221 h9 (Nat.le_of_ble_eq_true rfl) (Cv.mono h (fun M10 h => ?_))
    obtain ⟨hOM10, h⟩ := h
    refine wm_iconst d_So_evaluate_224 ?_
    refine wm_istore_n d_So_evaluate_225 rfl (by decide) (L' := [vr a0, vr a1, vi l2, vi 0, vd, vd, vd, vd, vd]) rfl ?_
    refine wm_less (L' := [vr a0, vr a1, vd, vi 0, vd, vd, vd, vd, vd]) ⟨Or.inr rfl, Or.inr rfl, Or.inl rfl, Or.inr rfl, Or.inl rfl, Or.inl rfl, Or.inl rfl, Or.inl rfl, Or.inl rfl, trivial⟩ ?_
    exact h
  · replace h := h.2 c8
    obtain ⟨h13, h⟩ := h
    obtain ⟨h14, h⟩ := h
    obtain ⟨h15, h⟩ := h
    obtain ⟨h16, h⟩ := h
    obtain ⟨h17, h⟩ := h
    obtain ⟨h18, h⟩ := h
    obtain ⟨h19, h⟩ := h
    obtain ⟨h20, h⟩ := h
    obtain ⟨M21, e22⟩ : ∃ M21, M21 = mUI M (mR M (mR M a0 4) 0) (Int.toNat ((l3 * 41) + l3)) (mI M (mR M (mR M a0 3) 6) (Int.toNat (mI M (mR M a0 9) (Int.toNat l3)))) := ⟨_, rfl⟩
    replace h := h M21 e22
    refine wm_iload_n d_So_evaluate_23 rfl rfl ?_
    refine wm_bipush d_So_evaluate_24 (by decide) ?_
    refine wm_imul d_So_evaluate_26 ?_
    refine wm_istore d_So_evaluate_27 (by decide) (L' := [vr a0, vr a1, vi l2, vi l3, vi (l3 * 41), vd, vd, vd, vd]) rfl ?_
    refine wm_aload_n d_So_evaluate_29 rfl rfl ?_
    refine gf_So_44 rfl d_So_evaluate_30 h6 ?_
    refine wm_iload_n d_So_evaluate_33 rfl rfl ?_
    refine wm_iald d_So_evaluate_34 h13 h14 ?_
    refine wm_istore d_So_evaluate_35 (by decide) (L' := [vr a0, vr a1, vi l2, vi l3, vi (l3 * 41), vi (mI M (mR M a0 9) (Int.toNat l3)), vd, vd, vd]) rfl ?_
    refine wm_aload_n d_So_evaluate_37 rfl rfl ?_
    refine gf_So_64 rfl d_So_evaluate_38 h6 ?_
    refine gf_So_145 rfl d_So_evaluate_41 h15 ?_
    refine wm_iload d_So_evaluate_44 rfl ?_
    refine wm_iald d_So_evaluate_46 h16 h17 ?_
    refine wm_istore d_So_evaluate_47 (by decide) (L' := [vr a0, vr a1, vi l2, vi l3, vi (l3 * 41), vi (mI M (mR M a0 9) (Int.toNat l3)), vi (mI M (mR M (mR M a0 3) 6) (Int.toNat (mI M (mR M a0 9) (Int.toNat l3)))), vd, vd]) rfl ?_
    refine wm_aload_n d_So_evaluate_49 rfl rfl ?_
    refine gf_So_28 rfl d_So_evaluate_50 h6 ?_
    refine gf_So_159 rfl d_So_evaluate_53 h18 ?_
    refine wm_iload d_So_evaluate_56 rfl ?_
    refine wm_iload_n d_So_evaluate_58 rfl rfl ?_
    refine wm_iadd d_So_evaluate_59 ?_
    refine wm_iload d_So_evaluate_60 rfl ?_
    have hOM21 : mOk M21 := by rw [e22]; exact mOk_UI hO (hO _ _).1
    refine wm_iastE d_So_evaluate_62 h19 h20 (hO _ _).1 e22 ?_
    refine wm_iload_n d_So_evaluate_63 rfl rfl ?_
    refine wm_bipush d_So_evaluate_64 (by decide) ?_
    refine wm_iload d_So_evaluate_66 rfl ?_
    refine cf_So_154 rfl d_So_evaluate_68 (Nat.le_of_ble_eq_true rfl) (Ci.mono h (fun x24 M23 h => ?_))
    obtain ⟨h25, hOM23, h⟩ := h
    obtain ⟨h26, h⟩ := h
    obtain ⟨h27, h⟩ := h
    obtain ⟨h28, h⟩ := h
    obtain ⟨h29, h⟩ := h
    refine wm_isub d_So_evaluate_71 ?_
    refine wm_iadd d_So_evaluate_72 ?_
    refine wm_istore_n d_So_evaluate_73 rfl (by decide) (L' := [vr a0, vr a1, vi (l2 + (32 - x24)), vi l3, vi (l3 * 41), vi (mI M (mR M a0 9) (Int.toNat l3)), vi (mI M (mR M (mR M a0 3) 6) (Int.toNat (mI M (mR M a0 9) (Int.toNat l3)))), vd, vd]) rfl ?_
    refine wm_aload_n d_So_evaluate_74 rfl rfl ?_
    refine gf_So_64 rfl d_So_evaluate_75 h26 ?_
    refine gf_So_139 rfl d_So_evaluate_78 h27 ?_
    refine wm_iload d_So_evaluate_81 rfl ?_
    refine wm_iald d_So_evaluate_83 h28 h29 ?_
    refine wm_istore d_So_evaluate_84 (by decide) (L' := [vr a0, vr a1, vi (l2 + (32 - x24)), vi l3, vi (l3 * 41), vi (mI M (mR M a0 9) (Int.toNat l3)), vi (mI M (mR M (mR M a0 3) 6) (Int.toNat (mI M (mR M a0 9) (Int.toNat l3)))), vi (mI M23 (mR M23 (mR M23 a0 3) 7) (Int.toNat (mI M (mR M a0 9) (Int.toNat l3)))), vd]) rfl ?_
    refine wm_less (L' := [vr a0, vr a1, vi (l2 + (32 - x24)), vi l3, vi (l3 * 41), vi (mI M (mR M a0 9) (Int.toNat l3)), vd, vi (mI M23 (mR M23 (mR M23 a0 3) 7) (Int.toNat (mI M (mR M a0 9) (Int.toNat l3)))), vd]) ⟨Or.inr rfl, Or.inr rfl, Or.inr rfl, Or.inr rfl, Or.inr rfl, Or.inr rfl, Or.inl rfl, Or.inr rfl, Or.inl rfl, trivial⟩ ?_
    exact h
theorem k_So_evaluate_86 {G : mG} {d : Nat} {a0 : Nat} {a1 : Nat} {l2 : Int} {l3 : Int} {l4 : Int} {l5 : Int} {l7 : Int} {M : mM} {Q : mM → Prop} (hO : mOk M) (hi_l2 : i32 l2) (hi_l3 : i32 l3) (hi_l4 : i32 l4) (hi_l5 : i32 l5) (hi_l7 : i32 l7)
    (h : mK M a0 = 8 ∧ mK M (mR M a0 3) = 7 ∧ mK M (mR M (mR M a0 3) 7) = 30 ∧ ((0 : Int) ≤ l5 + 1 ∧ l5 + 1 < (mN M (mR M (mR M a0 3) 7) : Int)) ∧ ((mI M (mR M (mR M a0 3) 7) (Int.toNat (l5 + 1)) ≤ l7) → (h_So_evaluate_15 G d a0 a1 l2 (l3 + 1) M Q)) ∧ (¬ (mI M (mR M (mR M a0 3) 7) (Int.toNat (l5 + 1)) ≤ l7) → (mK M (mR M (mR M a0 3) 8) = 30 ∧ ((0 : Int) ≤ l7 ∧ l7 < (mN M (mR M (mR M a0 3) 8) : Int)) ∧ mK M (mR M a0 7) = 30 ∧ ((0 : Int) ≤ mI M (mR M (mR M a0 3) 8) (Int.toNat l7) ∧ mI M (mR M (mR M a0 3) 8) (Int.toNat l7) < (mN M (mR M a0 7) : Int)) ∧ (((mI M (mR M a0 7) (Int.toNat (mI M (mR M (mR M a0 3) 8) (Int.toNat l7))) = (-1)) → (mK M (mR M (mR M a0 3) 2) = 30 ∧ ((0 : Int) ≤ mI M (mR M (mR M a0 3) 8) (Int.toNat l7) ∧ mI M (mR M (mR M a0 3) 8) (Int.toNat l7) < (mN M (mR M (mR M a0 3) 2) : Int)) ∧ ((mI M (mR M (mR M a0 3) 2) (Int.toNat (mI M (mR M (mR M a0 3) 8) (Int.toNat l7))) = 3) → (mK M (mR M a0 4) = 12 ∧ mK M (mR M (mR M a0 4) 0) = 30 ∧ ((0 : Int) ≤ l4 + 40 ∧ l4 + 40 < (mN M (mR M (mR M a0 4) 0) : Int)) ∧ mK M (mR M (mR M a0 3) 9) = 30 ∧ ((0 : Int) ≤ l7 ∧ l7 < (mN M (mR M (mR M a0 3) 9) : Int)) ∧ ((0 : Int) ≤ l4 + 40 ∧ l4 + 40 < (mN M (mR M (mR M a0 4) 0) : Int)) ∧ i32 ((mI M (mR M (mR M a0 4) 0) (Int.toNat (l4 + 40))) + (mI M (mR M (mR M a0 3) 9) (Int.toNat l7))))))) ∧ (¬ (mI M (mR M a0 7) (Int.toNat (mI M (mR M (mR M a0 3) 8) (Int.toNat l7))) = (-1)) → (mK M (mR M a0 4) = 12 ∧ ((0 : Int) ≤ mI M (mR M (mR M a0 3) 8) (Int.toNat l7) ∧ mI M (mR M (mR M a0 3) 8) (Int.toNat l7) < (mN M (mR M a0 7) : Int)) ∧ mK M (mR M (mR M a0 4) 0) = 30 ∧ ((0 : Int) ≤ l4 + (mI M (mR M a0 7) (Int.toNat (mI M (mR M (mR M a0 3) 8) (Int.toNat l7)))) ∧ l4 + (mI M (mR M a0 7) (Int.toNat (mI M (mR M (mR M a0 3) 8) (Int.toNat l7)))) < (mN M (mR M (mR M a0 4) 0) : Int)) ∧ mK M (mR M (mR M a0 3) 9) = 30 ∧ ((0 : Int) ≤ l7 ∧ l7 < (mN M (mR M (mR M a0 3) 9) : Int)) ∧ ((0 : Int) ≤ l4 + (mI M (mR M a0 7) (Int.toNat (mI M (mR M (mR M a0 3) 8) (Int.toNat l7)))) ∧ l4 + (mI M (mR M a0 7) (Int.toNat (mI M (mR M (mR M a0 3) 8) (Int.toNat l7)))) < (mN M (mR M (mR M a0 4) 0) : Int)) ∧ i32 ((mI M (mR M (mR M a0 4) 0) (Int.toNat (l4 + (mI M (mR M a0 7) (Int.toNat (mI M (mR M (mR M a0 3) 8) (Int.toNat l7))))))) - (mI M (mR M (mR M a0 3) 9) (Int.toNat l7)))))) ∧ ∀ M63 : mM, M63 = (if mI M (mR M a0 7) (Int.toNat (mI M (mR M (mR M a0 3) 8) (Int.toNat l7))) = (-1) then (if mI M (mR M (mR M a0 3) 2) (Int.toNat (mI M (mR M (mR M a0 3) 8) (Int.toNat l7))) = 3 then (mUI M (mR M (mR M a0 4) 0) (Int.toNat (l4 + 40)) ((mI M (mR M (mR M a0 4) 0) (Int.toNat (l4 + 40))) + (mI M (mR M (mR M a0 3) 9) (Int.toNat l7)))) else M) else (mUI M (mR M (mR M a0 4) 0) (Int.toNat (l4 + (mI M (mR M a0 7) (Int.toNat (mI M (mR M (mR M a0 3) 8) (Int.toNat l7)))))) ((mI M (mR M (mR M a0 4) 0) (Int.toNat (l4 + (mI M (mR M a0 7) (Int.toNat (mI M (mR M (mR M a0 3) 8) (Int.toNat l7))))))) - (mI M (mR M (mR M a0 3) 9) (Int.toNat l7))))) → mOk M63 ∧ h_So_evaluate_86 G d a0 a1 l2 l3 l4 l5 (l7 + 1) M63 Q))) :
    h_So_evaluate_86 G d a0 a1 l2 l3 l4 l5 l7 M Q := by
  unfold h_So_evaluate_86
  obtain ⟨h30, h⟩ := h
  obtain ⟨h31, h⟩ := h
  obtain ⟨h32, h⟩ := h
  obtain ⟨h33, h⟩ := h
  refine wm_iload d_So_evaluate_86 rfl ?_
  refine wm_aload_n d_So_evaluate_88 rfl rfl ?_
  refine gf_So_64 rfl d_So_evaluate_89 h30 ?_
  refine gf_So_139 rfl d_So_evaluate_92 h31 ?_
  refine wm_iload d_So_evaluate_95 rfl ?_
  refine wm_iconst d_So_evaluate_97 ?_
  refine wm_iadd d_So_evaluate_98 ?_
  refine wm_iald d_So_evaluate_99 h32 h33 ?_
  refine wm_icmp_ge (tgt := 206) d_So_evaluate_100 rfl hi_l7 (hO _ _).1 (fun c39 => ?_) (fun c39 => ?_)
  · replace h := h.1 c39
    refine wm_iinc d_So_evaluate_206 (by decide) rfl (L' := [vr a0, vr a1, vi l2, vi (l3 + 1), vi l4, vi l5, vd, vi l7, vd]) rfl ?_
    refine wm_goto (tgt := 15) d_So_evaluate_209 rfl ?_
    refine wm_less (L' := [vr a0, vr a1, vi l2, vi (l3 + 1), vd, vd, vd, vd, vd]) ⟨Or.inr rfl, Or.inr rfl, Or.inr rfl, Or.inr rfl, Or.inl rfl, Or.inl rfl, Or.inl rfl, Or.inl rfl, Or.inl rfl, trivial⟩ ?_
    exact h
  · replace h := h.2 c39
    obtain ⟨h40, h⟩ := h
    obtain ⟨h41, h⟩ := h
    obtain ⟨h42, h⟩ := h
    obtain ⟨h43, h⟩ := h
    refine wm_aload_n d_So_evaluate_103 rfl rfl ?_
    refine gf_So_64 rfl d_So_evaluate_104 h30 ?_
    refine gf_So_142 rfl d_So_evaluate_107 h31 ?_
    refine wm_iload d_So_evaluate_110 rfl ?_
    refine wm_iald d_So_evaluate_112 h40 h41 ?_
    refine wm_istore d_So_evaluate_113 (by decide) (L' := [vr a0, vr a1, vi l2, vi l3, vi l4, vi l5, vd, vi l7, vi (mI M (mR M (mR M a0 3) 8) (Int.toNat l7))]) rfl ?_
    refine wm_aload_n d_So_evaluate_115 rfl rfl ?_
    refine gf_So_38 rfl d_So_evaluate_116 h30 ?_
    refine wm_iload d_So_evaluate_119 rfl ?_
    refine wm_iald d_So_evaluate_121 h42 h43 ?_
    refine wm_iconst d_So_evaluate_122 ?_
    obtain ⟨s64, h⟩ := h
    have hJ : ∀ M63 : mM, M63 = (if mI M (mR M a0 7) (Int.toNat (mI M (mR M (mR M a0 3) 8) (Int.toNat l7))) = (-1) then (if mI M (mR M (mR M a0 3) 2) (Int.toNat (mI M (mR M (mR M a0 3) 8) (Int.toNat l7))) = 3 then (mUI M (mR M (mR M a0 4) 0) (Int.toNat (l4 + 40)) ((mI M (mR M (mR M a0 4) 0) (Int.toNat (l4 + 40))) + (mI M (mR M (mR M a0 3) 9) (Int.toNat l7)))) else M) else (mUI M (mR M (mR M a0 4) 0) (Int.toNat (l4 + (mI M (mR M a0 7) (Int.toNat (mI M (mR M (mR M a0 3) 8) (Int.toNat l7)))))) ((mI M (mR M (mR M a0 4) 0) (Int.toNat (l4 + (mI M (mR M a0 7) (Int.toNat (mI M (mR M (mR M a0 3) 8) (Int.toNat l7))))))) - (mI M (mR M (mR M a0 3) 9) (Int.toNat l7))))) → mWm G y_So_evaluate (d + 1) 200 [vr a0, vr a1, vi l2, vi l3, vi l4, vi l5, vd, vi l7, vd] [] M63 (fun r9 M9 => r9 = none ∧ Q M9) := by
      intro M63 e65
      have h := h M63 e65
      have h66 : mK M63 = mK M := by rw [e65]; (repeat' split) <;> rfl
      obtain ⟨hOM63, h⟩ := h
      refine wm_iinc d_So_evaluate_200 (by decide) rfl (L' := [vr a0, vr a1, vi l2, vi l3, vi l4, vi l5, vd, vi (l7 + 1), vd]) rfl ?_
      refine wm_goto (tgt := 86) d_So_evaluate_203 rfl ?_
      exact h
    clear h
    obtain ⟨s67, s68⟩ := s64
    refine wm_icmp_eq (tgt := 160) d_So_evaluate_123 rfl (hO _ _).1 ⟨by decide, by decide⟩ (fun c44 => ?_) (fun c44 => ?_)
    · have s67 := s67 c44
      obtain ⟨h45, h46, s69⟩ := s67
      refine wm_aload_n d_So_evaluate_160 rfl rfl ?_
      refine gf_So_64 rfl d_So_evaluate_161 h30 ?_
      refine gf_So_113 rfl d_So_evaluate_164 h31 ?_
      refine wm_iload d_So_evaluate_167 rfl ?_
      refine wm_iald d_So_evaluate_169 h45 h46 ?_
      refine wm_iconst d_So_evaluate_170 ?_
      refine wm_icmp_ne (tgt := 200) d_So_evaluate_171 rfl (hO _ _).1 ⟨by decide, by decide⟩ (fun c47 => ?_) (fun c47 => ?_)
      · refine wm_less (L' := [vr a0, vr a1, vi l2, vi l3, vi l4, vi l5, vd, vi l7, vd]) ⟨Or.inr rfl, Or.inr rfl, Or.inr rfl, Or.inr rfl, Or.inr rfl, Or.inr rfl, Or.inl rfl, Or.inr rfl, Or.inl rfl, trivial⟩ ?_
        exact hJ M (by rw [if_pos c44, if_neg c47])
      · replace c47 := Classical.not_not.mp c47
        have s69 := s69 c47
        obtain ⟨h48, h49, h50, h51, h52, h53, h54⟩ := s69
        refine wm_aload_n d_So_evaluate_174 rfl rfl ?_
        refine gf_So_28 rfl d_So_evaluate_175 h30 ?_
        refine gf_So_159 rfl d_So_evaluate_178 h48 ?_
        refine wm_iload d_So_evaluate_181 rfl ?_
        refine wm_bipush d_So_evaluate_183 (by decide) ?_
        refine wm_iadd d_So_evaluate_185 ?_
        refine wm_dup2 d_So_evaluate_186 rfl rfl ?_
        refine wm_iald d_So_evaluate_187 h49 h50 ?_
        refine wm_aload_n d_So_evaluate_188 rfl rfl ?_
        refine gf_So_64 rfl d_So_evaluate_189 h30 ?_
        refine gf_So_162 rfl d_So_evaluate_192 h31 ?_
        refine wm_iload d_So_evaluate_195 rfl ?_
        refine wm_iald d_So_evaluate_197 h51 h52 ?_
        refine wm_iadd d_So_evaluate_198 ?_
        refine wm_iastE d_So_evaluate_199 h49 h53 h54 rfl ?_
        refine wm_less (L' := [vr a0, vr a1, vi l2, vi l3, vi l4, vi l5, vd, vi l7, vd]) ⟨Or.inr rfl, Or.inr rfl, Or.inr rfl, Or.inr rfl, Or.inr rfl, Or.inr rfl, Or.inl rfl, Or.inr rfl, Or.inl rfl, trivial⟩ ?_
        exact hJ (mUI M (mR M (mR M a0 4) 0) (Int.toNat (l4 + 40)) ((mI M (mR M (mR M a0 4) 0) (Int.toNat (l4 + 40))) + (mI M (mR M (mR M a0 3) 9) (Int.toNat l7)))) (by rw [if_pos c44, if_pos c47])
    · have s68 := s68 c44
      obtain ⟨h55, h56, h57, h58, h59, h60, h61, h62⟩ := s68
      refine wm_aload_n d_So_evaluate_126 rfl rfl ?_
      refine gf_So_28 rfl d_So_evaluate_127 h30 ?_
      refine gf_So_159 rfl d_So_evaluate_130 h55 ?_
      refine wm_iload d_So_evaluate_133 rfl ?_
      refine wm_aload_n d_So_evaluate_135 rfl rfl ?_
      refine gf_So_38 rfl d_So_evaluate_136 h30 ?_
      refine wm_iload d_So_evaluate_139 rfl ?_
      refine wm_iald d_So_evaluate_141 h42 h56 ?_
      refine wm_iadd d_So_evaluate_142 ?_
      refine wm_dup2 d_So_evaluate_143 rfl rfl ?_
      refine wm_iald d_So_evaluate_144 h57 h58 ?_
      refine wm_aload_n d_So_evaluate_145 rfl rfl ?_
      refine gf_So_64 rfl d_So_evaluate_146 h30 ?_
      refine gf_So_162 rfl d_So_evaluate_149 h31 ?_
      refine wm_iload d_So_evaluate_152 rfl ?_
      refine wm_iald d_So_evaluate_154 h59 h60 ?_
      refine wm_isub d_So_evaluate_155 ?_
      refine wm_iastE d_So_evaluate_156 h57 h61 h62 rfl ?_
      refine wm_goto (tgt := 200) d_So_evaluate_157 rfl ?_
      refine wm_less (L' := [vr a0, vr a1, vi l2, vi l3, vi l4, vi l5, vd, vi l7, vd]) ⟨Or.inr rfl, Or.inr rfl, Or.inr rfl, Or.inr rfl, Or.inr rfl, Or.inr rfl, Or.inl rfl, Or.inr rfl, Or.inl rfl, trivial⟩ ?_
      exact hJ (mUI M (mR M (mR M a0 4) 0) (Int.toNat (l4 + (mI M (mR M a0 7) (Int.toNat (mI M (mR M (mR M a0 3) 8) (Int.toNat l7)))))) ((mI M (mR M (mR M a0 4) 0) (Int.toNat (l4 + (mI M (mR M a0 7) (Int.toNat (mI M (mR M (mR M a0 3) 8) (Int.toNat l7))))))) - (mI M (mR M (mR M a0 3) 9) (Int.toNat l7)))) (by rw [if_neg c44])
theorem k_So_evaluate_226 {G : mG} {d : Nat} {a0 : Nat} {a1 : Nat} {l3 : Int} {M : mM} {Q : mM → Prop} (hO : mOk M) (hi_l3 : i32 l3)
    (h : mK M a0 = 8 ∧ ((mI M a0 10 ≤ l3) → (Q M)) ∧ (¬ (mI M a0 10 ≤ l3) → (mK M a1 = 13 ∧ mK M (mR M a0 8) = 30 ∧ ((0 : Int) ≤ l3 ∧ l3 < (mN M (mR M a0 8) : Int)) ∧ mK M (mR M a1 0) = 35 ∧ ((0 : Int) ≤ mI M (mR M a0 8) (Int.toNat l3) ∧ mI M (mR M a0 8) (Int.toNat l3) < (mN M (mR M a1 0) : Int)) ∧ mK M (mR M (mR M a1 0) (Int.toNat (mI M (mR M a0 8) (Int.toNat l3)))) = 11 ∧ mK M (mR M a0 4) = 12 ∧ mK M (mR M (mR M a0 4) 1) = 34 ∧ ((0 : Int) ≤ l3 ∧ l3 < (mN M (mR M (mR M a0 4) 1) : Int)) ∧ mK M (mR M (mR M (mR M a1 0) (Int.toNat (mI M (mR M a0 8) (Int.toNat l3)))) 0) = 10 ∧ Cv G y_Na_put1 d [vr (mR M (mR M (mR M a1 0) (Int.toNat (mI M (mR M a0 8) (Int.toNat l3)))) 0), vr (mR M (mR M (mR M a0 4) 1) (Int.toNat l3))] M (fun M83 => mOk M83 ∧ (mK M83 (mR M (mR M a1 0) (Int.toNat (mI M (mR M a0 8) (Int.toNat l3)))) = 11 ∧ mK M83 a0 = 8 ∧ mK M83 (mR M83 a0 4) = 12 ∧ mK M83 (mR M83 (mR M83 a0 4) 1) = 34 ∧ ((0 : Int) ≤ mI M83 a0 10 ∧ mI M83 a0 10 < (mN M83 (mR M83 (mR M83 a0 4) 1) : Int)) ∧ mK M83 (mR M83 (mR M (mR M a1 0) (Int.toNat (mI M (mR M a0 8) (Int.toNat l3)))) 1) = 10 ∧ Cv G y_Na_put1 d [vr (mR M83 (mR M (mR M a1 0) (Int.toNat (mI M (mR M a0 8) (Int.toNat l3)))) 1), vr (mR M83 (mR M83 (mR M83 a0 4) 1) (Int.toNat (mI M83 a0 10)))] M83 (fun M92 => mOk M92 ∧ (h_So_evaluate_226 G d a0 a1 (l3 + 1) M92 Q))))))) :
    h_So_evaluate_226 G d a0 a1 l3 M Q := by
  unfold h_So_evaluate_226
  obtain ⟨h70, h⟩ := h
  refine wm_iload_n d_So_evaluate_226 rfl rfl ?_
  refine wm_aload_n d_So_evaluate_227 rfl rfl ?_
  refine gf_So_122 rfl d_So_evaluate_228 h70 ?_
  refine wm_icmp_ge (tgt := 290) d_So_evaluate_231 rfl hi_l3 (hO _ _).1 (fun c72 => ?_) (fun c72 => ?_)
  · replace h := h.1 c72
    refine wm_return d_So_evaluate_290 rfl ?_
    exact ⟨rfl, h⟩
  · replace h := h.2 c72
    obtain ⟨h73, h⟩ := h
    obtain ⟨h74, h⟩ := h
    obtain ⟨h75, h⟩ := h
    obtain ⟨h76, h⟩ := h
    obtain ⟨h77, h⟩ := h
    obtain ⟨h78, h⟩ := h
    obtain ⟨h79, h⟩ := h
    obtain ⟨h80, h⟩ := h
    obtain ⟨h81, h⟩ := h
    obtain ⟨h82, h⟩ := h
    refine wm_aload_n d_So_evaluate_234 rfl rfl ?_
    refine gf_So_169 rfl d_So_evaluate_235 h73 ?_
    refine wm_aload_n d_So_evaluate_238 rfl rfl ?_
    refine gf_So_41 rfl d_So_evaluate_239 h70 ?_
    refine wm_iload_n d_So_evaluate_242 rfl rfl ?_
    refine wm_iald d_So_evaluate_243 h74 h75 ?_
    refine wm_aald5 d_So_evaluate_244 h76 h77 ?_
    refine wm_astore d_So_evaluate_245 (by decide) (L' := [vr a0, vr a1, vd, vi l3, vr (mR M (mR M a1 0) (Int.toNat (mI M (mR M a0 8) (Int.toNat l3)))), vd, vd, vd, vd]) rfl ?_
    refine wm_aload d_So_evaluate_247 rfl ?_
    refine gf_So_173 rfl d_So_evaluate_249 h78 ?_
    refine wm_aload_n d_So_evaluate_252 rfl rfl ?_
    refine gf_So_28 rfl d_So_evaluate_253 h70 ?_
    refine gf_So_177 rfl d_So_evaluate_256 h79 ?_
    refine wm_iload_n d_So_evaluate_259 rfl rfl ?_
    refine wm_aald4 d_So_evaluate_260 h80 h81 ?_
    refine cf_So_181 rfl d_So_evaluate_261 h82 (Nat.le_of_ble_eq_true rfl) (Cv.mono h (fun M83 h => ?_))
    obtain ⟨hOM83, h⟩ := h
    obtain ⟨h86, h⟩ := h
    obtain ⟨h87, h⟩ := h
    obtain ⟨h88, h⟩ := h
    obtain ⟨h89, h⟩ := h
    obtain ⟨h90, h⟩ := h
    obtain ⟨h91, h⟩ := h
    refine wm_aload d_So_evaluate_264 rfl ?_
    refine gf_So_187 rfl d_So_evaluate_266 h86 ?_
    refine wm_aload_n d_So_evaluate_269 rfl rfl ?_
    refine gf_So_28 rfl d_So_evaluate_270 h87 ?_
    refine gf_So_177 rfl d_So_evaluate_273 h88 ?_
    refine wm_aload_n d_So_evaluate_276 rfl rfl ?_
    refine gf_So_122 rfl d_So_evaluate_277 h87 ?_
    refine wm_aald4 d_So_evaluate_280 h89 h90 ?_
    refine cf_So_181 rfl d_So_evaluate_281 h91 (Nat.le_of_ble_eq_true rfl) (Cv.mono h (fun M92 h => ?_))
    obtain ⟨hOM92, h⟩ := h
    refine wm_iinc d_So_evaluate_284 (by decide) rfl (L' := [vr a0, vr a1, vd, vi (l3 + 1), vr (mR M (mR M a1 0) (Int.toNat (mI M (mR M a0 8) (Int.toNat l3)))), vd, vd, vd, vd]) rfl ?_
    refine wm_goto (tgt := 226) d_So_evaluate_287 rfl ?_
    refine wm_less (L' := [vr a0, vr a1, vd, vi (l3 + 1), vd, vd, vd, vd, vd]) ⟨Or.inr rfl, Or.inr rfl, Or.inl rfl, Or.inr rfl, Or.inl rfl, Or.inl rfl, Or.inl rfl, Or.inl rfl, Or.inl rfl, trivial⟩ ?_
    exact h
theorem d_So_improve_0 : decode y_So_improve.2.1 0 = .ok (.iconst 0, 1) := dc9_3 (by decide +kernel)
theorem d_So_improve_1 : decode y_So_improve.2.1 1 = .ok (.istore_n 3, 1) := dc9_62 (by decide +kernel)
theorem d_So_improve_2 : decode y_So_improve.2.1 2 = .ok (.iconst 0, 1) := dc9_3 (by decide +kernel)
theorem d_So_improve_3 : decode y_So_improve.2.1 3 = .ok (.istore 4, 2) := dc9_54 (by decide +kernel)
theorem d_So_improve_5 : decode y_So_improve.2.1 5 = .ok (.iload 4, 2) := dc9_21 (by decide +kernel)
theorem d_So_improve_7 : decode y_So_improve.2.1 7 = .ok (.aload_n 0, 1) := dc9_42 (by decide +kernel)
theorem d_So_improve_8 : decode y_So_improve.2.1 8 = .ok (.getfield 122, 3) := dc9_180 (by decide +kernel)
theorem d_So_improve_11 : decode y_So_improve.2.1 11 = .ok (.if_icmp .ge 117, 3) := dc9_162 (by decide +kernel)
theorem d_So_improve_128 : decode y_So_improve.2.1 128 = .ok (.iload_n 3, 1) := dc9_29 (by decide +kernel)
theorem d_So_improve_129 : decode y_So_improve.2.1 129 = .ok (.ireturn, 1) := dc9_172 (by decide +kernel)
theorem d_So_improve_14 : decode y_So_improve.2.1 14 = .ok (.aload_n 0, 1) := dc9_42 (by decide +kernel)
theorem d_So_improve_15 : decode y_So_improve.2.1 15 = .ok (.getfield 41, 3) := dc9_180 (by decide +kernel)
theorem d_So_improve_18 : decode y_So_improve.2.1 18 = .ok (.iload 4, 2) := dc9_21 (by decide +kernel)
theorem d_So_improve_20 : decode y_So_improve.2.1 20 = .ok (.iaload, 1) := dc9_46 (by decide +kernel)
theorem d_So_improve_21 : decode y_So_improve.2.1 21 = .ok (.istore 5, 2) := dc9_54 (by decide +kernel)
theorem d_So_improve_23 : decode y_So_improve.2.1 23 = .ok (.aload_n 0, 1) := dc9_42 (by decide +kernel)
theorem d_So_improve_24 : decode y_So_improve.2.1 24 = .ok (.getfield 64, 3) := dc9_180 (by decide +kernel)
theorem d_So_improve_27 : decode y_So_improve.2.1 27 = .ok (.getfield 113, 3) := dc9_180 (by decide +kernel)
theorem d_So_improve_30 : decode y_So_improve.2.1 30 = .ok (.iload 5, 2) := dc9_21 (by decide +kernel)
theorem d_So_improve_32 : decode y_So_improve.2.1 32 = .ok (.iaload, 1) := dc9_46 (by decide +kernel)
theorem d_So_improve_33 : decode y_So_improve.2.1 33 = .ok (.iload_n 1, 1) := dc9_27 (by decide +kernel)
theorem d_So_improve_34 : decode y_So_improve.2.1 34 = .ok (.if_icmp .ne 88, 3) := dc9_160 (by decide +kernel)
theorem d_So_improve_37 : decode y_So_improve.2.1 37 = .ok (.aload_n 0, 1) := dc9_42 (by decide +kernel)
theorem d_So_improve_38 : decode y_So_improve.2.1 38 = .ok (.getfield 35, 3) := dc9_180 (by decide +kernel)
theorem d_So_improve_41 : decode y_So_improve.2.1 41 = .ok (.iload 5, 2) := dc9_21 (by decide +kernel)
theorem d_So_improve_43 : decode y_So_improve.2.1 43 = .ok (.iaload, 1) := dc9_46 (by decide +kernel)
theorem d_So_improve_44 : decode y_So_improve.2.1 44 = .ok (.aload_n 0, 1) := dc9_42 (by decide +kernel)
theorem d_So_improve_45 : decode y_So_improve.2.1 45 = .ok (.getfield 32, 3) := dc9_180 (by decide +kernel)
theorem d_So_improve_48 : decode y_So_improve.2.1 48 = .ok (.iload 5, 2) := dc9_21 (by decide +kernel)
theorem d_So_improve_50 : decode y_So_improve.2.1 50 = .ok (.iaload, 1) := dc9_46 (by decide +kernel)
theorem d_So_improve_51 : decode y_So_improve.2.1 51 = .ok (.isub, 1) := dc9_100 (by decide +kernel)
theorem d_So_improve_52 : decode y_So_improve.2.1 52 = .ok (.iconst 1, 1) := dc9_4 (by decide +kernel)
theorem d_So_improve_53 : decode y_So_improve.2.1 53 = .ok (.if_icmp .le 69, 3) := dc9_164 (by decide +kernel)
theorem d_So_improve_56 : decode y_So_improve.2.1 56 = .ok (.aload_n 0, 1) := dc9_42 (by decide +kernel)
theorem d_So_improve_57 : decode y_So_improve.2.1 57 = .ok (.getfield 12, 3) := dc9_180 (by decide +kernel)
theorem d_So_improve_60 : decode y_So_improve.2.1 60 = .ok (.aload_n 0, 1) := dc9_42 (by decide +kernel)
theorem d_So_improve_61 : decode y_So_improve.2.1 61 = .ok (.getfield 64, 3) := dc9_180 (by decide +kernel)
theorem d_So_improve_64 : decode y_So_improve.2.1 64 = .ok (.aload_n 0, 1) := dc9_42 (by decide +kernel)
theorem d_So_improve_65 : decode y_So_improve.2.1 65 = .ok (.getfield 32, 3) := dc9_180 (by decide +kernel)
theorem d_So_improve_68 : decode y_So_improve.2.1 68 = .ok (.iload 5, 2) := dc9_21 (by decide +kernel)
theorem d_So_improve_70 : decode y_So_improve.2.1 70 = .ok (.iaload, 1) := dc9_46 (by decide +kernel)
theorem d_So_improve_71 : decode y_So_improve.2.1 71 = .ok (.aload_n 0, 1) := dc9_42 (by decide +kernel)
theorem d_So_improve_72 : decode y_So_improve.2.1 72 = .ok (.getfield 35, 3) := dc9_180 (by decide +kernel)
theorem d_So_improve_75 : decode y_So_improve.2.1 75 = .ok (.iload 5, 2) := dc9_21 (by decide +kernel)
theorem d_So_improve_77 : decode y_So_improve.2.1 77 = .ok (.iaload, 1) := dc9_46 (by decide +kernel)
theorem d_So_improve_78 : decode y_So_improve.2.1 78 = .ok (.iload_n 1, 1) := dc9_27 (by decide +kernel)
theorem d_So_improve_79 : decode y_So_improve.2.1 79 = .ok (.iconst 1, 1) := dc9_4 (by decide +kernel)
theorem d_So_improve_80 : decode y_So_improve.2.1 80 = .ok (.if_icmp .ne 7, 3) := dc9_160 (by decide +kernel)
theorem d_So_improve_83 : decode y_So_improve.2.1 83 = .ok (.iconst 1, 1) := dc9_4 (by decide +kernel)
theorem d_So_improve_84 : decode y_So_improve.2.1 84 = .ok (.goto 4, 3) := dc9_167 (by decide +kernel)
theorem d_So_improve_87 : decode y_So_improve.2.1 87 = .ok (.iconst 0, 1) := dc9_3 (by decide +kernel)
theorem d_So_improve_88 : decode y_So_improve.2.1 88 = .ok (.aload_n 2, 1) := dc9_44 (by decide +kernel)
theorem d_So_improve_89 : decode y_So_improve.2.1 89 = .ok (.invokevirtual 190, 3) := dc9_182 (by decide +kernel)
theorem d_So_improve_92 : decode y_So_improve.2.1 92 = .ok (.istore 6, 2) := dc9_54 (by decide +kernel)
theorem d_So_improve_94 : decode y_So_improve.2.1 94 = .ok (.aload_n 0, 1) := dc9_42 (by decide +kernel)
theorem d_So_improve_95 : decode y_So_improve.2.1 95 = .ok (.getfield 12, 3) := dc9_180 (by decide +kernel)
theorem d_So_improve_98 : decode y_So_improve.2.1 98 = .ok (.aload_n 2, 1) := dc9_44 (by decide +kernel)
theorem d_So_improve_99 : decode y_So_improve.2.1 99 = .ok (.getfield 169, 3) := dc9_180 (by decide +kernel)
theorem d_So_improve_102 : decode y_So_improve.2.1 102 = .ok (.iload 5, 2) := dc9_21 (by decide +kernel)
theorem d_So_improve_104 : decode y_So_improve.2.1 104 = .ok (.aaload, 1) := dc9_50 (by decide +kernel)
theorem d_So_improve_105 : decode y_So_improve.2.1 105 = .ok (.invokevirtual 194, 3) := dc9_182 (by decide +kernel)
theorem d_So_improve_108 : decode y_So_improve.2.1 108 = .ok (.ifCond .eq 14, 3) := dc9_153 (by decide +kernel)
theorem d_So_improve_111 : decode y_So_improve.2.1 111 = .ok (.aload_n 0, 1) := dc9_42 (by decide +kernel)
theorem d_So_improve_112 : decode y_So_improve.2.1 112 = .ok (.getfield 44, 3) := dc9_180 (by decide +kernel)
theorem d_So_improve_115 : decode y_So_improve.2.1 115 = .ok (.iload 4, 2) := dc9_21 (by decide +kernel)
theorem d_So_improve_117 : decode y_So_improve.2.1 117 = .ok (.iload 6, 2) := dc9_21 (by decide +kernel)
theorem d_So_improve_119 : decode y_So_improve.2.1 119 = .ok (.iastore, 1) := dc9_79 (by decide +kernel)
theorem d_So_improve_120 : decode y_So_improve.2.1 120 = .ok (.iconst 1, 1) := dc9_4 (by decide +kernel)
theorem d_So_improve_121 : decode y_So_improve.2.1 121 = .ok (.istore_n 3, 1) := dc9_62 (by decide +kernel)
theorem d_So_improve_122 : decode y_So_improve.2.1 122 = .ok (.iinc 4 1, 3) := by decide +kernel
theorem d_So_improve_125 : decode y_So_improve.2.1 125 = .ok (.goto (-120), 3) := dc9_167 (by decide +kernel)
def h_So_improve_5 (G : mG) (d : Nat) (a0 : Nat) (l1 : Int) (a2 : Nat) (l3 : Int) (l4 : Int) (M : mM) (Q : Int → mM → Prop) : Prop := mWm G y_So_improve (d + 1) 5 [vr a0, vi l1, vr a2, vi l3, vi l4, vd, vd] [] M (fun r9 M9 => ∃ x9, r9 = some (vi x9) ∧ Q x9 M9)
def h_So_improve_122 (G : mG) (d : Nat) (a0 : Nat) (l1 : Int) (a2 : Nat) (l3 : Int) (l4 : Int) (M : mM) (Q : Int → mM → Prop) : Prop := mWm G y_So_improve (d + 1) 122 [vr a0, vi l1, vr a2, vi l3, vi l4, vd, vd] [] M (fun r9 M9 => ∃ x9, r9 = some (vi x9) ∧ Q x9 M9)
theorem k_So_improve {G : mG} {d : Nat} {a0 : Nat} {l1 : Int} {a2 : Nat} {M : mM} {Q : Int → mM → Prop} (hO : mOk M) (hi_l1 : i32 l1)
    (h : h_So_improve_5 G d a0 l1 a2 0 0 M Q) :
    Ci G y_So_improve (d + 1) [vr a0, vi l1, vr a2] M Q := by
  refine wm_open (y := y_So_improve) rfl (Nat.le_of_ble_eq_true rfl) (L := [vr a0, vi l1, vr a2, vd, vd, vd, vd]) rfl ?_
  refine wm_iconst d_So_improve_0 ?_
  refine wm_istore_n d_So_improve_1 rfl (by decide) (L' := [vr a0, vi l1, vr a2, vi 0, vd, vd, vd]) rfl ?_
  refine wm_iconst d_So_improve_2 ?_
  refine wm_istore d_So_improve_3 (by decide) (L' := [vr a0, vi l1, vr a2, vi 0, vi 0, vd, vd]) rfl ?_
  exact h
theorem k_So_improve_5 {G : mG} {d : Nat} {a0 : Nat} {l1 : Int} {a2 : Nat} {l3 : Int} {l4 : Int} {M : mM} {Q : Int → mM → Prop} (hO : mOk M) (hi_l1 : i32 l1) (hi_l3 : i32 l3) (hi_l4 : i32 l4)
    (h : mK M a0 = 8 ∧ ((mI M a0 10 ≤ l4) → ((l3 = 0 ∨ l3 = 1) ∧ Q l3 M)) ∧ (¬ (mI M a0 10 ≤ l4) → (mK M (mR M a0 8) = 30 ∧ ((0 : Int) ≤ l4 ∧ l4 < (mN M (mR M a0 8) : Int)) ∧ mK M (mR M a0 3) = 7 ∧ mK M (mR M (mR M a0 3) 2) = 30 ∧ ((0 : Int) ≤ mI M (mR M a0 8) (Int.toNat l4) ∧ mI M (mR M a0 8) (Int.toNat l4) < (mN M (mR M (mR M a0 3) 2) : Int)) ∧ ((mI M (mR M (mR M a0 3) 2) (Int.toNat (mI M (mR M a0 8) (Int.toNat l4))) = l1) → (mK M (mR M a0 6) = 30 ∧ ((0 : Int) ≤ mI M (mR M a0 8) (Int.toNat l4) ∧ mI M (mR M a0 8) (Int.toNat l4) < (mN M (mR M a0 6) : Int)) ∧ mK M (mR M a0 5) = 30 ∧ ((0 : Int) ≤ mI M (mR M a0 8) (Int.toNat l4) ∧ mI M (mR M a0 8) (Int.toNat l4) < (mN M (mR M a0 5) : Int)) ∧ i32 ((mI M (mR M a0 6) (Int.toNat (mI M (mR M a0 8) (Int.toNat l4)))) - (mI M (mR M a0 5) (Int.toNat (mI M (mR M a0 8) (Int.toNat l4))))))) ∧ (((¬ (mI M (mR M (mR M a0 3) 2) (Int.toNat (mI M (mR M a0 8) (Int.toNat l4))) = l1)) ∨ ((mI M (mR M a0 6) (Int.toNat (mI M (mR M a0 8) (Int.toNat l4)))) - (mI M (mR M a0 5) (Int.toNat (mI M (mR M a0 8) (Int.toNat l4)))) ≤ 1)) → (h_So_improve_122 G d a0 l1 a2 l3 l4 M Q)) ∧ (¬ ((¬ (mI M (mR M (mR M a0 3) 2) (Int.toNat (mI M (mR M a0 8) (Int.toNat l4))) = l1)) ∨ ((mI M (mR M a0 6) (Int.toNat (mI M (mR M a0 8) (Int.toNat l4)))) - (mI M (mR M a0 5) (Int.toNat (mI M (mR M a0 8) (Int.toNat l4)))) ≤ 1)) → (mK M (mR M a0 5) = 30 ∧ ((0 : Int) ≤ mI M (mR M a0 8) (Int.toNat l4) ∧ mI M (mR M a0 8) (Int.toNat l4) < (mN M (mR M a0 5) : Int)) ∧ mK M (mR M a0 6) = 30 ∧ ((0 : Int) ≤ mI M (mR M a0 8) (Int.toNat l4) ∧ mI M (mR M a0 8) (Int.toNat l4) < (mN M (mR M a0 6) : Int)) ∧ ∀ v33 : Int, v33 = (if (l1 = 1) then 1 else 0) → mK M (mR M a0 0) = 9 ∧ Ci G y_Sc_pick d [vr (mR M a0 0), vr (mR M a0 3), vi (mI M (mR M a0 5) (Int.toNat (mI M (mR M a0 8) (Int.toNat l4)))), vi (mI M (mR M a0 6) (Int.toNat (mI M (mR M a0 8) (Int.toNat l4)))), vi v33, vr a2] M (fun x40 M39 => i32 x40 ∧ mOk M39 ∧ (mK M39 a0 = 8 ∧ mK M39 a2 = 13 ∧ mK M39 (mR M39 a2 0) = 35 ∧ ((0 : Int) ≤ mI M (mR M a0 8) (Int.toNat l4) ∧ mI M (mR M a0 8) (Int.toNat l4) < (mN M39 (mR M39 a2 0) : Int)) ∧ mK M39 (mR M39 a0 0) = 9 ∧ Ci G y_Sc_orderOfPicked d [vr (mR M39 a0 0), vr (mR M39 (mR M39 a2 0) (Int.toNat (mI M (mR M a0 8) (Int.toNat l4))))] M39 (fun x48 M47 => i32 x48 ∧ mOk M47 ∧ (((x48 = 0) → (h_So_improve_122 G d a0 l1 a2 l3 l4 M47 Q)) ∧ (¬ (x48 = 0) → (mK M47 a0 = 8 ∧ mK M47 (mR M47 a0 9) = 30 ∧ ((0 : Int) ≤ l4 ∧ l4 < (mN M47 (mR M47 a0 9) : Int)) ∧ ∀ M58, M58 = mUI M47 (mR M47 a0 9) (Int.toNat l4) x40 → h_So_improve_122 G d a0 l1 a2 1 l4 M58 Q))))))))))) :
    h_So_improve_5 G d a0 l1 a2 l3 l4 M Q := by
  unfold h_So_improve_5
  obtain ⟨h1, h⟩ := h
  refine wm_iload d_So_improve_5 rfl ?_
  refine wm_aload_n d_So_improve_7 rfl rfl ?_
  refine gf_So_122 rfl d_So_improve_8 h1 ?_
  refine wm_icmp_ge (tgt := 128) d_So_improve_11 rfl hi_l4 (hO _ _).1 (fun c9 => ?_) (fun c9 => ?_)
  · replace h := h.1 c9
    obtain ⟨h10, h⟩ := h
    refine wm_iload_n d_So_improve_128 rfl rfl ?_
    refine wm_ireturn d_So_improve_129 rfl (m_nb h10) ?_
    exact ⟨_, rfl, h⟩
  · replace h := h.2 c9
    obtain ⟨h11, h⟩ := h
    obtain ⟨h12, h⟩ := h
    obtain ⟨h13, h⟩ := h
    obtain ⟨h14, h⟩ := h
    obtain ⟨h15, h⟩ := h
    refine wm_aload_n d_So_improve_14 rfl rfl ?_
    refine gf_So_41 rfl d_So_improve_15 h1 ?_
    refine wm_iload d_So_improve_18 rfl ?_
    refine wm_iald d_So_improve_20 h11 h12 ?_
    refine wm_istore d_So_improve_21 (by decide) (L' := [vr a0, vi l1, vr a2, vi l3, vi l4, vi (mI M (mR M a0 8) (Int.toNat l4)), vd]) rfl ?_
    refine wm_aload_n d_So_improve_23 rfl rfl ?_
    refine gf_So_64 rfl d_So_improve_24 h1 ?_
    refine gf_So_113 rfl d_So_improve_27 h13 ?_
    refine wm_iload d_So_improve_30 rfl ?_
    refine wm_iald d_So_improve_32 h14 h15 ?_
    refine wm_iload_n d_So_improve_33 rfl rfl ?_
    obtain ⟨s25, h⟩ := h
    have hE0 : ((¬ (mI M (mR M (mR M a0 3) 2) (Int.toNat (mI M (mR M a0 8) (Int.toNat l4))) = l1)) ∨ ((mI M (mR M a0 6) (Int.toNat (mI M (mR M a0 8) (Int.toNat l4)))) - (mI M (mR M a0 5) (Int.toNat (mI M (mR M a0 8) (Int.toNat l4)))) ≤ 1)) → mWm G y_So_improve (d + 1) 122 [vr a0, vi l1, vr a2, vi l3, vi l4, vi (mI M (mR M a0 8) (Int.toNat l4)), vd] [] M (fun r9 M9 => ∃ x9, r9 = some (vi x9) ∧ Q x9 M9) := by
      intro q26
      have h := h.1 q26
      refine wm_less (L' := [vr a0, vi l1, vr a2, vi l3, vi l4, vd, vd]) ⟨Or.inr rfl, Or.inr rfl, Or.inr rfl, Or.inr rfl, Or.inr rfl, Or.inl rfl, Or.inl rfl, trivial⟩ ?_
      exact h
    have hE1 : ¬ ((¬ (mI M (mR M (mR M a0 3) 2) (Int.toNat (mI M (mR M a0 8) (Int.toNat l4))) = l1)) ∨ ((mI M (mR M a0 6) (Int.toNat (mI M (mR M a0 8) (Int.toNat l4)))) - (mI M (mR M a0 5) (Int.toNat (mI M (mR M a0 8) (Int.toNat l4)))) ≤ 1)) → mWm G y_So_improve (d + 1) 56 [vr a0, vi l1, vr a2, vi l3, vi l4, vi (mI M (mR M a0 8) (Int.toNat l4)), vd] [] M (fun r9 M9 => ∃ x9, r9 = some (vi x9) ∧ Q x9 M9) := by
      intro q27
      have h := h.2 q27
      obtain ⟨h28, h⟩ := h
      obtain ⟨h29, h⟩ := h
      obtain ⟨h30, h⟩ := h
      obtain ⟨h31, h⟩ := h
      refine wm_aload_n d_So_improve_56 rfl rfl ?_
      refine gf_So_12 rfl d_So_improve_57 h1 ?_
      refine wm_aload_n d_So_improve_60 rfl rfl ?_
      refine gf_So_64 rfl d_So_improve_61 h1 ?_
      refine wm_aload_n d_So_improve_64 rfl rfl ?_
      refine gf_So_32 rfl d_So_improve_65 h1 ?_
      refine wm_iload d_So_improve_68 rfl ?_
      refine wm_iald d_So_improve_70 h28 h29 ?_
      refine wm_aload_n d_So_improve_71 rfl rfl ?_
      refine gf_So_35 rfl d_So_improve_72 h1 ?_
      refine wm_iload d_So_improve_75 rfl ?_
      refine wm_iald d_So_improve_77 h30 h31 ?_
      refine wm_iload_n d_So_improve_78 rfl rfl ?_
      refine wm_iconst d_So_improve_79 ?_
      have hJ : ∀ v33 : Int, v33 = (if (l1 = 1) then 1 else 0) → mWm G y_So_improve (d + 1) 88 [vr a0, vi l1, vr a2, vi l3, vi l4, vi (mI M (mR M a0 8) (Int.toNat l4)), vd] [vi v33, vi (mI M (mR M a0 6) (Int.toNat (mI M (mR M a0 8) (Int.toNat l4)))), vi (mI M (mR M a0 5) (Int.toNat (mI M (mR M a0 8) (Int.toNat l4)))), vr (mR M a0 3), vr (mR M a0 0)] M (fun r9 M9 => ∃ x9, r9 = some (vi x9) ∧ Q x9 M9) := by
        intro v33 e35
        have h := h v33 e35
        have h36 : i32 v33 := by rw [e35]; (repeat' split) <;> first | exact ⟨by decide, by decide⟩ | exact ⟨by decide, by decide⟩
        have h37 : (v33 = 0 ∨ v33 = 1) := by rw [e35]; (repeat' split) <;> decide
        obtain ⟨h38, h⟩ := h
        refine wm_aload_n d_So_improve_88 rfl rfl ?_
        refine cf_So_190 rfl d_So_improve_89 h38 (Nat.le_of_ble_eq_true rfl) (Ci.mono h (fun x40 M39 h => ?_))
        obtain ⟨h41, hOM39, h⟩ := h
        obtain ⟨h42, h⟩ := h
        obtain ⟨h43, h⟩ := h
        obtain ⟨h44, h⟩ := h
        obtain ⟨h45, h⟩ := h
        obtain ⟨h46, h⟩ := h
        refine wm_istore d_So_improve_92 (by decide) (L' := [vr a0, vi l1, vr a2, vi l3, vi l4, vi (mI M (mR M a0 8) (Int.toNat l4)), vi x40]) rfl ?_
        refine wm_aload_n d_So_improve_94 rfl rfl ?_
        refine gf_So_12 rfl d_So_improve_95 h42 ?_
        refine wm_aload_n d_So_improve_98 rfl rfl ?_
        refine gf_So_169 rfl d_So_improve_99 h43 ?_
        refine wm_iload d_So_improve_102 rfl ?_
        refine wm_aald5 d_So_improve_104 h44 h45 ?_
        refine cf_So_194 rfl d_So_improve_105 h46 (Nat.le_of_ble_eq_true rfl) (Ci.mono h (fun x48 M47 h => ?_))
        obtain ⟨h49, hOM47, h⟩ := h
        refine wm_if_eq (tgt := 122) d_So_improve_108 rfl h49 (fun c54 => ?_) (fun c54 => ?_)
        · replace h := h.1 c54
          refine wm_less (L' := [vr a0, vi l1, vr a2, vi l3, vi l4, vd, vd]) ⟨Or.inr rfl, Or.inr rfl, Or.inr rfl, Or.inr rfl, Or.inr rfl, Or.inl rfl, Or.inl rfl, trivial⟩ ?_
          exact h
        · replace h := h.2 c54
          obtain ⟨h55, h⟩ := h
          obtain ⟨h56, h⟩ := h
          obtain ⟨h57, h⟩ := h
          obtain ⟨M58, e59⟩ : ∃ M58, M58 = mUI M47 (mR M47 a0 9) (Int.toNat l4) x40 := ⟨_, rfl⟩
          replace h := h M58 e59
          refine wm_aload_n d_So_improve_111 rfl rfl ?_
          refine gf_So_44 rfl d_So_improve_112 h55 ?_
          refine wm_iload d_So_improve_115 rfl ?_
          refine wm_iload d_So_improve_117 rfl ?_
          have hOM58 : mOk M58 := by rw [e59]; exact mOk_UI hOM47 h41
          refine wm_iastE d_So_improve_119 h56 h57 h41 e59 ?_
          refine wm_iconst d_So_improve_120 ?_
          refine wm_istore_n d_So_improve_121 rfl (by decide) (L' := [vr a0, vi l1, vr a2, vi 1, vi l4, vi (mI M (mR M a0 8) (Int.toNat l4)), vi x40]) rfl ?_
          refine wm_less (L' := [vr a0, vi l1, vr a2, vi 1, vi l4, vd, vd]) ⟨Or.inr rfl, Or.inr rfl, Or.inr rfl, Or.inr rfl, Or.inr rfl, Or.inl rfl, Or.inl rfl, trivial⟩ ?_
          exact h
      clear h
      refine wm_icmp_ne (tgt := 87) d_So_improve_80 rfl hi_l1 ⟨by decide, by decide⟩ (fun c32 => ?_) (fun c32 => ?_)
      · refine wm_iconst d_So_improve_87 ?_
        exact hJ 0 (if_neg c32).symm
      · replace c32 := Classical.not_not.mp c32
        refine wm_iconst d_So_improve_83 ?_
        refine wm_goto (tgt := 88) d_So_improve_84 rfl ?_
        exact hJ 1 (if_pos c32).symm
    clear h
    have s61 := s25
    refine wm_icmp_ne (tgt := 122) d_So_improve_34 rfl (hO _ _).1 hi_l1 (fun c24 => ?_) (fun c24 => ?_)
    · exact hE0 (Or.inl c24)
    · replace c24 := Classical.not_not.mp c24
      have s61 := s61 c24
      obtain ⟨h16, h17, h18, h19, h20⟩ := s61
      refine wm_aload_n d_So_improve_37 rfl rfl ?_
      refine gf_So_35 rfl d_So_improve_38 h1 ?_
      refine wm_iload d_So_improve_41 rfl ?_
      refine wm_iald d_So_improve_43 h16 h17 ?_
      refine wm_aload_n d_So_improve_44 rfl rfl ?_
      refine gf_So_32 rfl d_So_improve_45 h1 ?_
      refine wm_iload d_So_improve_48 rfl ?_
      refine wm_iald d_So_improve_50 h18 h19 ?_
      refine wm_isub d_So_improve_51 ?_
      refine wm_iconst d_So_improve_52 ?_
      refine wm_icmp_le (tgt := 122) d_So_improve_53 rfl h20 ⟨by decide, by decide⟩ (fun c23 => ?_) (fun c23 => ?_)
      · exact hE0 (Or.inr c23)
      · exact hE1 (fun z62 => Or.elim z62 (fun w => w c24) c23)
theorem k_So_improve_122 {G : mG} {d : Nat} {a0 : Nat} {l1 : Int} {a2 : Nat} {l3 : Int} {l4 : Int} {M : mM} {Q : Int → mM → Prop} (hO : mOk M) (hi_l1 : i32 l1) (hi_l3 : i32 l3) (hi_l4 : i32 l4)
    (h : h_So_improve_5 G d a0 l1 a2 l3 (l4 + 1) M Q) :
    h_So_improve_122 G d a0 l1 a2 l3 l4 M Q := by
  unfold h_So_improve_122
  refine wm_iinc d_So_improve_122 (by decide) rfl (L' := [vr a0, vi l1, vr a2, vi l3, vi (l4 + 1), vd, vd]) rfl ?_
  refine wm_goto (tgt := 5) d_So_improve_125 rfl ?_
  exact h
theorem d_So_listOthers_0 : decode y_So_listOthers.2.1 0 = .ok (.aload_n 0, 1) := dc9_42 (by decide +kernel)
theorem d_So_listOthers_1 : decode y_So_listOthers.2.1 1 = .ok (.getfield 47, 3) := dc9_180 (by decide +kernel)
theorem d_So_listOthers_4 : decode y_So_listOthers.2.1 4 = .ok (.arraylength, 1) := dc9_190 (by decide +kernel)
theorem d_So_listOthers_5 : decode y_So_listOthers.2.1 5 = .ok (.ifCond .ne 12, 3) := dc9_154 (by decide +kernel)
theorem d_So_listOthers_8 : decode y_So_listOthers.2.1 8 = .ok (.aload_n 0, 1) := dc9_42 (by decide +kernel)
theorem d_So_listOthers_9 : decode y_So_listOthers.2.1 9 = .ok (.sipush 2400, 3) := dc9_17 (by decide +kernel)
theorem d_So_listOthers_12 : decode y_So_listOthers.2.1 12 = .ok (.newarray .int, 2) := by decide +kernel
theorem d_So_listOthers_14 : decode y_So_listOthers.2.1 14 = .ok (.putfield 47, 3) := dc9_181 (by decide +kernel)
theorem d_So_listOthers_17 : decode y_So_listOthers.2.1 17 = .ok (.aload_n 0, 1) := dc9_42 (by decide +kernel)
theorem d_So_listOthers_18 : decode y_So_listOthers.2.1 18 = .ok (.iconst 0, 1) := dc9_3 (by decide +kernel)
theorem d_So_listOthers_19 : decode y_So_listOthers.2.1 19 = .ok (.putfield 198, 3) := dc9_181 (by decide +kernel)
theorem d_So_listOthers_22 : decode y_So_listOthers.2.1 22 = .ok (.aload_n 0, 1) := dc9_42 (by decide +kernel)
theorem d_So_listOthers_23 : decode y_So_listOthers.2.1 23 = .ok (.lconst 0, 1) := dc9_9 (by decide +kernel)
theorem d_So_listOthers_24 : decode y_So_listOthers.2.1 24 = .ok (.putfield 201, 3) := dc9_181 (by decide +kernel)
theorem d_So_listOthers_27 : decode y_So_listOthers.2.1 27 = .ok (.aload_n 0, 1) := dc9_42 (by decide +kernel)
theorem d_So_listOthers_28 : decode y_So_listOthers.2.1 28 = .ok (.iconst 2, 1) := dc9_5 (by decide +kernel)
theorem d_So_listOthers_29 : decode y_So_listOthers.2.1 29 = .ok (.invokevirtual 205, 3) := dc9_182 (by decide +kernel)
theorem d_So_listOthers_32 : decode y_So_listOthers.2.1 32 = .ok (.aload_n 0, 1) := dc9_42 (by decide +kernel)
theorem d_So_listOthers_33 : decode y_So_listOthers.2.1 33 = .ok (.aload_n 0, 1) := dc9_42 (by decide +kernel)
theorem d_So_listOthers_34 : decode y_So_listOthers.2.1 34 = .ok (.getfield 198, 3) := dc9_180 (by decide +kernel)
theorem d_So_listOthers_37 : decode y_So_listOthers.2.1 37 = .ok (.putfield 208, 3) := dc9_181 (by decide +kernel)
theorem d_So_listOthers_40 : decode y_So_listOthers.2.1 40 = .ok (.aload_n 0, 1) := dc9_42 (by decide +kernel)
theorem d_So_listOthers_41 : decode y_So_listOthers.2.1 41 = .ok (.iconst 1, 1) := dc9_4 (by decide +kernel)
theorem d_So_listOthers_42 : decode y_So_listOthers.2.1 42 = .ok (.invokevirtual 205, 3) := dc9_182 (by decide +kernel)
theorem d_So_listOthers_45 : decode y_So_listOthers.2.1 45 = .ok (.aload_n 0, 1) := dc9_42 (by decide +kernel)
theorem d_So_listOthers_46 : decode y_So_listOthers.2.1 46 = .ok (.iconst 0, 1) := dc9_3 (by decide +kernel)
theorem d_So_listOthers_47 : decode y_So_listOthers.2.1 47 = .ok (.aload_n 0, 1) := dc9_42 (by decide +kernel)
theorem d_So_listOthers_48 : decode y_So_listOthers.2.1 48 = .ok (.getfield 208, 3) := dc9_180 (by decide +kernel)
theorem d_So_listOthers_51 : decode y_So_listOthers.2.1 51 = .ok (.invokevirtual 211, 3) := dc9_182 (by decide +kernel)
theorem d_So_listOthers_54 : decode y_So_listOthers.2.1 54 = .ok (.aload_n 0, 1) := dc9_42 (by decide +kernel)
theorem d_So_listOthers_55 : decode y_So_listOthers.2.1 55 = .ok (.aload_n 0, 1) := dc9_42 (by decide +kernel)
theorem d_So_listOthers_56 : decode y_So_listOthers.2.1 56 = .ok (.getfield 208, 3) := dc9_180 (by decide +kernel)
theorem d_So_listOthers_59 : decode y_So_listOthers.2.1 59 = .ok (.aload_n 0, 1) := dc9_42 (by decide +kernel)
theorem d_So_listOthers_60 : decode y_So_listOthers.2.1 60 = .ok (.getfield 198, 3) := dc9_180 (by decide +kernel)
theorem d_So_listOthers_63 : decode y_So_listOthers.2.1 63 = .ok (.invokevirtual 211, 3) := dc9_182 (by decide +kernel)
theorem d_So_listOthers_66 : decode y_So_listOthers.2.1 66 = .ok (.return_, 1) := dc9_177 (by decide +kernel)
theorem k_So_listOthers {G : mG} {d : Nat} {a0 : Nat} {M : mM} {Q : mM → Prop} (hO : mOk M)
    (h : mK M a0 = 8 ∧ mK M (mR M a0 11) = 30 ∧ i32 (mN M (mR M a0 11) : Int) ∧ (((mN M (mR M a0 11) : Int) = 0) → (∀ M9, M9 = mNew M 30 2400 2400 → mK M9 a0 = 8 ∧ ∀ M12, M12 = mUR M9 a0 11 (mZ M) → ∀ M14, M14 = mUI M12 a0 12 0 → ∀ M16, M16 = mUL M14 a0 14 (w64 0) → Cv G y_So_addOthers d [vr a0, vi 2] M16 (fun M18 => mOk M18 ∧ (mK M18 a0 = 8 ∧ ∀ M22, M22 = mUI M18 a0 13 (mI M18 a0 12) → Cv G y_So_addOthers d [vr a0, vi 1] M22 (fun M24 => mOk M24 ∧ (mK M24 a0 = 8 ∧ Cv G y_So_mix d [vr a0, vi 0, vi (mI M24 a0 13)] M24 (fun M28 => mOk M28 ∧ (mK M28 a0 = 8 ∧ Cv G y_So_mix d [vr a0, vi (mI M28 a0 13), vi (mI M28 a0 12)] M28 (fun M32 => mOk M32 ∧ (Q M32)))))))))) ∧ (¬ ((mN M (mR M a0 11) : Int) = 0) → (∀ M35, M35 = mUI M a0 12 0 → ∀ M37, M37 = mUL M35 a0 14 (w64 0) → Cv G y_So_addOthers d [vr a0, vi 2] M37 (fun M39 => mOk M39 ∧ (mK M39 a0 = 8 ∧ ∀ M43, M43 = mUI M39 a0 13 (mI M39 a0 12) → Cv G y_So_addOthers d [vr a0, vi 1] M43 (fun M45 => mOk M45 ∧ (mK M45 a0 = 8 ∧ Cv G y_So_mix d [vr a0, vi 0, vi (mI M45 a0 13)] M45 (fun M49 => mOk M49 ∧ (mK M49 a0 = 8 ∧ Cv G y_So_mix d [vr a0, vi (mI M49 a0 13), vi (mI M49 a0 12)] M49 (fun M53 => mOk M53 ∧ (Q M53))))))))))) :
    Cv G y_So_listOthers (d + 1) [vr a0] M Q := by
  refine wm_open (y := y_So_listOthers) rfl (Nat.le_of_ble_eq_true rfl) (L := [vr a0]) rfl ?_
  obtain ⟨h1, h⟩ := h
  obtain ⟨h2, h⟩ := h
  obtain ⟨h7, h⟩ := h
  refine wm_aload_n d_So_listOthers_0 rfl rfl ?_
  refine gf_So_47 rfl d_So_listOthers_1 h1 ?_
  refine wm_alen 0 rfl (fun _ => rfl) d_So_listOthers_4 h2 ?_
  refine wm_if_ne (tgt := 17) d_So_listOthers_5 rfl h7 (fun c8 => ?_) (fun c8 => ?_)
  · replace h := h.2 c8
    obtain ⟨M35, e36⟩ : ∃ M35, M35 = mUI M a0 12 0 := ⟨_, rfl⟩
    replace h := h M35 e36
    obtain ⟨M37, e38⟩ : ∃ M37, M37 = mUL M35 a0 14 (w64 0) := ⟨_, rfl⟩
    replace h := h M37 e38
    refine wm_aload_n d_So_listOthers_17 rfl rfl ?_
    refine wm_iconst d_So_listOthers_18 ?_
    have hOM35 : mOk M35 := by rw [e36]; exact mOk_UI hO ⟨by decide, by decide⟩
    refine pf_So_198 rfl d_So_listOthers_19 h1 ⟨by decide, by decide⟩ e36 ?_
    refine wm_aload_n d_So_listOthers_22 rfl rfl ?_
    refine wm_lconst (x := 0) d_So_listOthers_23 rfl ?_
    have hOM37 : mOk M37 := by rw [e38]; exact mOk_UL hOM35 i64_w64
    refine pf_So_201 rfl d_So_listOthers_24 (by rw [e36]; exact h1) e38 ?_
    refine wm_aload_n d_So_listOthers_27 rfl rfl ?_
    refine wm_iconst d_So_listOthers_28 ?_
    refine cf_So_205 rfl d_So_listOthers_29 (by rw [e38, e36]; exact h1) (Nat.le_of_ble_eq_true rfl) (Cv.mono h (fun M39 h => ?_))
    obtain ⟨hOM39, h⟩ := h
    obtain ⟨h42, h⟩ := h
    obtain ⟨M43, e44⟩ : ∃ M43, M43 = mUI M39 a0 13 (mI M39 a0 12) := ⟨_, rfl⟩
    replace h := h M43 e44
    refine wm_aload_n d_So_listOthers_32 rfl rfl ?_
    refine wm_aload_n d_So_listOthers_33 rfl rfl ?_
    refine gf_So_198 rfl d_So_listOthers_34 h42 ?_
    have hOM43 : mOk M43 := by rw [e44]; exact mOk_UI hOM39 (hOM39 _ _).1
    refine pf_So_208 rfl d_So_listOthers_37 h42 (hOM39 _ _).1 e44 ?_
    refine wm_aload_n d_So_listOthers_40 rfl rfl ?_
    refine wm_iconst d_So_listOthers_41 ?_
    refine cf_So_205 rfl d_So_listOthers_42 (by rw [e44]; exact h42) (Nat.le_of_ble_eq_true rfl) (Cv.mono h (fun M45 h => ?_))
    obtain ⟨hOM45, h⟩ := h
    obtain ⟨h48, h⟩ := h
    refine wm_aload_n d_So_listOthers_45 rfl rfl ?_
    refine wm_iconst d_So_listOthers_46 ?_
    refine wm_aload_n d_So_listOthers_47 rfl rfl ?_
    refine gf_So_208 rfl d_So_listOthers_48 h48 ?_
    refine cf_So_211 rfl d_So_listOthers_51 h48 (Nat.le_of_ble_eq_true rfl) (Cv.mono h (fun M49 h => ?_))
    obtain ⟨hOM49, h⟩ := h
    obtain ⟨h52, h⟩ := h
    refine wm_aload_n d_So_listOthers_54 rfl rfl ?_
    refine wm_aload_n d_So_listOthers_55 rfl rfl ?_
    refine gf_So_208 rfl d_So_listOthers_56 h52 ?_
    refine wm_aload_n d_So_listOthers_59 rfl rfl ?_
    refine gf_So_198 rfl d_So_listOthers_60 h52 ?_
    refine cf_So_211 rfl d_So_listOthers_63 h52 (Nat.le_of_ble_eq_true rfl) (Cv.mono h (fun M53 h => ?_))
    obtain ⟨hOM53, h⟩ := h
    refine wm_return d_So_listOthers_66 rfl ?_
    exact ⟨rfl, h⟩
  · replace c8 := Classical.not_not.mp c8
    replace h := h.1 c8
    obtain ⟨M9, e10⟩ : ∃ M9, M9 = mNew M 30 2400 2400 := ⟨_, rfl⟩
    replace h := h M9 e10
    obtain ⟨h11, h⟩ := h
    obtain ⟨M12, e13⟩ : ∃ M12, M12 = mUR M9 a0 11 (mZ M) := ⟨_, rfl⟩
    replace h := h M12 e13
    obtain ⟨M14, e15⟩ : ∃ M14, M14 = mUI M12 a0 12 0 := ⟨_, rfl⟩
    replace h := h M14 e15
    obtain ⟨M16, e17⟩ : ∃ M16, M16 = mUL M14 a0 14 (w64 0) := ⟨_, rfl⟩
    replace h := h M16 e17
    refine wm_aload_n d_So_listOthers_8 rfl rfl ?_
    refine wm_sipush d_So_listOthers_9 (by decide) ?_
    have hOM9 : mOk M9 := by rw [e10]; exact mOk_New hO
    refine wm_newarrE 0 (atype := .int) (ty := .int) rfl rfl (fun _ => rfl) rfl rfl (by decide) k1_82 ⟨by decide, by decide⟩ d_So_listOthers_12 e10 ?_
    have hOM12 : mOk M12 := by rw [e13]; exact mOk_UR hOM9
    refine pf_So_47 rfl d_So_listOthers_14 h11 e13 ?_
    refine wm_aload_n d_So_listOthers_17 rfl rfl ?_
    refine wm_iconst d_So_listOthers_18 ?_
    have hOM14 : mOk M14 := by rw [e15]; exact mOk_UI hOM12 ⟨by decide, by decide⟩
    refine pf_So_198 rfl d_So_listOthers_19 (by rw [e13]; exact h11) ⟨by decide, by decide⟩ e15 ?_
    refine wm_aload_n d_So_listOthers_22 rfl rfl ?_
    refine wm_lconst (x := 0) d_So_listOthers_23 rfl ?_
    have hOM16 : mOk M16 := by rw [e17]; exact mOk_UL hOM14 i64_w64
    refine pf_So_201 rfl d_So_listOthers_24 (by rw [e15, e13]; exact h11) e17 ?_
    refine wm_aload_n d_So_listOthers_27 rfl rfl ?_
    refine wm_iconst d_So_listOthers_28 ?_
    refine cf_So_205 rfl d_So_listOthers_29 (by rw [e17, e15, e13]; exact h11) (Nat.le_of_ble_eq_true rfl) (Cv.mono h (fun M18 h => ?_))
    obtain ⟨hOM18, h⟩ := h
    obtain ⟨h21, h⟩ := h
    obtain ⟨M22, e23⟩ : ∃ M22, M22 = mUI M18 a0 13 (mI M18 a0 12) := ⟨_, rfl⟩
    replace h := h M22 e23
    refine wm_aload_n d_So_listOthers_32 rfl rfl ?_
    refine wm_aload_n d_So_listOthers_33 rfl rfl ?_
    refine gf_So_198 rfl d_So_listOthers_34 h21 ?_
    have hOM22 : mOk M22 := by rw [e23]; exact mOk_UI hOM18 (hOM18 _ _).1
    refine pf_So_208 rfl d_So_listOthers_37 h21 (hOM18 _ _).1 e23 ?_
    refine wm_aload_n d_So_listOthers_40 rfl rfl ?_
    refine wm_iconst d_So_listOthers_41 ?_
    refine cf_So_205 rfl d_So_listOthers_42 (by rw [e23]; exact h21) (Nat.le_of_ble_eq_true rfl) (Cv.mono h (fun M24 h => ?_))
    obtain ⟨hOM24, h⟩ := h
    obtain ⟨h27, h⟩ := h
    refine wm_aload_n d_So_listOthers_45 rfl rfl ?_
    refine wm_iconst d_So_listOthers_46 ?_
    refine wm_aload_n d_So_listOthers_47 rfl rfl ?_
    refine gf_So_208 rfl d_So_listOthers_48 h27 ?_
    refine cf_So_211 rfl d_So_listOthers_51 h27 (Nat.le_of_ble_eq_true rfl) (Cv.mono h (fun M28 h => ?_))
    obtain ⟨hOM28, h⟩ := h
    obtain ⟨h31, h⟩ := h
    refine wm_aload_n d_So_listOthers_54 rfl rfl ?_
    refine wm_aload_n d_So_listOthers_55 rfl rfl ?_
    refine gf_So_208 rfl d_So_listOthers_56 h31 ?_
    refine wm_aload_n d_So_listOthers_59 rfl rfl ?_
    refine gf_So_198 rfl d_So_listOthers_60 h31 ?_
    refine cf_So_211 rfl d_So_listOthers_63 h31 (Nat.le_of_ble_eq_true rfl) (Cv.mono h (fun M32 h => ?_))
    obtain ⟨hOM32, h⟩ := h
    refine wm_return d_So_listOthers_66 rfl ?_
    exact ⟨rfl, h⟩
theorem d_So_addOthers_0 : decode y_So_addOthers.2.1 0 = .ok (.iconst 0, 1) := dc9_3 (by decide +kernel)
theorem d_So_addOthers_1 : decode y_So_addOthers.2.1 1 = .ok (.istore_n 2, 1) := dc9_61 (by decide +kernel)
theorem d_So_addOthers_2 : decode y_So_addOthers.2.1 2 = .ok (.iload_n 2, 1) := dc9_28 (by decide +kernel)
theorem d_So_addOthers_3 : decode y_So_addOthers.2.1 3 = .ok (.aload_n 0, 1) := dc9_42 (by decide +kernel)
theorem d_So_addOthers_4 : decode y_So_addOthers.2.1 4 = .ok (.getfield 122, 3) := dc9_180 (by decide +kernel)
theorem d_So_addOthers_7 : decode y_So_addOthers.2.1 7 = .ok (.if_icmp .ge 94, 3) := dc9_162 (by decide +kernel)
theorem d_So_addOthers_101 : decode y_So_addOthers.2.1 101 = .ok (.return_, 1) := dc9_177 (by decide +kernel)
theorem d_So_addOthers_10 : decode y_So_addOthers.2.1 10 = .ok (.aload_n 0, 1) := dc9_42 (by decide +kernel)
theorem d_So_addOthers_11 : decode y_So_addOthers.2.1 11 = .ok (.getfield 41, 3) := dc9_180 (by decide +kernel)
theorem d_So_addOthers_14 : decode y_So_addOthers.2.1 14 = .ok (.iload_n 2, 1) := dc9_28 (by decide +kernel)
theorem d_So_addOthers_15 : decode y_So_addOthers.2.1 15 = .ok (.iaload, 1) := dc9_46 (by decide +kernel)
theorem d_So_addOthers_16 : decode y_So_addOthers.2.1 16 = .ok (.istore_n 3, 1) := dc9_62 (by decide +kernel)
theorem d_So_addOthers_17 : decode y_So_addOthers.2.1 17 = .ok (.aload_n 0, 1) := dc9_42 (by decide +kernel)
theorem d_So_addOthers_18 : decode y_So_addOthers.2.1 18 = .ok (.getfield 32, 3) := dc9_180 (by decide +kernel)
theorem d_So_addOthers_21 : decode y_So_addOthers.2.1 21 = .ok (.iload_n 3, 1) := dc9_29 (by decide +kernel)
theorem d_So_addOthers_22 : decode y_So_addOthers.2.1 22 = .ok (.iaload, 1) := dc9_46 (by decide +kernel)
theorem d_So_addOthers_23 : decode y_So_addOthers.2.1 23 = .ok (.istore 4, 2) := dc9_54 (by decide +kernel)
theorem d_So_addOthers_25 : decode y_So_addOthers.2.1 25 = .ok (.iload 4, 2) := dc9_21 (by decide +kernel)
theorem d_So_addOthers_27 : decode y_So_addOthers.2.1 27 = .ok (.aload_n 0, 1) := dc9_42 (by decide +kernel)
theorem d_So_addOthers_28 : decode y_So_addOthers.2.1 28 = .ok (.getfield 35, 3) := dc9_180 (by decide +kernel)
theorem d_So_addOthers_31 : decode y_So_addOthers.2.1 31 = .ok (.iload_n 3, 1) := dc9_29 (by decide +kernel)
theorem d_So_addOthers_32 : decode y_So_addOthers.2.1 32 = .ok (.iaload, 1) := dc9_46 (by decide +kernel)
theorem d_So_addOthers_33 : decode y_So_addOthers.2.1 33 = .ok (.if_icmp .ge 62, 3) := dc9_162 (by decide +kernel)
theorem d_So_addOthers_36 : decode y_So_addOthers.2.1 36 = .ok (.aload_n 0, 1) := dc9_42 (by decide +kernel)
theorem d_So_addOthers_37 : decode y_So_addOthers.2.1 37 = .ok (.getfield 64, 3) := dc9_180 (by decide +kernel)
theorem d_So_addOthers_40 : decode y_So_addOthers.2.1 40 = .ok (.getfield 113, 3) := dc9_180 (by decide +kernel)
theorem d_So_addOthers_43 : decode y_So_addOthers.2.1 43 = .ok (.iload_n 3, 1) := dc9_29 (by decide +kernel)
theorem d_So_addOthers_44 : decode y_So_addOthers.2.1 44 = .ok (.iaload, 1) := dc9_46 (by decide +kernel)
theorem d_So_addOthers_45 : decode y_So_addOthers.2.1 45 = .ok (.iload_n 1, 1) := dc9_27 (by decide +kernel)
theorem d_So_addOthers_46 : decode y_So_addOthers.2.1 46 = .ok (.if_icmp .ne 49, 3) := dc9_160 (by decide +kernel)
theorem d_So_addOthers_49 : decode y_So_addOthers.2.1 49 = .ok (.iload 4, 2) := dc9_21 (by decide +kernel)
theorem d_So_addOthers_51 : decode y_So_addOthers.2.1 51 = .ok (.aload_n 0, 1) := dc9_42 (by decide +kernel)
theorem d_So_addOthers_52 : decode y_So_addOthers.2.1 52 = .ok (.getfield 44, 3) := dc9_180 (by decide +kernel)
theorem d_So_addOthers_55 : decode y_So_addOthers.2.1 55 = .ok (.iload_n 2, 1) := dc9_28 (by decide +kernel)
theorem d_So_addOthers_56 : decode y_So_addOthers.2.1 56 = .ok (.iaload, 1) := dc9_46 (by decide +kernel)
theorem d_So_addOthers_57 : decode y_So_addOthers.2.1 57 = .ok (.if_icmp .eq 26, 3) := dc9_159 (by decide +kernel)
theorem d_So_addOthers_60 : decode y_So_addOthers.2.1 60 = .ok (.aload_n 0, 1) := dc9_42 (by decide +kernel)
theorem d_So_addOthers_61 : decode y_So_addOthers.2.1 61 = .ok (.getfield 47, 3) := dc9_180 (by decide +kernel)
theorem d_So_addOthers_64 : decode y_So_addOthers.2.1 64 = .ok (.aload_n 0, 1) := dc9_42 (by decide +kernel)
theorem d_So_addOthers_65 : decode y_So_addOthers.2.1 65 = .ok (.dup, 1) := dc9_89 (by decide +kernel)
theorem d_So_addOthers_66 : decode y_So_addOthers.2.1 66 = .ok (.getfield 198, 3) := dc9_180 (by decide +kernel)
theorem d_So_addOthers_69 : decode y_So_addOthers.2.1 69 = .ok (.dup_x1, 1) := dc9_90 (by decide +kernel)
theorem d_So_addOthers_70 : decode y_So_addOthers.2.1 70 = .ok (.iconst 1, 1) := dc9_4 (by decide +kernel)
theorem d_So_addOthers_71 : decode y_So_addOthers.2.1 71 = .ok (.iadd, 1) := dc9_96 (by decide +kernel)
theorem d_So_addOthers_72 : decode y_So_addOthers.2.1 72 = .ok (.putfield 198, 3) := dc9_181 (by decide +kernel)
theorem d_So_addOthers_75 : decode y_So_addOthers.2.1 75 = .ok (.iload 4, 2) := dc9_21 (by decide +kernel)
theorem d_So_addOthers_77 : decode y_So_addOthers.2.1 77 = .ok (.bipush 40, 2) := dc9_16 (by decide +kernel)
theorem d_So_addOthers_79 : decode y_So_addOthers.2.1 79 = .ok (.imul, 1) := dc9_104 (by decide +kernel)
theorem d_So_addOthers_80 : decode y_So_addOthers.2.1 80 = .ok (.iload_n 2, 1) := dc9_28 (by decide +kernel)
theorem d_So_addOthers_81 : decode y_So_addOthers.2.1 81 = .ok (.iadd, 1) := dc9_96 (by decide +kernel)
theorem d_So_addOthers_82 : decode y_So_addOthers.2.1 82 = .ok (.iastore, 1) := dc9_79 (by decide +kernel)
theorem d_So_addOthers_95 : decode y_So_addOthers.2.1 95 = .ok (.iinc 2 1, 3) := by decide +kernel
theorem d_So_addOthers_98 : decode y_So_addOthers.2.1 98 = .ok (.goto (-96), 3) := dc9_167 (by decide +kernel)
theorem d_So_addOthers_83 : decode y_So_addOthers.2.1 83 = .ok (.aload_n 0, 1) := dc9_42 (by decide +kernel)
theorem d_So_addOthers_84 : decode y_So_addOthers.2.1 84 = .ok (.iload 4, 2) := dc9_21 (by decide +kernel)
theorem d_So_addOthers_86 : decode y_So_addOthers.2.1 86 = .ok (.invokevirtual 214, 3) := dc9_182 (by decide +kernel)
theorem d_So_addOthers_89 : decode y_So_addOthers.2.1 89 = .ok (.iinc 4 1, 3) := by decide +kernel
theorem d_So_addOthers_92 : decode y_So_addOthers.2.1 92 = .ok (.goto (-67), 3) := dc9_167 (by decide +kernel)
def h_So_addOthers_2 (G : mG) (d : Nat) (a0 : Nat) (l1 : Int) (l2 : Int) (M : mM) (Q : mM → Prop) : Prop := mWm G y_So_addOthers (d + 1) 2 [vr a0, vi l1, vi l2, vd, vd] [] M (fun r9 M9 => r9 = none ∧ Q M9)
def h_So_addOthers_25 (G : mG) (d : Nat) (a0 : Nat) (l1 : Int) (l2 : Int) (l3 : Int) (l4 : Int) (M : mM) (Q : mM → Prop) : Prop := mWm G y_So_addOthers (d + 1) 25 [vr a0, vi l1, vi l2, vi l3, vi l4] [] M (fun r9 M9 => r9 = none ∧ Q M9)
theorem k_So_addOthers {G : mG} {d : Nat} {a0 : Nat} {l1 : Int} {M : mM} {Q : mM → Prop} (hO : mOk M) (hi_l1 : i32 l1)
    (h : h_So_addOthers_2 G d a0 l1 0 M Q) :
    Cv G y_So_addOthers (d + 1) [vr a0, vi l1] M Q := by
  refine wm_open (y := y_So_addOthers) rfl (Nat.le_of_ble_eq_true rfl) (L := [vr a0, vi l1, vd, vd, vd]) rfl ?_
  refine wm_iconst d_So_addOthers_0 ?_
  refine wm_istore_n d_So_addOthers_1 rfl (by decide) (L' := [vr a0, vi l1, vi 0, vd, vd]) rfl ?_
  exact h
theorem k_So_addOthers_2 {G : mG} {d : Nat} {a0 : Nat} {l1 : Int} {l2 : Int} {M : mM} {Q : mM → Prop} (hO : mOk M) (hi_l1 : i32 l1) (hi_l2 : i32 l2)
    (h : mK M a0 = 8 ∧ ((mI M a0 10 ≤ l2) → (Q M)) ∧ (¬ (mI M a0 10 ≤ l2) → (mK M (mR M a0 8) = 30 ∧ ((0 : Int) ≤ l2 ∧ l2 < (mN M (mR M a0 8) : Int)) ∧ mK M (mR M a0 5) = 30 ∧ ((0 : Int) ≤ mI M (mR M a0 8) (Int.toNat l2) ∧ mI M (mR M a0 8) (Int.toNat l2) < (mN M (mR M a0 5) : Int)) ∧ h_So_addOthers_25 G d a0 l1 l2 (mI M (mR M a0 8) (Int.toNat l2)) (mI M (mR M a0 5) (Int.toNat (mI M (mR M a0 8) (Int.toNat l2)))) M Q))) :
    h_So_addOthers_2 G d a0 l1 l2 M Q := by
  unfold h_So_addOthers_2
  obtain ⟨h1, h⟩ := h
  refine wm_iload_n d_So_addOthers_2 rfl rfl ?_
  refine wm_aload_n d_So_addOthers_3 rfl rfl ?_
  refine gf_So_122 rfl d_So_addOthers_4 h1 ?_
  refine wm_icmp_ge (tgt := 101) d_So_addOthers_7 rfl hi_l2 (hO _ _).1 (fun c7 => ?_) (fun c7 => ?_)
  · replace h := h.1 c7
    refine wm_return d_So_addOthers_101 rfl ?_
    exact ⟨rfl, h⟩
  · replace h := h.2 c7
    obtain ⟨h8, h⟩ := h
    obtain ⟨h9, h⟩ := h
    obtain ⟨h10, h⟩ := h
    obtain ⟨h11, h⟩ := h
    refine wm_aload_n d_So_addOthers_10 rfl rfl ?_
    refine gf_So_41 rfl d_So_addOthers_11 h1 ?_
    refine wm_iload_n d_So_addOthers_14 rfl rfl ?_
    refine wm_iald d_So_addOthers_15 h8 h9 ?_
    refine wm_istore_n d_So_addOthers_16 rfl (by decide) (L' := [vr a0, vi l1, vi l2, vi (mI M (mR M a0 8) (Int.toNat l2)), vd]) rfl ?_
    refine wm_aload_n d_So_addOthers_17 rfl rfl ?_
    refine gf_So_32 rfl d_So_addOthers_18 h1 ?_
    refine wm_iload_n d_So_addOthers_21 rfl rfl ?_
    refine wm_iald d_So_addOthers_22 h10 h11 ?_
    refine wm_istore d_So_addOthers_23 (by decide) (L' := [vr a0, vi l1, vi l2, vi (mI M (mR M a0 8) (Int.toNat l2)), vi (mI M (mR M a0 5) (Int.toNat (mI M (mR M a0 8) (Int.toNat l2))))]) rfl ?_
    exact h
theorem k_So_addOthers_25 {G : mG} {d : Nat} {a0 : Nat} {l1 : Int} {l2 : Int} {l3 : Int} {l4 : Int} {M : mM} {Q : mM → Prop} (hO : mOk M) (hi_l1 : i32 l1) (hi_l2 : i32 l2) (hi_l3 : i32 l3) (hi_l4 : i32 l4)
    (h : mK M a0 = 8 ∧ mK M (mR M a0 6) = 30 ∧ ((0 : Int) ≤ l3 ∧ l3 < (mN M (mR M a0 6) : Int)) ∧ (¬ (mI M (mR M a0 6) (Int.toNat l3) ≤ l4) → (mK M (mR M a0 3) = 7 ∧ mK M (mR M (mR M a0 3) 2) = 30 ∧ ((0 : Int) ≤ l3 ∧ l3 < (mN M (mR M (mR M a0 3) 2) : Int)))) ∧ (((mI M (mR M a0 6) (Int.toNat l3) ≤ l4) ∨ (¬ (mI M (mR M (mR M a0 3) 2) (Int.toNat l3) = l1))) → (h_So_addOthers_2 G d a0 l1 (l2 + 1) M Q)) ∧ (¬ ((mI M (mR M a0 6) (Int.toNat l3) ≤ l4) ∨ (¬ (mI M (mR M (mR M a0 3) 2) (Int.toNat l3) = l1))) → (mK M (mR M a0 9) = 30 ∧ ((0 : Int) ≤ l2 ∧ l2 < (mN M (mR M a0 9) : Int)) ∧ ((l4 = mI M (mR M a0 9) (Int.toNat l2)) → (Cv G y_So_addToDraw d [vr a0, vi l4] M (fun M35 => mOk M35 ∧ (h_So_addOthers_25 G d a0 l1 l2 l3 (l4 + 1) M35 Q)))) ∧ (¬ (l4 = mI M (mR M a0 9) (Int.toNat l2)) → (i32 ((mI M a0 12) + 1) ∧ ∀ M39, M39 = mUI M a0 12 ((mI M a0 12) + 1) → mK M39 (mR M a0 11) = 30 ∧ ((0 : Int) ≤ mI M a0 12 ∧ mI M a0 12 < (mN M39 (mR M a0 11) : Int)) ∧ i32 ((l4 * 40) + l2) ∧ ∀ M44, M44 = mUI M39 (mR M a0 11) (Int.toNat (mI M a0 12)) ((l4 * 40) + l2) → Cv G y_So_addToDraw d [vr a0, vi l4] M44 (fun M46 => mOk M46 ∧ (h_So_addOthers_25 G d a0 l1 l2 l3 (l4 + 1) M46 Q))))))) :
    h_So_addOthers_25 G d a0 l1 l2 l3 l4 M Q := by
  unfold h_So_addOthers_25
  obtain ⟨h12, h⟩ := h
  obtain ⟨h13, h⟩ := h
  obtain ⟨h14, h⟩ := h
  refine wm_iload d_So_addOthers_25 rfl ?_
  refine wm_aload_n d_So_addOthers_27 rfl rfl ?_
  refine gf_So_35 rfl d_So_addOthers_28 h12 ?_
  refine wm_iload_n d_So_addOthers_31 rfl rfl ?_
  refine wm_iald d_So_addOthers_32 h13 h14 ?_
  obtain ⟨s23, h⟩ := h
  have hE0 : ((mI M (mR M a0 6) (Int.toNat l3) ≤ l4) ∨ (¬ (mI M (mR M (mR M a0 3) 2) (Int.toNat l3) = l1))) → mWm G y_So_addOthers (d + 1) 95 [vr a0, vi l1, vi l2, vi l3, vi l4] [] M (fun r9 M9 => r9 = none ∧ Q M9) := by
    intro q24
    have h := h.1 q24
    refine wm_iinc d_So_addOthers_95 (by decide) rfl (L' := [vr a0, vi l1, vi (l2 + 1), vi l3, vi l4]) rfl ?_
    refine wm_goto (tgt := 2) d_So_addOthers_98 rfl ?_
    refine wm_less (L' := [vr a0, vi l1, vi (l2 + 1), vd, vd]) ⟨Or.inr rfl, Or.inr rfl, Or.inr rfl, Or.inl rfl, Or.inl rfl, trivial⟩ ?_
    exact h
  have hE1 : ¬ ((mI M (mR M a0 6) (Int.toNat l3) ≤ l4) ∨ (¬ (mI M (mR M (mR M a0 3) 2) (Int.toNat l3) = l1))) → mWm G y_So_addOthers (d + 1) 49 [vr a0, vi l1, vi l2, vi l3, vi l4] [] M (fun r9 M9 => r9 = none ∧ Q M9) := by
    intro q25
    have h := h.2 q25
    obtain ⟨h26, h⟩ := h
    obtain ⟨h27, h⟩ := h
    refine wm_iload d_So_addOthers_49 rfl ?_
    refine wm_aload_n d_So_addOthers_51 rfl rfl ?_
    refine gf_So_44 rfl d_So_addOthers_52 h12 ?_
    refine wm_iload_n d_So_addOthers_55 rfl rfl ?_
    refine wm_iald d_So_addOthers_56 h26 h27 ?_
    refine wm_icmp_eq (tgt := 83) d_So_addOthers_57 rfl hi_l4 (hO _ _).1 (fun c34 => ?_) (fun c34 => ?_)
    · replace h := h.1 c34
      refine wm_aload_n d_So_addOthers_83 rfl rfl ?_
      refine wm_iload d_So_addOthers_84 rfl ?_
      refine cf_So_214 rfl d_So_addOthers_86 h12 (Nat.le_of_ble_eq_true rfl) (Cv.mono h (fun M35 h => ?_))
      obtain ⟨hOM35, h⟩ := h
      refine wm_iinc d_So_addOthers_89 (by decide) rfl (L' := [vr a0, vi l1, vi l2, vi l3, vi (l4 + 1)]) rfl ?_
      refine wm_goto (tgt := 25) d_So_addOthers_92 rfl ?_
      exact h
    · replace h := h.2 c34
      obtain ⟨h38, h⟩ := h
      obtain ⟨M39, e40⟩ : ∃ M39, M39 = mUI M a0 12 ((mI M a0 12) + 1) := ⟨_, rfl⟩
      replace h := h M39 e40
      obtain ⟨h41, h⟩ := h
      obtain ⟨h42, h⟩ := h
      obtain ⟨h43, h⟩ := h
      obtain ⟨M44, e45⟩ : ∃ M44, M44 = mUI M39 (mR M a0 11) (Int.toNat (mI M a0 12)) ((l4 * 40) + l2) := ⟨_, rfl⟩
      replace h := h M44 e45
      refine wm_aload_n d_So_addOthers_60 rfl rfl ?_
      refine gf_So_47 rfl d_So_addOthers_61 h12 ?_
      refine wm_aload_n d_So_addOthers_64 rfl rfl ?_
      refine wm_dup d_So_addOthers_65 rfl ?_
      refine gf_So_198 rfl d_So_addOthers_66 h12 ?_
      refine wm_dup_x1 d_So_addOthers_69 rfl rfl ?_
      refine wm_iconst d_So_addOthers_70 ?_
      refine wm_iadd d_So_addOthers_71 ?_
      have hOM39 : mOk M39 := by rw [e40]; exact mOk_UI hO h38
      refine pf_So_198 rfl d_So_addOthers_72 h12 h38 e40 ?_
      refine wm_iload d_So_addOthers_75 rfl ?_
      refine wm_bipush d_So_addOthers_77 (by decide) ?_
      refine wm_imul d_So_addOthers_79 ?_
      refine wm_iload_n d_So_addOthers_80 rfl rfl ?_
      refine wm_iadd d_So_addOthers_81 ?_
      have hOM44 : mOk M44 := by rw [e45]; exact mOk_UI hOM39 h43
      refine wm_iastE d_So_addOthers_82 h41 h42 h43 e45 ?_
      refine wm_aload_n d_So_addOthers_83 rfl rfl ?_
      refine wm_iload d_So_addOthers_84 rfl ?_
      refine cf_So_214 rfl d_So_addOthers_86 (by rw [e45, e40]; exact h12) (Nat.le_of_ble_eq_true rfl) (Cv.mono h (fun M46 h => ?_))
      obtain ⟨hOM46, h⟩ := h
      refine wm_iinc d_So_addOthers_89 (by decide) rfl (L' := [vr a0, vi l1, vi l2, vi l3, vi (l4 + 1)]) rfl ?_
      refine wm_goto (tgt := 25) d_So_addOthers_92 rfl ?_
      exact h
  clear h
  have s49 := s23
  refine wm_icmp_ge (tgt := 95) d_So_addOthers_33 rfl hi_l4 (hO _ _).1 (fun c22 => ?_) (fun c22 => ?_)
  · exact hE0 (Or.inl c22)
  · have s49 := s49 c22
    obtain ⟨h15, h16, h17⟩ := s49
    refine wm_aload_n d_So_addOthers_36 rfl rfl ?_
    refine gf_So_64 rfl d_So_addOthers_37 h12 ?_
    refine gf_So_113 rfl d_So_addOthers_40 h15 ?_
    refine wm_iload_n d_So_addOthers_43 rfl rfl ?_
    refine wm_iald d_So_addOthers_44 h16 h17 ?_
    refine wm_iload_n d_So_addOthers_45 rfl rfl ?_
    refine wm_icmp_ne (tgt := 95) d_So_addOthers_46 rfl (hO _ _).1 hi_l1 (fun c21 => ?_) (fun c21 => ?_)
    · exact hE0 (Or.inr c21)
    · replace c21 := Classical.not_not.mp c21
      exact hE1 (fun z50 => Or.elim z50 c22 (fun z51 => z51 c21))
theorem d_So_addToDraw_0 : decode y_So_addToDraw.2.1 0 = .ok (.aload_n 0, 1) := dc9_42 (by decide +kernel)
theorem d_So_addToDraw_1 : decode y_So_addToDraw.2.1 1 = .ok (.getfield 64, 3) := dc9_180 (by decide +kernel)
theorem d_So_addToDraw_4 : decode y_So_addToDraw.2.1 4 = .ok (.getfield 139, 3) := dc9_180 (by decide +kernel)
theorem d_So_addToDraw_7 : decode y_So_addToDraw.2.1 7 = .ok (.iload_n 1, 1) := dc9_27 (by decide +kernel)
theorem d_So_addToDraw_8 : decode y_So_addToDraw.2.1 8 = .ok (.iaload, 1) := dc9_46 (by decide +kernel)
theorem d_So_addToDraw_9 : decode y_So_addToDraw.2.1 9 = .ok (.istore_n 2, 1) := dc9_61 (by decide +kernel)
theorem d_So_addToDraw_10 : decode y_So_addToDraw.2.1 10 = .ok (.iload_n 2, 1) := dc9_28 (by decide +kernel)
theorem d_So_addToDraw_11 : decode y_So_addToDraw.2.1 11 = .ok (.aload_n 0, 1) := dc9_42 (by decide +kernel)
theorem d_So_addToDraw_12 : decode y_So_addToDraw.2.1 12 = .ok (.getfield 64, 3) := dc9_180 (by decide +kernel)
theorem d_So_addToDraw_15 : decode y_So_addToDraw.2.1 15 = .ok (.getfield 139, 3) := dc9_180 (by decide +kernel)
theorem d_So_addToDraw_18 : decode y_So_addToDraw.2.1 18 = .ok (.iload_n 1, 1) := dc9_27 (by decide +kernel)
theorem d_So_addToDraw_19 : decode y_So_addToDraw.2.1 19 = .ok (.iconst 1, 1) := dc9_4 (by decide +kernel)
theorem d_So_addToDraw_20 : decode y_So_addToDraw.2.1 20 = .ok (.iadd, 1) := dc9_96 (by decide +kernel)
theorem d_So_addToDraw_21 : decode y_So_addToDraw.2.1 21 = .ok (.iaload, 1) := dc9_46 (by decide +kernel)
theorem d_So_addToDraw_22 : decode y_So_addToDraw.2.1 22 = .ok (.if_icmp .ge 55, 3) := dc9_162 (by decide +kernel)
theorem d_So_addToDraw_77 : decode y_So_addToDraw.2.1 77 = .ok (.return_, 1) := dc9_177 (by decide +kernel)
theorem d_So_addToDraw_25 : decode y_So_addToDraw.2.1 25 = .ok (.aload_n 0, 1) := dc9_42 (by decide +kernel)
theorem d_So_addToDraw_26 : decode y_So_addToDraw.2.1 26 = .ok (.aload_n 0, 1) := dc9_42 (by decide +kernel)
theorem d_So_addToDraw_27 : decode y_So_addToDraw.2.1 27 = .ok (.getfield 201, 3) := dc9_180 (by decide +kernel)
theorem d_So_addToDraw_30 : decode y_So_addToDraw.2.1 30 = .ok (.ldc2_w 217, 3) := dc9_20 (by decide +kernel)
theorem d_So_addToDraw_33 : decode y_So_addToDraw.2.1 33 = .ok (.lmul, 1) := dc9_105 (by decide +kernel)
theorem d_So_addToDraw_34 : decode y_So_addToDraw.2.1 34 = .ok (.aload_n 0, 1) := dc9_42 (by decide +kernel)
theorem d_So_addToDraw_35 : decode y_So_addToDraw.2.1 35 = .ok (.getfield 64, 3) := dc9_180 (by decide +kernel)
theorem d_So_addToDraw_38 : decode y_So_addToDraw.2.1 38 = .ok (.getfield 162, 3) := dc9_180 (by decide +kernel)
theorem d_So_addToDraw_41 : decode y_So_addToDraw.2.1 41 = .ok (.iload_n 2, 1) := dc9_28 (by decide +kernel)
theorem d_So_addToDraw_42 : decode y_So_addToDraw.2.1 42 = .ok (.iaload, 1) := dc9_46 (by decide +kernel)
theorem d_So_addToDraw_43 : decode y_So_addToDraw.2.1 43 = .ok (.i2l, 1) := dc9_133 (by decide +kernel)
theorem d_So_addToDraw_44 : decode y_So_addToDraw.2.1 44 = .ok (.ladd, 1) := dc9_97 (by decide +kernel)
theorem d_So_addToDraw_45 : decode y_So_addToDraw.2.1 45 = .ok (.putfield 201, 3) := dc9_181 (by decide +kernel)
theorem d_So_addToDraw_48 : decode y_So_addToDraw.2.1 48 = .ok (.aload_n 0, 1) := dc9_42 (by decide +kernel)
theorem d_So_addToDraw_49 : decode y_So_addToDraw.2.1 49 = .ok (.aload_n 0, 1) := dc9_42 (by decide +kernel)
theorem d_So_addToDraw_50 : decode y_So_addToDraw.2.1 50 = .ok (.getfield 201, 3) := dc9_180 (by decide +kernel)
theorem d_So_addToDraw_53 : decode y_So_addToDraw.2.1 53 = .ok (.ldc2_w 217, 3) := dc9_20 (by decide +kernel)
theorem d_So_addToDraw_56 : decode y_So_addToDraw.2.1 56 = .ok (.lmul, 1) := dc9_105 (by decide +kernel)
theorem d_So_addToDraw_57 : decode y_So_addToDraw.2.1 57 = .ok (.aload_n 0, 1) := dc9_42 (by decide +kernel)
theorem d_So_addToDraw_58 : decode y_So_addToDraw.2.1 58 = .ok (.getfield 64, 3) := dc9_180 (by decide +kernel)
theorem d_So_addToDraw_61 : decode y_So_addToDraw.2.1 61 = .ok (.getfield 142, 3) := dc9_180 (by decide +kernel)
theorem d_So_addToDraw_64 : decode y_So_addToDraw.2.1 64 = .ok (.iload_n 2, 1) := dc9_28 (by decide +kernel)
theorem d_So_addToDraw_65 : decode y_So_addToDraw.2.1 65 = .ok (.iaload, 1) := dc9_46 (by decide +kernel)
theorem d_So_addToDraw_66 : decode y_So_addToDraw.2.1 66 = .ok (.i2l, 1) := dc9_133 (by decide +kernel)
theorem d_So_addToDraw_67 : decode y_So_addToDraw.2.1 67 = .ok (.ladd, 1) := dc9_97 (by decide +kernel)
theorem d_So_addToDraw_68 : decode y_So_addToDraw.2.1 68 = .ok (.putfield 201, 3) := dc9_181 (by decide +kernel)
theorem d_So_addToDraw_71 : decode y_So_addToDraw.2.1 71 = .ok (.iinc 2 1, 3) := by decide +kernel
theorem d_So_addToDraw_74 : decode y_So_addToDraw.2.1 74 = .ok (.goto (-64), 3) := dc9_167 (by decide +kernel)
def h_So_addToDraw_10 (G : mG) (d : Nat) (a0 : Nat) (l1 : Int) (l2 : Int) (M : mM) (Q : mM → Prop) : Prop := mWm G y_So_addToDraw d 10 [vr a0, vi l1, vi l2] [] M (fun r9 M9 => r9 = none ∧ Q M9)
theorem k_So_addToDraw {G : mG} {d : Nat} {a0 : Nat} {l1 : Int} {M : mM} {Q : mM → Prop} (hO : mOk M) (hi_l1 : i32 l1)
    (h : mK M a0 = 8 ∧ mK M (mR M a0 3) = 7 ∧ mK M (mR M (mR M a0 3) 7) = 30 ∧ ((0 : Int) ≤ l1 ∧ l1 < (mN M (mR M (mR M a0 3) 7) : Int)) ∧ h_So_addToDraw_10 G d a0 l1 (mI M (mR M (mR M a0 3) 7) (Int.toNat l1)) M Q) :
    Cv G y_So_addToDraw d [vr a0, vi l1] M Q := by
  refine wm_open (y := y_So_addToDraw) rfl (Nat.le_of_ble_eq_true rfl) (L := [vr a0, vi l1, vd]) rfl ?_
  obtain ⟨h1, h⟩ := h
  obtain ⟨h2, h⟩ := h
  obtain ⟨h3, h⟩ := h
  obtain ⟨h4, h⟩ := h
  refine wm_aload_n d_So_addToDraw_0 rfl rfl ?_
  refine gf_So_64 rfl d_So_addToDraw_1 h1 ?_
  refine gf_So_139 rfl d_So_addToDraw_4 h2 ?_
  refine wm_iload_n d_So_addToDraw_7 rfl rfl ?_
  refine wm_iald d_So_addToDraw_8 h3 h4 ?_
  refine wm_istore_n d_So_addToDraw_9 rfl (by decide) (L' := [vr a0, vi l1, vi (mI M (mR M (mR M a0 3) 7) (Int.toNat l1))]) rfl ?_
  exact h
theorem k_So_addToDraw_10 {G : mG} {d : Nat} {a0 : Nat} {l1 : Int} {l2 : Int} {M : mM} {Q : mM → Prop} (hO : mOk M) (hi_l1 : i32 l1) (hi_l2 : i32 l2)
    (h : mK M a0 = 8 ∧ mK M (mR M a0 3) = 7 ∧ mK M (mR M (mR M a0 3) 7) = 30 ∧ ((0 : Int) ≤ l1 + 1 ∧ l1 + 1 < (mN M (mR M (mR M a0 3) 7) : Int)) ∧ ((mI M (mR M (mR M a0 3) 7) (Int.toNat (l1 + 1)) ≤ l2) → (Q M)) ∧ (¬ (mI M (mR M (mR M a0 3) 7) (Int.toNat (l1 + 1)) ≤ l2) → (mK M (mR M (mR M a0 3) 9) = 30 ∧ ((0 : Int) ≤ l2 ∧ l2 < (mN M (mR M (mR M a0 3) 9) : Int)) ∧ ∀ M13, M13 = mUL M a0 14 (w64 (((mL M a0 14) * 6364136223846793005) + (mI M (mR M (mR M a0 3) 9) (Int.toNat l2)))) → mK M13 (mR M13 a0 3) = 7 ∧ mK M13 (mR M13 (mR M13 a0 3) 8) = 30 ∧ ((0 : Int) ≤ l2 ∧ l2 < (mN M13 (mR M13 (mR M13 a0 3) 8) : Int)) ∧ ∀ M18, M18 = mUL M13 a0 14 (w64 (((mL M13 a0 14) * 6364136223846793005) + (mI M13 (mR M13 (mR M13 a0 3) 8) (Int.toNat l2)))) → h_So_addToDraw_10 G d a0 l1 (l2 + 1) M18 Q))) :
    h_So_addToDraw_10 G d a0 l1 l2 M Q := by
  unfold h_So_addToDraw_10
  obtain ⟨h5, h⟩ := h
  obtain ⟨h6, h⟩ := h
  obtain ⟨h7, h⟩ := h
  obtain ⟨h8, h⟩ := h
  refine wm_iload_n d_So_addToDraw_10 rfl rfl ?_
  refine wm_aload_n d_So_addToDraw_11 rfl rfl ?_
  refine gf_So_64 rfl d_So_addToDraw_12 h5 ?_
  refine gf_So_139 rfl d_So_addToDraw_15 h6 ?_
  refine wm_iload_n d_So_addToDraw_18 rfl rfl ?_
  refine wm_iconst d_So_addToDraw_19 ?_
  refine wm_iadd d_So_addToDraw_20 ?_
  refine wm_iald d_So_addToDraw_21 h7 h8 ?_
  refine wm_icmp_ge (tgt := 77) d_So_addToDraw_22 rfl hi_l2 (hO _ _).1 (fun c10 => ?_) (fun c10 => ?_)
  · replace h := h.1 c10
    refine wm_return d_So_addToDraw_77 rfl ?_
    exact ⟨rfl, h⟩
  · replace h := h.2 c10
    obtain ⟨h11, h⟩ := h
    obtain ⟨h12, h⟩ := h
    obtain ⟨M13, e14⟩ : ∃ M13, M13 = mUL M a0 14 (w64 (((mL M a0 14) * 6364136223846793005) + (mI M (mR M (mR M a0 3) 9) (Int.toNat l2)))) := ⟨_, rfl⟩
    replace h := h M13 e14
    obtain ⟨h15, h⟩ := h
    obtain ⟨h16, h⟩ := h
    obtain ⟨h17, h⟩ := h
    obtain ⟨M18, e19⟩ : ∃ M18, M18 = mUL M13 a0 14 (w64 (((mL M13 a0 14) * 6364136223846793005) + (mI M13 (mR M13 (mR M13 a0 3) 8) (Int.toNat l2)))) := ⟨_, rfl⟩
    replace h := h M18 e19
    refine wm_aload_n d_So_addToDraw_25 rfl rfl ?_
    refine wm_aload_n d_So_addToDraw_26 rfl rfl ?_
    refine gf_So_201 rfl d_So_addToDraw_27 h5 ?_
    refine wm_ldc2 (x := 6364136223846793005) d_So_addToDraw_30 k8_176 (by decide) ?_
    refine wm_lmul d_So_addToDraw_33 ?_
    refine wm_aload_n d_So_addToDraw_34 rfl rfl ?_
    refine gf_So_64 rfl d_So_addToDraw_35 h5 ?_
    refine gf_So_162 rfl d_So_addToDraw_38 h6 ?_
    refine wm_iload_n d_So_addToDraw_41 rfl rfl ?_
    refine wm_iald d_So_addToDraw_42 h11 h12 ?_
    refine wm_i2l d_So_addToDraw_43 (hO _ _).1 ?_
    refine wm_ladd d_So_addToDraw_44 ?_
    have hOM13 : mOk M13 := by rw [e14]; exact mOk_UL hO i64_w64
    refine pf_So_201 rfl d_So_addToDraw_45 h5 e14 ?_
    refine wm_aload_n d_So_addToDraw_48 rfl rfl ?_
    refine wm_aload_n d_So_addToDraw_49 rfl rfl ?_
    refine gf_So_201 rfl d_So_addToDraw_50 (by rw [e14]; exact h5) ?_
    refine wm_ldc2 (x := 6364136223846793005) d_So_addToDraw_53 k8_176 (by decide) ?_
    refine wm_lmul d_So_addToDraw_56 ?_
    refine wm_aload_n d_So_addToDraw_57 rfl rfl ?_
    refine gf_So_64 rfl d_So_addToDraw_58 (by rw [e14]; exact h5) ?_
    refine gf_So_142 rfl d_So_addToDraw_61 h15 ?_
    refine wm_iload_n d_So_addToDraw_64 rfl rfl ?_
    refine wm_iald d_So_addToDraw_65 h16 h17 ?_
    refine wm_i2l d_So_addToDraw_66 (hOM13 _ _).1 ?_
    refine wm_ladd d_So_addToDraw_67 ?_
    have hOM18 : mOk M18 := by rw [e19]; exact mOk_UL hOM13 i64_w64
    refine pf_So_201 rfl d_So_addToDraw_68 (by rw [e14]; exact h5) e19 ?_
    refine wm_iinc d_So_addToDraw_71 (by decide) rfl (L' := [vr a0, vi l1, vi (l2 + 1)]) rfl ?_
    refine wm_goto (tgt := 10) d_So_addToDraw_74 rfl ?_
    exact h
theorem d_So_mix_0 : decode y_So_mix.2.1 0 = .ok (.iload_n 2, 1) := dc9_28 (by decide +kernel)
theorem d_So_mix_1 : decode y_So_mix.2.1 1 = .ok (.iconst 1, 1) := dc9_4 (by decide +kernel)
theorem d_So_mix_2 : decode y_So_mix.2.1 2 = .ok (.isub, 1) := dc9_100 (by decide +kernel)
theorem d_So_mix_3 : decode y_So_mix.2.1 3 = .ok (.istore_n 3, 1) := dc9_62 (by decide +kernel)
theorem d_So_mix_4 : decode y_So_mix.2.1 4 = .ok (.iload_n 3, 1) := dc9_29 (by decide +kernel)
theorem d_So_mix_5 : decode y_So_mix.2.1 5 = .ok (.iload_n 1, 1) := dc9_27 (by decide +kernel)
theorem d_So_mix_6 : decode y_So_mix.2.1 6 = .ok (.if_icmp .le 74, 3) := dc9_164 (by decide +kernel)
theorem d_So_mix_80 : decode y_So_mix.2.1 80 = .ok (.return_, 1) := dc9_177 (by decide +kernel)
theorem d_So_mix_9 : decode y_So_mix.2.1 9 = .ok (.aload_n 0, 1) := dc9_42 (by decide +kernel)
theorem d_So_mix_10 : decode y_So_mix.2.1 10 = .ok (.aload_n 0, 1) := dc9_42 (by decide +kernel)
theorem d_So_mix_11 : decode y_So_mix.2.1 11 = .ok (.getfield 201, 3) := dc9_180 (by decide +kernel)
theorem d_So_mix_14 : decode y_So_mix.2.1 14 = .ok (.ldc2_w 217, 3) := dc9_20 (by decide +kernel)
theorem d_So_mix_17 : decode y_So_mix.2.1 17 = .ok (.lmul, 1) := dc9_105 (by decide +kernel)
theorem d_So_mix_18 : decode y_So_mix.2.1 18 = .ok (.ldc2_w 219, 3) := dc9_20 (by decide +kernel)
theorem d_So_mix_21 : decode y_So_mix.2.1 21 = .ok (.ladd, 1) := dc9_97 (by decide +kernel)
theorem d_So_mix_22 : decode y_So_mix.2.1 22 = .ok (.putfield 201, 3) := dc9_181 (by decide +kernel)
theorem d_So_mix_25 : decode y_So_mix.2.1 25 = .ok (.iload_n 1, 1) := dc9_27 (by decide +kernel)
theorem d_So_mix_26 : decode y_So_mix.2.1 26 = .ok (.aload_n 0, 1) := dc9_42 (by decide +kernel)
theorem d_So_mix_27 : decode y_So_mix.2.1 27 = .ok (.getfield 201, 3) := dc9_180 (by decide +kernel)
theorem d_So_mix_30 : decode y_So_mix.2.1 30 = .ok (.bipush 33, 2) := dc9_16 (by decide +kernel)
theorem d_So_mix_32 : decode y_So_mix.2.1 32 = .ok (.lushr, 1) := dc9_125 (by decide +kernel)
theorem d_So_mix_33 : decode y_So_mix.2.1 33 = .ok (.iload_n 3, 1) := dc9_29 (by decide +kernel)
theorem d_So_mix_34 : decode y_So_mix.2.1 34 = .ok (.iload_n 1, 1) := dc9_27 (by decide +kernel)
theorem d_So_mix_35 : decode y_So_mix.2.1 35 = .ok (.isub, 1) := dc9_100 (by decide +kernel)
theorem d_So_mix_36 : decode y_So_mix.2.1 36 = .ok (.iconst 1, 1) := dc9_4 (by decide +kernel)
theorem d_So_mix_37 : decode y_So_mix.2.1 37 = .ok (.iadd, 1) := dc9_96 (by decide +kernel)
theorem d_So_mix_38 : decode y_So_mix.2.1 38 = .ok (.i2l, 1) := dc9_133 (by decide +kernel)
theorem d_So_mix_39 : decode y_So_mix.2.1 39 = .ok (.lrem, 1) := dc9_113 (by decide +kernel)
theorem d_So_mix_40 : decode y_So_mix.2.1 40 = .ok (.l2i, 1) := dc9_136 (by decide +kernel)
theorem d_So_mix_41 : decode y_So_mix.2.1 41 = .ok (.iadd, 1) := dc9_96 (by decide +kernel)
theorem d_So_mix_42 : decode y_So_mix.2.1 42 = .ok (.istore 4, 2) := dc9_54 (by decide +kernel)
theorem d_So_mix_44 : decode y_So_mix.2.1 44 = .ok (.aload_n 0, 1) := dc9_42 (by decide +kernel)
theorem d_So_mix_45 : decode y_So_mix.2.1 45 = .ok (.getfield 47, 3) := dc9_180 (by decide +kernel)
theorem d_So_mix_48 : decode y_So_mix.2.1 48 = .ok (.iload_n 3, 1) := dc9_29 (by decide +kernel)
theorem d_So_mix_49 : decode y_So_mix.2.1 49 = .ok (.iaload, 1) := dc9_46 (by decide +kernel)
theorem d_So_mix_50 : decode y_So_mix.2.1 50 = .ok (.istore 5, 2) := dc9_54 (by decide +kernel)
theorem d_So_mix_52 : decode y_So_mix.2.1 52 = .ok (.aload_n 0, 1) := dc9_42 (by decide +kernel)
theorem d_So_mix_53 : decode y_So_mix.2.1 53 = .ok (.getfield 47, 3) := dc9_180 (by decide +kernel)
theorem d_So_mix_56 : decode y_So_mix.2.1 56 = .ok (.iload_n 3, 1) := dc9_29 (by decide +kernel)
theorem d_So_mix_57 : decode y_So_mix.2.1 57 = .ok (.aload_n 0, 1) := dc9_42 (by decide +kernel)
theorem d_So_mix_58 : decode y_So_mix.2.1 58 = .ok (.getfield 47, 3) := dc9_180 (by decide +kernel)
theorem d_So_mix_61 : decode y_So_mix.2.1 61 = .ok (.iload 4, 2) := dc9_21 (by decide +kernel)
theorem d_So_mix_63 : decode y_So_mix.2.1 63 = .ok (.iaload, 1) := dc9_46 (by decide +kernel)
theorem d_So_mix_64 : decode y_So_mix.2.1 64 = .ok (.iastore, 1) := dc9_79 (by decide +kernel)
theorem d_So_mix_65 : decode y_So_mix.2.1 65 = .ok (.aload_n 0, 1) := dc9_42 (by decide +kernel)
theorem d_So_mix_66 : decode y_So_mix.2.1 66 = .ok (.getfield 47, 3) := dc9_180 (by decide +kernel)
theorem d_So_mix_69 : decode y_So_mix.2.1 69 = .ok (.iload 4, 2) := dc9_21 (by decide +kernel)
theorem d_So_mix_71 : decode y_So_mix.2.1 71 = .ok (.iload 5, 2) := dc9_21 (by decide +kernel)
theorem d_So_mix_73 : decode y_So_mix.2.1 73 = .ok (.iastore, 1) := dc9_79 (by decide +kernel)
theorem d_So_mix_74 : decode y_So_mix.2.1 74 = .ok (.iinc 3 (-1), 3) := by decide +kernel
theorem d_So_mix_77 : decode y_So_mix.2.1 77 = .ok (.goto (-73), 3) := dc9_167 (by decide +kernel)
def h_So_mix_4 (G : mG) (d : Nat) (a0 : Nat) (l1 : Int) (l3 : Int) (M : mM) (Q : mM → Prop) : Prop := mWm G y_So_mix d 4 [vr a0, vi l1, vd, vi l3, vd, vd] [] M (fun r9 M9 => r9 = none ∧ Q M9)
theorem k_So_mix {G : mG} {d : Nat} {a0 : Nat} {l1 : Int} {l2 : Int} {M : mM} {Q : mM → Prop} (hO : mOk M) (hi_l1 : i32 l1) (hi_l2 : i32 l2)
    (h : h_So_mix_4 G d a0 l1 (l2 - 1) M Q) :
    Cv G y_So_mix d [vr a0, vi l1, vi l2] M Q := by
  refine wm_open (y := y_So_mix) rfl (Nat.le_of_ble_eq_true rfl) (L := [vr a0, vi l1, vi l2, vd, vd, vd]) rfl ?_
  refine wm_iload_n d_So_mix_0 rfl rfl ?_
  refine wm_iconst d_So_mix_1 ?_
  refine wm_isub d_So_mix_2 ?_
  refine wm_istore_n d_So_mix_3 rfl (by decide) (L' := [vr a0, vi l1, vi l2, vi (l2 - 1), vd, vd]) rfl ?_
  refine wm_less (L' := [vr a0, vi l1, vd, vi (l2 - 1), vd, vd]) ⟨Or.inr rfl, Or.inr rfl, Or.inl rfl, Or.inr rfl, Or.inl rfl, Or.inl rfl, trivial⟩ ?_
  exact h
theorem k_So_mix_4 {G : mG} {d : Nat} {a0 : Nat} {l1 : Int} {l3 : Int} {M : mM} {Q : mM → Prop} (hO : mOk M) (hi_l1 : i32 l1) (hi_l3 : i32 l3)
    (h : ((l3 ≤ l1) → (Q M)) ∧ (¬ (l3 ≤ l1) → (mK M a0 = 8 ∧ ∀ M4, M4 = mUL M a0 14 (w64 (((mL M a0 14) * 6364136223846793005) + 1442695040888963407)) → i32 ((l3 - l1) + 1) ∧ ((l3 - l1) + 1) ≠ 0 ∧ mK M4 (mR M4 a0 11) = 30 ∧ ((0 : Int) ≤ l3 ∧ l3 < (mN M4 (mR M4 a0 11) : Int)) ∧ ((0 : Int) ≤ l1 + (Int.tmod (ushrL (mL M4 a0 14) 33) ((l3 - l1) + 1)) ∧ l1 + (Int.tmod (ushrL (mL M4 a0 14) 33) ((l3 - l1) + 1)) < (mN M4 (mR M4 a0 11) : Int)) ∧ ((0 : Int) ≤ l3 ∧ l3 < (mN M4 (mR M4 a0 11) : Int)) ∧ ∀ M12, M12 = mUI M4 (mR M4 a0 11) (Int.toNat l3) (mI M4 (mR M4 a0 11) (Int.toNat (l1 + (Int.tmod (ushrL (mL M4 a0 14) 33) ((l3 - l1) + 1))))) → mK M12 (mR M12 a0 11) = 30 ∧ ((0 : Int) ≤ l1 + (Int.tmod (ushrL (mL M4 a0 14) 33) ((l3 - l1) + 1)) ∧ l1 + (Int.tmod (ushrL (mL M4 a0 14) 33) ((l3 - l1) + 1)) < (mN M12 (mR M12 a0 11) : Int)) ∧ ∀ M16, M16 = mUI M12 (mR M12 a0 11) (Int.toNat (l1 + (Int.tmod (ushrL (mL M4 a0 14) 33) ((l3 - l1) + 1)))) (mI M4 (mR M4 a0 11) (Int.toNat l3)) → h_So_mix_4 G d a0 l1 (l3 + (-1)) M16 Q))) :
    h_So_mix_4 G d a0 l1 l3 M Q := by
  unfold h_So_mix_4
  refine wm_iload_n d_So_mix_4 rfl rfl ?_
  refine wm_iload_n d_So_mix_5 rfl rfl ?_
  refine wm_icmp_le (tgt := 80) d_So_mix_6 rfl hi_l3 hi_l1 (fun c2 => ?_) (fun c2 => ?_)
  · replace h := h.1 c2
    refine wm_return d_So_mix_80 rfl ?_
    exact ⟨rfl, h⟩
  · replace h := h.2 c2
    obtain ⟨h3, h⟩ := h
    obtain ⟨M4, e5⟩ : ∃ M4, M4 = mUL M a0 14 (w64 (((mL M a0 14) * 6364136223846793005) + 1442695040888963407)) := ⟨_, rfl⟩
    replace h := h M4 e5
    obtain ⟨h6, h⟩ := h
    obtain ⟨h7, h⟩ := h
    obtain ⟨h8, h⟩ := h
    obtain ⟨h9, h⟩ := h
    obtain ⟨h10, h⟩ := h
    obtain ⟨h11, h⟩ := h
    obtain ⟨M12, e13⟩ : ∃ M12, M12 = mUI M4 (mR M4 a0 11) (Int.toNat l3) (mI M4 (mR M4 a0 11) (Int.toNat (l1 + (Int.tmod (ushrL (mL M4 a0 14) 33) ((l3 - l1) + 1))))) := ⟨_, rfl⟩
    replace h := h M12 e13
    obtain ⟨h14, h⟩ := h
    obtain ⟨h15, h⟩ := h
    obtain ⟨M16, e17⟩ : ∃ M16, M16 = mUI M12 (mR M12 a0 11) (Int.toNat (l1 + (Int.tmod (ushrL (mL M4 a0 14) 33) ((l3 - l1) + 1)))) (mI M4 (mR M4 a0 11) (Int.toNat l3)) := ⟨_, rfl⟩
    replace h := h M16 e17
    refine wm_aload_n d_So_mix_9 rfl rfl ?_
    refine wm_aload_n d_So_mix_10 rfl rfl ?_
    refine gf_So_201 rfl d_So_mix_11 h3 ?_
    refine wm_ldc2 (x := 6364136223846793005) d_So_mix_14 k8_176 (by decide) ?_
    refine wm_lmul d_So_mix_17 ?_
    refine wm_ldc2 (x := 1442695040888963407) d_So_mix_18 k8_181 (by decide) ?_
    refine wm_ladd d_So_mix_21 ?_
    have hOM4 : mOk M4 := by rw [e5]; exact mOk_UL hO i64_w64
    refine pf_So_201 rfl d_So_mix_22 h3 e5 ?_
    refine wm_iload_n d_So_mix_25 rfl rfl ?_
    refine wm_aload_n d_So_mix_26 rfl rfl ?_
    refine gf_So_201 rfl d_So_mix_27 (by rw [e5]; exact h3) ?_
    refine wm_bipush d_So_mix_30 (by decide) ?_
    refine wm_lushr d_So_mix_32 ?_
    refine wm_iload_n d_So_mix_33 rfl rfl ?_
    refine wm_iload_n d_So_mix_34 rfl rfl ?_
    refine wm_isub d_So_mix_35 ?_
    refine wm_iconst d_So_mix_36 ?_
    refine wm_iadd d_So_mix_37 ?_
    refine wm_i2l d_So_mix_38 h6 ?_
    refine wm_lrem d_So_mix_39 (m_i64 _) (i64_of32 h6) h7 ?_
    refine wm_l2i d_So_mix_40 ?_
    refine wm_iadd d_So_mix_41 ?_
    refine wm_istore d_So_mix_42 (by decide) (L' := [vr a0, vi l1, vd, vi l3, vi (l1 + (Int.tmod (ushrL (mL M4 a0 14) 33) ((l3 - l1) + 1))), vd]) rfl ?_
    refine wm_aload_n d_So_mix_44 rfl rfl ?_
    refine gf_So_47 rfl d_So_mix_45 (by rw [e5]; exact h3) ?_
    refine wm_iload_n d_So_mix_48 rfl rfl ?_
    refine wm_iald d_So_mix_49 h8 h9 ?_
    refine wm_istore d_So_mix_50 (by decide) (L' := [vr a0, vi l1, vd, vi l3, vi (l1 + (Int.tmod (ushrL (mL M4 a0 14) 33) ((l3 - l1) + 1))), vi (mI M4 (mR M4 a0 11) (Int.toNat l3))]) rfl ?_
    refine wm_aload_n d_So_mix_52 rfl rfl ?_
    refine gf_So_47 rfl d_So_mix_53 (by rw [e5]; exact h3) ?_
    refine wm_iload_n d_So_mix_56 rfl rfl ?_
    refine wm_aload_n d_So_mix_57 rfl rfl ?_
    refine gf_So_47 rfl d_So_mix_58 (by rw [e5]; exact h3) ?_
    refine wm_iload d_So_mix_61 rfl ?_
    refine wm_iald d_So_mix_63 h8 h10 ?_
    have hOM12 : mOk M12 := by rw [e13]; exact mOk_UI hOM4 (hOM4 _ _).1
    refine wm_iastE d_So_mix_64 h8 h11 (hOM4 _ _).1 e13 ?_
    refine wm_aload_n d_So_mix_65 rfl rfl ?_
    refine gf_So_47 rfl d_So_mix_66 (by rw [e13, e5]; exact h3) ?_
    refine wm_iload d_So_mix_69 rfl ?_
    refine wm_iload d_So_mix_71 rfl ?_
    have hOM16 : mOk M16 := by rw [e17]; exact mOk_UI hOM12 (hOM4 _ _).1
    refine wm_iastE d_So_mix_73 h14 h15 (hOM4 _ _).1 e17 ?_
    refine wm_iinc d_So_mix_74 (by decide) rfl (L' := [vr a0, vi l1, vd, vi (l3 + (-1)), vi (l1 + (Int.tmod (ushrL (mL M4 a0 14) 33) ((l3 - l1) + 1))), vi (mI M4 (mR M4 a0 11) (Int.toNat l3))]) rfl ?_
    refine wm_goto (tgt := 4) d_So_mix_77 rfl ?_
    refine wm_less (L' := [vr a0, vi l1, vd, vi (l3 + (-1)), vd, vd]) ⟨Or.inr rfl, Or.inr rfl, Or.inl rfl, Or.inr rfl, Or.inl rfl, Or.inl rfl, trivial⟩ ?_
    exact h
theorem d_So_improveOne_0 : decode y_So_improveOne.2.1 0 = .ok (.iconst 0, 1) := dc9_3 (by decide +kernel)
theorem d_So_improveOne_1 : decode y_So_improveOne.2.1 1 = .ok (.istore_n 2, 1) := dc9_61 (by decide +kernel)
theorem d_So_improveOne_2 : decode y_So_improveOne.2.1 2 = .ok (.iload_n 2, 1) := dc9_28 (by decide +kernel)
theorem d_So_improveOne_3 : decode y_So_improveOne.2.1 3 = .ok (.aload_n 0, 1) := dc9_42 (by decide +kernel)
theorem d_So_improveOne_4 : decode y_So_improveOne.2.1 4 = .ok (.getfield 198, 3) := dc9_180 (by decide +kernel)
theorem d_So_improveOne_7 : decode y_So_improveOne.2.1 7 = .ok (.if_icmp .ge 141, 3) := dc9_162 (by decide +kernel)
theorem d_So_improveOne_148 : decode y_So_improveOne.2.1 148 = .ok (.iconst 0, 1) := dc9_3 (by decide +kernel)
theorem d_So_improveOne_149 : decode y_So_improveOne.2.1 149 = .ok (.ireturn, 1) := dc9_172 (by decide +kernel)
theorem d_So_improveOne_10 : decode y_So_improveOne.2.1 10 = .ok (.aload_n 0, 1) := dc9_42 (by decide +kernel)
theorem d_So_improveOne_11 : decode y_So_improveOne.2.1 11 = .ok (.getfield 47, 3) := dc9_180 (by decide +kernel)
theorem d_So_improveOne_14 : decode y_So_improveOne.2.1 14 = .ok (.iload_n 2, 1) := dc9_28 (by decide +kernel)
theorem d_So_improveOne_15 : decode y_So_improveOne.2.1 15 = .ok (.iaload, 1) := dc9_46 (by decide +kernel)
theorem d_So_improveOne_16 : decode y_So_improveOne.2.1 16 = .ok (.bipush 40, 2) := dc9_16 (by decide +kernel)
theorem d_So_improveOne_18 : decode y_So_improveOne.2.1 18 = .ok (.idiv, 1) := dc9_108 (by decide +kernel)
theorem d_So_improveOne_19 : decode y_So_improveOne.2.1 19 = .ok (.istore_n 3, 1) := dc9_62 (by decide +kernel)
theorem d_So_improveOne_20 : decode y_So_improveOne.2.1 20 = .ok (.aload_n 0, 1) := dc9_42 (by decide +kernel)
theorem d_So_improveOne_21 : decode y_So_improveOne.2.1 21 = .ok (.getfield 47, 3) := dc9_180 (by decide +kernel)
theorem d_So_improveOne_24 : decode y_So_improveOne.2.1 24 = .ok (.iload_n 2, 1) := dc9_28 (by decide +kernel)
theorem d_So_improveOne_25 : decode y_So_improveOne.2.1 25 = .ok (.iaload, 1) := dc9_46 (by decide +kernel)
theorem d_So_improveOne_26 : decode y_So_improveOne.2.1 26 = .ok (.bipush 40, 2) := dc9_16 (by decide +kernel)
theorem d_So_improveOne_28 : decode y_So_improveOne.2.1 28 = .ok (.irem, 1) := dc9_112 (by decide +kernel)
theorem d_So_improveOne_29 : decode y_So_improveOne.2.1 29 = .ok (.istore 4, 2) := dc9_54 (by decide +kernel)
theorem d_So_improveOne_31 : decode y_So_improveOne.2.1 31 = .ok (.aload_n 0, 1) := dc9_42 (by decide +kernel)
theorem d_So_improveOne_32 : decode y_So_improveOne.2.1 32 = .ok (.getfield 12, 3) := dc9_180 (by decide +kernel)
theorem d_So_improveOne_35 : decode y_So_improveOne.2.1 35 = .ok (.aload_n 0, 1) := dc9_42 (by decide +kernel)
theorem d_So_improveOne_36 : decode y_So_improveOne.2.1 36 = .ok (.getfield 64, 3) := dc9_180 (by decide +kernel)
theorem d_So_improveOne_39 : decode y_So_improveOne.2.1 39 = .ok (.iload_n 3, 1) := dc9_29 (by decide +kernel)
theorem d_So_improveOne_40 : decode y_So_improveOne.2.1 40 = .ok (.aload_n 1, 1) := dc9_43 (by decide +kernel)
theorem d_So_improveOne_41 : decode y_So_improveOne.2.1 41 = .ok (.aload_n 0, 1) := dc9_42 (by decide +kernel)
theorem d_So_improveOne_42 : decode y_So_improveOne.2.1 42 = .ok (.getfield 60, 3) := dc9_180 (by decide +kernel)
theorem d_So_improveOne_45 : decode y_So_improveOne.2.1 45 = .ok (.invokevirtual 221, 3) := dc9_182 (by decide +kernel)
theorem d_So_improveOne_48 : decode y_So_improveOne.2.1 48 = .ok (.aload_n 0, 1) := dc9_42 (by decide +kernel)
theorem d_So_improveOne_49 : decode y_So_improveOne.2.1 49 = .ok (.getfield 12, 3) := dc9_180 (by decide +kernel)
theorem d_So_improveOne_52 : decode y_So_improveOne.2.1 52 = .ok (.aload_n 0, 1) := dc9_42 (by decide +kernel)
theorem d_So_improveOne_53 : decode y_So_improveOne.2.1 53 = .ok (.getfield 60, 3) := dc9_180 (by decide +kernel)
theorem d_So_improveOne_56 : decode y_So_improveOne.2.1 56 = .ok (.aload_n 1, 1) := dc9_43 (by decide +kernel)
theorem d_So_improveOne_57 : decode y_So_improveOne.2.1 57 = .ok (.getfield 169, 3) := dc9_180 (by decide +kernel)
theorem d_So_improveOne_60 : decode y_So_improveOne.2.1 60 = .ok (.aload_n 0, 1) := dc9_42 (by decide +kernel)
theorem d_So_improveOne_61 : decode y_So_improveOne.2.1 61 = .ok (.getfield 41, 3) := dc9_180 (by decide +kernel)
theorem d_So_improveOne_64 : decode y_So_improveOne.2.1 64 = .ok (.iload 4, 2) := dc9_21 (by decide +kernel)
theorem d_So_improveOne_66 : decode y_So_improveOne.2.1 66 = .ok (.iaload, 1) := dc9_46 (by decide +kernel)
theorem d_So_improveOne_67 : decode y_So_improveOne.2.1 67 = .ok (.aaload, 1) := dc9_50 (by decide +kernel)
theorem d_So_improveOne_68 : decode y_So_improveOne.2.1 68 = .ok (.invokevirtual 225, 3) := dc9_182 (by decide +kernel)
theorem d_So_improveOne_71 : decode y_So_improveOne.2.1 71 = .ok (.iload_n 2, 1) := dc9_28 (by decide +kernel)
theorem d_So_improveOne_72 : decode y_So_improveOne.2.1 72 = .ok (.aload_n 0, 1) := dc9_42 (by decide +kernel)
theorem d_So_improveOne_73 : decode y_So_improveOne.2.1 73 = .ok (.getfield 208, 3) := dc9_180 (by decide +kernel)
theorem d_So_improveOne_76 : decode y_So_improveOne.2.1 76 = .ok (.if_icmp .ge 7, 3) := dc9_162 (by decide +kernel)
theorem d_So_improveOne_83 : decode y_So_improveOne.2.1 83 = .ok (.iconst 1, 1) := dc9_4 (by decide +kernel)
theorem d_So_improveOne_79 : decode y_So_improveOne.2.1 79 = .ok (.iconst (-1), 1) := dc9_2 (by decide +kernel)
theorem d_So_improveOne_80 : decode y_So_improveOne.2.1 80 = .ok (.goto 4, 3) := dc9_167 (by decide +kernel)
theorem d_So_improveOne_84 : decode y_So_improveOne.2.1 84 = .ok (.if_icmp .ne 58, 3) := dc9_160 (by decide +kernel)
theorem d_So_improveOne_87 : decode y_So_improveOne.2.1 87 = .ok (.aload_n 0, 1) := dc9_42 (by decide +kernel)
theorem d_So_improveOne_88 : decode y_So_improveOne.2.1 88 = .ok (.getfield 47, 3) := dc9_180 (by decide +kernel)
theorem d_So_improveOne_91 : decode y_So_improveOne.2.1 91 = .ok (.iload_n 2, 1) := dc9_28 (by decide +kernel)
theorem d_So_improveOne_92 : decode y_So_improveOne.2.1 92 = .ok (.aload_n 0, 1) := dc9_42 (by decide +kernel)
theorem d_So_improveOne_93 : decode y_So_improveOne.2.1 93 = .ok (.getfield 44, 3) := dc9_180 (by decide +kernel)
theorem d_So_improveOne_96 : decode y_So_improveOne.2.1 96 = .ok (.iload 4, 2) := dc9_21 (by decide +kernel)
theorem d_So_improveOne_98 : decode y_So_improveOne.2.1 98 = .ok (.iaload, 1) := dc9_46 (by decide +kernel)
theorem d_So_improveOne_99 : decode y_So_improveOne.2.1 99 = .ok (.bipush 40, 2) := dc9_16 (by decide +kernel)
theorem d_So_improveOne_101 : decode y_So_improveOne.2.1 101 = .ok (.imul, 1) := dc9_104 (by decide +kernel)
theorem d_So_improveOne_102 : decode y_So_improveOne.2.1 102 = .ok (.iload 4, 2) := dc9_21 (by decide +kernel)
theorem d_So_improveOne_104 : decode y_So_improveOne.2.1 104 = .ok (.iadd, 1) := dc9_96 (by decide +kernel)
theorem d_So_improveOne_105 : decode y_So_improveOne.2.1 105 = .ok (.iastore, 1) := dc9_79 (by decide +kernel)
theorem d_So_improveOne_106 : decode y_So_improveOne.2.1 106 = .ok (.aload_n 0, 1) := dc9_42 (by decide +kernel)
theorem d_So_improveOne_107 : decode y_So_improveOne.2.1 107 = .ok (.getfield 44, 3) := dc9_180 (by decide +kernel)
theorem d_So_improveOne_110 : decode y_So_improveOne.2.1 110 = .ok (.iload 4, 2) := dc9_21 (by decide +kernel)
theorem d_So_improveOne_112 : decode y_So_improveOne.2.1 112 = .ok (.iload_n 3, 1) := dc9_29 (by decide +kernel)
theorem d_So_improveOne_113 : decode y_So_improveOne.2.1 113 = .ok (.iastore, 1) := dc9_79 (by decide +kernel)
theorem d_So_improveOne_142 : decode y_So_improveOne.2.1 142 = .ok (.iinc 2 1, 3) := by decide +kernel
theorem d_So_improveOne_145 : decode y_So_improveOne.2.1 145 = .ok (.goto (-143), 3) := dc9_167 (by decide +kernel)
theorem d_So_improveOne_114 : decode y_So_improveOne.2.1 114 = .ok (.aload_n 0, 1) := dc9_42 (by decide +kernel)
theorem d_So_improveOne_115 : decode y_So_improveOne.2.1 115 = .ok (.iconst 0, 1) := dc9_3 (by decide +kernel)
theorem d_So_improveOne_116 : decode y_So_improveOne.2.1 116 = .ok (.iload_n 2, 1) := dc9_28 (by decide +kernel)
theorem d_So_improveOne_117 : decode y_So_improveOne.2.1 117 = .ok (.iconst 1, 1) := dc9_4 (by decide +kernel)
theorem d_So_improveOne_118 : decode y_So_improveOne.2.1 118 = .ok (.iadd, 1) := dc9_96 (by decide +kernel)
theorem d_So_improveOne_119 : decode y_So_improveOne.2.1 119 = .ok (.aload_n 0, 1) := dc9_42 (by decide +kernel)
theorem d_So_improveOne_120 : decode y_So_improveOne.2.1 120 = .ok (.getfield 208, 3) := dc9_180 (by decide +kernel)
theorem d_So_improveOne_123 : decode y_So_improveOne.2.1 123 = .ok (.invokestatic 229, 3) := dc9_184 (by decide +kernel)
theorem d_So_improveOne_126 : decode y_So_improveOne.2.1 126 = .ok (.invokevirtual 211, 3) := dc9_182 (by decide +kernel)
theorem d_So_improveOne_129 : decode y_So_improveOne.2.1 129 = .ok (.aload_n 0, 1) := dc9_42 (by decide +kernel)
theorem d_So_improveOne_130 : decode y_So_improveOne.2.1 130 = .ok (.aload_n 0, 1) := dc9_42 (by decide +kernel)
theorem d_So_improveOne_131 : decode y_So_improveOne.2.1 131 = .ok (.getfield 208, 3) := dc9_180 (by decide +kernel)
theorem d_So_improveOne_134 : decode y_So_improveOne.2.1 134 = .ok (.iload_n 2, 1) := dc9_28 (by decide +kernel)
theorem d_So_improveOne_135 : decode y_So_improveOne.2.1 135 = .ok (.iconst 1, 1) := dc9_4 (by decide +kernel)
theorem d_So_improveOne_136 : decode y_So_improveOne.2.1 136 = .ok (.iadd, 1) := dc9_96 (by decide +kernel)
theorem d_So_improveOne_137 : decode y_So_improveOne.2.1 137 = .ok (.invokevirtual 211, 3) := dc9_182 (by decide +kernel)
theorem d_So_improveOne_140 : decode y_So_improveOne.2.1 140 = .ok (.iconst 1, 1) := dc9_4 (by decide +kernel)
theorem d_So_improveOne_141 : decode y_So_improveOne.2.1 141 = .ok (.ireturn, 1) := dc9_172 (by decide +kernel)
def h_So_improveOne_2 (G : mG) (d : Nat) (a0 : Nat) (a1 : Nat) (l2 : Int) (M : mM) (Q : Int → mM → Prop) : Prop := mWm G y_So_improveOne (d + 1) 2 [vr a0, vr a1, vi l2, vd, vd] [] M (fun r9 M9 => ∃ x9, r9 = some (vi x9) ∧ Q x9 M9)
theorem k_So_improveOne {G : mG} {d : Nat} {a0 : Nat} {a1 : Nat} {M : mM} {Q : Int → mM → Prop} (hO : mOk M)
    (h : h_So_improveOne_2 G d a0 a1 0 M Q) :
    Ci G y_So_improveOne (d + 1) [vr a0, vr a1] M Q := by
  refine wm_open (y := y_So_improveOne) rfl (Nat.le_of_ble_eq_true rfl) (L := [vr a0, vr a1, vd, vd, vd]) rfl ?_
  refine wm_iconst d_So_improveOne_0 ?_
  refine wm_istore_n d_So_improveOne_1 rfl (by decide) (L' := [vr a0, vr a1, vi 0, vd, vd]) rfl ?_
  exact h
theorem k_So_improveOne_2 {G : mG} {d : Nat} {a0 : Nat} {a1 : Nat} {l2 : Int} {M : mM} {Q : Int → mM → Prop} (hO : mOk M) (hi_l2 : i32 l2)
    (h : mK M a0 = 8 ∧ ((mI M a0 12 ≤ l2) → (Q 0 M)) ∧ (¬ (mI M a0 12 ≤ l2) → (mK M (mR M a0 11) = 30 ∧ ((0 : Int) ≤ l2 ∧ l2 < (mN M (mR M a0 11) : Int)) ∧ ((0 : Int) ≤ l2 ∧ l2 < (mN M (mR M a0 11) : Int)) ∧ mK M (mR M a0 0) = 9 ∧ Cv G y_Sc_weigh d [vr (mR M a0 0), vr (mR M a0 3), vi (Int.tdiv (mI M (mR M a0 11) (Int.toNat l2)) 40), vr a1, vr (mR M a0 17)] M (fun M8 => mOk M8 ∧ (mK M8 a0 = 8 ∧ mK M8 a1 = 13 ∧ mK M8 (mR M8 a0 8) = 30 ∧ ((0 : Int) ≤ Int.tmod (mI M (mR M a0 11) (Int.toNat l2)) 40 ∧ Int.tmod (mI M (mR M a0 11) (Int.toNat l2)) 40 < (mN M8 (mR M8 a0 8) : Int)) ∧ mK M8 (mR M8 a1 0) = 35 ∧ ((0 : Int) ≤ mI M8 (mR M8 a0 8) (Int.toNat (Int.tmod (mI M (mR M a0 11) (Int.toNat l2)) 40)) ∧ mI M8 (mR M8 a0 8) (Int.toNat (Int.tmod (mI M (mR M a0 11) (Int.toNat l2)) 40)) < (mN M8 (mR M8 a1 0) : Int)) ∧ mK M8 (mR M8 a0 0) = 9 ∧ Ci G y_Sc_order d [vr (mR M8 a0 0), vr (mR M8 a0 17), vr (mR M8 (mR M8 a1 0) (Int.toNat (mI M8 (mR M8 a0 8) (Int.toNat (Int.tmod (mI M (mR M a0 11) (Int.toNat l2)) 40)))))] M8 (fun x19 M18 => i32 x19 ∧ mOk M18 ∧ (mK M18 a0 = 8 ∧ ∀ v23 : Int, v23 = (if (mI M18 a0 13 ≤ l2) then 1 else (-1)) → ((x19 = v23) → (mK M18 (mR M18 a0 9) = 30 ∧ ((0 : Int) ≤ Int.tmod (mI M (mR M a0 11) (Int.toNat l2)) 40 ∧ Int.tmod (mI M (mR M a0 11) (Int.toNat l2)) 40 < (mN M18 (mR M18 a0 9) : Int)) ∧ mK M18 (mR M18 a0 11) = 30 ∧ ((0 : Int) ≤ l2 ∧ l2 < (mN M18 (mR M18 a0 11) : Int)) ∧ i32 (((mI M18 (mR M18 a0 9) (Int.toNat (Int.tmod (mI M (mR M a0 11) (Int.toNat l2)) 40))) * 40) + (Int.tmod (mI M (mR M a0 11) (Int.toNat l2)) 40)) ∧ ∀ M34, M34 = mUI M18 (mR M18 a0 11) (Int.toNat l2) (((mI M18 (mR M18 a0 9) (Int.toNat (Int.tmod (mI M (mR M a0 11) (Int.toNat l2)) 40))) * 40) + (Int.tmod (mI M (mR M a0 11) (Int.toNat l2)) 40)) → mK M34 (mR M34 a0 9) = 30 ∧ ((0 : Int) ≤ Int.tmod (mI M (mR M a0 11) (Int.toNat l2)) 40 ∧ Int.tmod (mI M (mR M a0 11) (Int.toNat l2)) 40 < (mN M34 (mR M34 a0 9) : Int)) ∧ ∀ M38, M38 = mUI M34 (mR M34 a0 9) (Int.toNat (Int.tmod (mI M (mR M a0 11) (Int.toNat l2)) 40)) (Int.tdiv (mI M (mR M a0 11) (Int.toNat l2)) 40) → i32 (l2 + 1) ∧ Cv G y_So_mix d [vr a0, vi 0, vi (if mI M38 a0 13 < l2 + 1 then mI M38 a0 13 else l2 + 1)] M38 (fun M41 => mOk M41 ∧ (mK M41 a0 = 8 ∧ Cv G y_So_mix d [vr a0, vi (mI M41 a0 13), vi (l2 + 1)] M41 (fun M45 => mOk M45 ∧ (Q 1 M45)))))) ∧ (¬ (x19 = v23) → (h_So_improveOne_2 G d a0 a1 (l2 + 1) M18 Q))))))))) :
    h_So_improveOne_2 G d a0 a1 l2 M Q := by
  unfold h_So_improveOne_2
  obtain ⟨h1, h⟩ := h
  refine wm_iload_n d_So_improveOne_2 rfl rfl ?_
  refine wm_aload_n d_So_improveOne_3 rfl rfl ?_
  refine gf_So_198 rfl d_So_improveOne_4 h1 ?_
  refine wm_icmp_ge (tgt := 148) d_So_improveOne_7 rfl hi_l2 (hO _ _).1 (fun c3 => ?_) (fun c3 => ?_)
  · replace h := h.1 c3
    refine wm_iconst d_So_improveOne_148 ?_
    refine wm_ireturn d_So_improveOne_149 rfl (m_nb (by decide)) ?_
    exact ⟨_, rfl, h⟩
  · replace h := h.2 c3
    obtain ⟨h4, h⟩ := h
    obtain ⟨h5, h⟩ := h
    obtain ⟨h6, h⟩ := h
    obtain ⟨h7, h⟩ := h
    refine wm_aload_n d_So_improveOne_10 rfl rfl ?_
    refine gf_So_47 rfl d_So_improveOne_11 h1 ?_
    refine wm_iload_n d_So_improveOne_14 rfl rfl ?_
    refine wm_iald d_So_improveOne_15 h4 h5 ?_
    refine wm_bipush d_So_improveOne_16 (by decide) ?_
    refine wm_idiv d_So_improveOne_18 (hO _ _).1 ⟨by decide, by decide⟩ (by decide) ?_
    refine wm_istore_n d_So_improveOne_19 rfl (by decide) (L' := [vr a0, vr a1, vi l2, vi (Int.tdiv (mI M (mR M a0 11) (Int.toNat l2)) 40), vd]) rfl ?_
    refine wm_aload_n d_So_improveOne_20 rfl rfl ?_
    refine gf_So_47 rfl d_So_improveOne_21 h1 ?_
    refine wm_iload_n d_So_improveOne_24 rfl rfl ?_
    refine wm_iald d_So_improveOne_25 h4 h6 ?_
    refine wm_bipush d_So_improveOne_26 (by decide) ?_
    refine wm_irem d_So_improveOne_28 (hO _ _).1 ⟨by decide, by decide⟩ (by decide) ?_
    refine wm_istore d_So_improveOne_29 (by decide) (L' := [vr a0, vr a1, vi l2, vi (Int.tdiv (mI M (mR M a0 11) (Int.toNat l2)) 40), vi (Int.tmod (mI M (mR M a0 11) (Int.toNat l2)) 40)]) rfl ?_
    refine wm_aload_n d_So_improveOne_31 rfl rfl ?_
    refine gf_So_12 rfl d_So_improveOne_32 h1 ?_
    refine wm_aload_n d_So_improveOne_35 rfl rfl ?_
    refine gf_So_64 rfl d_So_improveOne_36 h1 ?_
    refine wm_iload_n d_So_improveOne_39 rfl rfl ?_
    refine wm_aload_n d_So_improveOne_40 rfl rfl ?_
    refine wm_aload_n d_So_improveOne_41 rfl rfl ?_
    refine gf_So_60 rfl d_So_improveOne_42 h1 ?_
    refine cf_So_221 rfl d_So_improveOne_45 h7 (Nat.le_of_ble_eq_true rfl) (Cv.mono h (fun M8 h => ?_))
    obtain ⟨hOM8, h⟩ := h
    obtain ⟨h11, h⟩ := h
    obtain ⟨h12, h⟩ := h
    obtain ⟨h13, h⟩ := h
    obtain ⟨h14, h⟩ := h
    obtain ⟨h15, h⟩ := h
    obtain ⟨h16, h⟩ := h
    obtain ⟨h17, h⟩ := h
    refine wm_aload_n d_So_improveOne_48 rfl rfl ?_
    refine gf_So_12 rfl d_So_improveOne_49 h11 ?_
    refine wm_aload_n d_So_improveOne_52 rfl rfl ?_
    refine gf_So_60 rfl d_So_improveOne_53 h11 ?_
    refine wm_aload_n d_So_improveOne_56 rfl rfl ?_
    refine gf_So_169 rfl d_So_improveOne_57 h12 ?_
    refine wm_aload_n d_So_improveOne_60 rfl rfl ?_
    refine gf_So_41 rfl d_So_improveOne_61 h11 ?_
    refine wm_iload d_So_improveOne_64 rfl ?_
    refine wm_iald d_So_improveOne_66 h13 h14 ?_
    refine wm_aald5 d_So_improveOne_67 h15 h16 ?_
    refine cf_So_225 rfl d_So_improveOne_68 h17 (Nat.le_of_ble_eq_true rfl) (Ci.mono h (fun x19 M18 h => ?_))
    obtain ⟨h20, hOM18, h⟩ := h
    obtain ⟨h21, h⟩ := h
    refine wm_iload_n d_So_improveOne_71 rfl rfl ?_
    refine wm_aload_n d_So_improveOne_72 rfl rfl ?_
    refine gf_So_208 rfl d_So_improveOne_73 h21 ?_
    have hJ : ∀ v23 : Int, v23 = (if (mI M18 a0 13 ≤ l2) then 1 else (-1)) → mWm G y_So_improveOne (d + 1) 84 [vr a0, vr a1, vi l2, vi (Int.tdiv (mI M (mR M a0 11) (Int.toNat l2)) 40), vi (Int.tmod (mI M (mR M a0 11) (Int.toNat l2)) 40)] [vi v23, vi x19] M18 (fun r9 M9 => ∃ x9, r9 = some (vi x9) ∧ Q x9 M9) := by
      intro v23 e25
      have h := h v23 e25
      have h26 : i32 v23 := by rw [e25]; (repeat' split) <;> first | exact ⟨by decide, by decide⟩ | exact ⟨by decide, by decide⟩
      refine wm_icmp_ne (tgt := 142) d_So_improveOne_84 rfl h20 h26 (fun c28 => ?_) (fun c28 => ?_)
      · replace h := h.2 c28
        refine wm_iinc d_So_improveOne_142 (by decide) rfl (L' := [vr a0, vr a1, vi (l2 + 1), vi (Int.tdiv (mI M (mR M a0 11) (Int.toNat l2)) 40), vi (Int.tmod (mI M (mR M a0 11) (Int.toNat l2)) 40)]) rfl ?_
        refine wm_goto (tgt := 2) d_So_improveOne_145 rfl ?_
        refine wm_less (L' := [vr a0, vr a1, vi (l2 + 1), vd, vd]) ⟨Or.inr rfl, Or.inr rfl, Or.inr rfl, Or.inl rfl, Or.inl rfl, trivial⟩ ?_
        exact h
      · replace c28 := Classical.not_not.mp c28
        replace h := h.1 c28
        obtain ⟨h29, h⟩ := h
        obtain ⟨h30, h⟩ := h
        obtain ⟨h31, h⟩ := h
        obtain ⟨h32, h⟩ := h
        obtain ⟨h33, h⟩ := h
        obtain ⟨M34, e35⟩ : ∃ M34, M34 = mUI M18 (mR M18 a0 11) (Int.toNat l2) (((mI M18 (mR M18 a0 9) (Int.toNat (Int.tmod (mI M (mR M a0 11) (Int.toNat l2)) 40))) * 40) + (Int.tmod (mI M (mR M a0 11) (Int.toNat l2)) 40)) := ⟨_, rfl⟩
        replace h := h M34 e35
        obtain ⟨h36, h⟩ := h
        obtain ⟨h37, h⟩ := h
        obtain ⟨M38, e39⟩ : ∃ M38, M38 = mUI M34 (mR M34 a0 9) (Int.toNat (Int.tmod (mI M (mR M a0 11) (Int.toNat l2)) 40)) (Int.tdiv (mI M (mR M a0 11) (Int.toNat l2)) 40) := ⟨_, rfl⟩
        replace h := h M38 e39
        obtain ⟨h40, h⟩ := h
        refine wm_aload_n d_So_improveOne_87 rfl rfl ?_
        refine gf_So_47 rfl d_So_improveOne_88 h21 ?_
        refine wm_iload_n d_So_improveOne_91 rfl rfl ?_
        refine wm_aload_n d_So_improveOne_92 rfl rfl ?_
        refine gf_So_44 rfl d_So_improveOne_93 h21 ?_
        refine wm_iload d_So_improveOne_96 rfl ?_
        refine wm_iald d_So_improveOne_98 h29 h30 ?_
        refine wm_bipush d_So_improveOne_99 (by decide) ?_
        refine wm_imul d_So_improveOne_101 ?_
        refine wm_iload d_So_improveOne_102 rfl ?_
        refine wm_iadd d_So_improveOne_104 ?_
        have hOM34 : mOk M34 := by rw [e35]; exact mOk_UI hOM18 h33
        refine wm_iastE d_So_improveOne_105 h31 h32 h33 e35 ?_
        refine wm_aload_n d_So_improveOne_106 rfl rfl ?_
        refine gf_So_44 rfl d_So_improveOne_107 (by rw [e35]; exact h21) ?_
        refine wm_iload d_So_improveOne_110 rfl ?_
        refine wm_iload_n d_So_improveOne_112 rfl rfl ?_
        have hOM38 : mOk M38 := by rw [e39]; exact mOk_UI hOM34 (m_tdiv32 (hO _ _).1 (by decide))
        refine wm_iastE d_So_improveOne_113 h36 h37 (m_tdiv32 (hO _ _).1 (by decide)) e39 ?_
        refine wm_aload_n d_So_improveOne_114 rfl rfl ?_
        refine wm_iconst d_So_improveOne_115 ?_
        refine wm_iload_n d_So_improveOne_116 rfl rfl ?_
        refine wm_iconst d_So_improveOne_117 ?_
        refine wm_iadd d_So_improveOne_118 ?_
        refine wm_aload_n d_So_improveOne_119 rfl rfl ?_
        refine gf_So_208 rfl d_So_improveOne_120 (by rw [e39, e35]; exact h21) ?_
        refine wm_mmin k8_187 (Nat.le_of_ble_eq_true rfl) h40 (hOM38 _ _).1 d_So_improveOne_123 ?_
        refine cf_So_211 rfl d_So_improveOne_126 (by rw [e39, e35]; exact h21) (Nat.le_of_ble_eq_true rfl) (Cv.mono h (fun M41 h => ?_))
        obtain ⟨hOM41, h⟩ := h
        obtain ⟨h44, h⟩ := h
        refine wm_aload_n d_So_improveOne_129 rfl rfl ?_
        refine wm_aload_n d_So_improveOne_130 rfl rfl ?_
        refine gf_So_208 rfl d_So_improveOne_131 h44 ?_
        refine wm_iload_n d_So_improveOne_134 rfl rfl ?_
        refine wm_iconst d_So_improveOne_135 ?_
        refine wm_iadd d_So_improveOne_136 ?_
        refine cf_So_211 rfl d_So_improveOne_137 h44 (Nat.le_of_ble_eq_true rfl) (Cv.mono h (fun M45 h => ?_))
        obtain ⟨hOM45, h⟩ := h
        refine wm_iconst d_So_improveOne_140 ?_
        refine wm_ireturn d_So_improveOne_141 rfl (m_nb (by decide)) ?_
        exact ⟨_, rfl, h⟩
    clear h
    refine wm_icmp_ge (tgt := 83) d_So_improveOne_76 rfl hi_l2 (hOM18 _ _).1 (fun c22 => ?_) (fun c22 => ?_)
    · refine wm_iconst d_So_improveOne_83 ?_
      exact hJ 1 (if_pos c22).symm
    · refine wm_iconst d_So_improveOne_79 ?_
      refine wm_goto (tgt := 84) d_So_improveOne_80 rfl ?_
      exact hJ (-1) (if_neg c22).symm
end
section
theorem d_So_rankAndChoose_0 : decode y_So_rankAndChoose.2.1 0 = .ok (.aload_n 0, 1) := dc9_42 (by decide +kernel)
theorem d_So_rankAndChoose_1 : decode y_So_rankAndChoose.2.1 1 = .ok (.aload_n 1, 1) := dc9_43 (by decide +kernel)
theorem d_So_rankAndChoose_2 : decode y_So_rankAndChoose.2.1 2 = .ok (.invokevirtual 232, 3) := dc9_182 (by decide +kernel)
theorem d_So_rankAndChoose_5 : decode y_So_rankAndChoose.2.1 5 = .ok (.pop, 1) := dc9_87 (by decide +kernel)
theorem d_So_rankAndChoose_6 : decode y_So_rankAndChoose.2.1 6 = .ok (.aload_n 0, 1) := dc9_42 (by decide +kernel)
theorem d_So_rankAndChoose_7 : decode y_So_rankAndChoose.2.1 7 = .ok (.aload_n 1, 1) := dc9_43 (by decide +kernel)
theorem d_So_rankAndChoose_8 : decode y_So_rankAndChoose.2.1 8 = .ok (.aload_n 0, 1) := dc9_42 (by decide +kernel)
theorem d_So_rankAndChoose_9 : decode y_So_rankAndChoose.2.1 9 = .ok (.getfield 18, 3) := dc9_180 (by decide +kernel)
theorem d_So_rankAndChoose_12 : decode y_So_rankAndChoose.2.1 12 = .ok (.invokevirtual 235, 3) := dc9_182 (by decide +kernel)
theorem d_So_rankAndChoose_15 : decode y_So_rankAndChoose.2.1 15 = .ok (.iconst 0, 1) := dc9_3 (by decide +kernel)
theorem d_So_rankAndChoose_16 : decode y_So_rankAndChoose.2.1 16 = .ok (.istore_n 2, 1) := dc9_61 (by decide +kernel)
theorem d_So_rankAndChoose_17 : decode y_So_rankAndChoose.2.1 17 = .ok (.iload_n 2, 1) := dc9_28 (by decide +kernel)
theorem d_So_rankAndChoose_18 : decode y_So_rankAndChoose.2.1 18 = .ok (.aload_n 0, 1) := dc9_42 (by decide +kernel)
theorem d_So_rankAndChoose_19 : decode y_So_rankAndChoose.2.1 19 = .ok (.getfield 64, 3) := dc9_180 (by decide +kernel)
theorem d_So_rankAndChoose_22 : decode y_So_rankAndChoose.2.1 22 = .ok (.getfield 107, 3) := dc9_180 (by decide +kernel)
theorem d_So_rankAndChoose_25 : decode y_So_rankAndChoose.2.1 25 = .ok (.if_icmp .ge 178, 3) := dc9_162 (by decide +kernel)
theorem d_So_rankAndChoose_203 : decode y_So_rankAndChoose.2.1 203 = .ok (.return_, 1) := dc9_177 (by decide +kernel)
theorem d_So_rankAndChoose_28 : decode y_So_rankAndChoose.2.1 28 = .ok (.aload_n 0, 1) := dc9_42 (by decide +kernel)
theorem d_So_rankAndChoose_29 : decode y_So_rankAndChoose.2.1 29 = .ok (.getfield 64, 3) := dc9_180 (by decide +kernel)
theorem d_So_rankAndChoose_32 : decode y_So_rankAndChoose.2.1 32 = .ok (.getfield 116, 3) := dc9_180 (by decide +kernel)
theorem d_So_rankAndChoose_35 : decode y_So_rankAndChoose.2.1 35 = .ok (.iload_n 2, 1) := dc9_28 (by decide +kernel)
theorem d_So_rankAndChoose_36 : decode y_So_rankAndChoose.2.1 36 = .ok (.iaload, 1) := dc9_46 (by decide +kernel)
theorem d_So_rankAndChoose_37 : decode y_So_rankAndChoose.2.1 37 = .ok (.istore_n 3, 1) := dc9_62 (by decide +kernel)
theorem d_So_rankAndChoose_38 : decode y_So_rankAndChoose.2.1 38 = .ok (.aload_n 0, 1) := dc9_42 (by decide +kernel)
theorem d_So_rankAndChoose_39 : decode y_So_rankAndChoose.2.1 39 = .ok (.getfield 22, 3) := dc9_180 (by decide +kernel)
theorem d_So_rankAndChoose_42 : decode y_So_rankAndChoose.2.1 42 = .ok (.iload_n 2, 1) := dc9_28 (by decide +kernel)
theorem d_So_rankAndChoose_43 : decode y_So_rankAndChoose.2.1 43 = .ok (.iload_n 3, 1) := dc9_29 (by decide +kernel)
theorem d_So_rankAndChoose_44 : decode y_So_rankAndChoose.2.1 44 = .ok (.aload_n 0, 1) := dc9_42 (by decide +kernel)
theorem d_So_rankAndChoose_45 : decode y_So_rankAndChoose.2.1 45 = .ok (.getfield 64, 3) := dc9_180 (by decide +kernel)
theorem d_So_rankAndChoose_48 : decode y_So_rankAndChoose.2.1 48 = .ok (.getfield 116, 3) := dc9_180 (by decide +kernel)
theorem d_So_rankAndChoose_51 : decode y_So_rankAndChoose.2.1 51 = .ok (.iload_n 2, 1) := dc9_28 (by decide +kernel)
theorem d_So_rankAndChoose_52 : decode y_So_rankAndChoose.2.1 52 = .ok (.iconst 1, 1) := dc9_4 (by decide +kernel)
theorem d_So_rankAndChoose_53 : decode y_So_rankAndChoose.2.1 53 = .ok (.iadd, 1) := dc9_96 (by decide +kernel)
theorem d_So_rankAndChoose_54 : decode y_So_rankAndChoose.2.1 54 = .ok (.iaload, 1) := dc9_46 (by decide +kernel)
theorem d_So_rankAndChoose_55 : decode y_So_rankAndChoose.2.1 55 = .ok (.if_icmp .ne 7, 3) := dc9_160 (by decide +kernel)
theorem d_So_rankAndChoose_58 : decode y_So_rankAndChoose.2.1 58 = .ok (.iconst (-1), 1) := dc9_2 (by decide +kernel)
theorem d_So_rankAndChoose_59 : decode y_So_rankAndChoose.2.1 59 = .ok (.goto 4, 3) := dc9_167 (by decide +kernel)
theorem d_So_rankAndChoose_62 : decode y_So_rankAndChoose.2.1 62 = .ok (.iconst 0, 1) := dc9_3 (by decide +kernel)
theorem d_So_rankAndChoose_63 : decode y_So_rankAndChoose.2.1 63 = .ok (.iastore, 1) := dc9_79 (by decide +kernel)
theorem d_So_rankAndChoose_64 : decode y_So_rankAndChoose.2.1 64 = .ok (.aload_n 0, 1) := dc9_42 (by decide +kernel)
theorem d_So_rankAndChoose_65 : decode y_So_rankAndChoose.2.1 65 = .ok (.getfield 64, 3) := dc9_180 (by decide +kernel)
theorem d_So_rankAndChoose_68 : decode y_So_rankAndChoose.2.1 68 = .ok (.getfield 113, 3) := dc9_180 (by decide +kernel)
theorem d_So_rankAndChoose_71 : decode y_So_rankAndChoose.2.1 71 = .ok (.iload_n 2, 1) := dc9_28 (by decide +kernel)
theorem d_So_rankAndChoose_72 : decode y_So_rankAndChoose.2.1 72 = .ok (.iaload, 1) := dc9_46 (by decide +kernel)
theorem d_So_rankAndChoose_73 : decode y_So_rankAndChoose.2.1 73 = .ok (.iconst 1, 1) := dc9_4 (by decide +kernel)
theorem d_So_rankAndChoose_74 : decode y_So_rankAndChoose.2.1 74 = .ok (.if_icmp .ne 7, 3) := dc9_160 (by decide +kernel)
theorem d_So_rankAndChoose_77 : decode y_So_rankAndChoose.2.1 77 = .ok (.iconst 1, 1) := dc9_4 (by decide +kernel)
theorem d_So_rankAndChoose_78 : decode y_So_rankAndChoose.2.1 78 = .ok (.goto 4, 3) := dc9_167 (by decide +kernel)
theorem d_So_rankAndChoose_81 : decode y_So_rankAndChoose.2.1 81 = .ok (.iconst 0, 1) := dc9_3 (by decide +kernel)
theorem d_So_rankAndChoose_82 : decode y_So_rankAndChoose.2.1 82 = .ok (.istore 4, 2) := dc9_54 (by decide +kernel)
theorem d_So_rankAndChoose_84 : decode y_So_rankAndChoose.2.1 84 = .ok (.aload_n 0, 1) := dc9_42 (by decide +kernel)
theorem d_So_rankAndChoose_85 : decode y_So_rankAndChoose.2.1 85 = .ok (.getfield 22, 3) := dc9_180 (by decide +kernel)
theorem d_So_rankAndChoose_88 : decode y_So_rankAndChoose.2.1 88 = .ok (.iload_n 2, 1) := dc9_28 (by decide +kernel)
theorem d_So_rankAndChoose_89 : decode y_So_rankAndChoose.2.1 89 = .ok (.iaload, 1) := dc9_46 (by decide +kernel)
theorem d_So_rankAndChoose_90 : decode y_So_rankAndChoose.2.1 90 = .ok (.iconst (-1), 1) := dc9_2 (by decide +kernel)
theorem d_So_rankAndChoose_91 : decode y_So_rankAndChoose.2.1 91 = .ok (.if_icmp .eq 18, 3) := dc9_159 (by decide +kernel)
theorem d_So_rankAndChoose_109 : decode y_So_rankAndChoose.2.1 109 = .ok (.iconst 1, 1) := dc9_4 (by decide +kernel)
theorem d_So_rankAndChoose_110 : decode y_So_rankAndChoose.2.1 110 = .ok (.goto 4, 3) := dc9_167 (by decide +kernel)
theorem d_So_rankAndChoose_94 : decode y_So_rankAndChoose.2.1 94 = .ok (.iload 4, 2) := dc9_21 (by decide +kernel)
theorem d_So_rankAndChoose_96 : decode y_So_rankAndChoose.2.1 96 = .ok (.ifCond .eq 17, 3) := dc9_153 (by decide +kernel)
theorem d_So_rankAndChoose_113 : decode y_So_rankAndChoose.2.1 113 = .ok (.iconst 0, 1) := dc9_3 (by decide +kernel)
theorem d_So_rankAndChoose_99 : decode y_So_rankAndChoose.2.1 99 = .ok (.aload_n 0, 1) := dc9_42 (by decide +kernel)
theorem d_So_rankAndChoose_100 : decode y_So_rankAndChoose.2.1 100 = .ok (.getfield 18, 3) := dc9_180 (by decide +kernel)
theorem d_So_rankAndChoose_103 : decode y_So_rankAndChoose.2.1 103 = .ok (.iload_n 2, 1) := dc9_28 (by decide +kernel)
theorem d_So_rankAndChoose_104 : decode y_So_rankAndChoose.2.1 104 = .ok (.iaload, 1) := dc9_46 (by decide +kernel)
theorem d_So_rankAndChoose_105 : decode y_So_rankAndChoose.2.1 105 = .ok (.iconst (-1), 1) := dc9_2 (by decide +kernel)
theorem d_So_rankAndChoose_106 : decode y_So_rankAndChoose.2.1 106 = .ok (.if_icmp .ne 7, 3) := dc9_160 (by decide +kernel)
theorem d_So_rankAndChoose_114 : decode y_So_rankAndChoose.2.1 114 = .ok (.istore 5, 2) := dc9_54 (by decide +kernel)
theorem d_So_rankAndChoose_116 : decode y_So_rankAndChoose.2.1 116 = .ok (.iload_n 3, 1) := dc9_29 (by decide +kernel)
theorem d_So_rankAndChoose_117 : decode y_So_rankAndChoose.2.1 117 = .ok (.istore 6, 2) := dc9_54 (by decide +kernel)
theorem d_So_rankAndChoose_119 : decode y_So_rankAndChoose.2.1 119 = .ok (.iload 6, 2) := dc9_21 (by decide +kernel)
theorem d_So_rankAndChoose_121 : decode y_So_rankAndChoose.2.1 121 = .ok (.aload_n 0, 1) := dc9_42 (by decide +kernel)
theorem d_So_rankAndChoose_122 : decode y_So_rankAndChoose.2.1 122 = .ok (.getfield 64, 3) := dc9_180 (by decide +kernel)
theorem d_So_rankAndChoose_125 : decode y_So_rankAndChoose.2.1 125 = .ok (.getfield 116, 3) := dc9_180 (by decide +kernel)
theorem d_So_rankAndChoose_128 : decode y_So_rankAndChoose.2.1 128 = .ok (.iload_n 2, 1) := dc9_28 (by decide +kernel)
theorem d_So_rankAndChoose_129 : decode y_So_rankAndChoose.2.1 129 = .ok (.iconst 1, 1) := dc9_4 (by decide +kernel)
theorem d_So_rankAndChoose_130 : decode y_So_rankAndChoose.2.1 130 = .ok (.iadd, 1) := dc9_96 (by decide +kernel)
theorem d_So_rankAndChoose_131 : decode y_So_rankAndChoose.2.1 131 = .ok (.iaload, 1) := dc9_46 (by decide +kernel)
theorem d_So_rankAndChoose_132 : decode y_So_rankAndChoose.2.1 132 = .ok (.if_icmp .ge 65, 3) := dc9_162 (by decide +kernel)
theorem d_So_rankAndChoose_135 : decode y_So_rankAndChoose.2.1 135 = .ok (.iload 5, 2) := dc9_21 (by decide +kernel)
theorem d_So_rankAndChoose_137 : decode y_So_rankAndChoose.2.1 137 = .ok (.ifCond .ne 60, 3) := dc9_154 (by decide +kernel)
theorem d_So_rankAndChoose_140 : decode y_So_rankAndChoose.2.1 140 = .ok (.aload_n 0, 1) := dc9_42 (by decide +kernel)
theorem d_So_rankAndChoose_141 : decode y_So_rankAndChoose.2.1 141 = .ok (.getfield 50, 3) := dc9_180 (by decide +kernel)
theorem d_So_rankAndChoose_144 : decode y_So_rankAndChoose.2.1 144 = .ok (.iload 6, 2) := dc9_21 (by decide +kernel)
theorem d_So_rankAndChoose_146 : decode y_So_rankAndChoose.2.1 146 = .ok (.baload, 1) := dc9_51 (by decide +kernel)
theorem d_So_rankAndChoose_147 : decode y_So_rankAndChoose.2.1 147 = .ok (.ifCond .eq 31, 3) := dc9_153 (by decide +kernel)
theorem d_So_rankAndChoose_150 : decode y_So_rankAndChoose.2.1 150 = .ok (.iload 4, 2) := dc9_21 (by decide +kernel)
theorem d_So_rankAndChoose_152 : decode y_So_rankAndChoose.2.1 152 = .ok (.ifCond .eq 22, 3) := dc9_153 (by decide +kernel)
theorem d_So_rankAndChoose_155 : decode y_So_rankAndChoose.2.1 155 = .ok (.aload_n 0, 1) := dc9_42 (by decide +kernel)
theorem d_So_rankAndChoose_156 : decode y_So_rankAndChoose.2.1 156 = .ok (.iload 6, 2) := dc9_21 (by decide +kernel)
theorem d_So_rankAndChoose_158 : decode y_So_rankAndChoose.2.1 158 = .ok (.aload_n 0, 1) := dc9_42 (by decide +kernel)
theorem d_So_rankAndChoose_159 : decode y_So_rankAndChoose.2.1 159 = .ok (.getfield 18, 3) := dc9_180 (by decide +kernel)
theorem d_So_rankAndChoose_162 : decode y_So_rankAndChoose.2.1 162 = .ok (.iload_n 2, 1) := dc9_28 (by decide +kernel)
theorem d_So_rankAndChoose_163 : decode y_So_rankAndChoose.2.1 163 = .ok (.iaload, 1) := dc9_46 (by decide +kernel)
theorem d_So_rankAndChoose_164 : decode y_So_rankAndChoose.2.1 164 = .ok (.aload_n 0, 1) := dc9_42 (by decide +kernel)
theorem d_So_rankAndChoose_165 : decode y_So_rankAndChoose.2.1 165 = .ok (.getfield 18, 3) := dc9_180 (by decide +kernel)
theorem d_So_rankAndChoose_197 : decode y_So_rankAndChoose.2.1 197 = .ok (.iinc 2 1, 3) := by decide +kernel
theorem d_So_rankAndChoose_200 : decode y_So_rankAndChoose.2.1 200 = .ok (.goto (-183), 3) := dc9_167 (by decide +kernel)
theorem d_So_rankAndChoose_178 : decode y_So_rankAndChoose.2.1 178 = .ok (.iconst 0, 1) := dc9_3 (by decide +kernel)
theorem d_So_rankAndChoose_174 : decode y_So_rankAndChoose.2.1 174 = .ok (.iconst 1, 1) := dc9_4 (by decide +kernel)
theorem d_So_rankAndChoose_175 : decode y_So_rankAndChoose.2.1 175 = .ok (.goto 4, 3) := dc9_167 (by decide +kernel)
theorem d_So_rankAndChoose_168 : decode y_So_rankAndChoose.2.1 168 = .ok (.invokevirtual 239, 3) := dc9_182 (by decide +kernel)
theorem d_So_rankAndChoose_171 : decode y_So_rankAndChoose.2.1 171 = .ok (.ifCond .eq 7, 3) := dc9_153 (by decide +kernel)
theorem d_So_rankAndChoose_179 : decode y_So_rankAndChoose.2.1 179 = .ok (.istore 5, 2) := dc9_54 (by decide +kernel)
theorem d_So_rankAndChoose_181 : decode y_So_rankAndChoose.2.1 181 = .ok (.aload_n 0, 1) := dc9_42 (by decide +kernel)
theorem d_So_rankAndChoose_182 : decode y_So_rankAndChoose.2.1 182 = .ok (.getfield 22, 3) := dc9_180 (by decide +kernel)
theorem d_So_rankAndChoose_185 : decode y_So_rankAndChoose.2.1 185 = .ok (.iload_n 2, 1) := dc9_28 (by decide +kernel)
theorem d_So_rankAndChoose_186 : decode y_So_rankAndChoose.2.1 186 = .ok (.iload 6, 2) := dc9_21 (by decide +kernel)
theorem d_So_rankAndChoose_188 : decode y_So_rankAndChoose.2.1 188 = .ok (.iload_n 3, 1) := dc9_29 (by decide +kernel)
theorem d_So_rankAndChoose_189 : decode y_So_rankAndChoose.2.1 189 = .ok (.isub, 1) := dc9_100 (by decide +kernel)
theorem d_So_rankAndChoose_190 : decode y_So_rankAndChoose.2.1 190 = .ok (.iastore, 1) := dc9_79 (by decide +kernel)
theorem d_So_rankAndChoose_191 : decode y_So_rankAndChoose.2.1 191 = .ok (.iinc 6 1, 3) := by decide +kernel
theorem d_So_rankAndChoose_194 : decode y_So_rankAndChoose.2.1 194 = .ok (.goto (-75), 3) := dc9_167 (by decide +kernel)
def h_So_rankAndChoose_17 (G : mG) (d : Nat) (a0 : Nat) (l2 : Int) (M : mM) (Q : mM → Prop) : Prop := mWm G y_So_rankAndChoose (d + 1) 17 [vr a0, vd, vi l2, vd, vd, vd, vd] [] M (fun r9 M9 => r9 = none ∧ Q M9)
def h_So_rankAndChoose_119 (G : mG) (d : Nat) (a0 : Nat) (l2 : Int) (l3 : Int) (l4 : Int) (l5 : Int) (l6 : Int) (M : mM) (Q : mM → Prop) : Prop := mWm G y_So_rankAndChoose (d + 1) 119 [vr a0, vd, vi l2, vi l3, vi l4, vi l5, vi l6] [] M (fun r9 M9 => r9 = none ∧ Q M9)
def h_So_rankAndChoose_179 (G : mG) (d : Nat) (a0 : Nat) (l2 : Int) (l3 : Int) (l4 : Int) (l6 : Int) (k0 : Int) (M : mM) (Q : mM → Prop) : Prop := mWm G y_So_rankAndChoose (d + 1) 179 [vr a0, vd, vi l2, vi l3, vi l4, vd, vi l6] [vi k0] M (fun r9 M9 => r9 = none ∧ Q M9)
theorem k_So_rankAndChoose {G : mG} {d : Nat} {a0 : Nat} {a1 : Nat} {M : mM} {Q : mM → Prop} (hO : mOk M)
    (h : mK M a0 = 8 ∧ Ci G y_So_attain d [vr a0, vr a1] M (fun x3 M2 => i32 x3 ∧ mOk M2 ∧ (mK M2 a0 = 8 ∧ Cv G y_So_fillRanks d [vr a0, vr a1, vr (mR M2 a0 1)] M2 (fun M6 => mOk M6 ∧ (h_So_rankAndChoose_17 G d a0 0 M6 Q))))) :
    Cv G y_So_rankAndChoose (d + 1) [vr a0, vr a1] M Q := by
  refine wm_open (y := y_So_rankAndChoose) rfl (Nat.le_of_ble_eq_true rfl) (L := [vr a0, vr a1, vd, vd, vd, vd, vd]) rfl ?_
  obtain ⟨h1, h⟩ := h
  refine wm_aload_n d_So_rankAndChoose_0 rfl rfl ?_
  refine wm_aload_n d_So_rankAndChoose_1 rfl rfl ?_
  refine cf_So_232 rfl d_So_rankAndChoose_2 h1 (Nat.le_of_ble_eq_true rfl) (Ci.mono h (fun x3 M2 h => ?_))
  obtain ⟨h4, hOM2, h⟩ := h
  obtain ⟨h5, h⟩ := h
  refine wm_pop d_So_rankAndChoose_5 rfl ?_
  refine wm_aload_n d_So_rankAndChoose_6 rfl rfl ?_
  refine wm_aload_n d_So_rankAndChoose_7 rfl rfl ?_
  refine wm_aload_n d_So_rankAndChoose_8 rfl rfl ?_
  refine gf_So_18 rfl d_So_rankAndChoose_9 h5 ?_
  refine cf_So_235 rfl d_So_rankAndChoose_12 h5 (Nat.le_of_ble_eq_true rfl) (Cv.mono h (fun M6 h => ?_))
  obtain ⟨hOM6, h⟩ := h
  refine wm_iconst d_So_rankAndChoose_15 ?_
  refine wm_istore_n d_So_rankAndChoose_16 rfl (by decide) (L' := [vr a0, vr a1, vi 0, vd, vd, vd, vd]) rfl ?_
  refine wm_less (L' := [vr a0, vd, vi 0, vd, vd, vd, vd]) ⟨Or.inr rfl, Or.inl rfl, Or.inr rfl, Or.inl rfl, Or.inl rfl, Or.inl rfl, Or.inl rfl, trivial⟩ ?_
  exact h
theorem k_So_rankAndChoose_17 {G : mG} {d : Nat} {a0 : Nat} {l2 : Int} {M : mM} {Q : mM → Prop} (hO : mOk M) (hi_l2 : i32 l2)
    (h : mK M a0 = 8 ∧ mK M (mR M a0 3) = 7 ∧ ((mI M (mR M a0 3) 0 ≤ l2) → (Q M)) ∧ (¬ (mI M (mR M a0 3) 0 ≤ l2) → (mK M (mR M (mR M a0 3) 4) = 30 ∧ ((0 : Int) ≤ l2 ∧ l2 < (mN M (mR M (mR M a0 3) 4) : Int)) ∧ ((0 : Int) ≤ l2 + 1 ∧ l2 + 1 < (mN M (mR M (mR M a0 3) 4) : Int)) ∧ ∀ v20 : Int, v20 = (if (mI M (mR M (mR M a0 3) 4) (Int.toNat l2) = mI M (mR M (mR M a0 3) 4) (Int.toNat (l2 + 1))) then (-1) else 0) → mK M (mR M a0 2) = 30 ∧ ((0 : Int) ≤ l2 ∧ l2 < (mN M (mR M a0 2) : Int)) ∧ ∀ M26, M26 = mUI M (mR M a0 2) (Int.toNat l2) v20 → mK M26 (mR M26 a0 3) = 7 ∧ mK M26 (mR M26 (mR M26 a0 3) 2) = 30 ∧ ((0 : Int) ≤ l2 ∧ l2 < (mN M26 (mR M26 (mR M26 a0 3) 2) : Int)) ∧ ∀ v32 : Int, v32 = (if (mI M26 (mR M26 (mR M26 a0 3) 2) (Int.toNat l2) = 1) then 1 else 0) → mK M26 (mR M26 a0 2) = 30 ∧ ((0 : Int) ≤ l2 ∧ l2 < (mN M26 (mR M26 a0 2) : Int)) ∧ (¬ (mI M26 (mR M26 a0 2) (Int.toNat l2) = (-1)) → (¬ (v32 = 0) → (mK M26 (mR M26 a0 1) = 30 ∧ ((0 : Int) ≤ l2 ∧ l2 < (mN M26 (mR M26 a0 1) : Int))))) ∧ ∀ v44 : Int, v44 = (if ((mI M26 (mR M26 a0 2) (Int.toNat l2) = (-1)) ∨ ((¬ (v32 = 0)) ∧ (mI M26 (mR M26 a0 1) (Int.toNat l2) = (-1)))) then 1 else 0) → h_So_rankAndChoose_119 G d a0 l2 (mI M (mR M (mR M a0 3) 4) (Int.toNat l2)) v32 v44 (mI M (mR M (mR M a0 3) 4) (Int.toNat l2)) M26 Q))) :
    h_So_rankAndChoose_17 G d a0 l2 M Q := by
  unfold h_So_rankAndChoose_17
  obtain ⟨h9, h⟩ := h
  obtain ⟨h10, h⟩ := h
  refine wm_iload_n d_So_rankAndChoose_17 rfl rfl ?_
  refine wm_aload_n d_So_rankAndChoose_18 rfl rfl ?_
  refine gf_So_64 rfl d_So_rankAndChoose_19 h9 ?_
  refine gf_So_107 rfl d_So_rankAndChoose_22 h10 ?_
  refine wm_icmp_ge (tgt := 203) d_So_rankAndChoose_25 rfl hi_l2 (hO _ _).1 (fun c15 => ?_) (fun c15 => ?_)
  · replace h := h.1 c15
    refine wm_return d_So_rankAndChoose_203 rfl ?_
    exact ⟨rfl, h⟩
  · replace h := h.2 c15
    obtain ⟨h16, h⟩ := h
    obtain ⟨h17, h⟩ := h
    obtain ⟨h18, h⟩ := h
    refine wm_aload_n d_So_rankAndChoose_28 rfl rfl ?_
    refine gf_So_64 rfl d_So_rankAndChoose_29 h9 ?_
    refine gf_So_116 rfl d_So_rankAndChoose_32 h10 ?_
    refine wm_iload_n d_So_rankAndChoose_35 rfl rfl ?_
    refine wm_iald d_So_rankAndChoose_36 h16 h17 ?_
    refine wm_istore_n d_So_rankAndChoose_37 rfl (by decide) (L' := [vr a0, vd, vi l2, vi (mI M (mR M (mR M a0 3) 4) (Int.toNat l2)), vd, vd, vd]) rfl ?_
    refine wm_aload_n d_So_rankAndChoose_38 rfl rfl ?_
    refine gf_So_22 rfl d_So_rankAndChoose_39 h9 ?_
    refine wm_iload_n d_So_rankAndChoose_42 rfl rfl ?_
    refine wm_iload_n d_So_rankAndChoose_43 rfl rfl ?_
    refine wm_aload_n d_So_rankAndChoose_44 rfl rfl ?_
    refine gf_So_64 rfl d_So_rankAndChoose_45 h9 ?_
    refine gf_So_116 rfl d_So_rankAndChoose_48 h10 ?_
    refine wm_iload_n d_So_rankAndChoose_51 rfl rfl ?_
    refine wm_iconst d_So_rankAndChoose_52 ?_
    refine wm_iadd d_So_rankAndChoose_53 ?_
    refine wm_iald d_So_rankAndChoose_54 h16 h18 ?_
    have hJ : ∀ v20 : Int, v20 = (if (mI M (mR M (mR M a0 3) 4) (Int.toNat l2) = mI M (mR M (mR M a0 3) 4) (Int.toNat (l2 + 1))) then (-1) else 0) → mWm G y_So_rankAndChoose (d + 1) 63 [vr a0, vd, vi l2, vi (mI M (mR M (mR M a0 3) 4) (Int.toNat l2)), vd, vd, vd] [vi v20, vi l2, vr (mR M a0 2)] M (fun r9 M9 => r9 = none ∧ Q M9) := by
      intro v20 e22
      have h := h v20 e22
      have h23 : i32 v20 := by rw [e22]; (repeat' split) <;> first | exact ⟨by decide, by decide⟩ | exact ⟨by decide, by decide⟩
      obtain ⟨h24, h⟩ := h
      obtain ⟨h25, h⟩ := h
      obtain ⟨M26, e27⟩ : ∃ M26, M26 = mUI M (mR M a0 2) (Int.toNat l2) v20 := ⟨_, rfl⟩
      replace h := h M26 e27
      obtain ⟨h28, h⟩ := h
      obtain ⟨h29, h⟩ := h
      obtain ⟨h30, h⟩ := h
      have hOM26 : mOk M26 := by rw [e27]; exact mOk_UI hO h23
      refine wm_iastE d_So_rankAndChoose_63 h24 h25 h23 e27 ?_
      refine wm_aload_n d_So_rankAndChoose_64 rfl rfl ?_
      refine gf_So_64 rfl d_So_rankAndChoose_65 (by rw [e27]; exact h9) ?_
      refine gf_So_113 rfl d_So_rankAndChoose_68 h28 ?_
      refine wm_iload_n d_So_rankAndChoose_71 rfl rfl ?_
      refine wm_iald d_So_rankAndChoose_72 h29 h30 ?_
      refine wm_iconst d_So_rankAndChoose_73 ?_
      have hJ : ∀ v32 : Int, v32 = (if (mI M26 (mR M26 (mR M26 a0 3) 2) (Int.toNat l2) = 1) then 1 else 0) → mWm G y_So_rankAndChoose (d + 1) 82 [vr a0, vd, vi l2, vi (mI M (mR M (mR M a0 3) 4) (Int.toNat l2)), vd, vd, vd] [vi v32] M26 (fun r9 M9 => r9 = none ∧ Q M9) := by
        intro v32 e34
        have h := h v32 e34
        have h35 : i32 v32 := by rw [e34]; (repeat' split) <;> first | exact ⟨by decide, by decide⟩ | exact ⟨by decide, by decide⟩
        have h36 : (v32 = 0 ∨ v32 = 1) := by rw [e34]; (repeat' split) <;> decide
        obtain ⟨h37, h⟩ := h
        obtain ⟨h38, h⟩ := h
        refine wm_istore d_So_rankAndChoose_82 (by decide) (L' := [vr a0, vd, vi l2, vi (mI M (mR M (mR M a0 3) 4) (Int.toNat l2)), vi v32, vd, vd]) rfl ?_
        refine wm_aload_n d_So_rankAndChoose_84 rfl rfl ?_
        refine gf_So_22 rfl d_So_rankAndChoose_85 (by rw [e27]; exact h9) ?_
        refine wm_iload_n d_So_rankAndChoose_88 rfl rfl ?_
        refine wm_iald d_So_rankAndChoose_89 h37 h38 ?_
        refine wm_iconst d_So_rankAndChoose_90 ?_
        obtain ⟨s45, h⟩ := h
        have hJ : ∀ v44 : Int, v44 = (if ((mI M26 (mR M26 a0 2) (Int.toNat l2) = (-1)) ∨ ((¬ (v32 = 0)) ∧ (mI M26 (mR M26 a0 1) (Int.toNat l2) = (-1)))) then 1 else 0) → mWm G y_So_rankAndChoose (d + 1) 114 [vr a0, vd, vi l2, vi (mI M (mR M (mR M a0 3) 4) (Int.toNat l2)), vi v32, vd, vd] [vi v44] M26 (fun r9 M9 => r9 = none ∧ Q M9) := by
          intro v44 e46
          have h := h v44 e46
          have h47 : i32 v44 := by rw [e46]; (repeat' split) <;> first | exact ⟨by decide, by decide⟩ | exact ⟨by decide, by decide⟩
          have h48 : (v44 = 0 ∨ v44 = 1) := by rw [e46]; (repeat' split) <;> decide
          refine wm_istore d_So_rankAndChoose_114 (by decide) (L' := [vr a0, vd, vi l2, vi (mI M (mR M (mR M a0 3) 4) (Int.toNat l2)), vi v32, vi v44, vd]) rfl ?_
          refine wm_iload_n d_So_rankAndChoose_116 rfl rfl ?_
          refine wm_istore d_So_rankAndChoose_117 (by decide) (L' := [vr a0, vd, vi l2, vi (mI M (mR M (mR M a0 3) 4) (Int.toNat l2)), vi v32, vi v44, vi (mI M (mR M (mR M a0 3) 4) (Int.toNat l2))]) rfl ?_
          exact h
        clear h
        have s49 := s45
        refine wm_icmp_eq (tgt := 109) d_So_rankAndChoose_91 rfl (hOM26 _ _).1 ⟨by decide, by decide⟩ (fun c39 => ?_) (fun c39 => ?_)
        · refine wm_iconst d_So_rankAndChoose_109 ?_
          refine wm_goto (tgt := 114) d_So_rankAndChoose_110 rfl ?_
          exact hJ 1 (if_pos (Or.inl c39)).symm
        · have s49 := s49 c39
          have s50 := s49
          refine wm_iload d_So_rankAndChoose_94 rfl ?_
          refine wm_if_eq (tgt := 113) d_So_rankAndChoose_96 rfl h35 (fun c40 => ?_) (fun c40 => ?_)
          · refine wm_iconst d_So_rankAndChoose_113 ?_
            exact hJ 0 (if_neg (fun z51 => Or.elim z51 c39 (fun z52 => z52.1 c40))).symm
          · have s50 := s50 c40
            obtain ⟨h41, h42⟩ := s50
            refine wm_aload_n d_So_rankAndChoose_99 rfl rfl ?_
            refine gf_So_18 rfl d_So_rankAndChoose_100 (by rw [e27]; exact h9) ?_
            refine wm_iload_n d_So_rankAndChoose_103 rfl rfl ?_
            refine wm_iald d_So_rankAndChoose_104 h41 h42 ?_
            refine wm_iconst d_So_rankAndChoose_105 ?_
            refine wm_icmp_ne (tgt := 113) d_So_rankAndChoose_106 rfl (hOM26 _ _).1 ⟨by decide, by decide⟩ (fun c43 => ?_) (fun c43 => ?_)
            · refine wm_iconst d_So_rankAndChoose_113 ?_
              exact hJ 0 (if_neg (fun z53 => Or.elim z53 c39 (fun z54 => c43 z54.2))).symm
            · replace c43 := Classical.not_not.mp c43
              refine wm_iconst d_So_rankAndChoose_109 ?_
              refine wm_goto (tgt := 114) d_So_rankAndChoose_110 rfl ?_
              exact hJ 1 (if_pos (Or.inr ⟨c40, c43⟩)).symm
      clear h
      refine wm_icmp_ne (tgt := 81) d_So_rankAndChoose_74 rfl (hOM26 _ _).1 ⟨by decide, by decide⟩ (fun c31 => ?_) (fun c31 => ?_)
      · refine wm_iconst d_So_rankAndChoose_81 ?_
        exact hJ 0 (if_neg c31).symm
      · replace c31 := Classical.not_not.mp c31
        refine wm_iconst d_So_rankAndChoose_77 ?_
        refine wm_goto (tgt := 82) d_So_rankAndChoose_78 rfl ?_
        exact hJ 1 (if_pos c31).symm
    clear h
    refine wm_icmp_ne (tgt := 62) d_So_rankAndChoose_55 rfl (hO _ _).1 (hO _ _).1 (fun c19 => ?_) (fun c19 => ?_)
    · refine wm_iconst d_So_rankAndChoose_62 ?_
      exact hJ 0 (if_neg c19).symm
    · replace c19 := Classical.not_not.mp c19
      refine wm_iconst d_So_rankAndChoose_58 ?_
      refine wm_goto (tgt := 63) d_So_rankAndChoose_59 rfl ?_
      exact hJ (-1) (if_pos c19).symm
theorem k_So_rankAndChoose_119 {G : mG} {d : Nat} {a0 : Nat} {l2 : Int} {l3 : Int} {l4 : Int} {l5 : Int} {l6 : Int} {M : mM} {Q : mM → Prop} (hO : mOk M) (hi_l2 : i32 l2) (hi_l3 : i32 l3) (hi_l4 : i32 l4) (hi_l5 : i32 l5) (hi_l6 : i32 l6)
    (h : mK M a0 = 8 ∧ mK M (mR M a0 3) = 7 ∧ mK M (mR M (mR M a0 3) 4) = 30 ∧ ((0 : Int) ≤ l2 + 1 ∧ l2 + 1 < (mN M (mR M (mR M a0 3) 4) : Int)) ∧ (((mI M (mR M (mR M a0 3) 4) (Int.toNat (l2 + 1)) ≤ l6) ∨ (¬ (l5 = 0))) → (h_So_rankAndChoose_17 G d a0 (l2 + 1) M Q)) ∧ (¬ ((mI M (mR M (mR M a0 3) 4) (Int.toNat (l2 + 1)) ≤ l6) ∨ (¬ (l5 = 0))) → (mK M (mR M a0 15) = 31 ∧ ((0 : Int) ≤ l6 ∧ l6 < (mN M (mR M a0 15) : Int)) ∧ ((mI M (mR M a0 15) (Int.toNat l6) = 0) → (h_So_rankAndChoose_179 G d a0 l2 l3 l4 l6 0 M Q)) ∧ (¬ (mI M (mR M a0 15) (Int.toNat l6) = 0) → (((l4 = 0) → (h_So_rankAndChoose_179 G d a0 l2 l3 l4 l6 1 M Q)) ∧ (¬ (l4 = 0) → (mK M (mR M a0 1) = 30 ∧ ((0 : Int) ≤ l2 ∧ l2 < (mN M (mR M a0 1) : Int)) ∧ Ci G y_So_leadsBelow d [vr a0, vi l6, vi (mI M (mR M a0 1) (Int.toNat l2)), vr (mR M a0 1)] M (fun x81 M80 => i32 x81 ∧ mOk M80 ∧ (((x81 = 0) → (h_So_rankAndChoose_179 G d a0 l2 l3 l4 l6 0 M80 Q)) ∧ (¬ (x81 = 0) → (h_So_rankAndChoose_179 G d a0 l2 l3 l4 l6 1 M80 Q))))))))))) :
    h_So_rankAndChoose_119 G d a0 l2 l3 l4 l5 l6 M Q := by
  unfold h_So_rankAndChoose_119
  obtain ⟨h58, h⟩ := h
  obtain ⟨h59, h⟩ := h
  obtain ⟨h60, h⟩ := h
  obtain ⟨h61, h⟩ := h
  refine wm_iload d_So_rankAndChoose_119 rfl ?_
  refine wm_aload_n d_So_rankAndChoose_121 rfl rfl ?_
  refine gf_So_64 rfl d_So_rankAndChoose_122 h58 ?_
  refine gf_So_116 rfl d_So_rankAndChoose_125 h59 ?_
  refine wm_iload_n d_So_rankAndChoose_128 rfl rfl ?_
  refine wm_iconst d_So_rankAndChoose_129 ?_
  refine wm_iadd d_So_rankAndChoose_130 ?_
  refine wm_iald d_So_rankAndChoose_131 h60 h61 ?_
  have hE0 : ((mI M (mR M (mR M a0 3) 4) (Int.toNat (l2 + 1)) ≤ l6) ∨ (¬ (l5 = 0))) → mWm G y_So_rankAndChoose (d + 1) 197 [vr a0, vd, vi l2, vi l3, vi l4, vi l5, vi l6] [] M (fun r9 M9 => r9 = none ∧ Q M9) := by
    intro q69
    have h := h.1 q69
    refine wm_iinc d_So_rankAndChoose_197 (by decide) rfl (L' := [vr a0, vd, vi (l2 + 1), vi l3, vi l4, vi l5, vi l6]) rfl ?_
    refine wm_goto (tgt := 17) d_So_rankAndChoose_200 rfl ?_
    refine wm_less (L' := [vr a0, vd, vi (l2 + 1), vd, vd, vd, vd]) ⟨Or.inr rfl, Or.inl rfl, Or.inr rfl, Or.inl rfl, Or.inl rfl, Or.inl rfl, Or.inl rfl, trivial⟩ ?_
    exact h
  have hE1 : ¬ ((mI M (mR M (mR M a0 3) 4) (Int.toNat (l2 + 1)) ≤ l6) ∨ (¬ (l5 = 0))) → mWm G y_So_rankAndChoose (d + 1) 140 [vr a0, vd, vi l2, vi l3, vi l4, vi l5, vi l6] [] M (fun r9 M9 => r9 = none ∧ Q M9) := by
    intro q70
    have h := h.2 q70
    obtain ⟨h71, h⟩ := h
    obtain ⟨h72, h⟩ := h
    refine wm_aload_n d_So_rankAndChoose_140 rfl rfl ?_
    refine gf_So_50 rfl d_So_rankAndChoose_141 h58 ?_
    refine wm_iload d_So_rankAndChoose_144 rfl ?_
    refine wm_zald d_So_rankAndChoose_146 h71 h72 ?_
    refine wm_if_eq (tgt := 178) d_So_rankAndChoose_147 rfl (hO _ _).1 (fun c75 => ?_) (fun c75 => ?_)
    · replace h := h.1 c75
      refine wm_iconst d_So_rankAndChoose_178 ?_
      refine wm_less (L' := [vr a0, vd, vi l2, vi l3, vi l4, vd, vi l6]) ⟨Or.inr rfl, Or.inl rfl, Or.inr rfl, Or.inr rfl, Or.inr rfl, Or.inl rfl, Or.inr rfl, trivial⟩ ?_
      exact h
    · replace h := h.2 c75
      refine wm_iload d_So_rankAndChoose_150 rfl ?_
      refine wm_if_eq (tgt := 174) d_So_rankAndChoose_152 rfl hi_l4 (fun c77 => ?_) (fun c77 => ?_)
      · replace h := h.1 c77
        refine wm_iconst d_So_rankAndChoose_174 ?_
        refine wm_goto (tgt := 179) d_So_rankAndChoose_175 rfl ?_
        refine wm_less (L' := [vr a0, vd, vi l2, vi l3, vi l4, vd, vi l6]) ⟨Or.inr rfl, Or.inl rfl, Or.inr rfl, Or.inr rfl, Or.inr rfl, Or.inl rfl, Or.inr rfl, trivial⟩ ?_
        exact h
      · replace h := h.2 c77
        obtain ⟨h78, h⟩ := h
        obtain ⟨h79, h⟩ := h
        refine wm_aload_n d_So_rankAndChoose_155 rfl rfl ?_
        refine wm_iload d_So_rankAndChoose_156 rfl ?_
        refine wm_aload_n d_So_rankAndChoose_158 rfl rfl ?_
        refine gf_So_18 rfl d_So_rankAndChoose_159 h58 ?_
        refine wm_iload_n d_So_rankAndChoose_162 rfl rfl ?_
        refine wm_iald d_So_rankAndChoose_163 h78 h79 ?_
        refine wm_aload_n d_So_rankAndChoose_164 rfl rfl ?_
        refine gf_So_18 rfl d_So_rankAndChoose_165 h58 ?_
        refine cf_So_239 rfl d_So_rankAndChoose_168 h58 (Nat.le_of_ble_eq_true rfl) (Ci.mono h (fun x81 M80 h => ?_))
        obtain ⟨h82, hOM80, h⟩ := h
        refine wm_if_eq (tgt := 178) d_So_rankAndChoose_171 rfl h82 (fun c84 => ?_) (fun c84 => ?_)
        · replace h := h.1 c84
          refine wm_iconst d_So_rankAndChoose_178 ?_
          refine wm_less (L' := [vr a0, vd, vi l2, vi l3, vi l4, vd, vi l6]) ⟨Or.inr rfl, Or.inl rfl, Or.inr rfl, Or.inr rfl, Or.inr rfl, Or.inl rfl, Or.inr rfl, trivial⟩ ?_
          exact h
        · replace h := h.2 c84
          refine wm_iconst d_So_rankAndChoose_174 ?_
          refine wm_goto (tgt := 179) d_So_rankAndChoose_175 rfl ?_
          refine wm_less (L' := [vr a0, vd, vi l2, vi l3, vi l4, vd, vi l6]) ⟨Or.inr rfl, Or.inl rfl, Or.inr rfl, Or.inr rfl, Or.inr rfl, Or.inl rfl, Or.inr rfl, trivial⟩ ?_
          exact h
  clear h
  refine wm_icmp_ge (tgt := 197) d_So_rankAndChoose_132 rfl hi_l6 (hO _ _).1 (fun c67 => ?_) (fun c67 => ?_)
  · exact hE0 (Or.inl c67)
  · refine wm_iload d_So_rankAndChoose_135 rfl ?_
    refine wm_if_ne (tgt := 197) d_So_rankAndChoose_137 rfl hi_l5 (fun c66 => ?_) (fun c66 => ?_)
    · exact hE0 (Or.inr c66)
    · replace c66 := Classical.not_not.mp c66
      exact hE1 (fun z85 => Or.elim z85 c67 (fun z86 => z86 c66))
theorem k_So_rankAndChoose_179 {G : mG} {d : Nat} {a0 : Nat} {l2 : Int} {l3 : Int} {l4 : Int} {l6 : Int} {k0 : Int} {M : mM} {Q : mM → Prop} (hO : mOk M) (hi_l2 : i32 l2) (hi_l3 : i32 l3) (hi_l4 : i32 l4) (hi_l6 : i32 l6) (hi_k0 : i32 k0)
    (h : mK M a0 = 8 ∧ mK M (mR M a0 2) = 30 ∧ ((0 : Int) ≤ l2 ∧ l2 < (mN M (mR M a0 2) : Int)) ∧ i32 (l6 - l3) ∧ ∀ M91, M91 = mUI M (mR M a0 2) (Int.toNat l2) (l6 - l3) → h_So_rankAndChoose_119 G d a0 l2 l3 l4 k0 (l6 + 1) M91 Q) :
    h_So_rankAndChoose_179 G d a0 l2 l3 l4 l6 k0 M Q := by
  unfold h_So_rankAndChoose_179
  obtain ⟨h87, h⟩ := h
  obtain ⟨h88, h⟩ := h
  obtain ⟨h89, h⟩ := h
  obtain ⟨h90, h⟩ := h
  obtain ⟨M91, e92⟩ : ∃ M91, M91 = mUI M (mR M a0 2) (Int.toNat l2) (l6 - l3) := ⟨_, rfl⟩
  replace h := h M91 e92
  refine wm_istore d_So_rankAndChoose_179 (by decide) (L' := [vr a0, vd, vi l2, vi l3, vi l4, vi k0, vi l6]) rfl ?_
  refine wm_aload_n d_So_rankAndChoose_181 rfl rfl ?_
  refine gf_So_22 rfl d_So_rankAndChoose_182 h87 ?_
  refine wm_iload_n d_So_rankAndChoose_185 rfl rfl ?_
  refine wm_iload d_So_rankAndChoose_186 rfl ?_
  refine wm_iload_n d_So_rankAndChoose_188 rfl rfl ?_
  refine wm_isub d_So_rankAndChoose_189 ?_
  have hOM91 : mOk M91 := by rw [e92]; exact mOk_UI hO h90
  refine wm_iastE d_So_rankAndChoose_190 h88 h89 h90 e92 ?_
  refine wm_iinc d_So_rankAndChoose_191 (by decide) rfl (L' := [vr a0, vd, vi l2, vi l3, vi l4, vi k0, vi (l6 + 1)]) rfl ?_
  refine wm_goto (tgt := 119) d_So_rankAndChoose_194 rfl ?_
  exact h
theorem d_So_attain_0 : decode y_So_attain.2.1 0 = .ok (.iconst 1, 1) := dc9_4 (by decide +kernel)
theorem d_So_attain_1 : decode y_So_attain.2.1 1 = .ok (.istore_n 2, 1) := dc9_61 (by decide +kernel)
theorem d_So_attain_2 : decode y_So_attain.2.1 2 = .ok (.iconst 0, 1) := dc9_3 (by decide +kernel)
theorem d_So_attain_3 : decode y_So_attain.2.1 3 = .ok (.istore_n 3, 1) := dc9_62 (by decide +kernel)
theorem d_So_attain_4 : decode y_So_attain.2.1 4 = .ok (.iload_n 3, 1) := dc9_29 (by decide +kernel)
theorem d_So_attain_5 : decode y_So_attain.2.1 5 = .ok (.aload_n 0, 1) := dc9_42 (by decide +kernel)
theorem d_So_attain_6 : decode y_So_attain.2.1 6 = .ok (.getfield 64, 3) := dc9_180 (by decide +kernel)
theorem d_So_attain_9 : decode y_So_attain.2.1 9 = .ok (.getfield 107, 3) := dc9_180 (by decide +kernel)
theorem d_So_attain_12 : decode y_So_attain.2.1 12 = .ok (.if_icmp .ge 239, 3) := dc9_162 (by decide +kernel)
theorem d_So_attain_251 : decode y_So_attain.2.1 251 = .ok (.iload_n 2, 1) := dc9_28 (by decide +kernel)
theorem d_So_attain_252 : decode y_So_attain.2.1 252 = .ok (.ireturn, 1) := dc9_172 (by decide +kernel)
theorem d_So_attain_15 : decode y_So_attain.2.1 15 = .ok (.aload_n 1, 1) := dc9_43 (by decide +kernel)
theorem d_So_attain_16 : decode y_So_attain.2.1 16 = .ok (.getfield 169, 3) := dc9_180 (by decide +kernel)
theorem d_So_attain_19 : decode y_So_attain.2.1 19 = .ok (.iload_n 3, 1) := dc9_29 (by decide +kernel)
theorem d_So_attain_20 : decode y_So_attain.2.1 20 = .ok (.aaload, 1) := dc9_50 (by decide +kernel)
theorem d_So_attain_21 : decode y_So_attain.2.1 21 = .ok (.astore 4, 2) := dc9_58 (by decide +kernel)
theorem d_So_attain_23 : decode y_So_attain.2.1 23 = .ok (.aload_n 0, 1) := dc9_42 (by decide +kernel)
theorem d_So_attain_24 : decode y_So_attain.2.1 24 = .ok (.getfield 64, 3) := dc9_180 (by decide +kernel)
theorem d_So_attain_27 : decode y_So_attain.2.1 27 = .ok (.getfield 116, 3) := dc9_180 (by decide +kernel)
theorem d_So_attain_30 : decode y_So_attain.2.1 30 = .ok (.iload_n 3, 1) := dc9_29 (by decide +kernel)
theorem d_So_attain_31 : decode y_So_attain.2.1 31 = .ok (.iaload, 1) := dc9_46 (by decide +kernel)
theorem d_So_attain_32 : decode y_So_attain.2.1 32 = .ok (.aload_n 0, 1) := dc9_42 (by decide +kernel)
theorem d_So_attain_33 : decode y_So_attain.2.1 33 = .ok (.getfield 64, 3) := dc9_180 (by decide +kernel)
theorem d_So_attain_36 : decode y_So_attain.2.1 36 = .ok (.getfield 116, 3) := dc9_180 (by decide +kernel)
theorem d_So_attain_39 : decode y_So_attain.2.1 39 = .ok (.iload_n 3, 1) := dc9_29 (by decide +kernel)
theorem d_So_attain_40 : decode y_So_attain.2.1 40 = .ok (.iconst 1, 1) := dc9_4 (by decide +kernel)
theorem d_So_attain_41 : decode y_So_attain.2.1 41 = .ok (.iadd, 1) := dc9_96 (by decide +kernel)
theorem d_So_attain_42 : decode y_So_attain.2.1 42 = .ok (.iaload, 1) := dc9_46 (by decide +kernel)
theorem d_So_attain_43 : decode y_So_attain.2.1 43 = .ok (.if_icmp .ne 7, 3) := dc9_160 (by decide +kernel)
theorem d_So_attain_46 : decode y_So_attain.2.1 46 = .ok (.iconst 1, 1) := dc9_4 (by decide +kernel)
theorem d_So_attain_47 : decode y_So_attain.2.1 47 = .ok (.goto 4, 3) := dc9_167 (by decide +kernel)
theorem d_So_attain_50 : decode y_So_attain.2.1 50 = .ok (.iconst 0, 1) := dc9_3 (by decide +kernel)
theorem d_So_attain_51 : decode y_So_attain.2.1 51 = .ok (.istore 5, 2) := dc9_54 (by decide +kernel)
theorem d_So_attain_53 : decode y_So_attain.2.1 53 = .ok (.iload 5, 2) := dc9_21 (by decide +kernel)
theorem d_So_attain_55 : decode y_So_attain.2.1 55 = .ok (.ifCond .eq 52, 3) := dc9_153 (by decide +kernel)
theorem d_So_attain_58 : decode y_So_attain.2.1 58 = .ok (.aload_n 0, 1) := dc9_42 (by decide +kernel)
theorem d_So_attain_59 : decode y_So_attain.2.1 59 = .ok (.getfield 60, 3) := dc9_180 (by decide +kernel)
theorem d_So_attain_62 : decode y_So_attain.2.1 62 = .ok (.aload_n 0, 1) := dc9_42 (by decide +kernel)
theorem d_So_attain_63 : decode y_So_attain.2.1 63 = .ok (.getfield 64, 3) := dc9_180 (by decide +kernel)
theorem d_So_attain_66 : decode y_So_attain.2.1 66 = .ok (.getfield 113, 3) := dc9_180 (by decide +kernel)
theorem d_So_attain_69 : decode y_So_attain.2.1 69 = .ok (.iload_n 3, 1) := dc9_29 (by decide +kernel)
theorem d_So_attain_70 : decode y_So_attain.2.1 70 = .ok (.iaload, 1) := dc9_46 (by decide +kernel)
theorem d_So_attain_71 : decode y_So_attain.2.1 71 = .ok (.iconst 3, 1) := dc9_6 (by decide +kernel)
theorem d_So_attain_72 : decode y_So_attain.2.1 72 = .ok (.if_icmp .ne 7, 3) := dc9_160 (by decide +kernel)
theorem d_So_attain_75 : decode y_So_attain.2.1 75 = .ok (.iconst 1, 1) := dc9_4 (by decide +kernel)
theorem d_So_attain_76 : decode y_So_attain.2.1 76 = .ok (.goto 4, 3) := dc9_167 (by decide +kernel)
theorem d_So_attain_79 : decode y_So_attain.2.1 79 = .ok (.iconst 0, 1) := dc9_3 (by decide +kernel)
theorem d_So_attain_80 : decode y_So_attain.2.1 80 = .ok (.invokevirtual 243, 3) := dc9_182 (by decide +kernel)
theorem d_So_attain_83 : decode y_So_attain.2.1 83 = .ok (.iload_n 2, 1) := dc9_28 (by decide +kernel)
theorem d_So_attain_84 : decode y_So_attain.2.1 84 = .ok (.aload_n 0, 1) := dc9_42 (by decide +kernel)
theorem d_So_attain_85 : decode y_So_attain.2.1 85 = .ok (.getfield 12, 3) := dc9_180 (by decide +kernel)
theorem d_So_attain_88 : decode y_So_attain.2.1 88 = .ok (.aload_n 0, 1) := dc9_42 (by decide +kernel)
theorem d_So_attain_89 : decode y_So_attain.2.1 89 = .ok (.getfield 60, 3) := dc9_180 (by decide +kernel)
theorem d_So_attain_92 : decode y_So_attain.2.1 92 = .ok (.aload 4, 2) := dc9_25 (by decide +kernel)
theorem d_So_attain_94 : decode y_So_attain.2.1 94 = .ok (.invokevirtual 225, 3) := dc9_182 (by decide +kernel)
theorem d_So_attain_97 : decode y_So_attain.2.1 97 = .ok (.ifCond .ne 7, 3) := dc9_154 (by decide +kernel)
theorem d_So_attain_100 : decode y_So_attain.2.1 100 = .ok (.iconst 1, 1) := dc9_4 (by decide +kernel)
theorem d_So_attain_101 : decode y_So_attain.2.1 101 = .ok (.goto 4, 3) := dc9_167 (by decide +kernel)
theorem d_So_attain_104 : decode y_So_attain.2.1 104 = .ok (.iconst 0, 1) := dc9_3 (by decide +kernel)
theorem d_So_attain_105 : decode y_So_attain.2.1 105 = .ok (.iand, 1) := dc9_126 (by decide +kernel)
theorem d_So_attain_106 : decode y_So_attain.2.1 106 = .ok (.istore_n 2, 1) := dc9_61 (by decide +kernel)
theorem d_So_attain_107 : decode y_So_attain.2.1 107 = .ok (.aload_n 0, 1) := dc9_42 (by decide +kernel)
theorem d_So_attain_108 : decode y_So_attain.2.1 108 = .ok (.getfield 64, 3) := dc9_180 (by decide +kernel)
theorem d_So_attain_111 : decode y_So_attain.2.1 111 = .ok (.getfield 113, 3) := dc9_180 (by decide +kernel)
theorem d_So_attain_114 : decode y_So_attain.2.1 114 = .ok (.iload_n 3, 1) := dc9_29 (by decide +kernel)
theorem d_So_attain_115 : decode y_So_attain.2.1 115 = .ok (.iaload, 1) := dc9_46 (by decide +kernel)
theorem d_So_attain_116 : decode y_So_attain.2.1 116 = .ok (.iconst 1, 1) := dc9_4 (by decide +kernel)
theorem d_So_attain_117 : decode y_So_attain.2.1 117 = .ok (.if_icmp .ne 7, 3) := dc9_160 (by decide +kernel)
theorem d_So_attain_120 : decode y_So_attain.2.1 120 = .ok (.iconst 1, 1) := dc9_4 (by decide +kernel)
theorem d_So_attain_121 : decode y_So_attain.2.1 121 = .ok (.goto 4, 3) := dc9_167 (by decide +kernel)
theorem d_So_attain_124 : decode y_So_attain.2.1 124 = .ok (.iconst (-1), 1) := dc9_2 (by decide +kernel)
theorem d_So_attain_125 : decode y_So_attain.2.1 125 = .ok (.istore 6, 2) := dc9_54 (by decide +kernel)
theorem d_So_attain_127 : decode y_So_attain.2.1 127 = .ok (.aload_n 0, 1) := dc9_42 (by decide +kernel)
theorem d_So_attain_128 : decode y_So_attain.2.1 128 = .ok (.getfield 64, 3) := dc9_180 (by decide +kernel)
theorem d_So_attain_131 : decode y_So_attain.2.1 131 = .ok (.getfield 116, 3) := dc9_180 (by decide +kernel)
theorem d_So_attain_134 : decode y_So_attain.2.1 134 = .ok (.iload_n 3, 1) := dc9_29 (by decide +kernel)
theorem d_So_attain_135 : decode y_So_attain.2.1 135 = .ok (.iaload, 1) := dc9_46 (by decide +kernel)
theorem d_So_attain_136 : decode y_So_attain.2.1 136 = .ok (.istore 7, 2) := dc9_54 (by decide +kernel)
theorem d_So_attain_138 : decode y_So_attain.2.1 138 = .ok (.iload 7, 2) := dc9_21 (by decide +kernel)
theorem d_So_attain_140 : decode y_So_attain.2.1 140 = .ok (.aload_n 0, 1) := dc9_42 (by decide +kernel)
theorem d_So_attain_141 : decode y_So_attain.2.1 141 = .ok (.getfield 64, 3) := dc9_180 (by decide +kernel)
theorem d_So_attain_144 : decode y_So_attain.2.1 144 = .ok (.getfield 116, 3) := dc9_180 (by decide +kernel)
theorem d_So_attain_147 : decode y_So_attain.2.1 147 = .ok (.iload_n 3, 1) := dc9_29 (by decide +kernel)
theorem d_So_attain_148 : decode y_So_attain.2.1 148 = .ok (.iconst 1, 1) := dc9_4 (by decide +kernel)
theorem d_So_attain_149 : decode y_So_attain.2.1 149 = .ok (.iadd, 1) := dc9_96 (by decide +kernel)
theorem d_So_attain_150 : decode y_So_attain.2.1 150 = .ok (.iaload, 1) := dc9_46 (by decide +kernel)
theorem d_So_attain_151 : decode y_So_attain.2.1 151 = .ok (.if_icmp .ge 89, 3) := dc9_162 (by decide +kernel)
theorem d_So_attain_240 : decode y_So_attain.2.1 240 = .ok (.iload_n 2, 1) := dc9_28 (by decide +kernel)
theorem d_So_attain_241 : decode y_So_attain.2.1 241 = .ok (.iload 5, 2) := dc9_21 (by decide +kernel)
theorem d_So_attain_243 : decode y_So_attain.2.1 243 = .ok (.iand, 1) := dc9_126 (by decide +kernel)
theorem d_So_attain_244 : decode y_So_attain.2.1 244 = .ok (.istore_n 2, 1) := dc9_61 (by decide +kernel)
theorem d_So_attain_245 : decode y_So_attain.2.1 245 = .ok (.iinc 3 1, 3) := by decide +kernel
theorem d_So_attain_248 : decode y_So_attain.2.1 248 = .ok (.goto (-244), 3) := dc9_167 (by decide +kernel)
theorem d_So_attain_154 : decode y_So_attain.2.1 154 = .ok (.aload_n 0, 1) := dc9_42 (by decide +kernel)
theorem d_So_attain_155 : decode y_So_attain.2.1 155 = .ok (.getfield 12, 3) := dc9_180 (by decide +kernel)
theorem d_So_attain_158 : decode y_So_attain.2.1 158 = .ok (.aload_n 0, 1) := dc9_42 (by decide +kernel)
theorem d_So_attain_159 : decode y_So_attain.2.1 159 = .ok (.getfield 64, 3) := dc9_180 (by decide +kernel)
theorem d_So_attain_162 : decode y_So_attain.2.1 162 = .ok (.iload 7, 2) := dc9_21 (by decide +kernel)
theorem d_So_attain_164 : decode y_So_attain.2.1 164 = .ok (.aload_n 1, 1) := dc9_43 (by decide +kernel)
theorem d_So_attain_165 : decode y_So_attain.2.1 165 = .ok (.aload_n 0, 1) := dc9_42 (by decide +kernel)
theorem d_So_attain_166 : decode y_So_attain.2.1 166 = .ok (.getfield 60, 3) := dc9_180 (by decide +kernel)
theorem d_So_attain_169 : decode y_So_attain.2.1 169 = .ok (.invokevirtual 221, 3) := dc9_182 (by decide +kernel)
theorem d_So_attain_172 : decode y_So_attain.2.1 172 = .ok (.aload_n 0, 1) := dc9_42 (by decide +kernel)
theorem d_So_attain_173 : decode y_So_attain.2.1 173 = .ok (.getfield 12, 3) := dc9_180 (by decide +kernel)
theorem d_So_attain_176 : decode y_So_attain.2.1 176 = .ok (.aload_n 0, 1) := dc9_42 (by decide +kernel)
theorem d_So_attain_177 : decode y_So_attain.2.1 177 = .ok (.getfield 60, 3) := dc9_180 (by decide +kernel)
theorem d_So_attain_180 : decode y_So_attain.2.1 180 = .ok (.aload 4, 2) := dc9_25 (by decide +kernel)
theorem d_So_attain_182 : decode y_So_attain.2.1 182 = .ok (.invokevirtual 225, 3) := dc9_182 (by decide +kernel)
theorem d_So_attain_185 : decode y_So_attain.2.1 185 = .ok (.istore 8, 2) := dc9_54 (by decide +kernel)
theorem d_So_attain_187 : decode y_So_attain.2.1 187 = .ok (.aload_n 0, 1) := dc9_42 (by decide +kernel)
theorem d_So_attain_188 : decode y_So_attain.2.1 188 = .ok (.getfield 50, 3) := dc9_180 (by decide +kernel)
theorem d_So_attain_191 : decode y_So_attain.2.1 191 = .ok (.iload 7, 2) := dc9_21 (by decide +kernel)
theorem d_So_attain_193 : decode y_So_attain.2.1 193 = .ok (.iload 8, 2) := dc9_21 (by decide +kernel)
theorem d_So_attain_195 : decode y_So_attain.2.1 195 = .ok (.ifCond .ne 7, 3) := dc9_154 (by decide +kernel)
theorem d_So_attain_198 : decode y_So_attain.2.1 198 = .ok (.iconst 1, 1) := dc9_4 (by decide +kernel)
theorem d_So_attain_199 : decode y_So_attain.2.1 199 = .ok (.goto 4, 3) := dc9_167 (by decide +kernel)
theorem d_So_attain_202 : decode y_So_attain.2.1 202 = .ok (.iconst 0, 1) := dc9_3 (by decide +kernel)
theorem d_So_attain_203 : decode y_So_attain.2.1 203 = .ok (.bastore, 1) := dc9_84 (by decide +kernel)
theorem d_So_attain_204 : decode y_So_attain.2.1 204 = .ok (.iload 5, 2) := dc9_21 (by decide +kernel)
theorem d_So_attain_206 : decode y_So_attain.2.1 206 = .ok (.iload 8, 2) := dc9_21 (by decide +kernel)
theorem d_So_attain_208 : decode y_So_attain.2.1 208 = .ok (.ifCond .ne 7, 3) := dc9_154 (by decide +kernel)
theorem d_So_attain_211 : decode y_So_attain.2.1 211 = .ok (.iconst 1, 1) := dc9_4 (by decide +kernel)
theorem d_So_attain_212 : decode y_So_attain.2.1 212 = .ok (.goto 4, 3) := dc9_167 (by decide +kernel)
theorem d_So_attain_215 : decode y_So_attain.2.1 215 = .ok (.iconst 0, 1) := dc9_3 (by decide +kernel)
theorem d_So_attain_216 : decode y_So_attain.2.1 216 = .ok (.ior, 1) := dc9_128 (by decide +kernel)
theorem d_So_attain_217 : decode y_So_attain.2.1 217 = .ok (.istore 5, 2) := dc9_54 (by decide +kernel)
theorem d_So_attain_219 : decode y_So_attain.2.1 219 = .ok (.iload_n 2, 1) := dc9_28 (by decide +kernel)
theorem d_So_attain_220 : decode y_So_attain.2.1 220 = .ok (.iload 8, 2) := dc9_21 (by decide +kernel)
theorem d_So_attain_222 : decode y_So_attain.2.1 222 = .ok (.iload 6, 2) := dc9_21 (by decide +kernel)
theorem d_So_attain_224 : decode y_So_attain.2.1 224 = .ok (.if_icmp .eq 7, 3) := dc9_159 (by decide +kernel)
theorem d_So_attain_231 : decode y_So_attain.2.1 231 = .ok (.iconst 0, 1) := dc9_3 (by decide +kernel)
theorem d_So_attain_227 : decode y_So_attain.2.1 227 = .ok (.iconst 1, 1) := dc9_4 (by decide +kernel)
theorem d_So_attain_228 : decode y_So_attain.2.1 228 = .ok (.goto 4, 3) := dc9_167 (by decide +kernel)
theorem d_So_attain_232 : decode y_So_attain.2.1 232 = .ok (.iand, 1) := dc9_126 (by decide +kernel)
theorem d_So_attain_233 : decode y_So_attain.2.1 233 = .ok (.istore_n 2, 1) := dc9_61 (by decide +kernel)
theorem d_So_attain_234 : decode y_So_attain.2.1 234 = .ok (.iinc 7 1, 3) := by decide +kernel
theorem d_So_attain_237 : decode y_So_attain.2.1 237 = .ok (.goto (-99), 3) := dc9_167 (by decide +kernel)
def h_So_attain_4 (G : mG) (d : Nat) (a0 : Nat) (a1 : Nat) (l2 : Int) (l3 : Int) (M : mM) (Q : Int → mM → Prop) : Prop := mWm G y_So_attain (d + 1) 4 [vr a0, vr a1, vi l2, vi l3, vd, vd, vd, vd, vd] [] M (fun r9 M9 => ∃ x9, r9 = some (vi x9) ∧ Q x9 M9)
def h_So_attain_107 (G : mG) (d : Nat) (a0 : Nat) (a1 : Nat) (l2 : Int) (l3 : Int) (a4 : Nat) (l5 : Int) (M : mM) (Q : Int → mM → Prop) : Prop := mWm G y_So_attain (d + 1) 107 [vr a0, vr a1, vi l2, vi l3, vr a4, vi l5, vd, vd, vd] [] M (fun r9 M9 => ∃ x9, r9 = some (vi x9) ∧ Q x9 M9)
def h_So_attain_138 (G : mG) (d : Nat) (a0 : Nat) (a1 : Nat) (l2 : Int) (l3 : Int) (a4 : Nat) (l5 : Int) (l6 : Int) (l7 : Int) (M : mM) (Q : Int → mM → Prop) : Prop := mWm G y_So_attain (d + 1) 138 [vr a0, vr a1, vi l2, vi l3, vr a4, vi l5, vi l6, vi l7, vd] [] M (fun r9 M9 => ∃ x9, r9 = some (vi x9) ∧ Q x9 M9)
theorem k_So_attain {G : mG} {d : Nat} {a0 : Nat} {a1 : Nat} {M : mM} {Q : Int → mM → Prop} (hO : mOk M)
    (h : h_So_attain_4 G d a0 a1 1 0 M Q) :
    Ci G y_So_attain (d + 1) [vr a0, vr a1] M Q := by
  refine wm_open (y := y_So_attain) rfl (Nat.le_of_ble_eq_true rfl) (L := [vr a0, vr a1, vd, vd, vd, vd, vd, vd, vd]) rfl ?_
  refine wm_iconst d_So_attain_0 ?_
  refine wm_istore_n d_So_attain_1 rfl (by decide) (L' := [vr a0, vr a1, vi 1, vd, vd, vd, vd, vd, vd]) rfl ?_
  refine wm_iconst d_So_attain_2 ?_
  refine wm_istore_n d_So_attain_3 rfl (by decide) (L' := [vr a0, vr a1, vi 1, vi 0, vd, vd, vd, vd, vd]) rfl ?_
  exact h
theorem k_So_attain_4 {G : mG} {d : Nat} {a0 : Nat} {a1 : Nat} {l2 : Int} {l3 : Int} {M : mM} {Q : Int → mM → Prop} (hO : mOk M) (hi_l2 : i32 l2) (hi_l3 : i32 l3)
    (h : mK M a0 = 8 ∧ mK M (mR M a0 3) = 7 ∧ ((mI M (mR M a0 3) 0 ≤ l3) → ((l2 = 0 ∨ l2 = 1) ∧ Q l2 M)) ∧ (¬ (mI M (mR M a0 3) 0 ≤ l3) → (mK M a1 = 13 ∧ mK M (mR M a1 0) = 35 ∧ ((0 : Int) ≤ l3 ∧ l3 < (mN M (mR M a1 0) : Int)) ∧ mK M (mR M (mR M a0 3) 4) = 30 ∧ ((0 : Int) ≤ l3 ∧ l3 < (mN M (mR M (mR M a0 3) 4) : Int)) ∧ ((0 : Int) ≤ l3 + 1 ∧ l3 + 1 < (mN M (mR M (mR M a0 3) 4) : Int)) ∧ ∀ v20 : Int, v20 = (if (mI M (mR M (mR M a0 3) 4) (Int.toNat l3) = mI M (mR M (mR M a0 3) 4) (Int.toNat (l3 + 1))) then 1 else 0) → ((v20 = 0) → (h_So_attain_107 G d a0 a1 l2 l3 (mR M (mR M a1 0) (Int.toNat l3)) v20 M Q)) ∧ (¬ (v20 = 0) → (mK M (mR M (mR M a0 3) 2) = 30 ∧ ((0 : Int) ≤ l3 ∧ l3 < (mN M (mR M (mR M a0 3) 2) : Int)) ∧ ∀ v32 : Int, v32 = (if (mI M (mR M (mR M a0 3) 2) (Int.toNat l3) = 3) then 1 else 0) → mK M (mR M a0 17) = 11 ∧ Cv G y_Fr_put0 d [vr (mR M a0 17), vi v32] M (fun M38 => mOk M38 ∧ (mK M38 a0 = 8 ∧ mK M38 (mR M38 a0 0) = 9 ∧ Ci G y_Sc_order d [vr (mR M38 a0 0), vr (mR M38 a0 17), vr (mR M (mR M a1 0) (Int.toNat l3))] M38 (fun x44 M43 => i32 x44 ∧ mOk M43 ∧ (∀ v47 : Int, v47 = (if (x44 = 0) then 1 else 0) → h_So_attain_107 G d a0 a1 (andI l2 v47) l3 (mR M (mR M a1 0) (Int.toNat l3)) v20 M43 Q))))))))) :
    h_So_attain_4 G d a0 a1 l2 l3 M Q := by
  unfold h_So_attain_4
  obtain ⟨h1, h⟩ := h
  obtain ⟨h2, h⟩ := h
  refine wm_iload_n d_So_attain_4 rfl rfl ?_
  refine wm_aload_n d_So_attain_5 rfl rfl ?_
  refine gf_So_64 rfl d_So_attain_6 h1 ?_
  refine gf_So_107 rfl d_So_attain_9 h2 ?_
  refine wm_icmp_ge (tgt := 251) d_So_attain_12 rfl hi_l3 (hO _ _).1 (fun c11 => ?_) (fun c11 => ?_)
  · replace h := h.1 c11
    obtain ⟨h12, h⟩ := h
    refine wm_iload_n d_So_attain_251 rfl rfl ?_
    refine wm_ireturn d_So_attain_252 rfl (m_nb h12) ?_
    exact ⟨_, rfl, h⟩
  · replace h := h.2 c11
    obtain ⟨h13, h⟩ := h
    obtain ⟨h14, h⟩ := h
    obtain ⟨h15, h⟩ := h
    obtain ⟨h16, h⟩ := h
    obtain ⟨h17, h⟩ := h
    obtain ⟨h18, h⟩ := h
    refine wm_aload_n d_So_attain_15 rfl rfl ?_
    refine gf_So_169 rfl d_So_attain_16 h13 ?_
    refine wm_iload_n d_So_attain_19 rfl rfl ?_
    refine wm_aald5 d_So_attain_20 h14 h15 ?_
    refine wm_astore d_So_attain_21 (by decide) (L' := [vr a0, vr a1, vi l2, vi l3, vr (mR M (mR M a1 0) (Int.toNat l3)), vd, vd, vd, vd]) rfl ?_
    refine wm_aload_n d_So_attain_23 rfl rfl ?_
    refine gf_So_64 rfl d_So_attain_24 h1 ?_
    refine gf_So_116 rfl d_So_attain_27 h2 ?_
    refine wm_iload_n d_So_attain_30 rfl rfl ?_
    refine wm_iald d_So_attain_31 h16 h17 ?_
    refine wm_aload_n d_So_attain_32 rfl rfl ?_
    refine gf_So_64 rfl d_So_attain_33 h1 ?_
    refine gf_So_116 rfl d_So_attain_36 h2 ?_
    refine wm_iload_n d_So_attain_39 rfl rfl ?_
    refine wm_iconst d_So_attain_40 ?_
    refine wm_iadd d_So_attain_41 ?_
    refine wm_iald d_So_attain_42 h16 h18 ?_
    have hJ : ∀ v20 : Int, v20 = (if (mI M (mR M (mR M a0 3) 4) (Int.toNat l3) = mI M (mR M (mR M a0 3) 4) (Int.toNat (l3 + 1))) then 1 else 0) → mWm G y_So_attain (d + 1) 51 [vr a0, vr a1, vi l2, vi l3, vr (mR M (mR M a1 0) (Int.toNat l3)), vd, vd, vd, vd] [vi v20] M (fun r9 M9 => ∃ x9, r9 = some (vi x9) ∧ Q x9 M9) := by
      intro v20 e22
      have h := h v20 e22
      have h23 : i32 v20 := by rw [e22]; (repeat' split) <;> first | exact ⟨by decide, by decide⟩ | exact ⟨by decide, by decide⟩
      have h24 : (v20 = 0 ∨ v20 = 1) := by rw [e22]; (repeat' split) <;> decide
      refine wm_istore d_So_attain_51 (by decide) (L' := [vr a0, vr a1, vi l2, vi l3, vr (mR M (mR M a1 0) (Int.toNat l3)), vi v20, vd, vd, vd]) rfl ?_
      refine wm_iload d_So_attain_53 rfl ?_
      refine wm_if_eq (tgt := 107) d_So_attain_55 rfl h23 (fun c28 => ?_) (fun c28 => ?_)
      · replace h := h.1 c28
        exact h
      · replace h := h.2 c28
        obtain ⟨h29, h⟩ := h
        obtain ⟨h30, h⟩ := h
        refine wm_aload_n d_So_attain_58 rfl rfl ?_
        refine gf_So_60 rfl d_So_attain_59 h1 ?_
        refine wm_aload_n d_So_attain_62 rfl rfl ?_
        refine gf_So_64 rfl d_So_attain_63 h1 ?_
        refine gf_So_113 rfl d_So_attain_66 h2 ?_
        refine wm_iload_n d_So_attain_69 rfl rfl ?_
        refine wm_iald d_So_attain_70 h29 h30 ?_
        refine wm_iconst d_So_attain_71 ?_
        have hJ : ∀ v32 : Int, v32 = (if (mI M (mR M (mR M a0 3) 2) (Int.toNat l3) = 3) then 1 else 0) → mWm G y_So_attain (d + 1) 80 [vr a0, vr a1, vi l2, vi l3, vr (mR M (mR M a1 0) (Int.toNat l3)), vi v20, vd, vd, vd] [vi v32, vr (mR M a0 17)] M (fun r9 M9 => ∃ x9, r9 = some (vi x9) ∧ Q x9 M9) := by
          intro v32 e34
          have h := h v32 e34
          have h35 : i32 v32 := by rw [e34]; (repeat' split) <;> first | exact ⟨by decide, by decide⟩ | exact ⟨by decide, by decide⟩
          have h36 : (v32 = 0 ∨ v32 = 1) := by rw [e34]; (repeat' split) <;> decide
          obtain ⟨h37, h⟩ := h
          refine cf_So_243 rfl d_So_attain_80 h37 (Nat.le_of_ble_eq_true rfl) (Cv.mono h (fun M38 h => ?_))
          obtain ⟨hOM38, h⟩ := h
          obtain ⟨h41, h⟩ := h
          obtain ⟨h42, h⟩ := h
          refine wm_iload_n d_So_attain_83 rfl rfl ?_
          refine wm_aload_n d_So_attain_84 rfl rfl ?_
          refine gf_So_12 rfl d_So_attain_85 h41 ?_
          refine wm_aload_n d_So_attain_88 rfl rfl ?_
          refine gf_So_60 rfl d_So_attain_89 h41 ?_
          refine wm_aload d_So_attain_92 rfl ?_
          refine cf_So_225 rfl d_So_attain_94 h42 (Nat.le_of_ble_eq_true rfl) (Ci.mono h (fun x44 M43 h => ?_))
          obtain ⟨h45, hOM43, h⟩ := h
          have hJ : ∀ v47 : Int, v47 = (if (x44 = 0) then 1 else 0) → mWm G y_So_attain (d + 1) 105 [vr a0, vr a1, vd, vi l3, vr (mR M (mR M a1 0) (Int.toNat l3)), vi v20, vd, vd, vd] [vi v47, vi l2] M43 (fun r9 M9 => ∃ x9, r9 = some (vi x9) ∧ Q x9 M9) := by
            intro v47 e49
            have h := h v47 e49
            have h50 : i32 v47 := by rw [e49]; (repeat' split) <;> first | exact ⟨by decide, by decide⟩ | exact ⟨by decide, by decide⟩
            have h51 : (v47 = 0 ∨ v47 = 1) := by rw [e49]; (repeat' split) <;> decide
            refine wm_iand d_So_attain_105 ?_
            refine wm_istore_n d_So_attain_106 rfl (by decide) (L' := [vr a0, vr a1, vi (andI l2 v47), vi l3, vr (mR M (mR M a1 0) (Int.toNat l3)), vi v20, vd, vd, vd]) rfl ?_
            exact h
          clear h
          refine wm_if_ne (tgt := 104) d_So_attain_97 rfl h45 (fun c46 => ?_) (fun c46 => ?_)
          · refine wm_iconst d_So_attain_104 ?_
            refine wm_less (L' := [vr a0, vr a1, vd, vi l3, vr (mR M (mR M a1 0) (Int.toNat l3)), vi v20, vd, vd, vd]) ⟨Or.inr rfl, Or.inr rfl, Or.inl rfl, Or.inr rfl, Or.inr rfl, Or.inr rfl, Or.inl rfl, Or.inl rfl, Or.inl rfl, trivial⟩ ?_
            exact hJ 0 (if_neg c46).symm
          · replace c46 := Classical.not_not.mp c46
            refine wm_iconst d_So_attain_100 ?_
            refine wm_goto (tgt := 105) d_So_attain_101 rfl ?_
            refine wm_less (L' := [vr a0, vr a1, vd, vi l3, vr (mR M (mR M a1 0) (Int.toNat l3)), vi v20, vd, vd, vd]) ⟨Or.inr rfl, Or.inr rfl, Or.inl rfl, Or.inr rfl, Or.inr rfl, Or.inr rfl, Or.inl rfl, Or.inl rfl, Or.inl rfl, trivial⟩ ?_
            exact hJ 1 (if_pos c46).symm
        clear h
        refine wm_icmp_ne (tgt := 79) d_So_attain_72 rfl (hO _ _).1 ⟨by decide, by decide⟩ (fun c31 => ?_) (fun c31 => ?_)
        · refine wm_iconst d_So_attain_79 ?_
          exact hJ 0 (if_neg c31).symm
        · replace c31 := Classical.not_not.mp c31
          refine wm_iconst d_So_attain_75 ?_
          refine wm_goto (tgt := 80) d_So_attain_76 rfl ?_
          exact hJ 1 (if_pos c31).symm
    clear h
    refine wm_icmp_ne (tgt := 50) d_So_attain_43 rfl (hO _ _).1 (hO _ _).1 (fun c19 => ?_) (fun c19 => ?_)
    · refine wm_iconst d_So_attain_50 ?_
      exact hJ 0 (if_neg c19).symm
    · replace c19 := Classical.not_not.mp c19
      refine wm_iconst d_So_attain_46 ?_
      refine wm_goto (tgt := 51) d_So_attain_47 rfl ?_
      exact hJ 1 (if_pos c19).symm
theorem k_So_attain_107 {G : mG} {d : Nat} {a0 : Nat} {a1 : Nat} {l2 : Int} {l3 : Int} {a4 : Nat} {l5 : Int} {M : mM} {Q : Int → mM → Prop} (hO : mOk M) (hi_l2 : i32 l2) (hi_l3 : i32 l3) (hi_l5 : i32 l5)
    (h : mK M a0 = 8 ∧ mK M (mR M a0 3) = 7 ∧ mK M (mR M (mR M a0 3) 2) = 30 ∧ ((0 : Int) ≤ l3 ∧ l3 < (mN M (mR M (mR M a0 3) 2) : Int)) ∧ ∀ v60 : Int, v60 = (if (mI M (mR M (mR M a0 3) 2) (Int.toNat l3) = 1) then 1 else (-1)) → mK M (mR M (mR M a0 3) 4) = 30 ∧ ((0 : Int) ≤ l3 ∧ l3 < (mN M (mR M (mR M a0 3) 4) : Int)) ∧ h_So_attain_138 G d a0 a1 l2 l3 a4 l5 v60 (mI M (mR M (mR M a0 3) 4) (Int.toNat l3)) M Q) :
    h_So_attain_107 G d a0 a1 l2 l3 a4 l5 M Q := by
  unfold h_So_attain_107
  obtain ⟨h55, h⟩ := h
  obtain ⟨h56, h⟩ := h
  obtain ⟨h57, h⟩ := h
  obtain ⟨h58, h⟩ := h
  refine wm_aload_n d_So_attain_107 rfl rfl ?_
  refine gf_So_64 rfl d_So_attain_108 h55 ?_
  refine gf_So_113 rfl d_So_attain_111 h56 ?_
  refine wm_iload_n d_So_attain_114 rfl rfl ?_
  refine wm_iald d_So_attain_115 h57 h58 ?_
  refine wm_iconst d_So_attain_116 ?_
  have hJ : ∀ v60 : Int, v60 = (if (mI M (mR M (mR M a0 3) 2) (Int.toNat l3) = 1) then 1 else (-1)) → mWm G y_So_attain (d + 1) 125 [vr a0, vr a1, vi l2, vi l3, vr a4, vi l5, vd, vd, vd] [vi v60] M (fun r9 M9 => ∃ x9, r9 = some (vi x9) ∧ Q x9 M9) := by
    intro v60 e62
    have h := h v60 e62
    have h63 : i32 v60 := by rw [e62]; (repeat' split) <;> first | exact ⟨by decide, by decide⟩ | exact ⟨by decide, by decide⟩
    obtain ⟨h64, h⟩ := h
    obtain ⟨h65, h⟩ := h
    refine wm_istore d_So_attain_125 (by decide) (L' := [vr a0, vr a1, vi l2, vi l3, vr a4, vi l5, vi v60, vd, vd]) rfl ?_
    refine wm_aload_n d_So_attain_127 rfl rfl ?_
    refine gf_So_64 rfl d_So_attain_128 h55 ?_
    refine gf_So_116 rfl d_So_attain_131 h56 ?_
    refine wm_iload_n d_So_attain_134 rfl rfl ?_
    refine wm_iald d_So_attain_135 h64 h65 ?_
    refine wm_istore d_So_attain_136 (by decide) (L' := [vr a0, vr a1, vi l2, vi l3, vr a4, vi l5, vi v60, vi (mI M (mR M (mR M a0 3) 4) (Int.toNat l3)), vd]) rfl ?_
    exact h
  clear h
  refine wm_icmp_ne (tgt := 124) d_So_attain_117 rfl (hO _ _).1 ⟨by decide, by decide⟩ (fun c59 => ?_) (fun c59 => ?_)
  · refine wm_iconst d_So_attain_124 ?_
    exact hJ (-1) (if_neg c59).symm
  · replace c59 := Classical.not_not.mp c59
    refine wm_iconst d_So_attain_120 ?_
    refine wm_goto (tgt := 125) d_So_attain_121 rfl ?_
    exact hJ 1 (if_pos c59).symm
theorem k_So_attain_138 {G : mG} {d : Nat} {a0 : Nat} {a1 : Nat} {l2 : Int} {l3 : Int} {a4 : Nat} {l5 : Int} {l6 : Int} {l7 : Int} {M : mM} {Q : Int → mM → Prop} (hO : mOk M) (hi_l2 : i32 l2) (hi_l3 : i32 l3) (hi_l5 : i32 l5) (hi_l6 : i32 l6) (hi_l7 : i32 l7)
    (h : mK M a0 = 8 ∧ mK M (mR M a0 3) = 7 ∧ mK M (mR M (mR M a0 3) 4) = 30 ∧ ((0 : Int) ≤ l3 + 1 ∧ l3 + 1 < (mN M (mR M (mR M a0 3) 4) : Int)) ∧ ((mI M (mR M (mR M a0 3) 4) (Int.toNat (l3 + 1)) ≤ l7) → (h_So_attain_4 G d a0 a1 (andI l2 l5) (l3 + 1) M Q)) ∧ (¬ (mI M (mR M (mR M a0 3) 4) (Int.toNat (l3 + 1)) ≤ l7) → (mK M (mR M a0 0) = 9 ∧ Cv G y_Sc_weigh d [vr (mR M a0 0), vr (mR M a0 3), vi l7, vr a1, vr (mR M a0 17)] M (fun M74 => mOk M74 ∧ (mK M74 a0 = 8 ∧ mK M74 (mR M74 a0 0) = 9 ∧ Ci G y_Sc_order d [vr (mR M74 a0 0), vr (mR M74 a0 17), vr a4] M74 (fun x80 M79 => i32 x80 ∧ mOk M79 ∧ (mK M79 a0 = 8 ∧ ∀ v84 : Int, v84 = (if (x80 = 0) then 1 else 0) → mK M79 (mR M79 a0 15) = 31 ∧ ((0 : Int) ≤ l7 ∧ l7 < (mN M79 (mR M79 a0 15) : Int)) ∧ ∀ M91, M91 = mUI M79 (mR M79 a0 15) (Int.toNat l7) v84 → ∀ v94 : Int, v94 = (if (x80 = 0) then 1 else 0) → ∀ v100 : Int, v100 = (if (x80 = l6) then 0 else 1) → h_So_attain_138 G d a0 a1 (andI l2 v100) l3 a4 (orI l5 v94) l6 (l7 + 1) M91 Q))))))) :
    h_So_attain_138 G d a0 a1 l2 l3 a4 l5 l6 l7 M Q := by
  unfold h_So_attain_138
  obtain ⟨h67, h⟩ := h
  obtain ⟨h68, h⟩ := h
  obtain ⟨h69, h⟩ := h
  obtain ⟨h70, h⟩ := h
  refine wm_iload d_So_attain_138 rfl ?_
  refine wm_aload_n d_So_attain_140 rfl rfl ?_
  refine gf_So_64 rfl d_So_attain_141 h67 ?_
  refine gf_So_116 rfl d_So_attain_144 h68 ?_
  refine wm_iload_n d_So_attain_147 rfl rfl ?_
  refine wm_iconst d_So_attain_148 ?_
  refine wm_iadd d_So_attain_149 ?_
  refine wm_iald d_So_attain_150 h69 h70 ?_
  refine wm_icmp_ge (tgt := 240) d_So_attain_151 rfl hi_l7 (hO _ _).1 (fun c72 => ?_) (fun c72 => ?_)
  · replace h := h.1 c72
    refine wm_iload_n d_So_attain_240 rfl rfl ?_
    refine wm_iload d_So_attain_241 rfl ?_
    refine wm_iand d_So_attain_243 ?_
    refine wm_istore_n d_So_attain_244 rfl (by decide) (L' := [vr a0, vr a1, vi (andI l2 l5), vi l3, vr a4, vi l5, vi l6, vi l7, vd]) rfl ?_
    refine wm_iinc d_So_attain_245 (by decide) rfl (L' := [vr a0, vr a1, vi (andI l2 l5), vi (l3 + 1), vr a4, vi l5, vi l6, vi l7, vd]) rfl ?_
    refine wm_goto (tgt := 4) d_So_attain_248 rfl ?_
    refine wm_less (L' := [vr a0, vr a1, vi (andI l2 l5), vi (l3 + 1), vd, vd, vd, vd, vd]) ⟨Or.inr rfl, Or.inr rfl, Or.inr rfl, Or.inr rfl, Or.inl rfl, Or.inl rfl, Or.inl rfl, Or.inl rfl, Or.inl rfl, trivial⟩ ?_
    exact h
  · replace h := h.2 c72
    obtain ⟨h73, h⟩ := h
    refine wm_aload_n d_So_attain_154 rfl rfl ?_
    refine gf_So_12 rfl d_So_attain_155 h67 ?_
    refine wm_aload_n d_So_attain_158 rfl rfl ?_
    refine gf_So_64 rfl d_So_attain_159 h67 ?_
    refine wm_iload d_So_attain_162 rfl ?_
    refine wm_aload_n d_So_attain_164 rfl rfl ?_
    refine wm_aload_n d_So_attain_165 rfl rfl ?_
    refine gf_So_60 rfl d_So_attain_166 h67 ?_
    refine cf_So_221 rfl d_So_attain_169 h73 (Nat.le_of_ble_eq_true rfl) (Cv.mono h (fun M74 h => ?_))
    obtain ⟨hOM74, h⟩ := h
    obtain ⟨h77, h⟩ := h
    obtain ⟨h78, h⟩ := h
    refine wm_aload_n d_So_attain_172 rfl rfl ?_
    refine gf_So_12 rfl d_So_attain_173 h77 ?_
    refine wm_aload_n d_So_attain_176 rfl rfl ?_
    refine gf_So_60 rfl d_So_attain_177 h77 ?_
    refine wm_aload d_So_attain_180 rfl ?_
    refine cf_So_225 rfl d_So_attain_182 h78 (Nat.le_of_ble_eq_true rfl) (Ci.mono h (fun x80 M79 h => ?_))
    obtain ⟨h81, hOM79, h⟩ := h
    obtain ⟨h82, h⟩ := h
    refine wm_istore d_So_attain_185 (by decide) (L' := [vr a0, vr a1, vi l2, vi l3, vr a4, vi l5, vi l6, vi l7, vi x80]) rfl ?_
    refine wm_aload_n d_So_attain_187 rfl rfl ?_
    refine gf_So_50 rfl d_So_attain_188 h82 ?_
    refine wm_iload d_So_attain_191 rfl ?_
    refine wm_iload d_So_attain_193 rfl ?_
    have hJ : ∀ v84 : Int, v84 = (if (x80 = 0) then 1 else 0) → mWm G y_So_attain (d + 1) 203 [vr a0, vr a1, vi l2, vi l3, vr a4, vi l5, vi l6, vi l7, vi x80] [vi v84, vi l7, vr (mR M79 a0 15)] M79 (fun r9 M9 => ∃ x9, r9 = some (vi x9) ∧ Q x9 M9) := by
      intro v84 e86
      have h := h v84 e86
      have h87 : i32 v84 := by rw [e86]; (repeat' split) <;> first | exact ⟨by decide, by decide⟩ | exact ⟨by decide, by decide⟩
      have h88 : (v84 = 0 ∨ v84 = 1) := by rw [e86]; (repeat' split) <;> decide
      obtain ⟨h89, h⟩ := h
      obtain ⟨h90, h⟩ := h
      obtain ⟨M91, e92⟩ : ∃ M91, M91 = mUI M79 (mR M79 a0 15) (Int.toNat l7) v84 := ⟨_, rfl⟩
      replace h := h M91 e92
      have hOM91 : mOk M91 := by rw [e92]; exact mOk_UI hOM79 (m_b32 h88)
      refine wm_zastE d_So_attain_203 h89 h90 h88 e92 ?_
      refine wm_iload d_So_attain_204 rfl ?_
      refine wm_iload d_So_attain_206 rfl ?_
      have hJ : ∀ v94 : Int, v94 = (if (x80 = 0) then 1 else 0) → mWm G y_So_attain (d + 1) 216 [vr a0, vr a1, vi l2, vi l3, vr a4, vd, vi l6, vi l7, vi x80] [vi v94, vi l5] M91 (fun r9 M9 => ∃ x9, r9 = some (vi x9) ∧ Q x9 M9) := by
        intro v94 e96
        have h := h v94 e96
        have h97 : i32 v94 := by rw [e96]; (repeat' split) <;> first | exact ⟨by decide, by decide⟩ | exact ⟨by decide, by decide⟩
        have h98 : (v94 = 0 ∨ v94 = 1) := by rw [e96]; (repeat' split) <;> decide
        refine wm_ior d_So_attain_216 ?_
        refine wm_istore d_So_attain_217 (by decide) (L' := [vr a0, vr a1, vi l2, vi l3, vr a4, vi (orI l5 v94), vi l6, vi l7, vi x80]) rfl ?_
        refine wm_iload_n d_So_attain_219 rfl rfl ?_
        refine wm_iload d_So_attain_220 rfl ?_
        refine wm_iload d_So_attain_222 rfl ?_
        have hJ : ∀ v100 : Int, v100 = (if (x80 = l6) then 0 else 1) → mWm G y_So_attain (d + 1) 232 [vr a0, vr a1, vd, vi l3, vr a4, vi (orI l5 v94), vi l6, vi l7, vd] [vi v100, vi l2] M91 (fun r9 M9 => ∃ x9, r9 = some (vi x9) ∧ Q x9 M9) := by
          intro v100 e102
          have h := h v100 e102
          have h103 : i32 v100 := by rw [e102]; (repeat' split) <;> first | exact ⟨by decide, by decide⟩ | exact ⟨by decide, by decide⟩
          have h104 : (v100 = 0 ∨ v100 = 1) := by rw [e102]; (repeat' split) <;> decide
          refine wm_iand d_So_attain_232 ?_
          refine wm_istore_n d_So_attain_233 rfl (by decide) (L' := [vr a0, vr a1, vi (andI l2 v100), vi l3, vr a4, vi (orI l5 v94), vi l6, vi l7, vd]) rfl ?_
          refine wm_iinc d_So_attain_234 (by decide) rfl (L' := [vr a0, vr a1, vi (andI l2 v100), vi l3, vr a4, vi (orI l5 v94), vi l6, vi (l7 + 1), vd]) rfl ?_
          refine wm_goto (tgt := 138) d_So_attain_237 rfl ?_
          exact h
        clear h
        refine wm_icmp_eq (tgt := 231) d_So_attain_224 rfl h81 hi_l6 (fun c99 => ?_) (fun c99 => ?_)
        · refine wm_iconst d_So_attain_231 ?_
          refine wm_less (L' := [vr a0, vr a1, vd, vi l3, vr a4, vi (orI l5 v94), vi l6, vi l7, vd]) ⟨Or.inr rfl, Or.inr rfl, Or.inl rfl, Or.inr rfl, Or.inr rfl, Or.inr rfl, Or.inr rfl, Or.inr rfl, Or.inl rfl, trivial⟩ ?_
          exact hJ 0 (if_pos c99).symm
        · refine wm_iconst d_So_attain_227 ?_
          refine wm_goto (tgt := 232) d_So_attain_228 rfl ?_
          refine wm_less (L' := [vr a0, vr a1, vd, vi l3, vr a4, vi (orI l5 v94), vi l6, vi l7, vd]) ⟨Or.inr rfl, Or.inr rfl, Or.inl rfl, Or.inr rfl, Or.inr rfl, Or.inr rfl, Or.inr rfl, Or.inr rfl, Or.inl rfl, trivial⟩ ?_
          exact hJ 1 (if_neg c99).symm
      clear h
      refine wm_if_ne (tgt := 215) d_So_attain_208 rfl h81 (fun c93 => ?_) (fun c93 => ?_)
      · refine wm_iconst d_So_attain_215 ?_
        refine wm_less (L' := [vr a0, vr a1, vi l2, vi l3, vr a4, vd, vi l6, vi l7, vi x80]) ⟨Or.inr rfl, Or.inr rfl, Or.inr rfl, Or.inr rfl, Or.inr rfl, Or.inl rfl, Or.inr rfl, Or.inr rfl, Or.inr rfl, trivial⟩ ?_
        exact hJ 0 (if_neg c93).symm
      · replace c93 := Classical.not_not.mp c93
        refine wm_iconst d_So_attain_211 ?_
        refine wm_goto (tgt := 216) d_So_attain_212 rfl ?_
        refine wm_less (L' := [vr a0, vr a1, vi l2, vi l3, vr a4, vd, vi l6, vi l7, vi x80]) ⟨Or.inr rfl, Or.inr rfl, Or.inr rfl, Or.inr rfl, Or.inr rfl, Or.inl rfl, Or.inr rfl, Or.inr rfl, Or.inr rfl, trivial⟩ ?_
        exact hJ 1 (if_pos c93).symm
    clear h
    refine wm_if_ne (tgt := 202) d_So_attain_195 rfl h81 (fun c83 => ?_) (fun c83 => ?_)
    · refine wm_iconst d_So_attain_202 ?_
      exact hJ 0 (if_neg c83).symm
    · replace c83 := Classical.not_not.mp c83
      refine wm_iconst d_So_attain_198 ?_
      refine wm_goto (tgt := 203) d_So_attain_199 rfl ?_
      exact hJ 1 (if_pos c83).symm
theorem d_So_fillRanks_0 : decode y_So_fillRanks.2.1 0 = .ok (.iconst 0, 1) := dc9_3 (by decide +kernel)
theorem d_So_fillRanks_1 : decode y_So_fillRanks.2.1 1 = .ok (.istore_n 3, 1) := dc9_62 (by decide +kernel)
theorem d_So_fillRanks_2 : decode y_So_fillRanks.2.1 2 = .ok (.iload_n 3, 1) := dc9_29 (by decide +kernel)
theorem d_So_fillRanks_3 : decode y_So_fillRanks.2.1 3 = .ok (.aload_n 0, 1) := dc9_42 (by decide +kernel)
theorem d_So_fillRanks_4 : decode y_So_fillRanks.2.1 4 = .ok (.getfield 64, 3) := dc9_180 (by decide +kernel)
theorem d_So_fillRanks_7 : decode y_So_fillRanks.2.1 7 = .ok (.getfield 107, 3) := dc9_180 (by decide +kernel)
theorem d_So_fillRanks_10 : decode y_So_fillRanks.2.1 10 = .ok (.if_icmp .ge 30, 3) := dc9_162 (by decide +kernel)
theorem d_So_fillRanks_40 : decode y_So_fillRanks.2.1 40 = .ok (.iconst 1, 1) := dc9_4 (by decide +kernel)
theorem d_So_fillRanks_41 : decode y_So_fillRanks.2.1 41 = .ok (.istore_n 3, 1) := dc9_62 (by decide +kernel)
theorem d_So_fillRanks_42 : decode y_So_fillRanks.2.1 42 = .ok (.iconst 1, 1) := dc9_4 (by decide +kernel)
theorem d_So_fillRanks_43 : decode y_So_fillRanks.2.1 43 = .ok (.istore 4, 2) := dc9_54 (by decide +kernel)
theorem d_So_fillRanks_13 : decode y_So_fillRanks.2.1 13 = .ok (.aload_n 2, 1) := dc9_44 (by decide +kernel)
theorem d_So_fillRanks_14 : decode y_So_fillRanks.2.1 14 = .ok (.iload_n 3, 1) := dc9_29 (by decide +kernel)
theorem d_So_fillRanks_15 : decode y_So_fillRanks.2.1 15 = .ok (.aload_n 0, 1) := dc9_42 (by decide +kernel)
theorem d_So_fillRanks_16 : decode y_So_fillRanks.2.1 16 = .ok (.getfield 64, 3) := dc9_180 (by decide +kernel)
theorem d_So_fillRanks_19 : decode y_So_fillRanks.2.1 19 = .ok (.getfield 113, 3) := dc9_180 (by decide +kernel)
theorem d_So_fillRanks_22 : decode y_So_fillRanks.2.1 22 = .ok (.iload_n 3, 1) := dc9_29 (by decide +kernel)
theorem d_So_fillRanks_23 : decode y_So_fillRanks.2.1 23 = .ok (.iaload, 1) := dc9_46 (by decide +kernel)
theorem d_So_fillRanks_24 : decode y_So_fillRanks.2.1 24 = .ok (.iconst 3, 1) := dc9_6 (by decide +kernel)
theorem d_So_fillRanks_25 : decode y_So_fillRanks.2.1 25 = .ok (.if_icmp .ne 7, 3) := dc9_160 (by decide +kernel)
theorem d_So_fillRanks_28 : decode y_So_fillRanks.2.1 28 = .ok (.iconst 0, 1) := dc9_3 (by decide +kernel)
theorem d_So_fillRanks_29 : decode y_So_fillRanks.2.1 29 = .ok (.goto 4, 3) := dc9_167 (by decide +kernel)
theorem d_So_fillRanks_32 : decode y_So_fillRanks.2.1 32 = .ok (.iconst (-1), 1) := dc9_2 (by decide +kernel)
theorem d_So_fillRanks_33 : decode y_So_fillRanks.2.1 33 = .ok (.iastore, 1) := dc9_79 (by decide +kernel)
theorem d_So_fillRanks_34 : decode y_So_fillRanks.2.1 34 = .ok (.iinc 3 1, 3) := by decide +kernel
theorem d_So_fillRanks_37 : decode y_So_fillRanks.2.1 37 = .ok (.goto (-35), 3) := dc9_167 (by decide +kernel)
theorem d_So_fillRanks_45 : decode y_So_fillRanks.2.1 45 = .ok (.iload 4, 2) := dc9_21 (by decide +kernel)
theorem d_So_fillRanks_47 : decode y_So_fillRanks.2.1 47 = .ok (.sipush 512, 3) := dc9_17 (by decide +kernel)
theorem d_So_fillRanks_50 : decode y_So_fillRanks.2.1 50 = .ok (.if_icmp .gt 80, 3) := dc9_163 (by decide +kernel)
theorem d_So_fillRanks_53 : decode y_So_fillRanks.2.1 53 = .ok (.iload_n 3, 1) := dc9_29 (by decide +kernel)
theorem d_So_fillRanks_54 : decode y_So_fillRanks.2.1 54 = .ok (.ifCond .eq 76, 3) := dc9_153 (by decide +kernel)
theorem d_So_fillRanks_57 : decode y_So_fillRanks.2.1 57 = .ok (.iconst 0, 1) := dc9_3 (by decide +kernel)
theorem d_So_fillRanks_58 : decode y_So_fillRanks.2.1 58 = .ok (.istore_n 3, 1) := dc9_62 (by decide +kernel)
theorem d_So_fillRanks_59 : decode y_So_fillRanks.2.1 59 = .ok (.iconst 0, 1) := dc9_3 (by decide +kernel)
theorem d_So_fillRanks_60 : decode y_So_fillRanks.2.1 60 = .ok (.istore 5, 2) := dc9_54 (by decide +kernel)
theorem d_So_fillRanks_130 : decode y_So_fillRanks.2.1 130 = .ok (.return_, 1) := dc9_177 (by decide +kernel)
theorem d_So_fillRanks_62 : decode y_So_fillRanks.2.1 62 = .ok (.iload 5, 2) := dc9_21 (by decide +kernel)
theorem d_So_fillRanks_64 : decode y_So_fillRanks.2.1 64 = .ok (.aload_n 0, 1) := dc9_42 (by decide +kernel)
theorem d_So_fillRanks_65 : decode y_So_fillRanks.2.1 65 = .ok (.getfield 64, 3) := dc9_180 (by decide +kernel)
theorem d_So_fillRanks_68 : decode y_So_fillRanks.2.1 68 = .ok (.getfield 107, 3) := dc9_180 (by decide +kernel)
theorem d_So_fillRanks_71 : decode y_So_fillRanks.2.1 71 = .ok (.if_icmp .ge 53, 3) := dc9_162 (by decide +kernel)
theorem d_So_fillRanks_124 : decode y_So_fillRanks.2.1 124 = .ok (.iinc 4 1, 3) := by decide +kernel
theorem d_So_fillRanks_127 : decode y_So_fillRanks.2.1 127 = .ok (.goto (-82), 3) := dc9_167 (by decide +kernel)
theorem d_So_fillRanks_74 : decode y_So_fillRanks.2.1 74 = .ok (.aload_n 2, 1) := dc9_44 (by decide +kernel)
theorem d_So_fillRanks_75 : decode y_So_fillRanks.2.1 75 = .ok (.iload 5, 2) := dc9_21 (by decide +kernel)
theorem d_So_fillRanks_77 : decode y_So_fillRanks.2.1 77 = .ok (.iaload, 1) := dc9_46 (by decide +kernel)
theorem d_So_fillRanks_78 : decode y_So_fillRanks.2.1 78 = .ok (.iconst (-1), 1) := dc9_2 (by decide +kernel)
theorem d_So_fillRanks_79 : decode y_So_fillRanks.2.1 79 = .ok (.if_icmp .ne 39, 3) := dc9_160 (by decide +kernel)
theorem d_So_fillRanks_82 : decode y_So_fillRanks.2.1 82 = .ok (.aload_n 1, 1) := dc9_43 (by decide +kernel)
theorem d_So_fillRanks_83 : decode y_So_fillRanks.2.1 83 = .ok (.getfield 169, 3) := dc9_180 (by decide +kernel)
theorem d_So_fillRanks_86 : decode y_So_fillRanks.2.1 86 = .ok (.iload 5, 2) := dc9_21 (by decide +kernel)
theorem d_So_fillRanks_88 : decode y_So_fillRanks.2.1 88 = .ok (.aaload, 1) := dc9_50 (by decide +kernel)
theorem d_So_fillRanks_89 : decode y_So_fillRanks.2.1 89 = .ok (.getfield 173, 3) := dc9_180 (by decide +kernel)
theorem d_So_fillRanks_92 : decode y_So_fillRanks.2.1 92 = .ok (.getfield 245, 3) := dc9_180 (by decide +kernel)
theorem d_So_fillRanks_95 : decode y_So_fillRanks.2.1 95 = .ok (.ifCond .le 23, 3) := dc9_158 (by decide +kernel)
theorem d_So_fillRanks_98 : decode y_So_fillRanks.2.1 98 = .ok (.aload_n 0, 1) := dc9_42 (by decide +kernel)
theorem d_So_fillRanks_99 : decode y_So_fillRanks.2.1 99 = .ok (.iload 5, 2) := dc9_21 (by decide +kernel)
theorem d_So_fillRanks_101 : decode y_So_fillRanks.2.1 101 = .ok (.iload 4, 2) := dc9_21 (by decide +kernel)
theorem d_So_fillRanks_103 : decode y_So_fillRanks.2.1 103 = .ok (.aload_n 2, 1) := dc9_44 (by decide +kernel)
theorem d_So_fillRanks_118 : decode y_So_fillRanks.2.1 118 = .ok (.iinc 5 1, 3) := by decide +kernel
theorem d_So_fillRanks_121 : decode y_So_fillRanks.2.1 121 = .ok (.goto (-59), 3) := dc9_167 (by decide +kernel)
theorem d_So_fillRanks_104 : decode y_So_fillRanks.2.1 104 = .ok (.invokevirtual 248, 3) := dc9_182 (by decide +kernel)
theorem d_So_fillRanks_107 : decode y_So_fillRanks.2.1 107 = .ok (.ifCond .eq 11, 3) := dc9_153 (by decide +kernel)
theorem d_So_fillRanks_110 : decode y_So_fillRanks.2.1 110 = .ok (.aload_n 2, 1) := dc9_44 (by decide +kernel)
theorem d_So_fillRanks_111 : decode y_So_fillRanks.2.1 111 = .ok (.iload 5, 2) := dc9_21 (by decide +kernel)
theorem d_So_fillRanks_113 : decode y_So_fillRanks.2.1 113 = .ok (.iload 4, 2) := dc9_21 (by decide +kernel)
theorem d_So_fillRanks_115 : decode y_So_fillRanks.2.1 115 = .ok (.iastore, 1) := dc9_79 (by decide +kernel)
theorem d_So_fillRanks_116 : decode y_So_fillRanks.2.1 116 = .ok (.iconst 1, 1) := dc9_4 (by decide +kernel)
theorem d_So_fillRanks_117 : decode y_So_fillRanks.2.1 117 = .ok (.istore_n 3, 1) := dc9_62 (by decide +kernel)
def h_So_fillRanks_2 (G : mG) (d : Nat) (a0 : Nat) (a1 : Nat) (a2 : Nat) (l3 : Int) (M : mM) (Q : mM → Prop) : Prop := mWm G y_So_fillRanks (d + 1) 2 [vr a0, vr a1, vr a2, vi l3, vd, vd] [] M (fun r9 M9 => r9 = none ∧ Q M9)
def h_So_fillRanks_45 (G : mG) (d : Nat) (a0 : Nat) (a1 : Nat) (a2 : Nat) (l3 : Int) (l4 : Int) (M : mM) (Q : mM → Prop) : Prop := mWm G y_So_fillRanks (d + 1) 45 [vr a0, vr a1, vr a2, vi l3, vi l4, vd] [] M (fun r9 M9 => r9 = none ∧ Q M9)
def h_So_fillRanks_62 (G : mG) (d : Nat) (a0 : Nat) (a1 : Nat) (a2 : Nat) (l3 : Int) (l4 : Int) (l5 : Int) (M : mM) (Q : mM → Prop) : Prop := mWm G y_So_fillRanks (d + 1) 62 [vr a0, vr a1, vr a2, vi l3, vi l4, vi l5] [] M (fun r9 M9 => r9 = none ∧ Q M9)
theorem k_So_fillRanks {G : mG} {d : Nat} {a0 : Nat} {a1 : Nat} {a2 : Nat} {M : mM} {Q : mM → Prop} (hO : mOk M)
    (h : h_So_fillRanks_2 G d a0 a1 a2 0 M Q) :
    Cv G y_So_fillRanks (d + 1) [vr a0, vr a1, vr a2] M Q := by
  refine wm_open (y := y_So_fillRanks) rfl (Nat.le_of_ble_eq_true rfl) (L := [vr a0, vr a1, vr a2, vd, vd, vd]) rfl ?_
  refine wm_iconst d_So_fillRanks_0 ?_
  refine wm_istore_n d_So_fillRanks_1 rfl (by decide) (L' := [vr a0, vr a1, vr a2, vi 0, vd, vd]) rfl ?_
  exact h
theorem k_So_fillRanks_2 {G : mG} {d : Nat} {a0 : Nat} {a1 : Nat} {a2 : Nat} {l3 : Int} {M : mM} {Q : mM → Prop} (hO : mOk M) (hi_l3 : i32 l3)
    (h : mK M a0 = 8 ∧ mK M (mR M a0 3) = 7 ∧ ((mI M (mR M a0 3) 0 ≤ l3) → (h_So_fillRanks_45 G d a0 a1 a2 1 1 M Q)) ∧ (¬ (mI M (mR M a0 3) 0 ≤ l3) → (mK M (mR M (mR M a0 3) 2) = 30 ∧ ((0 : Int) ≤ l3 ∧ l3 < (mN M (mR M (mR M a0 3) 2) : Int)) ∧ ∀ v10 : Int, v10 = (if (mI M (mR M (mR M a0 3) 2) (Int.toNat l3) = 3) then 0 else (-1)) → mK M a2 = 30 ∧ ((0 : Int) ≤ l3 ∧ l3 < (mN M a2 : Int)) ∧ ∀ M16, M16 = mUI M a2 (Int.toNat l3) v10 → h_So_fillRanks_2 G d a0 a1 a2 (l3 + 1) M16 Q))) :
    h_So_fillRanks_2 G d a0 a1 a2 l3 M Q := by
  unfold h_So_fillRanks_2
  obtain ⟨h1, h⟩ := h
  obtain ⟨h2, h⟩ := h
  refine wm_iload_n d_So_fillRanks_2 rfl rfl ?_
  refine wm_aload_n d_So_fillRanks_3 rfl rfl ?_
  refine gf_So_64 rfl d_So_fillRanks_4 h1 ?_
  refine gf_So_107 rfl d_So_fillRanks_7 h2 ?_
  refine wm_icmp_ge (tgt := 40) d_So_fillRanks_10 rfl hi_l3 (hO _ _).1 (fun c6 => ?_) (fun c6 => ?_)
  · replace h := h.1 c6
    refine wm_iconst d_So_fillRanks_40 ?_
    refine wm_istore_n d_So_fillRanks_41 rfl (by decide) (L' := [vr a0, vr a1, vr a2, vi 1, vd, vd]) rfl ?_
    refine wm_iconst d_So_fillRanks_42 ?_
    refine wm_istore d_So_fillRanks_43 (by decide) (L' := [vr a0, vr a1, vr a2, vi 1, vi 1, vd]) rfl ?_
    exact h
  · replace h := h.2 c6
    obtain ⟨h7, h⟩ := h
    obtain ⟨h8, h⟩ := h
    refine wm_aload_n d_So_fillRanks_13 rfl rfl ?_
    refine wm_iload_n d_So_fillRanks_14 rfl rfl ?_
    refine wm_aload_n d_So_fillRanks_15 rfl rfl ?_
    refine gf_So_64 rfl d_So_fillRanks_16 h1 ?_
    refine gf_So_113 rfl d_So_fillRanks_19 h2 ?_
    refine wm_iload_n d_So_fillRanks_22 rfl rfl ?_
    refine wm_iald d_So_fillRanks_23 h7 h8 ?_
    refine wm_iconst d_So_fillRanks_24 ?_
    have hJ : ∀ v10 : Int, v10 = (if (mI M (mR M (mR M a0 3) 2) (Int.toNat l3) = 3) then 0 else (-1)) → mWm G y_So_fillRanks (d + 1) 33 [vr a0, vr a1, vr a2, vi l3, vd, vd] [vi v10, vi l3, vr a2] M (fun r9 M9 => r9 = none ∧ Q M9) := by
      intro v10 e12
      have h := h v10 e12
      have h13 : i32 v10 := by rw [e12]; (repeat' split) <;> first | exact ⟨by decide, by decide⟩ | exact ⟨by decide, by decide⟩
      obtain ⟨h14, h⟩ := h
      obtain ⟨h15, h⟩ := h
      obtain ⟨M16, e17⟩ : ∃ M16, M16 = mUI M a2 (Int.toNat l3) v10 := ⟨_, rfl⟩
      replace h := h M16 e17
      have hOM16 : mOk M16 := by rw [e17]; exact mOk_UI hO h13
      refine wm_iastE d_So_fillRanks_33 h14 h15 h13 e17 ?_
      refine wm_iinc d_So_fillRanks_34 (by decide) rfl (L' := [vr a0, vr a1, vr a2, vi (l3 + 1), vd, vd]) rfl ?_
      refine wm_goto (tgt := 2) d_So_fillRanks_37 rfl ?_
      exact h
    clear h
    refine wm_icmp_ne (tgt := 32) d_So_fillRanks_25 rfl (hO _ _).1 ⟨by decide, by decide⟩ (fun c9 => ?_) (fun c9 => ?_)
    · refine wm_iconst d_So_fillRanks_32 ?_
      exact hJ (-1) (if_neg c9).symm
    · replace c9 := Classical.not_not.mp c9
      refine wm_iconst d_So_fillRanks_28 ?_
      refine wm_goto (tgt := 33) d_So_fillRanks_29 rfl ?_
      exact hJ 0 (if_pos c9).symm
theorem k_So_fillRanks_45 {G : mG} {d : Nat} {a0 : Nat} {a1 : Nat} {a2 : Nat} {l3 : Int} {l4 : Int} {M : mM} {Q : mM → Prop} (hO : mOk M) (hi_l3 : i32 l3) (hi_l4 : i32 l4)
    (h : (((512 < l4) ∨ (l3 = 0)) → (Q M)) ∧ (¬ ((512 < l4) ∨ (l3 = 0)) → (h_So_fillRanks_62 G d a0 a1 a2 0 l4 0 M Q))) :
    h_So_fillRanks_45 G d a0 a1 a2 l3 l4 M Q := by
  unfold h_So_fillRanks_45
  refine wm_iload d_So_fillRanks_45 rfl ?_
  refine wm_sipush d_So_fillRanks_47 (by decide) ?_
  have hE0 : ((512 < l4) ∨ (l3 = 0)) → mWm G y_So_fillRanks (d + 1) 130 [vr a0, vr a1, vr a2, vi l3, vi l4, vd] [] M (fun r9 M9 => r9 = none ∧ Q M9) := by
    intro q22
    have h := h.1 q22
    refine wm_return d_So_fillRanks_130 rfl ?_
    exact ⟨rfl, h⟩
  have hE1 : ¬ ((512 < l4) ∨ (l3 = 0)) → mWm G y_So_fillRanks (d + 1) 57 [vr a0, vr a1, vr a2, vi l3, vi l4, vd] [] M (fun r9 M9 => r9 = none ∧ Q M9) := by
    intro q23
    have h := h.2 q23
    refine wm_iconst d_So_fillRanks_57 ?_
    refine wm_istore_n d_So_fillRanks_58 rfl (by decide) (L' := [vr a0, vr a1, vr a2, vi 0, vi l4, vd]) rfl ?_
    refine wm_iconst d_So_fillRanks_59 ?_
    refine wm_istore d_So_fillRanks_60 (by decide) (L' := [vr a0, vr a1, vr a2, vi 0, vi l4, vi 0]) rfl ?_
    exact h
  clear h
  refine wm_icmp_gt (tgt := 130) d_So_fillRanks_50 rfl hi_l4 ⟨by decide, by decide⟩ (fun c20 => ?_) (fun c20 => ?_)
  · exact hE0 (Or.inl c20)
  · refine wm_iload_n d_So_fillRanks_53 rfl rfl ?_
    refine wm_if_eq (tgt := 130) d_So_fillRanks_54 rfl hi_l3 (fun c19 => ?_) (fun c19 => ?_)
    · exact hE0 (Or.inr c19)
    · exact hE1 (fun z24 => Or.elim z24 c20 c19)
theorem k_So_fillRanks_62 {G : mG} {d : Nat} {a0 : Nat} {a1 : Nat} {a2 : Nat} {l3 : Int} {l4 : Int} {l5 : Int} {M : mM} {Q : mM → Prop} (hO : mOk M) (hi_l3 : i32 l3) (hi_l4 : i32 l4) (hi_l5 : i32 l5)
    (h : mK M a0 = 8 ∧ mK M (mR M a0 3) = 7 ∧ ((mI M (mR M a0 3) 0 ≤ l5) → (h_So_fillRanks_45 G d a0 a1 a2 l3 (l4 + 1) M Q)) ∧ (¬ (mI M (mR M a0 3) 0 ≤ l5) → (mK M a2 = 30 ∧ ((0 : Int) ≤ l5 ∧ l5 < (mN M a2 : Int)) ∧ ((mI M a2 (Int.toNat l5) = (-1)) → (mK M a1 = 13 ∧ mK M (mR M a1 0) = 35 ∧ ((0 : Int) ≤ l5 ∧ l5 < (mN M (mR M a1 0) : Int)) ∧ mK M (mR M (mR M a1 0) (Int.toNat l5)) = 11 ∧ mK M (mR M (mR M (mR M a1 0) (Int.toNat l5)) 0) = 10)) ∧ (((¬ (mI M a2 (Int.toNat l5) = (-1))) ∨ (mI M (mR M (mR M (mR M a1 0) (Int.toNat l5)) 0) 1 ≤ 0)) → (h_So_fillRanks_62 G d a0 a1 a2 l3 l4 (l5 + 1) M Q)) ∧ (¬ ((¬ (mI M a2 (Int.toNat l5) = (-1))) ∨ (mI M (mR M (mR M (mR M a1 0) (Int.toNat l5)) 0) 1 ≤ 0)) → (Ci G y_So_earns d [vr a0, vi l5, vi l4, vr a2] M (fun x59 M58 => i32 x59 ∧ mOk M58 ∧ ((¬ (x59 = 0) → (mK M58 a2 = 30 ∧ ((0 : Int) ≤ l5 ∧ l5 < (mN M58 a2 : Int)))) ∧ ∀ v64 : Int, v64 = (if (x59 = 0) then l3 else 1) → ∀ M65 : mM, M65 = (if (x59 = 0) then M58 else (mUI M58 a2 (Int.toNat l5) l4)) → mOk M65 ∧ h_So_fillRanks_62 G d a0 a1 a2 v64 l4 (l5 + 1) M65 Q))))))) :
    h_So_fillRanks_62 G d a0 a1 a2 l3 l4 l5 M Q := by
  unfold h_So_fillRanks_62
  obtain ⟨h26, h⟩ := h
  obtain ⟨h27, h⟩ := h
  refine wm_iload d_So_fillRanks_62 rfl ?_
  refine wm_aload_n d_So_fillRanks_64 rfl rfl ?_
  refine gf_So_64 rfl d_So_fillRanks_65 h26 ?_
  refine gf_So_107 rfl d_So_fillRanks_68 h27 ?_
  refine wm_icmp_ge (tgt := 124) d_So_fillRanks_71 rfl hi_l5 (hO _ _).1 (fun c38 => ?_) (fun c38 => ?_)
  · replace h := h.1 c38
    refine wm_iinc d_So_fillRanks_124 (by decide) rfl (L' := [vr a0, vr a1, vr a2, vi l3, vi (l4 + 1), vi l5]) rfl ?_
    refine wm_goto (tgt := 45) d_So_fillRanks_127 rfl ?_
    refine wm_less (L' := [vr a0, vr a1, vr a2, vi l3, vi (l4 + 1), vd]) ⟨Or.inr rfl, Or.inr rfl, Or.inr rfl, Or.inr rfl, Or.inr rfl, Or.inl rfl, trivial⟩ ?_
    exact h
  · replace h := h.2 c38
    obtain ⟨h39, h⟩ := h
    obtain ⟨h40, h⟩ := h
    refine wm_aload_n d_So_fillRanks_74 rfl rfl ?_
    refine wm_iload d_So_fillRanks_75 rfl ?_
    refine wm_iald d_So_fillRanks_77 h39 h40 ?_
    refine wm_iconst d_So_fillRanks_78 ?_
    obtain ⟨s55, h⟩ := h
    have hE0 : ((¬ (mI M a2 (Int.toNat l5) = (-1))) ∨ (mI M (mR M (mR M (mR M a1 0) (Int.toNat l5)) 0) 1 ≤ 0)) → mWm G y_So_fillRanks (d + 1) 118 [vr a0, vr a1, vr a2, vi l3, vi l4, vi l5] [] M (fun r9 M9 => r9 = none ∧ Q M9) := by
      intro q56
      have h := h.1 q56
      refine wm_iinc d_So_fillRanks_118 (by decide) rfl (L' := [vr a0, vr a1, vr a2, vi l3, vi l4, vi (l5 + 1)]) rfl ?_
      refine wm_goto (tgt := 62) d_So_fillRanks_121 rfl ?_
      exact h
    have hE1 : ¬ ((¬ (mI M a2 (Int.toNat l5) = (-1))) ∨ (mI M (mR M (mR M (mR M a1 0) (Int.toNat l5)) 0) 1 ≤ 0)) → mWm G y_So_fillRanks (d + 1) 98 [vr a0, vr a1, vr a2, vi l3, vi l4, vi l5] [] M (fun r9 M9 => r9 = none ∧ Q M9) := by
      intro q57
      have h := h.2 q57
      refine wm_aload_n d_So_fillRanks_98 rfl rfl ?_
      refine wm_iload d_So_fillRanks_99 rfl ?_
      refine wm_iload d_So_fillRanks_101 rfl ?_
      refine wm_aload_n d_So_fillRanks_103 rfl rfl ?_
      refine cf_So_248 rfl d_So_fillRanks_104 h26 (Nat.le_of_ble_eq_true rfl) (Ci.mono h (fun x59 M58 h => ?_))
      obtain ⟨h60, hOM58, h⟩ := h
      obtain ⟨s66, h⟩ := h
      have hJ : ∀ v64 : Int, v64 = (if (x59 = 0) then l3 else 1) → ∀ M65 : mM, M65 = (if (x59 = 0) then M58 else (mUI M58 a2 (Int.toNat l5) l4)) → mWm G y_So_fillRanks (d + 1) 118 [vr a0, vr a1, vr a2, vi v64, vi l4, vi l5] [] M65 (fun r9 M9 => r9 = none ∧ Q M9) := by
        intro v64 e67
        intro M65 e68
        have h := h v64 e67 M65 e68
        have h69 : i32 v64 := by rw [e67]; (repeat' split) <;> first | exact hi_l3 | exact ⟨by decide, by decide⟩
        have h70 : mK M65 = mK M58 := by rw [e68]; (repeat' split) <;> rfl
        obtain ⟨hOM65, h⟩ := h
        refine wm_iinc d_So_fillRanks_118 (by decide) rfl (L' := [vr a0, vr a1, vr a2, vi v64, vi l4, vi (l5 + 1)]) rfl ?_
        refine wm_goto (tgt := 62) d_So_fillRanks_121 rfl ?_
        exact h
      clear h
      have s71 := s66
      refine wm_if_eq (tgt := 118) d_So_fillRanks_107 rfl h60 (fun c61 => ?_) (fun c61 => ?_)
      · exact hJ l3 (if_pos c61).symm M58 (if_pos c61).symm
      · have s71 := s71 c61
        obtain ⟨h62, h63⟩ := s71
        refine wm_aload_n d_So_fillRanks_110 rfl rfl ?_
        refine wm_iload d_So_fillRanks_111 rfl ?_
        refine wm_iload d_So_fillRanks_113 rfl ?_
        refine wm_iastE d_So_fillRanks_115 h62 h63 hi_l4 rfl ?_
        refine wm_iconst d_So_fillRanks_116 ?_
        refine wm_istore_n d_So_fillRanks_117 rfl (by decide) (L' := [vr a0, vr a1, vr a2, vi 1, vi l4, vi l5]) rfl ?_
        exact hJ 1 (if_neg c61).symm (mUI M58 a2 (Int.toNat l5) l4) (if_neg c61).symm
    clear h
    have s74 := s55
    refine wm_icmp_ne (tgt := 118) d_So_fillRanks_79 rfl (hO _ _).1 ⟨by decide, by decide⟩ (fun c54 => ?_) (fun c54 => ?_)
    · exact hE0 (Or.inl c54)
    · replace c54 := Classical.not_not.mp c54
      have s74 := s74 c54
      obtain ⟨h48, h49, h50, h51, h52⟩ := s74
      refine wm_aload_n d_So_fillRanks_82 rfl rfl ?_
      refine gf_So_169 rfl d_So_fillRanks_83 h48 ?_
      refine wm_iload d_So_fillRanks_86 rfl ?_
      refine wm_aald5 d_So_fillRanks_88 h49 h50 ?_
      refine gf_So_173 rfl d_So_fillRanks_89 h51 ?_
      refine gf_So_245 rfl d_So_fillRanks_92 h52 ?_
      refine wm_if_le (tgt := 118) d_So_fillRanks_95 rfl (hO _ _).1 (fun c53 => ?_) (fun c53 => ?_)
      · exact hE0 (Or.inr c53)
      · exact hE1 (fun z75 => Or.elim z75 (fun w => w c54) c53)
theorem d_So_earns_0 : decode y_So_earns.2.1 0 = .ok (.aload_n 0, 1) := dc9_42 (by decide +kernel)
theorem d_So_earns_1 : decode y_So_earns.2.1 1 = .ok (.getfield 64, 3) := dc9_180 (by decide +kernel)
theorem d_So_earns_4 : decode y_So_earns.2.1 4 = .ok (.getfield 113, 3) := dc9_180 (by decide +kernel)
theorem d_So_earns_7 : decode y_So_earns.2.1 7 = .ok (.iload_n 1, 1) := dc9_27 (by decide +kernel)
theorem d_So_earns_8 : decode y_So_earns.2.1 8 = .ok (.iaload, 1) := dc9_46 (by decide +kernel)
theorem d_So_earns_9 : decode y_So_earns.2.1 9 = .ok (.iconst 1, 1) := dc9_4 (by decide +kernel)
theorem d_So_earns_10 : decode y_So_earns.2.1 10 = .ok (.if_icmp .ne 7, 3) := dc9_160 (by decide +kernel)
theorem d_So_earns_13 : decode y_So_earns.2.1 13 = .ok (.iconst 1, 1) := dc9_4 (by decide +kernel)
theorem d_So_earns_14 : decode y_So_earns.2.1 14 = .ok (.goto 4, 3) := dc9_167 (by decide +kernel)
theorem d_So_earns_17 : decode y_So_earns.2.1 17 = .ok (.iconst 0, 1) := dc9_3 (by decide +kernel)
theorem d_So_earns_18 : decode y_So_earns.2.1 18 = .ok (.istore 4, 2) := dc9_54 (by decide +kernel)
theorem d_So_earns_20 : decode y_So_earns.2.1 20 = .ok (.aload_n 0, 1) := dc9_42 (by decide +kernel)
theorem d_So_earns_21 : decode y_So_earns.2.1 21 = .ok (.getfield 64, 3) := dc9_180 (by decide +kernel)
theorem d_So_earns_24 : decode y_So_earns.2.1 24 = .ok (.getfield 116, 3) := dc9_180 (by decide +kernel)
theorem d_So_earns_27 : decode y_So_earns.2.1 27 = .ok (.iload_n 1, 1) := dc9_27 (by decide +kernel)
theorem d_So_earns_28 : decode y_So_earns.2.1 28 = .ok (.iaload, 1) := dc9_46 (by decide +kernel)
theorem d_So_earns_29 : decode y_So_earns.2.1 29 = .ok (.istore 5, 2) := dc9_54 (by decide +kernel)
theorem d_So_earns_31 : decode y_So_earns.2.1 31 = .ok (.iload 5, 2) := dc9_21 (by decide +kernel)
theorem d_So_earns_33 : decode y_So_earns.2.1 33 = .ok (.aload_n 0, 1) := dc9_42 (by decide +kernel)
theorem d_So_earns_34 : decode y_So_earns.2.1 34 = .ok (.getfield 64, 3) := dc9_180 (by decide +kernel)
theorem d_So_earns_37 : decode y_So_earns.2.1 37 = .ok (.getfield 116, 3) := dc9_180 (by decide +kernel)
theorem d_So_earns_40 : decode y_So_earns.2.1 40 = .ok (.iload_n 1, 1) := dc9_27 (by decide +kernel)
theorem d_So_earns_41 : decode y_So_earns.2.1 41 = .ok (.iconst 1, 1) := dc9_4 (by decide +kernel)
theorem d_So_earns_42 : decode y_So_earns.2.1 42 = .ok (.iadd, 1) := dc9_96 (by decide +kernel)
theorem d_So_earns_43 : decode y_So_earns.2.1 43 = .ok (.iaload, 1) := dc9_46 (by decide +kernel)
theorem d_So_earns_44 : decode y_So_earns.2.1 44 = .ok (.if_icmp .ge 35, 3) := dc9_162 (by decide +kernel)
theorem d_So_earns_79 : decode y_So_earns.2.1 79 = .ok (.iload 4, 2) := dc9_21 (by decide +kernel)
theorem d_So_earns_47 : decode y_So_earns.2.1 47 = .ok (.aload_n 0, 1) := dc9_42 (by decide +kernel)
theorem d_So_earns_48 : decode y_So_earns.2.1 48 = .ok (.getfield 50, 3) := dc9_180 (by decide +kernel)
theorem d_So_earns_51 : decode y_So_earns.2.1 51 = .ok (.iload 5, 2) := dc9_21 (by decide +kernel)
theorem d_So_earns_53 : decode y_So_earns.2.1 53 = .ok (.baload, 1) := dc9_51 (by decide +kernel)
theorem d_So_earns_81 : decode y_So_earns.2.1 81 = .ok (.ifCond .ne 7, 3) := dc9_154 (by decide +kernel)
theorem d_So_earns_84 : decode y_So_earns.2.1 84 = .ok (.iconst 1, 1) := dc9_4 (by decide +kernel)
theorem d_So_earns_85 : decode y_So_earns.2.1 85 = .ok (.goto 4, 3) := dc9_167 (by decide +kernel)
theorem d_So_earns_89 : decode y_So_earns.2.1 89 = .ok (.ireturn, 1) := dc9_172 (by decide +kernel)
theorem d_So_earns_88 : decode y_So_earns.2.1 88 = .ok (.iconst 0, 1) := dc9_3 (by decide +kernel)
theorem d_So_earns_54 : decode y_So_earns.2.1 54 = .ok (.ifCond .eq 19, 3) := dc9_153 (by decide +kernel)
theorem d_So_earns_57 : decode y_So_earns.2.1 57 = .ok (.aload_n 0, 1) := dc9_42 (by decide +kernel)
theorem d_So_earns_58 : decode y_So_earns.2.1 58 = .ok (.iload 5, 2) := dc9_21 (by decide +kernel)
theorem d_So_earns_60 : decode y_So_earns.2.1 60 = .ok (.iload_n 2, 1) := dc9_28 (by decide +kernel)
theorem d_So_earns_61 : decode y_So_earns.2.1 61 = .ok (.aload_n 3, 1) := dc9_45 (by decide +kernel)
theorem d_So_earns_73 : decode y_So_earns.2.1 73 = .ok (.iinc 5 1, 3) := by decide +kernel
theorem d_So_earns_76 : decode y_So_earns.2.1 76 = .ok (.goto (-45), 3) := dc9_167 (by decide +kernel)
theorem d_So_earns_62 : decode y_So_earns.2.1 62 = .ok (.invokevirtual 239, 3) := dc9_182 (by decide +kernel)
theorem d_So_earns_65 : decode y_So_earns.2.1 65 = .ok (.iload 4, 2) := dc9_21 (by decide +kernel)
theorem d_So_earns_67 : decode y_So_earns.2.1 67 = .ok (.if_icmp .ne 6, 3) := dc9_160 (by decide +kernel)
theorem d_So_earns_70 : decode y_So_earns.2.1 70 = .ok (.iload 4, 2) := dc9_21 (by decide +kernel)
theorem d_So_earns_72 : decode y_So_earns.2.1 72 = .ok (.ireturn, 1) := dc9_172 (by decide +kernel)
def h_So_earns_31 (G : mG) (d : Nat) (a0 : Nat) (l1 : Int) (l2 : Int) (a3 : Nat) (l4 : Int) (l5 : Int) (M : mM) (Q : Int → mM → Prop) : Prop := mWm G y_So_earns (d + 1) 31 [vr a0, vi l1, vi l2, vr a3, vi l4, vi l5] [] M (fun r9 M9 => ∃ x9, r9 = some (vi x9) ∧ Q x9 M9)
theorem k_So_earns {G : mG} {d : Nat} {a0 : Nat} {l1 : Int} {l2 : Int} {a3 : Nat} {M : mM} {Q : Int → mM → Prop} (hO : mOk M) (hi_l1 : i32 l1) (hi_l2 : i32 l2)
    (h : mK M a0 = 8 ∧ mK M (mR M a0 3) = 7 ∧ mK M (mR M (mR M a0 3) 2) = 30 ∧ ((0 : Int) ≤ l1 ∧ l1 < (mN M (mR M (mR M a0 3) 2) : Int)) ∧ ∀ v6 : Int, v6 = (if (mI M (mR M (mR M a0 3) 2) (Int.toNat l1) = 1) then 1 else 0) → mK M (mR M (mR M a0 3) 4) = 30 ∧ ((0 : Int) ≤ l1 ∧ l1 < (mN M (mR M (mR M a0 3) 4) : Int)) ∧ h_So_earns_31 G d a0 l1 l2 a3 v6 (mI M (mR M (mR M a0 3) 4) (Int.toNat l1)) M Q) :
    Ci G y_So_earns (d + 1) [vr a0, vi l1, vi l2, vr a3] M Q := by
  refine wm_open (y := y_So_earns) rfl (Nat.le_of_ble_eq_true rfl) (L := [vr a0, vi l1, vi l2, vr a3, vd, vd]) rfl ?_
  obtain ⟨h1, h⟩ := h
  obtain ⟨h2, h⟩ := h
  obtain ⟨h3, h⟩ := h
  obtain ⟨h4, h⟩ := h
  refine wm_aload_n d_So_earns_0 rfl rfl ?_
  refine gf_So_64 rfl d_So_earns_1 h1 ?_
  refine gf_So_113 rfl d_So_earns_4 h2 ?_
  refine wm_iload_n d_So_earns_7 rfl rfl ?_
  refine wm_iald d_So_earns_8 h3 h4 ?_
  refine wm_iconst d_So_earns_9 ?_
  have hJ : ∀ v6 : Int, v6 = (if (mI M (mR M (mR M a0 3) 2) (Int.toNat l1) = 1) then 1 else 0) → mWm G y_So_earns (d + 1) 18 [vr a0, vi l1, vi l2, vr a3, vd, vd] [vi v6] M (fun r9 M9 => ∃ x9, r9 = some (vi x9) ∧ Q x9 M9) := by
    intro v6 e8
    have h := h v6 e8
    have h9 : i32 v6 := by rw [e8]; (repeat' split) <;> first | exact ⟨by decide, by decide⟩ | exact ⟨by decide, by decide⟩
    have h10 : (v6 = 0 ∨ v6 = 1) := by rw [e8]; (repeat' split) <;> decide
    obtain ⟨h11, h⟩ := h
    obtain ⟨h12, h⟩ := h
    refine wm_istore d_So_earns_18 (by decide) (L' := [vr a0, vi l1, vi l2, vr a3, vi v6, vd]) rfl ?_
    refine wm_aload_n d_So_earns_20 rfl rfl ?_
    refine gf_So_64 rfl d_So_earns_21 h1 ?_
    refine gf_So_116 rfl d_So_earns_24 h2 ?_
    refine wm_iload_n d_So_earns_27 rfl rfl ?_
    refine wm_iald d_So_earns_28 h11 h12 ?_
    refine wm_istore d_So_earns_29 (by decide) (L' := [vr a0, vi l1, vi l2, vr a3, vi v6, vi (mI M (mR M (mR M a0 3) 4) (Int.toNat l1))]) rfl ?_
    exact h
  clear h
  refine wm_icmp_ne (tgt := 17) d_So_earns_10 rfl (hO _ _).1 ⟨by decide, by decide⟩ (fun c5 => ?_) (fun c5 => ?_)
  · refine wm_iconst d_So_earns_17 ?_
    exact hJ 0 (if_neg c5).symm
  · replace c5 := Classical.not_not.mp c5
    refine wm_iconst d_So_earns_13 ?_
    refine wm_goto (tgt := 18) d_So_earns_14 rfl ?_
    exact hJ 1 (if_pos c5).symm
theorem k_So_earns_31 {G : mG} {d : Nat} {a0 : Nat} {l1 : Int} {l2 : Int} {a3 : Nat} {l4 : Int} {l5 : Int} {M : mM} {Q : Int → mM → Prop} (hO : mOk M) (hi_l1 : i32 l1) (hi_l2 : i32 l2) (hi_l4 : i32 l4) (hi_l5 : i32 l5)
    (h : mK M a0 = 8 ∧ mK M (mR M a0 3) = 7 ∧ mK M (mR M (mR M a0 3) 4) = 30 ∧ ((0 : Int) ≤ l1 + 1 ∧ l1 + 1 < (mN M (mR M (mR M a0 3) 4) : Int)) ∧ ((mI M (mR M (mR M a0 3) 4) (Int.toNat (l1 + 1)) ≤ l5) → (∀ v27 : Int, v27 = (if (l4 = 0) then 1 else 0) → Q v27 M)) ∧ (¬ (mI M (mR M (mR M a0 3) 4) (Int.toNat (l1 + 1)) ≤ l5) → (mK M (mR M a0 15) = 31 ∧ ((0 : Int) ≤ l5 ∧ l5 < (mN M (mR M a0 15) : Int)) ∧ ((mI M (mR M a0 15) (Int.toNat l5) = 0) → (h_So_earns_31 G d a0 l1 l2 a3 l4 (l5 + 1) M Q)) ∧ (¬ (mI M (mR M a0 15) (Int.toNat l5) = 0) → (Ci G y_So_leadsBelow d [vr a0, vi l5, vi l2, vr a3] M (fun x38 M37 => i32 x38 ∧ mOk M37 ∧ (((x38 = l4) → ((l4 = 0 ∨ l4 = 1) ∧ Q l4 M37)) ∧ (¬ (x38 = l4) → (h_So_earns_31 G d a0 l1 l2 a3 l4 (l5 + 1) M37 Q))))))))) :
    h_So_earns_31 G d a0 l1 l2 a3 l4 l5 M Q := by
  unfold h_So_earns_31
  obtain ⟨h14, h⟩ := h
  obtain ⟨h15, h⟩ := h
  obtain ⟨h16, h⟩ := h
  obtain ⟨h17, h⟩ := h
  refine wm_iload d_So_earns_31 rfl ?_
  refine wm_aload_n d_So_earns_33 rfl rfl ?_
  refine gf_So_64 rfl d_So_earns_34 h14 ?_
  refine gf_So_116 rfl d_So_earns_37 h15 ?_
  refine wm_iload_n d_So_earns_40 rfl rfl ?_
  refine wm_iconst d_So_earns_41 ?_
  refine wm_iadd d_So_earns_42 ?_
  refine wm_iald d_So_earns_43 h16 h17 ?_
  refine wm_icmp_ge (tgt := 79) d_So_earns_44 rfl hi_l5 (hO _ _).1 (fun c25 => ?_) (fun c25 => ?_)
  · replace h := h.1 c25
    refine wm_iload d_So_earns_79 rfl ?_
    have hJ : ∀ v27 : Int, v27 = (if (l4 = 0) then 1 else 0) → mWm G y_So_earns (d + 1) 89 [vd, vd, vd, vd, vd, vd] [vi v27] M (fun r9 M9 => ∃ x9, r9 = some (vi x9) ∧ Q x9 M9) := by
      intro v27 e29
      have h := h v27 e29
      have h30 : i32 v27 := by rw [e29]; (repeat' split) <;> first | exact ⟨by decide, by decide⟩ | exact ⟨by decide, by decide⟩
      have h31 : (v27 = 0 ∨ v27 = 1) := by rw [e29]; (repeat' split) <;> decide
      refine wm_ireturn d_So_earns_89 rfl (m_nb h31) ?_
      exact ⟨_, rfl, h⟩
    clear h
    refine wm_if_ne (tgt := 88) d_So_earns_81 rfl hi_l4 (fun c26 => ?_) (fun c26 => ?_)
    · refine wm_iconst d_So_earns_88 ?_
      refine wm_less (L' := [vd, vd, vd, vd, vd, vd]) ⟨Or.inl rfl, Or.inl rfl, Or.inl rfl, Or.inl rfl, Or.inl rfl, Or.inl rfl, trivial⟩ ?_
      exact hJ 0 (if_neg c26).symm
    · replace c26 := Classical.not_not.mp c26
      refine wm_iconst d_So_earns_84 ?_
      refine wm_goto (tgt := 89) d_So_earns_85 rfl ?_
      refine wm_less (L' := [vd, vd, vd, vd, vd, vd]) ⟨Or.inl rfl, Or.inl rfl, Or.inl rfl, Or.inl rfl, Or.inl rfl, Or.inl rfl, trivial⟩ ?_
      exact hJ 1 (if_pos c26).symm
  · replace h := h.2 c25
    obtain ⟨h33, h⟩ := h
    obtain ⟨h34, h⟩ := h
    refine wm_aload_n d_So_earns_47 rfl rfl ?_
    refine gf_So_50 rfl d_So_earns_48 h14 ?_
    refine wm_iload d_So_earns_51 rfl ?_
    refine wm_zald d_So_earns_53 h33 h34 ?_
    refine wm_if_eq (tgt := 73) d_So_earns_54 rfl (hO _ _).1 (fun c36 => ?_) (fun c36 => ?_)
    · replace h := h.1 c36
      refine wm_iinc d_So_earns_73 (by decide) rfl (L' := [vr a0, vi l1, vi l2, vr a3, vi l4, vi (l5 + 1)]) rfl ?_
      refine wm_goto (tgt := 31) d_So_earns_76 rfl ?_
      exact h
    · replace h := h.2 c36
      refine wm_aload_n d_So_earns_57 rfl rfl ?_
      refine wm_iload d_So_earns_58 rfl ?_
      refine wm_iload_n d_So_earns_60 rfl rfl ?_
      refine wm_aload_n d_So_earns_61 rfl rfl ?_
      refine cf_So_239 rfl d_So_earns_62 h14 (Nat.le_of_ble_eq_true rfl) (Ci.mono h (fun x38 M37 h => ?_))
      obtain ⟨h39, hOM37, h⟩ := h
      refine wm_iload d_So_earns_65 rfl ?_
      refine wm_icmp_ne (tgt := 73) d_So_earns_67 rfl h39 hi_l4 (fun c42 => ?_) (fun c42 => ?_)
      · replace h := h.2 c42
        refine wm_iinc d_So_earns_73 (by decide) rfl (L' := [vr a0, vi l1, vi l2, vr a3, vi l4, vi (l5 + 1)]) rfl ?_
        refine wm_goto (tgt := 31) d_So_earns_76 rfl ?_
        exact h
      · replace c42 := Classical.not_not.mp c42
        replace h := h.1 c42
        obtain ⟨h43, h⟩ := h
        refine wm_iload d_So_earns_70 rfl ?_
        refine wm_ireturn d_So_earns_72 rfl (m_nb h43) ?_
        exact ⟨_, rfl, h⟩
theorem d_So_leadsBelow_0 : decode y_So_leadsBelow.2.1 0 = .ok (.aload_n 0, 1) := dc9_42 (by decide +kernel)
theorem d_So_leadsBelow_1 : decode y_So_leadsBelow.2.1 1 = .ok (.getfield 64, 3) := dc9_180 (by decide +kernel)
theorem d_So_leadsBelow_4 : decode y_So_leadsBelow.2.1 4 = .ok (.getfield 139, 3) := dc9_180 (by decide +kernel)
theorem d_So_leadsBelow_7 : decode y_So_leadsBelow.2.1 7 = .ok (.iload_n 1, 1) := dc9_27 (by decide +kernel)
theorem d_So_leadsBelow_8 : decode y_So_leadsBelow.2.1 8 = .ok (.iaload, 1) := dc9_46 (by decide +kernel)
theorem d_So_leadsBelow_9 : decode y_So_leadsBelow.2.1 9 = .ok (.istore 4, 2) := dc9_54 (by decide +kernel)
theorem d_So_leadsBelow_11 : decode y_So_leadsBelow.2.1 11 = .ok (.iload 4, 2) := dc9_21 (by decide +kernel)
theorem d_So_leadsBelow_13 : decode y_So_leadsBelow.2.1 13 = .ok (.aload_n 0, 1) := dc9_42 (by decide +kernel)
theorem d_So_leadsBelow_14 : decode y_So_leadsBelow.2.1 14 = .ok (.getfield 64, 3) := dc9_180 (by decide +kernel)
theorem d_So_leadsBelow_17 : decode y_So_leadsBelow.2.1 17 = .ok (.getfield 139, 3) := dc9_180 (by decide +kernel)
theorem d_So_leadsBelow_20 : decode y_So_leadsBelow.2.1 20 = .ok (.iload_n 1, 1) := dc9_27 (by decide +kernel)
theorem d_So_leadsBelow_21 : decode y_So_leadsBelow.2.1 21 = .ok (.iconst 1, 1) := dc9_4 (by decide +kernel)
theorem d_So_leadsBelow_22 : decode y_So_leadsBelow.2.1 22 = .ok (.iadd, 1) := dc9_96 (by decide +kernel)
theorem d_So_leadsBelow_23 : decode y_So_leadsBelow.2.1 23 = .ok (.iaload, 1) := dc9_46 (by decide +kernel)
theorem d_So_leadsBelow_24 : decode y_So_leadsBelow.2.1 24 = .ok (.if_icmp .ge 37, 3) := dc9_162 (by decide +kernel)
theorem d_So_leadsBelow_61 : decode y_So_leadsBelow.2.1 61 = .ok (.iconst 0, 1) := dc9_3 (by decide +kernel)
theorem d_So_leadsBelow_62 : decode y_So_leadsBelow.2.1 62 = .ok (.ireturn, 1) := dc9_172 (by decide +kernel)
theorem d_So_leadsBelow_27 : decode y_So_leadsBelow.2.1 27 = .ok (.aload_n 3, 1) := dc9_45 (by decide +kernel)
theorem d_So_leadsBelow_28 : decode y_So_leadsBelow.2.1 28 = .ok (.aload_n 0, 1) := dc9_42 (by decide +kernel)
theorem d_So_leadsBelow_29 : decode y_So_leadsBelow.2.1 29 = .ok (.getfield 64, 3) := dc9_180 (by decide +kernel)
theorem d_So_leadsBelow_32 : decode y_So_leadsBelow.2.1 32 = .ok (.getfield 142, 3) := dc9_180 (by decide +kernel)
theorem d_So_leadsBelow_35 : decode y_So_leadsBelow.2.1 35 = .ok (.iload 4, 2) := dc9_21 (by decide +kernel)
theorem d_So_leadsBelow_37 : decode y_So_leadsBelow.2.1 37 = .ok (.iaload, 1) := dc9_46 (by decide +kernel)
theorem d_So_leadsBelow_38 : decode y_So_leadsBelow.2.1 38 = .ok (.iaload, 1) := dc9_46 (by decide +kernel)
theorem d_So_leadsBelow_39 : decode y_So_leadsBelow.2.1 39 = .ok (.istore 5, 2) := dc9_54 (by decide +kernel)
theorem d_So_leadsBelow_41 : decode y_So_leadsBelow.2.1 41 = .ok (.iload 5, 2) := dc9_21 (by decide +kernel)
theorem d_So_leadsBelow_43 : decode y_So_leadsBelow.2.1 43 = .ok (.iconst (-1), 1) := dc9_2 (by decide +kernel)
theorem d_So_leadsBelow_44 : decode y_So_leadsBelow.2.1 44 = .ok (.if_icmp .eq 11, 3) := dc9_159 (by decide +kernel)
theorem d_So_leadsBelow_47 : decode y_So_leadsBelow.2.1 47 = .ok (.iload 5, 2) := dc9_21 (by decide +kernel)
theorem d_So_leadsBelow_49 : decode y_So_leadsBelow.2.1 49 = .ok (.iload_n 2, 1) := dc9_28 (by decide +kernel)
theorem d_So_leadsBelow_50 : decode y_So_leadsBelow.2.1 50 = .ok (.if_icmp .ge 5, 3) := dc9_162 (by decide +kernel)
theorem d_So_leadsBelow_53 : decode y_So_leadsBelow.2.1 53 = .ok (.iconst 1, 1) := dc9_4 (by decide +kernel)
theorem d_So_leadsBelow_54 : decode y_So_leadsBelow.2.1 54 = .ok (.ireturn, 1) := dc9_172 (by decide +kernel)
theorem d_So_leadsBelow_55 : decode y_So_leadsBelow.2.1 55 = .ok (.iinc 4 1, 3) := by decide +kernel
theorem d_So_leadsBelow_58 : decode y_So_leadsBelow.2.1 58 = .ok (.goto (-47), 3) := dc9_167 (by decide +kernel)
def h_So_leadsBelow_11 (G : mG) (d : Nat) (a0 : Nat) (l1 : Int) (l2 : Int) (a3 : Nat) (l4 : Int) (M : mM) (Q : Int → mM → Prop) : Prop := mWm G y_So_leadsBelow d 11 [vr a0, vi l1, vi l2, vr a3, vi l4, vd] [] M (fun r9 M9 => ∃ x9, r9 = some (vi x9) ∧ Q x9 M9)
theorem k_So_leadsBelow {G : mG} {d : Nat} {a0 : Nat} {l1 : Int} {l2 : Int} {a3 : Nat} {M : mM} {Q : Int → mM → Prop} (hO : mOk M) (hi_l1 : i32 l1) (hi_l2 : i32 l2)
    (h : mK M a0 = 8 ∧ mK M (mR M a0 3) = 7 ∧ mK M (mR M (mR M a0 3) 7) = 30 ∧ ((0 : Int) ≤ l1 ∧ l1 < (mN M (mR M (mR M a0 3) 7) : Int)) ∧ h_So_leadsBelow_11 G d a0 l1 l2 a3 (mI M (mR M (mR M a0 3) 7) (Int.toNat l1)) M Q) :
    Ci G y_So_leadsBelow d [vr a0, vi l1, vi l2, vr a3] M Q := by
  refine wm_open (y := y_So_leadsBelow) rfl (Nat.le_of_ble_eq_true rfl) (L := [vr a0, vi l1, vi l2, vr a3, vd, vd]) rfl ?_
  obtain ⟨h1, h⟩ := h
  obtain ⟨h2, h⟩ := h
  obtain ⟨h3, h⟩ := h
  obtain ⟨h4, h⟩ := h
  refine wm_aload_n d_So_leadsBelow_0 rfl rfl ?_
  refine gf_So_64 rfl d_So_leadsBelow_1 h1 ?_
  refine gf_So_139 rfl d_So_leadsBelow_4 h2 ?_
  refine wm_iload_n d_So_leadsBelow_7 rfl rfl ?_
  refine wm_iald d_So_leadsBelow_8 h3 h4 ?_
  refine wm_istore d_So_leadsBelow_9 (by decide) (L' := [vr a0, vi l1, vi l2, vr a3, vi (mI M (mR M (mR M a0 3) 7) (Int.toNat l1)), vd]) rfl ?_
  exact h
theorem k_So_leadsBelow_11 {G : mG} {d : Nat} {a0 : Nat} {l1 : Int} {l2 : Int} {a3 : Nat} {l4 : Int} {M : mM} {Q : Int → mM → Prop} (hO : mOk M) (hi_l1 : i32 l1) (hi_l2 : i32 l2) (hi_l4 : i32 l4)
    (h : mK M a0 = 8 ∧ mK M (mR M a0 3) = 7 ∧ mK M (mR M (mR M a0 3) 7) = 30 ∧ ((0 : Int) ≤ l1 + 1 ∧ l1 + 1 < (mN M (mR M (mR M a0 3) 7) : Int)) ∧ ((mI M (mR M (mR M a0 3) 7) (Int.toNat (l1 + 1)) ≤ l4) → (Q 0 M)) ∧ (¬ (mI M (mR M (mR M a0 3) 7) (Int.toNat (l1 + 1)) ≤ l4) → (mK M (mR M (mR M a0 3) 8) = 30 ∧ ((0 : Int) ≤ l4 ∧ l4 < (mN M (mR M (mR M a0 3) 8) : Int)) ∧ mK M a3 = 30 ∧ ((0 : Int) ≤ mI M (mR M (mR M a0 3) 8) (Int.toNat l4) ∧ mI M (mR M (mR M a0 3) 8) (Int.toNat l4) < (mN M a3 : Int)) ∧ (((mI M a3 (Int.toNat (mI M (mR M (mR M a0 3) 8) (Int.toNat l4))) = (-1)) ∨ (l2 ≤ mI M a3 (Int.toNat (mI M (mR M (mR M a0 3) 8) (Int.toNat l4))))) → (h_So_leadsBelow_11 G d a0 l1 l2 a3 (l4 + 1) M Q)) ∧ (¬ ((mI M a3 (Int.toNat (mI M (mR M (mR M a0 3) 8) (Int.toNat l4))) = (-1)) ∨ (l2 ≤ mI M a3 (Int.toNat (mI M (mR M (mR M a0 3) 8) (Int.toNat l4))))) → (Q 1 M))))) :
    h_So_leadsBelow_11 G d a0 l1 l2 a3 l4 M Q := by
  unfold h_So_leadsBelow_11
  obtain ⟨h5, h⟩ := h
  obtain ⟨h6, h⟩ := h
  obtain ⟨h7, h⟩ := h
  obtain ⟨h8, h⟩ := h
  refine wm_iload d_So_leadsBelow_11 rfl ?_
  refine wm_aload_n d_So_leadsBelow_13 rfl rfl ?_
  refine gf_So_64 rfl d_So_leadsBelow_14 h5 ?_
  refine gf_So_139 rfl d_So_leadsBelow_17 h6 ?_
  refine wm_iload_n d_So_leadsBelow_20 rfl rfl ?_
  refine wm_iconst d_So_leadsBelow_21 ?_
  refine wm_iadd d_So_leadsBelow_22 ?_
  refine wm_iald d_So_leadsBelow_23 h7 h8 ?_
  refine wm_icmp_ge (tgt := 61) d_So_leadsBelow_24 rfl hi_l4 (hO _ _).1 (fun c14 => ?_) (fun c14 => ?_)
  · replace h := h.1 c14
    refine wm_iconst d_So_leadsBelow_61 ?_
    refine wm_ireturn d_So_leadsBelow_62 rfl (m_nb (by decide)) ?_
    exact ⟨_, rfl, h⟩
  · replace h := h.2 c14
    obtain ⟨h15, h⟩ := h
    obtain ⟨h16, h⟩ := h
    obtain ⟨h17, h⟩ := h
    obtain ⟨h18, h⟩ := h
    refine wm_aload_n d_So_leadsBelow_27 rfl rfl ?_
    refine wm_aload_n d_So_leadsBelow_28 rfl rfl ?_
    refine gf_So_64 rfl d_So_leadsBelow_29 h5 ?_
    refine gf_So_142 rfl d_So_leadsBelow_32 h6 ?_
    refine wm_iload d_So_leadsBelow_35 rfl ?_
    refine wm_iald d_So_leadsBelow_37 h15 h16 ?_
    refine wm_iald d_So_leadsBelow_38 h17 h18 ?_
    refine wm_istore d_So_leadsBelow_39 (by decide) (L' := [vr a0, vi l1, vi l2, vr a3, vi l4, vi (mI M a3 (Int.toNat (mI M (mR M (mR M a0 3) 8) (Int.toNat l4))))]) rfl ?_
    refine wm_iload d_So_leadsBelow_41 rfl ?_
    refine wm_iconst d_So_leadsBelow_43 ?_
    have hE0 : ((mI M a3 (Int.toNat (mI M (mR M (mR M a0 3) 8) (Int.toNat l4))) = (-1)) ∨ (l2 ≤ mI M a3 (Int.toNat (mI M (mR M (mR M a0 3) 8) (Int.toNat l4))))) → mWm G y_So_leadsBelow d 55 [vr a0, vi l1, vi l2, vr a3, vi l4, vi (mI M a3 (Int.toNat (mI M (mR M (mR M a0 3) 8) (Int.toNat l4))))] [] M (fun r9 M9 => ∃ x9, r9 = some (vi x9) ∧ Q x9 M9) := by
      intro q22
      have h := h.1 q22
      refine wm_iinc d_So_leadsBelow_55 (by decide) rfl (L' := [vr a0, vi l1, vi l2, vr a3, vi (l4 + 1), vi (mI M a3 (Int.toNat (mI M (mR M (mR M a0 3) 8) (Int.toNat l4))))]) rfl ?_
      refine wm_goto (tgt := 11) d_So_leadsBelow_58 rfl ?_
      refine wm_less (L' := [vr a0, vi l1, vi l2, vr a3, vi (l4 + 1), vd]) ⟨Or.inr rfl, Or.inr rfl, Or.inr rfl, Or.inr rfl, Or.inr rfl, Or.inl rfl, trivial⟩ ?_
      exact h
    have hE1 : ¬ ((mI M a3 (Int.toNat (mI M (mR M (mR M a0 3) 8) (Int.toNat l4))) = (-1)) ∨ (l2 ≤ mI M a3 (Int.toNat (mI M (mR M (mR M a0 3) 8) (Int.toNat l4))))) → mWm G y_So_leadsBelow d 53 [vr a0, vi l1, vi l2, vr a3, vi l4, vi (mI M a3 (Int.toNat (mI M (mR M (mR M a0 3) 8) (Int.toNat l4))))] [] M (fun r9 M9 => ∃ x9, r9 = some (vi x9) ∧ Q x9 M9) := by
      intro q23
      have h := h.2 q23
      refine wm_iconst d_So_leadsBelow_53 ?_
      refine wm_ireturn d_So_leadsBelow_54 rfl (m_nb (by decide)) ?_
      exact ⟨_, rfl, h⟩
    clear h
    refine wm_icmp_eq (tgt := 55) d_So_leadsBelow_44 rfl (hO _ _).1 ⟨by decide, by decide⟩ (fun c20 => ?_) (fun c20 => ?_)
    · exact hE0 (Or.inl c20)
    · refine wm_iload d_So_leadsBelow_47 rfl ?_
      refine wm_iload_n d_So_leadsBelow_49 rfl rfl ?_
      refine wm_icmp_ge (tgt := 55) d_So_leadsBelow_50 rfl (hO _ _).1 hi_l2 (fun c19 => ?_) (fun c19 => ?_)
      · exact hE0 (Or.inr c19)
      · exact hE1 (fun z24 => Or.elim z24 c20 c19)
theorem d_So_holds_0 : decode y_So_holds.2.1 0 = .ok (.aload_n 0, 1) := dc9_42 (by decide +kernel)
theorem d_So_holds_1 : decode y_So_holds.2.1 1 = .ok (.aload_n 1, 1) := dc9_43 (by decide +kernel)
theorem d_So_holds_2 : decode y_So_holds.2.1 2 = .ok (.invokevirtual 232, 3) := dc9_182 (by decide +kernel)
theorem d_So_holds_5 : decode y_So_holds.2.1 5 = .ok (.istore_n 2, 1) := dc9_61 (by decide +kernel)
theorem d_So_holds_6 : decode y_So_holds.2.1 6 = .ok (.aload_n 0, 1) := dc9_42 (by decide +kernel)
theorem d_So_holds_7 : decode y_So_holds.2.1 7 = .ok (.aload_n 1, 1) := dc9_43 (by decide +kernel)
theorem d_So_holds_8 : decode y_So_holds.2.1 8 = .ok (.aload_n 0, 1) := dc9_42 (by decide +kernel)
theorem d_So_holds_9 : decode y_So_holds.2.1 9 = .ok (.getfield 54, 3) := dc9_180 (by decide +kernel)
theorem d_So_holds_12 : decode y_So_holds.2.1 12 = .ok (.invokevirtual 235, 3) := dc9_182 (by decide +kernel)
theorem d_So_holds_15 : decode y_So_holds.2.1 15 = .ok (.iconst 0, 1) := dc9_3 (by decide +kernel)
theorem d_So_holds_16 : decode y_So_holds.2.1 16 = .ok (.istore_n 3, 1) := dc9_62 (by decide +kernel)
theorem d_So_holds_17 : decode y_So_holds.2.1 17 = .ok (.iload_n 3, 1) := dc9_29 (by decide +kernel)
theorem d_So_holds_18 : decode y_So_holds.2.1 18 = .ok (.aload_n 0, 1) := dc9_42 (by decide +kernel)
theorem d_So_holds_19 : decode y_So_holds.2.1 19 = .ok (.getfield 64, 3) := dc9_180 (by decide +kernel)
theorem d_So_holds_22 : decode y_So_holds.2.1 22 = .ok (.getfield 107, 3) := dc9_180 (by decide +kernel)
theorem d_So_holds_25 : decode y_So_holds.2.1 25 = .ok (.if_icmp .ge 69, 3) := dc9_162 (by decide +kernel)
theorem d_So_holds_94 : decode y_So_holds.2.1 94 = .ok (.iload_n 2, 1) := dc9_28 (by decide +kernel)
theorem d_So_holds_95 : decode y_So_holds.2.1 95 = .ok (.ireturn, 1) := dc9_172 (by decide +kernel)
theorem d_So_holds_28 : decode y_So_holds.2.1 28 = .ok (.aload_n 1, 1) := dc9_43 (by decide +kernel)
theorem d_So_holds_29 : decode y_So_holds.2.1 29 = .ok (.getfield 169, 3) := dc9_180 (by decide +kernel)
theorem d_So_holds_32 : decode y_So_holds.2.1 32 = .ok (.iload_n 3, 1) := dc9_29 (by decide +kernel)
theorem d_So_holds_33 : decode y_So_holds.2.1 33 = .ok (.aaload, 1) := dc9_50 (by decide +kernel)
theorem d_So_holds_34 : decode y_So_holds.2.1 34 = .ok (.getfield 173, 3) := dc9_180 (by decide +kernel)
theorem d_So_holds_37 : decode y_So_holds.2.1 37 = .ok (.getfield 245, 3) := dc9_180 (by decide +kernel)
theorem d_So_holds_40 : decode y_So_holds.2.1 40 = .ok (.ifCond .eq 13, 3) := dc9_153 (by decide +kernel)
theorem d_So_holds_43 : decode y_So_holds.2.1 43 = .ok (.aload_n 0, 1) := dc9_42 (by decide +kernel)
theorem d_So_holds_44 : decode y_So_holds.2.1 44 = .ok (.getfield 54, 3) := dc9_180 (by decide +kernel)
theorem d_So_holds_47 : decode y_So_holds.2.1 47 = .ok (.iload_n 3, 1) := dc9_29 (by decide +kernel)
theorem d_So_holds_48 : decode y_So_holds.2.1 48 = .ok (.iaload, 1) := dc9_46 (by decide +kernel)
theorem d_So_holds_49 : decode y_So_holds.2.1 49 = .ok (.iconst (-1), 1) := dc9_2 (by decide +kernel)
theorem d_So_holds_50 : decode y_So_holds.2.1 50 = .ok (.if_icmp .eq 7, 3) := dc9_159 (by decide +kernel)
theorem d_So_holds_57 : decode y_So_holds.2.1 57 = .ok (.iconst 0, 1) := dc9_3 (by decide +kernel)
theorem d_So_holds_58 : decode y_So_holds.2.1 58 = .ok (.istore 4, 2) := dc9_54 (by decide +kernel)
theorem d_So_holds_60 : decode y_So_holds.2.1 60 = .ok (.iload_n 2, 1) := dc9_28 (by decide +kernel)
theorem d_So_holds_61 : decode y_So_holds.2.1 61 = .ok (.iload 4, 2) := dc9_21 (by decide +kernel)
theorem d_So_holds_53 : decode y_So_holds.2.1 53 = .ok (.iconst 1, 1) := dc9_4 (by decide +kernel)
theorem d_So_holds_54 : decode y_So_holds.2.1 54 = .ok (.goto 4, 3) := dc9_167 (by decide +kernel)
theorem d_So_holds_63 : decode y_So_holds.2.1 63 = .ok (.ifCond .eq 22, 3) := dc9_153 (by decide +kernel)
theorem d_So_holds_85 : decode y_So_holds.2.1 85 = .ok (.iconst 0, 1) := dc9_3 (by decide +kernel)
theorem d_So_holds_66 : decode y_So_holds.2.1 66 = .ok (.aload_n 0, 1) := dc9_42 (by decide +kernel)
theorem d_So_holds_67 : decode y_So_holds.2.1 67 = .ok (.getfield 54, 3) := dc9_180 (by decide +kernel)
theorem d_So_holds_70 : decode y_So_holds.2.1 70 = .ok (.iload_n 3, 1) := dc9_29 (by decide +kernel)
theorem d_So_holds_71 : decode y_So_holds.2.1 71 = .ok (.iaload, 1) := dc9_46 (by decide +kernel)
theorem d_So_holds_72 : decode y_So_holds.2.1 72 = .ok (.aload_n 0, 1) := dc9_42 (by decide +kernel)
theorem d_So_holds_73 : decode y_So_holds.2.1 73 = .ok (.getfield 18, 3) := dc9_180 (by decide +kernel)
theorem d_So_holds_76 : decode y_So_holds.2.1 76 = .ok (.iload_n 3, 1) := dc9_29 (by decide +kernel)
theorem d_So_holds_77 : decode y_So_holds.2.1 77 = .ok (.iaload, 1) := dc9_46 (by decide +kernel)
theorem d_So_holds_78 : decode y_So_holds.2.1 78 = .ok (.if_icmp .ne 7, 3) := dc9_160 (by decide +kernel)
theorem d_So_holds_81 : decode y_So_holds.2.1 81 = .ok (.iconst 1, 1) := dc9_4 (by decide +kernel)
theorem d_So_holds_82 : decode y_So_holds.2.1 82 = .ok (.goto 4, 3) := dc9_167 (by decide +kernel)
theorem d_So_holds_86 : decode y_So_holds.2.1 86 = .ok (.iand, 1) := dc9_126 (by decide +kernel)
theorem d_So_holds_87 : decode y_So_holds.2.1 87 = .ok (.istore_n 2, 1) := dc9_61 (by decide +kernel)
theorem d_So_holds_88 : decode y_So_holds.2.1 88 = .ok (.iinc 3 1, 3) := by decide +kernel
theorem d_So_holds_91 : decode y_So_holds.2.1 91 = .ok (.goto (-74), 3) := dc9_167 (by decide +kernel)
def h_So_holds_17 (G : mG) (d : Nat) (a0 : Nat) (a1 : Nat) (l2 : Int) (l3 : Int) (M : mM) (Q : Int → mM → Prop) : Prop := mWm G y_So_holds (d + 1) 17 [vr a0, vr a1, vi l2, vi l3, vd] [] M (fun r9 M9 => ∃ x9, r9 = some (vi x9) ∧ Q x9 M9)
theorem k_So_holds {G : mG} {d : Nat} {a0 : Nat} {a1 : Nat} {M : mM} {Q : Int → mM → Prop} (hO : mOk M)
    (h : mK M a0 = 8 ∧ Ci G y_So_attain d [vr a0, vr a1] M (fun x3 M2 => i32 x3 ∧ mOk M2 ∧ (mK M2 a0 = 8 ∧ Cv G y_So_fillRanks d [vr a0, vr a1, vr (mR M2 a0 16)] M2 (fun M6 => mOk M6 ∧ (h_So_holds_17 G d a0 a1 x3 0 M6 Q))))) :
    Ci G y_So_holds (d + 1) [vr a0, vr a1] M Q := by
  refine wm_open (y := y_So_holds) rfl (Nat.le_of_ble_eq_true rfl) (L := [vr a0, vr a1, vd, vd, vd]) rfl ?_
  obtain ⟨h1, h⟩ := h
  refine wm_aload_n d_So_holds_0 rfl rfl ?_
  refine wm_aload_n d_So_holds_1 rfl rfl ?_
  refine cf_So_232 rfl d_So_holds_2 h1 (Nat.le_of_ble_eq_true rfl) (Ci.mono h (fun x3 M2 h => ?_))
  obtain ⟨h4, hOM2, h⟩ := h
  obtain ⟨h5, h⟩ := h
  refine wm_istore_n d_So_holds_5 rfl (by decide) (L' := [vr a0, vr a1, vi x3, vd, vd]) rfl ?_
  refine wm_aload_n d_So_holds_6 rfl rfl ?_
  refine wm_aload_n d_So_holds_7 rfl rfl ?_
  refine wm_aload_n d_So_holds_8 rfl rfl ?_
  refine gf_So_54 rfl d_So_holds_9 h5 ?_
  refine cf_So_235 rfl d_So_holds_12 h5 (Nat.le_of_ble_eq_true rfl) (Cv.mono h (fun M6 h => ?_))
  obtain ⟨hOM6, h⟩ := h
  refine wm_iconst d_So_holds_15 ?_
  refine wm_istore_n d_So_holds_16 rfl (by decide) (L' := [vr a0, vr a1, vi x3, vi 0, vd]) rfl ?_
  exact h
theorem k_So_holds_17 {G : mG} {d : Nat} {a0 : Nat} {a1 : Nat} {l2 : Int} {l3 : Int} {M : mM} {Q : Int → mM → Prop} (hO : mOk M) (hi_l2 : i32 l2) (hi_l3 : i32 l3)
    (h : mK M a0 = 8 ∧ mK M (mR M a0 3) = 7 ∧ ((mI M (mR M a0 3) 0 ≤ l3) → ((l2 = 0 ∨ l2 = 1) ∧ Q l2 M)) ∧ (¬ (mI M (mR M a0 3) 0 ≤ l3) → (mK M a1 = 13 ∧ mK M (mR M a1 0) = 35 ∧ ((0 : Int) ≤ l3 ∧ l3 < (mN M (mR M a1 0) : Int)) ∧ mK M (mR M (mR M a1 0) (Int.toNat l3)) = 11 ∧ mK M (mR M (mR M (mR M a1 0) (Int.toNat l3)) 0) = 10 ∧ (¬ (mI M (mR M (mR M (mR M a1 0) (Int.toNat l3)) 0) 1 = 0) → (mK M (mR M a0 16) = 30 ∧ ((0 : Int) ≤ l3 ∧ l3 < (mN M (mR M a0 16) : Int)))) ∧ ∀ v33 : Int, v33 = (if ((mI M (mR M (mR M (mR M a1 0) (Int.toNat l3)) 0) 1 = 0) ∨ (¬ (mI M (mR M a0 16) (Int.toNat l3) = (-1)))) then 1 else 0) → (¬ (v33 = 0) → (mK M (mR M a0 16) = 30 ∧ ((0 : Int) ≤ l3 ∧ l3 < (mN M (mR M a0 16) : Int)) ∧ mK M (mR M a0 1) = 30 ∧ ((0 : Int) ≤ l3 ∧ l3 < (mN M (mR M a0 1) : Int)))) ∧ ∀ v44 : Int, v44 = (if ((v33 = 0) ∨ (¬ (mI M (mR M a0 16) (Int.toNat l3) = mI M (mR M a0 1) (Int.toNat l3)))) then 0 else 1) → h_So_holds_17 G d a0 a1 (andI l2 v44) (l3 + 1) M Q))) :
    h_So_holds_17 G d a0 a1 l2 l3 M Q := by
  unfold h_So_holds_17
  obtain ⟨h9, h⟩ := h
  obtain ⟨h10, h⟩ := h
  refine wm_iload_n d_So_holds_17 rfl rfl ?_
  refine wm_aload_n d_So_holds_18 rfl rfl ?_
  refine gf_So_64 rfl d_So_holds_19 h9 ?_
  refine gf_So_107 rfl d_So_holds_22 h10 ?_
  refine wm_icmp_ge (tgt := 94) d_So_holds_25 rfl hi_l3 (hO _ _).1 (fun c22 => ?_) (fun c22 => ?_)
  · replace h := h.1 c22
    obtain ⟨h23, h⟩ := h
    refine wm_iload_n d_So_holds_94 rfl rfl ?_
    refine wm_ireturn d_So_holds_95 rfl (m_nb h23) ?_
    exact ⟨_, rfl, h⟩
  · replace h := h.2 c22
    obtain ⟨h24, h⟩ := h
    obtain ⟨h25, h⟩ := h
    obtain ⟨h26, h⟩ := h
    obtain ⟨h27, h⟩ := h
    obtain ⟨h28, h⟩ := h
    refine wm_aload_n d_So_holds_28 rfl rfl ?_
    refine gf_So_169 rfl d_So_holds_29 h24 ?_
    refine wm_iload_n d_So_holds_32 rfl rfl ?_
    refine wm_aald5 d_So_holds_33 h25 h26 ?_
    refine gf_So_173 rfl d_So_holds_34 h27 ?_
    refine gf_So_245 rfl d_So_holds_37 h28 ?_
    obtain ⟨s34, h⟩ := h
    have hJ : ∀ v33 : Int, v33 = (if ((mI M (mR M (mR M (mR M a1 0) (Int.toNat l3)) 0) 1 = 0) ∨ (¬ (mI M (mR M a0 16) (Int.toNat l3) = (-1)))) then 1 else 0) → mWm G y_So_holds (d + 1) 58 [vr a0, vr a1, vi l2, vi l3, vd] [vi v33] M (fun r9 M9 => ∃ x9, r9 = some (vi x9) ∧ Q x9 M9) := by
      intro v33 e35
      have h := h v33 e35
      have h36 : i32 v33 := by rw [e35]; (repeat' split) <;> first | exact ⟨by decide, by decide⟩ | exact ⟨by decide, by decide⟩
      have h37 : (v33 = 0 ∨ v33 = 1) := by rw [e35]; (repeat' split) <;> decide
      refine wm_istore d_So_holds_58 (by decide) (L' := [vr a0, vr a1, vi l2, vi l3, vi v33]) rfl ?_
      refine wm_iload_n d_So_holds_60 rfl rfl ?_
      refine wm_iload d_So_holds_61 rfl ?_
      obtain ⟨s45, h⟩ := h
      have hJ : ∀ v44 : Int, v44 = (if ((v33 = 0) ∨ (¬ (mI M (mR M a0 16) (Int.toNat l3) = mI M (mR M a0 1) (Int.toNat l3)))) then 0 else 1) → mWm G y_So_holds (d + 1) 86 [vr a0, vr a1, vd, vi l3, vd] [vi v44, vi l2] M (fun r9 M9 => ∃ x9, r9 = some (vi x9) ∧ Q x9 M9) := by
        intro v44 e46
        have h := h v44 e46
        have h47 : i32 v44 := by rw [e46]; (repeat' split) <;> first | exact ⟨by decide, by decide⟩ | exact ⟨by decide, by decide⟩
        have h48 : (v44 = 0 ∨ v44 = 1) := by rw [e46]; (repeat' split) <;> decide
        refine wm_iand d_So_holds_86 ?_
        refine wm_istore_n d_So_holds_87 rfl (by decide) (L' := [vr a0, vr a1, vi (andI l2 v44), vi l3, vd]) rfl ?_
        refine wm_iinc d_So_holds_88 (by decide) rfl (L' := [vr a0, vr a1, vi (andI l2 v44), vi (l3 + 1), vd]) rfl ?_
        refine wm_goto (tgt := 17) d_So_holds_91 rfl ?_
        exact h
      clear h
      have s49 := s45
      refine wm_if_eq (tgt := 85) d_So_holds_63 rfl h36 (fun c38 => ?_) (fun c38 => ?_)
      · refine wm_iconst d_So_holds_85 ?_
        refine wm_less (L' := [vr a0, vr a1, vd, vi l3, vd]) ⟨Or.inr rfl, Or.inr rfl, Or.inl rfl, Or.inr rfl, Or.inl rfl, trivial⟩ ?_
        exact hJ 0 (if_pos (Or.inl c38)).symm
      · have s49 := s49 c38
        obtain ⟨h39, h40, h41, h42⟩ := s49
        refine wm_aload_n d_So_holds_66 rfl rfl ?_
        refine gf_So_54 rfl d_So_holds_67 h9 ?_
        refine wm_iload_n d_So_holds_70 rfl rfl ?_
        refine wm_iald d_So_holds_71 h39 h40 ?_
        refine wm_aload_n d_So_holds_72 rfl rfl ?_
        refine gf_So_18 rfl d_So_holds_73 h9 ?_
        refine wm_iload_n d_So_holds_76 rfl rfl ?_
        refine wm_iald d_So_holds_77 h41 h42 ?_
        refine wm_icmp_ne (tgt := 85) d_So_holds_78 rfl (hO _ _).1 (hO _ _).1 (fun c43 => ?_) (fun c43 => ?_)
        · refine wm_iconst d_So_holds_85 ?_
          refine wm_less (L' := [vr a0, vr a1, vd, vi l3, vd]) ⟨Or.inr rfl, Or.inr rfl, Or.inl rfl, Or.inr rfl, Or.inl rfl, trivial⟩ ?_
          exact hJ 0 (if_pos (Or.inr c43)).symm
        · replace c43 := Classical.not_not.mp c43
          refine wm_iconst d_So_holds_81 ?_
          refine wm_goto (tgt := 86) d_So_holds_82 rfl ?_
          refine wm_less (L' := [vr a0, vr a1, vd, vi l3, vd]) ⟨Or.inr rfl, Or.inr rfl, Or.inl rfl, Or.inr rfl, Or.inl rfl, trivial⟩ ?_
          exact hJ 1 (if_neg (fun z50 => Or.elim z50 c38 (fun z51 => z51 c43))).symm
    clear h
    have s52 := s34
    refine wm_if_eq (tgt := 53) d_So_holds_40 rfl (hO _ _).1 (fun c29 => ?_) (fun c29 => ?_)
    · refine wm_iconst d_So_holds_53 ?_
      refine wm_goto (tgt := 58) d_So_holds_54 rfl ?_
      exact hJ 1 (if_pos (Or.inl c29)).symm
    · have s52 := s52 c29
      obtain ⟨h30, h31⟩ := s52
      refine wm_aload_n d_So_holds_43 rfl rfl ?_
      refine gf_So_54 rfl d_So_holds_44 h9 ?_
      refine wm_iload_n d_So_holds_47 rfl rfl ?_
      refine wm_iald d_So_holds_48 h30 h31 ?_
      refine wm_iconst d_So_holds_49 ?_
      refine wm_icmp_eq (tgt := 57) d_So_holds_50 rfl (hO _ _).1 ⟨by decide, by decide⟩ (fun c32 => ?_) (fun c32 => ?_)
      · refine wm_iconst d_So_holds_57 ?_
        exact hJ 0 (if_neg (fun z53 => Or.elim z53 c29 (fun z54 => z54 c32))).symm
      · refine wm_iconst d_So_holds_53 ?_
        refine wm_goto (tgt := 58) d_So_holds_54 rfl ?_
        exact hJ 1 (if_pos (Or.inr c32)).symm
theorem d_TR_init_0 : decode y_TR_init.2.1 0 = .ok (.aload_n 0, 1) := dc9_42 (by decide +kernel)
theorem d_TR_init_1 : decode y_TR_init.2.1 1 = .ok (.invokespecial 3, 3) := dc9_183 (by decide +kernel)
theorem d_TR_init_4 : decode y_TR_init.2.1 4 = .ok (.aload_n 0, 1) := dc9_42 (by decide +kernel)
theorem d_TR_init_5 : decode y_TR_init.2.1 5 = .ok (.new 9, 3) := dc9_187 (by decide +kernel)
theorem d_TR_init_8 : decode y_TR_init.2.1 8 = .ok (.dup, 1) := dc9_89 (by decide +kernel)
theorem d_TR_init_9 : decode y_TR_init.2.1 9 = .ok (.invokespecial 11, 3) := dc9_183 (by decide +kernel)
theorem d_TR_init_12 : decode y_TR_init.2.1 12 = .ok (.putfield 12, 3) := dc9_181 (by decide +kernel)
theorem d_TR_init_15 : decode y_TR_init.2.1 15 = .ok (.aload_n 0, 1) := dc9_42 (by decide +kernel)
theorem d_TR_init_16 : decode y_TR_init.2.1 16 = .ok (.new 18, 3) := dc9_187 (by decide +kernel)
theorem d_TR_init_19 : decode y_TR_init.2.1 19 = .ok (.dup, 1) := dc9_89 (by decide +kernel)
theorem d_TR_init_20 : decode y_TR_init.2.1 20 = .ok (.invokespecial 20, 3) := dc9_183 (by decide +kernel)
theorem d_TR_init_23 : decode y_TR_init.2.1 23 = .ok (.putfield 21, 3) := dc9_181 (by decide +kernel)
theorem d_TR_init_26 : decode y_TR_init.2.1 26 = .ok (.aload_n 0, 1) := dc9_42 (by decide +kernel)
theorem d_TR_init_27 : decode y_TR_init.2.1 27 = .ok (.iconst 3, 1) := dc9_6 (by decide +kernel)
theorem d_TR_init_28 : decode y_TR_init.2.1 28 = .ok (.newarray .int, 2) := by decide +kernel
theorem d_TR_init_30 : decode y_TR_init.2.1 30 = .ok (.putfield 25, 3) := dc9_181 (by decide +kernel)
theorem d_TR_init_33 : decode y_TR_init.2.1 33 = .ok (.aload_n 0, 1) := dc9_42 (by decide +kernel)
theorem d_TR_init_34 : decode y_TR_init.2.1 34 = .ok (.iconst 3, 1) := dc9_6 (by decide +kernel)
theorem d_TR_init_35 : decode y_TR_init.2.1 35 = .ok (.newarray .int, 2) := by decide +kernel
theorem d_TR_init_37 : decode y_TR_init.2.1 37 = .ok (.putfield 29, 3) := dc9_181 (by decide +kernel)
theorem d_TR_init_40 : decode y_TR_init.2.1 40 = .ok (.return_, 1) := dc9_177 (by decide +kernel)
theorem k_TR_init {G : mG} {d : Nat} {a0 : Nat} {M : mM} {Q : mM → Prop} (hO : mOk M)
    (h : 0 < a0 ∧ ∀ M2, M2 = mNew M 4 0 20 → Cv G y_RR_init d [vr (mZ M)] M2 (fun M4 => mOk M4 ∧ (mK M4 a0 = 3 ∧ ∀ M8, M8 = mUR M4 a0 0 (mZ M) → ∀ M10, M10 = mNew M8 5 0 16 → Cv G y_Ma_init d [vr (mZ M8)] M10 (fun M12 => mOk M12 ∧ (mK M12 a0 = 3 ∧ ∀ M16, M16 = mUR M12 a0 1 (mZ M8) → ∀ M18, M18 = mNew M16 30 3 3 → mK M18 a0 = 3 ∧ ∀ M21, M21 = mUR M18 a0 5 (mZ M16) → ∀ M23, M23 = mNew M21 30 3 3 → mK M23 a0 = 3 ∧ ∀ M26, M26 = mUR M23 a0 6 (mZ M21) → Q M26))))) :
    Cv G y_TR_init (d + 1) [vr a0] M Q := by
  refine wm_open (y := y_TR_init) rfl (Nat.le_of_ble_eq_true rfl) (L := [vr a0]) rfl ?_
  obtain ⟨h1, h⟩ := h
  obtain ⟨M2, e3⟩ : ∃ M2, M2 = mNew M 4 0 20 := ⟨_, rfl⟩
  replace h := h M2 e3
  refine wm_aload_n d_TR_init_0 rfl rfl ?_
  refine wm_objInit trivial k1_88 kO_inst kO_code (Nat.le_of_ble_eq_true rfl) d_TR_init_1 h1 ?_
  refine wm_aload_n d_TR_init_4 rfl rfl ?_
  have hOM2 : mOk M2 := by rw [e3]; exact mOk_New hO
  refine nf_TR_9 rfl d_TR_init_5 e3 ?_
  refine wm_dup d_TR_init_8 rfl ?_
  refine cf_TR_11 rfl d_TR_init_9 (by rw [e3]; exact if_pos rfl) (Nat.le_of_ble_eq_true rfl) (Cv.mono h (fun M4 h => ?_))
  obtain ⟨hOM4, h⟩ := h
  obtain ⟨h7, h⟩ := h
  obtain ⟨M8, e9⟩ : ∃ M8, M8 = mUR M4 a0 0 (mZ M) := ⟨_, rfl⟩
  replace h := h M8 e9
  obtain ⟨M10, e11⟩ : ∃ M10, M10 = mNew M8 5 0 16 := ⟨_, rfl⟩
  replace h := h M10 e11
  have hOM8 : mOk M8 := by rw [e9]; exact mOk_UR hOM4
  refine pf_TR_12 rfl rfl d_TR_init_12 h7 e9 ?_
  refine wm_aload_n d_TR_init_15 rfl rfl ?_
  have hOM10 : mOk M10 := by rw [e11]; exact mOk_New hOM8
  refine nf_TR_18 rfl d_TR_init_16 e11 ?_
  refine wm_dup d_TR_init_19 rfl ?_
  refine cf_TR_20 rfl d_TR_init_20 (by rw [e11]; exact if_pos rfl) (Nat.le_of_ble_eq_true rfl) (Cv.mono h (fun M12 h => ?_))
  obtain ⟨hOM12, h⟩ := h
  obtain ⟨h15, h⟩ := h
  obtain ⟨M16, e17⟩ : ∃ M16, M16 = mUR M12 a0 1 (mZ M8) := ⟨_, rfl⟩
  replace h := h M16 e17
  obtain ⟨M18, e19⟩ : ∃ M18, M18 = mNew M16 30 3 3 := ⟨_, rfl⟩
  replace h := h M18 e19
  obtain ⟨h20, h⟩ := h
  obtain ⟨M21, e22⟩ : ∃ M21, M21 = mUR M18 a0 5 (mZ M16) := ⟨_, rfl⟩
  replace h := h M21 e22
  obtain ⟨M23, e24⟩ : ∃ M23, M23 = mNew M21 30 3 3 := ⟨_, rfl⟩
  replace h := h M23 e24
  obtain ⟨h25, h⟩ := h
  obtain ⟨M26, e27⟩ : ∃ M26, M26 = mUR M23 a0 6 (mZ M21) := ⟨_, rfl⟩
  replace h := h M26 e27
  have hOM16 : mOk M16 := by rw [e17]; exact mOk_UR hOM12
  refine pf_TR_21 rfl rfl d_TR_init_23 h15 e17 ?_
  refine wm_aload_n d_TR_init_26 rfl rfl ?_
  refine wm_iconst d_TR_init_27 ?_
  have hOM18 : mOk M18 := by rw [e19]; exact mOk_New hOM16
  refine wm_newarrE 0 (atype := .int) (ty := .int) rfl rfl (fun _ => rfl) rfl rfl (by decide) k1_82 ⟨by decide, by decide⟩ d_TR_init_28 e19 ?_
  have hOM21 : mOk M21 := by rw [e22]; exact mOk_UR hOM18
  refine pf_TR_25 rfl rfl d_TR_init_30 h20 e22 ?_
  refine wm_aload_n d_TR_init_33 rfl rfl ?_
  refine wm_iconst d_TR_init_34 ?_
  have hOM23 : mOk M23 := by rw [e24]; exact mOk_New hOM21
  refine wm_newarrE 0 (atype := .int) (ty := .int) rfl rfl (fun _ => rfl) rfl rfl (by decide) k1_82 ⟨by decide, by decide⟩ d_TR_init_35 e24 ?_
  have hOM26 : mOk M26 := by rw [e27]; exact mOk_UR hOM23
  refine pf_TR_29 rfl rfl d_TR_init_37 h25 e27 ?_
  refine wm_return d_TR_init_40 rfl ?_
  exact ⟨rfl, h⟩
theorem d_TR_faultPlace_0 : decode y_TR_faultPlace.2.1 0 = .ok (.aload_n 0, 1) := dc9_42 (by decide +kernel)
theorem d_TR_faultPlace_1 : decode y_TR_faultPlace.2.1 1 = .ok (.getfield 12, 3) := dc9_180 (by decide +kernel)
theorem d_TR_faultPlace_4 : decode y_TR_faultPlace.2.1 4 = .ok (.getfield 32, 3) := dc9_180 (by decide +kernel)
theorem d_TR_faultPlace_7 : decode y_TR_faultPlace.2.1 7 = .ok (.ireturn, 1) := dc9_172 (by decide +kernel)
theorem k_TR_faultPlace {G : mG} {d : Nat} {a0 : Nat} {M : mM} {Q : Int → mM → Prop} (hO : mOk M)
    (h : mK M a0 = 3 ∧ mK M (mR M a0 0) = 4 ∧ Q (mI M (mR M a0 0) 4) M) :
    Ci G y_TR_faultPlace d [vr a0] M Q := by
  refine wm_open (y := y_TR_faultPlace) rfl (Nat.le_of_ble_eq_true rfl) (L := [vr a0]) rfl ?_
  obtain ⟨h1, h⟩ := h
  obtain ⟨h2, h⟩ := h
  refine wm_aload_n d_TR_faultPlace_0 rfl rfl ?_
  refine gf_TR_12 rfl d_TR_faultPlace_1 h1 ?_
  refine gf_TR_32 rfl d_TR_faultPlace_4 h2 ?_
  refine wm_ireturn d_TR_faultPlace_7 rfl rfl ?_
  exact ⟨_, rfl, h⟩
end
section
theorem d_TR_translate_0 : decode y_TR_translate.2.1 0 = .ok (.aload_n 0, 1) := dc9_42 (by decide +kernel)
theorem d_TR_translate_1 : decode y_TR_translate.2.1 1 = .ok (.aload_n 2, 1) := dc9_44 (by decide +kernel)
theorem d_TR_translate_2 : decode y_TR_translate.2.1 2 = .ok (.putfield 36, 3) := dc9_181 (by decide +kernel)
theorem d_TR_translate_5 : decode y_TR_translate.2.1 5 = .ok (.aload_n 0, 1) := dc9_42 (by decide +kernel)
theorem d_TR_translate_6 : decode y_TR_translate.2.1 6 = .ok (.getfield 36, 3) := dc9_180 (by decide +kernel)
theorem d_TR_translate_9 : decode y_TR_translate.2.1 9 = .ok (.aload_n 1, 1) := dc9_43 (by decide +kernel)
theorem d_TR_translate_10 : decode y_TR_translate.2.1 10 = .ok (.getfield 40, 3) := dc9_180 (by decide +kernel)
theorem d_TR_translate_13 : decode y_TR_translate.2.1 13 = .ok (.invokevirtual 45, 3) := dc9_182 (by decide +kernel)
theorem d_TR_translate_16 : decode y_TR_translate.2.1 16 = .ok (.aload_n 0, 1) := dc9_42 (by decide +kernel)
theorem d_TR_translate_17 : decode y_TR_translate.2.1 17 = .ok (.getfield 21, 3) := dc9_180 (by decide +kernel)
theorem d_TR_translate_20 : decode y_TR_translate.2.1 20 = .ok (.aload_n 0, 1) := dc9_42 (by decide +kernel)
theorem d_TR_translate_21 : decode y_TR_translate.2.1 21 = .ok (.getfield 36, 3) := dc9_180 (by decide +kernel)
theorem d_TR_translate_24 : decode y_TR_translate.2.1 24 = .ok (.putfield 51, 3) := dc9_181 (by decide +kernel)
theorem d_TR_translate_27 : decode y_TR_translate.2.1 27 = .ok (.aload_n 0, 1) := dc9_42 (by decide +kernel)
theorem d_TR_translate_28 : decode y_TR_translate.2.1 28 = .ok (.getfield 12, 3) := dc9_180 (by decide +kernel)
theorem d_TR_translate_31 : decode y_TR_translate.2.1 31 = .ok (.aload_n 1, 1) := dc9_43 (by decide +kernel)
theorem d_TR_translate_32 : decode y_TR_translate.2.1 32 = .ok (.aload_n 0, 1) := dc9_42 (by decide +kernel)
theorem d_TR_translate_33 : decode y_TR_translate.2.1 33 = .ok (.getfield 36, 3) := dc9_180 (by decide +kernel)
theorem d_TR_translate_36 : decode y_TR_translate.2.1 36 = .ok (.invokevirtual 52, 3) := dc9_182 (by decide +kernel)
theorem d_TR_translate_39 : decode y_TR_translate.2.1 39 = .ok (.iconst 0, 1) := dc9_3 (by decide +kernel)
theorem d_TR_translate_40 : decode y_TR_translate.2.1 40 = .ok (.istore_n 3, 1) := dc9_62 (by decide +kernel)
theorem d_TR_translate_41 : decode y_TR_translate.2.1 41 = .ok (.iload_n 3, 1) := dc9_29 (by decide +kernel)
theorem d_TR_translate_42 : decode y_TR_translate.2.1 42 = .ok (.aload_n 1, 1) := dc9_43 (by decide +kernel)
theorem d_TR_translate_43 : decode y_TR_translate.2.1 43 = .ok (.getfield 40, 3) := dc9_180 (by decide +kernel)
theorem d_TR_translate_46 : decode y_TR_translate.2.1 46 = .ok (.if_icmp .ge 178, 3) := dc9_162 (by decide +kernel)
theorem d_TR_translate_49 : decode y_TR_translate.2.1 49 = .ok (.aload_n 1, 1) := dc9_43 (by decide +kernel)
theorem d_TR_translate_50 : decode y_TR_translate.2.1 50 = .ok (.getfield 56, 3) := dc9_180 (by decide +kernel)
theorem d_TR_translate_53 : decode y_TR_translate.2.1 53 = .ok (.aload_n 0, 1) := dc9_42 (by decide +kernel)
theorem d_TR_translate_54 : decode y_TR_translate.2.1 54 = .ok (.getfield 12, 3) := dc9_180 (by decide +kernel)
theorem d_TR_translate_57 : decode y_TR_translate.2.1 57 = .ok (.getfield 59, 3) := dc9_180 (by decide +kernel)
theorem d_TR_translate_60 : decode y_TR_translate.2.1 60 = .ok (.iaload, 1) := dc9_46 (by decide +kernel)
theorem d_TR_translate_61 : decode y_TR_translate.2.1 61 = .ok (.ifCond .eq 163, 3) := dc9_153 (by decide +kernel)
theorem d_TR_translate_64 : decode y_TR_translate.2.1 64 = .ok (.aload_n 1, 1) := dc9_43 (by decide +kernel)
theorem d_TR_translate_65 : decode y_TR_translate.2.1 65 = .ok (.getfield 56, 3) := dc9_180 (by decide +kernel)
theorem d_TR_translate_68 : decode y_TR_translate.2.1 68 = .ok (.aload_n 0, 1) := dc9_42 (by decide +kernel)
theorem d_TR_translate_69 : decode y_TR_translate.2.1 69 = .ok (.getfield 12, 3) := dc9_180 (by decide +kernel)
theorem d_TR_translate_72 : decode y_TR_translate.2.1 72 = .ok (.getfield 59, 3) := dc9_180 (by decide +kernel)
theorem d_TR_translate_75 : decode y_TR_translate.2.1 75 = .ok (.iaload, 1) := dc9_46 (by decide +kernel)
theorem d_TR_translate_76 : decode y_TR_translate.2.1 76 = .ok (.istore 4, 2) := dc9_54 (by decide +kernel)
theorem d_TR_translate_78 : decode y_TR_translate.2.1 78 = .ok (.iload 4, 2) := dc9_21 (by decide +kernel)
theorem d_TR_translate_80 : decode y_TR_translate.2.1 80 = .ok (.iconst 5, 1) := dc9_8 (by decide +kernel)
theorem d_TR_translate_224 : decode y_TR_translate.2.1 224 = .ok (.aload_n 0, 1) := dc9_42 (by decide +kernel)
theorem d_TR_translate_225 : decode y_TR_translate.2.1 225 = .ok (.getfield 36, 3) := dc9_180 (by decide +kernel)
theorem d_TR_translate_228 : decode y_TR_translate.2.1 228 = .ok (.getfield 89, 3) := dc9_180 (by decide +kernel)
theorem d_TR_translate_231 : decode y_TR_translate.2.1 231 = .ok (.iconst (-1), 1) := dc9_2 (by decide +kernel)
theorem d_TR_translate_232 : decode y_TR_translate.2.1 232 = .ok (.if_icmp .ne 16, 3) := dc9_160 (by decide +kernel)
theorem d_TR_translate_235 : decode y_TR_translate.2.1 235 = .ok (.aload_n 0, 1) := dc9_42 (by decide +kernel)
theorem d_TR_translate_236 : decode y_TR_translate.2.1 236 = .ok (.getfield 12, 3) := dc9_180 (by decide +kernel)
theorem d_TR_translate_239 : decode y_TR_translate.2.1 239 = .ok (.bipush 10, 2) := dc9_16 (by decide +kernel)
theorem d_TR_translate_241 : decode y_TR_translate.2.1 241 = .ok (.aload_n 1, 1) := dc9_43 (by decide +kernel)
theorem d_TR_translate_242 : decode y_TR_translate.2.1 242 = .ok (.getfield 92, 3) := dc9_180 (by decide +kernel)
theorem d_TR_translate_245 : decode y_TR_translate.2.1 245 = .ok (.invokevirtual 95, 3) := dc9_182 (by decide +kernel)
theorem d_TR_translate_81 : decode y_TR_translate.2.1 81 = .ok (.if_icmp .ne 10, 3) := dc9_160 (by decide +kernel)
theorem d_TR_translate_84 : decode y_TR_translate.2.1 84 = .ok (.aload_n 0, 1) := dc9_42 (by decide +kernel)
theorem d_TR_translate_91 : decode y_TR_translate.2.1 91 = .ok (.iload 4, 2) := dc9_21 (by decide +kernel)
theorem d_TR_translate_93 : decode y_TR_translate.2.1 93 = .ok (.bipush 12, 2) := dc9_16 (by decide +kernel)
theorem d_TR_translate_95 : decode y_TR_translate.2.1 95 = .ok (.if_icmp .ne 10, 3) := dc9_160 (by decide +kernel)
theorem d_TR_translate_98 : decode y_TR_translate.2.1 98 = .ok (.aload_n 0, 1) := dc9_42 (by decide +kernel)
theorem d_TR_translate_105 : decode y_TR_translate.2.1 105 = .ok (.iload 4, 2) := dc9_21 (by decide +kernel)
theorem d_TR_translate_107 : decode y_TR_translate.2.1 107 = .ok (.bipush 8, 2) := dc9_16 (by decide +kernel)
theorem d_TR_translate_109 : decode y_TR_translate.2.1 109 = .ok (.if_icmp .eq 10, 3) := dc9_159 (by decide +kernel)
theorem d_TR_translate_112 : decode y_TR_translate.2.1 112 = .ok (.iload 4, 2) := dc9_21 (by decide +kernel)
theorem d_TR_translate_114 : decode y_TR_translate.2.1 114 = .ok (.bipush 9, 2) := dc9_16 (by decide +kernel)
theorem d_TR_translate_116 : decode y_TR_translate.2.1 116 = .ok (.if_icmp .ne 12, 3) := dc9_160 (by decide +kernel)
theorem d_TR_translate_128 : decode y_TR_translate.2.1 128 = .ok (.iload 4, 2) := dc9_21 (by decide +kernel)
theorem d_TR_translate_130 : decode y_TR_translate.2.1 130 = .ok (.iconst 4, 1) := dc9_7 (by decide +kernel)
theorem d_TR_translate_131 : decode y_TR_translate.2.1 131 = .ok (.if_icmp .eq 10, 3) := dc9_159 (by decide +kernel)
theorem d_TR_translate_134 : decode y_TR_translate.2.1 134 = .ok (.iload 4, 2) := dc9_21 (by decide +kernel)
theorem d_TR_translate_136 : decode y_TR_translate.2.1 136 = .ok (.bipush 7, 2) := dc9_16 (by decide +kernel)
theorem d_TR_translate_138 : decode y_TR_translate.2.1 138 = .ok (.if_icmp .ne 16, 3) := dc9_160 (by decide +kernel)
theorem d_TR_translate_85 : decode y_TR_translate.2.1 85 = .ok (.invokevirtual 62, 3) := dc9_182 (by decide +kernel)
theorem d_TR_translate_88 : decode y_TR_translate.2.1 88 = .ok (.goto 67, 3) := dc9_167 (by decide +kernel)
theorem d_TR_translate_99 : decode y_TR_translate.2.1 99 = .ok (.invokevirtual 66, 3) := dc9_182 (by decide +kernel)
theorem d_TR_translate_102 : decode y_TR_translate.2.1 102 = .ok (.goto 53, 3) := dc9_167 (by decide +kernel)
theorem d_TR_translate_119 : decode y_TR_translate.2.1 119 = .ok (.aload_n 0, 1) := dc9_42 (by decide +kernel)
theorem d_TR_translate_120 : decode y_TR_translate.2.1 120 = .ok (.iload 4, 2) := dc9_21 (by decide +kernel)
theorem d_TR_translate_122 : decode y_TR_translate.2.1 122 = .ok (.invokevirtual 69, 3) := dc9_182 (by decide +kernel)
theorem d_TR_translate_125 : decode y_TR_translate.2.1 125 = .ok (.goto 30, 3) := dc9_167 (by decide +kernel)
theorem d_TR_translate_141 : decode y_TR_translate.2.1 141 = .ok (.aload_n 0, 1) := dc9_42 (by decide +kernel)
theorem d_TR_translate_142 : decode y_TR_translate.2.1 142 = .ok (.iload 4, 2) := dc9_21 (by decide +kernel)
theorem d_TR_translate_144 : decode y_TR_translate.2.1 144 = .ok (.invokevirtual 73, 3) := dc9_182 (by decide +kernel)
theorem d_TR_translate_147 : decode y_TR_translate.2.1 147 = .ok (.ifCond .eq 7, 3) := dc9_153 (by decide +kernel)
theorem d_TR_translate_150 : decode y_TR_translate.2.1 150 = .ok (.iconst 1, 1) := dc9_4 (by decide +kernel)
theorem d_TR_translate_151 : decode y_TR_translate.2.1 151 = .ok (.goto 4, 3) := dc9_167 (by decide +kernel)
theorem d_TR_translate_154 : decode y_TR_translate.2.1 154 = .ok (.iconst 0, 1) := dc9_3 (by decide +kernel)
theorem d_TR_translate_155 : decode y_TR_translate.2.1 155 = .ok (.istore 5, 2) := dc9_54 (by decide +kernel)
theorem d_TR_translate_157 : decode y_TR_translate.2.1 157 = .ok (.iload 5, 2) := dc9_21 (by decide +kernel)
theorem d_TR_translate_159 : decode y_TR_translate.2.1 159 = .ok (.ifCond .ne 27, 3) := dc9_154 (by decide +kernel)
theorem d_TR_translate_162 : decode y_TR_translate.2.1 162 = .ok (.aload_n 0, 1) := dc9_42 (by decide +kernel)
theorem d_TR_translate_163 : decode y_TR_translate.2.1 163 = .ok (.getfield 12, 3) := dc9_180 (by decide +kernel)
theorem d_TR_translate_166 : decode y_TR_translate.2.1 166 = .ok (.iconst 1, 1) := dc9_4 (by decide +kernel)
theorem d_TR_translate_167 : decode y_TR_translate.2.1 167 = .ok (.putfield 76, 3) := dc9_181 (by decide +kernel)
theorem d_TR_translate_170 : decode y_TR_translate.2.1 170 = .ok (.aload_n 0, 1) := dc9_42 (by decide +kernel)
theorem d_TR_translate_171 : decode y_TR_translate.2.1 171 = .ok (.getfield 12, 3) := dc9_180 (by decide +kernel)
theorem d_TR_translate_174 : decode y_TR_translate.2.1 174 = .ok (.aload_n 0, 1) := dc9_42 (by decide +kernel)
theorem d_TR_translate_175 : decode y_TR_translate.2.1 175 = .ok (.getfield 12, 3) := dc9_180 (by decide +kernel)
theorem d_TR_translate_186 : decode y_TR_translate.2.1 186 = .ok (.iload 4, 2) := dc9_21 (by decide +kernel)
theorem d_TR_translate_188 : decode y_TR_translate.2.1 188 = .ok (.iconst 5, 1) := dc9_8 (by decide +kernel)
theorem d_TR_translate_189 : decode y_TR_translate.2.1 189 = .ok (.if_icmp .ne 10, 3) := dc9_160 (by decide +kernel)
theorem d_TR_translate_192 : decode y_TR_translate.2.1 192 = .ok (.aload_n 0, 1) := dc9_42 (by decide +kernel)
theorem d_TR_translate_199 : decode y_TR_translate.2.1 199 = .ok (.iload 4, 2) := dc9_21 (by decide +kernel)
theorem d_TR_translate_201 : decode y_TR_translate.2.1 201 = .ok (.iconst 4, 1) := dc9_7 (by decide +kernel)
theorem d_TR_translate_202 : decode y_TR_translate.2.1 202 = .ok (.if_icmp .eq 10, 3) := dc9_159 (by decide +kernel)
theorem d_TR_translate_205 : decode y_TR_translate.2.1 205 = .ok (.iload 4, 2) := dc9_21 (by decide +kernel)
theorem d_TR_translate_207 : decode y_TR_translate.2.1 207 = .ok (.bipush 7, 2) := dc9_16 (by decide +kernel)
theorem d_TR_translate_209 : decode y_TR_translate.2.1 209 = .ok (.if_icmp .ne 9, 3) := dc9_160 (by decide +kernel)
theorem d_TR_translate_178 : decode y_TR_translate.2.1 178 = .ok (.invokevirtual 79, 3) := dc9_182 (by decide +kernel)
theorem d_TR_translate_181 : decode y_TR_translate.2.1 181 = .ok (.putfield 32, 3) := dc9_181 (by decide +kernel)
theorem d_TR_translate_184 : decode y_TR_translate.2.1 184 = .ok (.iconst 1, 1) := dc9_4 (by decide +kernel)
theorem d_TR_translate_185 : decode y_TR_translate.2.1 185 = .ok (.ireturn, 1) := dc9_172 (by decide +kernel)
theorem d_TR_translate_193 : decode y_TR_translate.2.1 193 = .ok (.invokevirtual 83, 3) := dc9_182 (by decide +kernel)
theorem d_TR_translate_196 : decode y_TR_translate.2.1 196 = .ok (.goto 22, 3) := dc9_167 (by decide +kernel)
theorem d_TR_translate_212 : decode y_TR_translate.2.1 212 = .ok (.aload_n 0, 1) := dc9_42 (by decide +kernel)
theorem d_TR_translate_213 : decode y_TR_translate.2.1 213 = .ok (.iload 4, 2) := dc9_21 (by decide +kernel)
theorem d_TR_translate_215 : decode y_TR_translate.2.1 215 = .ok (.invokevirtual 86, 3) := dc9_182 (by decide +kernel)
theorem d_TR_translate_218 : decode y_TR_translate.2.1 218 = .ok (.iinc 3 1, 3) := by decide +kernel
theorem d_TR_translate_221 : decode y_TR_translate.2.1 221 = .ok (.goto (-180), 3) := dc9_167 (by decide +kernel)
theorem d_TR_translate_248 : decode y_TR_translate.2.1 248 = .ok (.aload_n 0, 1) := dc9_42 (by decide +kernel)
theorem d_TR_translate_249 : decode y_TR_translate.2.1 249 = .ok (.getfield 12, 3) := dc9_180 (by decide +kernel)
theorem d_TR_translate_252 : decode y_TR_translate.2.1 252 = .ok (.getfield 76, 3) := dc9_180 (by decide +kernel)
theorem d_TR_translate_255 : decode y_TR_translate.2.1 255 = .ok (.ireturn, 1) := dc9_172 (by decide +kernel)
def h_TR_translate_41 (G : mG) (d : Nat) (a0 : Nat) (a1 : Nat) (l3 : Int) (M : mM) (Q : Int → mM → Prop) : Prop := mWm G y_TR_translate (d + 1) 41 [vr a0, vr a1, vd, vi l3, vd, vd] [] M (fun r9 M9 => ∃ x9, r9 = some (vi x9) ∧ Q x9 M9)
def h_TR_translate_155 (G : mG) (d : Nat) (a0 : Nat) (a1 : Nat) (l3 : Int) (l4 : Int) (k0 : Int) (M : mM) (Q : Int → mM → Prop) : Prop := mWm G y_TR_translate (d + 1) 155 [vr a0, vr a1, vd, vi l3, vi l4, vd] [vi k0] M (fun r9 M9 => ∃ x9, r9 = some (vi x9) ∧ Q x9 M9)
def h_TR_translate_218 (G : mG) (d : Nat) (a0 : Nat) (a1 : Nat) (l3 : Int) (M : mM) (Q : Int → mM → Prop) : Prop := mWm G y_TR_translate (d + 1) 218 [vr a0, vr a1, vd, vi l3, vd, vd] [] M (fun r9 M9 => ∃ x9, r9 = some (vi x9) ∧ Q x9 M9)
def h_TR_translate_248 (G : mG) (d : Nat) (a0 : Nat) (M : mM) (Q : Int → mM → Prop) : Prop := mWm G y_TR_translate (d + 1) 248 [vr a0, vd, vd, vd, vd, vd] [] M (fun r9 M9 => ∃ x9, r9 = some (vi x9) ∧ Q x9 M9)
theorem k_TR_translate {G : mG} {d : Nat} {a0 : Nat} {a1 : Nat} {a2 : Nat} {M : mM} {Q : Int → mM → Prop} (hO : mOk M)
    (h : mK M a0 = 3 ∧ ∀ M2, M2 = mUR M a0 2 a2 → mK M2 a1 = 2 ∧ mK M2 (mR M2 a0 2) = 6 ∧ Cv G y_Pr_clear d [vr (mR M2 a0 2), vi (mI M2 a1 2)] M2 (fun M6 => mOk M6 ∧ (mK M6 a0 = 3 ∧ mK M6 (mR M6 a0 1) = 5 ∧ ∀ M11, M11 = mUR M6 (mR M6 a0 1) 0 (mR M6 a0 2) → mK M11 (mR M11 a0 0) = 4 ∧ Cv G y_RR_begin d [vr (mR M11 a0 0), vr a1, vr (mR M11 a0 2)] M11 (fun M14 => mOk M14 ∧ (h_TR_translate_41 G d a0 a1 0 M14 Q))))) :
    Ci G y_TR_translate (d + 1) [vr a0, vr a1, vr a2] M Q := by
  refine wm_open (y := y_TR_translate) rfl (Nat.le_of_ble_eq_true rfl) (L := [vr a0, vr a1, vr a2, vd, vd, vd]) rfl ?_
  obtain ⟨h1, h⟩ := h
  obtain ⟨M2, e3⟩ : ∃ M2, M2 = mUR M a0 2 a2 := ⟨_, rfl⟩
  replace h := h M2 e3
  obtain ⟨h4, h⟩ := h
  obtain ⟨h5, h⟩ := h
  refine wm_aload_n d_TR_translate_0 rfl rfl ?_
  refine wm_aload_n d_TR_translate_1 rfl rfl ?_
  have hOM2 : mOk M2 := by rw [e3]; exact mOk_UR hO
  refine pf_TR_36 rfl d_TR_translate_2 h1 e3 ?_
  refine wm_aload_n d_TR_translate_5 rfl rfl ?_
  refine gf_TR_36 rfl d_TR_translate_6 (by rw [e3]; exact h1) ?_
  refine wm_aload_n d_TR_translate_9 rfl rfl ?_
  refine gf_TR_40 rfl d_TR_translate_10 h4 ?_
  refine cf_TR_45 rfl d_TR_translate_13 h5 (Nat.le_of_ble_eq_true rfl) (Cv.mono h (fun M6 h => ?_))
  obtain ⟨hOM6, h⟩ := h
  obtain ⟨h9, h⟩ := h
  obtain ⟨h10, h⟩ := h
  obtain ⟨M11, e12⟩ : ∃ M11, M11 = mUR M6 (mR M6 a0 1) 0 (mR M6 a0 2) := ⟨_, rfl⟩
  replace h := h M11 e12
  obtain ⟨h13, h⟩ := h
  refine wm_aload_n d_TR_translate_16 rfl rfl ?_
  refine gf_TR_21 rfl d_TR_translate_17 h9 ?_
  refine wm_aload_n d_TR_translate_20 rfl rfl ?_
  refine gf_TR_36 rfl d_TR_translate_21 h9 ?_
  have hOM11 : mOk M11 := by rw [e12]; exact mOk_UR hOM6
  refine pf_TR_51 rfl d_TR_translate_24 h10 e12 ?_
  refine wm_aload_n d_TR_translate_27 rfl rfl ?_
  refine gf_TR_12 rfl d_TR_translate_28 (by rw [e12]; exact h9) ?_
  refine wm_aload_n d_TR_translate_31 rfl rfl ?_
  refine wm_aload_n d_TR_translate_32 rfl rfl ?_
  refine gf_TR_36 rfl d_TR_translate_33 (by rw [e12]; exact h9) ?_
  refine cf_TR_52 rfl d_TR_translate_36 h13 (Nat.le_of_ble_eq_true rfl) (Cv.mono h (fun M14 h => ?_))
  obtain ⟨hOM14, h⟩ := h
  refine wm_iconst d_TR_translate_39 ?_
  refine wm_istore_n d_TR_translate_40 rfl (by decide) (L' := [vr a0, vr a1, vr a2, vi 0, vd, vd]) rfl ?_
  refine wm_less (L' := [vr a0, vr a1, vd, vi 0, vd, vd]) ⟨Or.inr rfl, Or.inr rfl, Or.inl rfl, Or.inr rfl, Or.inl rfl, Or.inl rfl, trivial⟩ ?_
  exact h
theorem k_TR_translate_41 {G : mG} {d : Nat} {a0 : Nat} {a1 : Nat} {l3 : Int} {M : mM} {Q : Int → mM → Prop} (hO : mOk M) (hi_l3 : i32 l3)
    (h : mK M a1 = 2 ∧ (¬ (mI M a1 2 ≤ l3) → (mK M a0 = 3 ∧ mK M (mR M a0 0) = 4 ∧ mK M (mR M a1 3) = 30 ∧ ((0 : Int) ≤ mI M (mR M a0 0) 2 ∧ mI M (mR M a0 0) 2 < (mN M (mR M a1 3) : Int)))) ∧ (((mI M a1 2 ≤ l3) ∨ (mI M (mR M a1 3) (Int.toNat (mI M (mR M a0 0) 2)) = 0)) → (mK M a0 = 3 ∧ mK M (mR M a0 2) = 6 ∧ ((mI M (mR M a0 2) 11 = (-1)) → (mK M (mR M a0 0) = 4 ∧ Cv G y_RR_note d [vr (mR M a0 0), vi 10, vi (mI M a1 1)] M (fun M32 => mOk M32 ∧ (h_TR_translate_248 G d a0 M32 Q)))) ∧ (¬ (mI M (mR M a0 2) 11 = (-1)) → (h_TR_translate_248 G d a0 M Q)))) ∧ (¬ ((mI M a1 2 ≤ l3) ∨ (mI M (mR M a1 3) (Int.toNat (mI M (mR M a0 0) 2)) = 0)) → (mK M a0 = 3 ∧ mK M (mR M a0 0) = 4 ∧ mK M (mR M a1 3) = 30 ∧ ((0 : Int) ≤ mI M (mR M a0 0) 2 ∧ mI M (mR M a0 0) 2 < (mN M (mR M a1 3) : Int)) ∧ ((mI M (mR M a1 3) (Int.toNat (mI M (mR M a0 0) 2)) = 5) → (Ci G y_TR_readVar d [vr a0] M (fun x48 M47 => i32 x48 ∧ mOk M47 ∧ (h_TR_translate_155 G d a0 a1 l3 (mI M (mR M a1 3) (Int.toNat (mI M (mR M a0 0) 2))) x48 M47 Q)))) ∧ (¬ (mI M (mR M a1 3) (Int.toNat (mI M (mR M a0 0) 2)) = 5) → (((mI M (mR M a1 3) (Int.toNat (mI M (mR M a0 0) 2)) = 12) → (Ci G y_TR_readTarget d [vr a0] M (fun x57 M56 => i32 x57 ∧ mOk M56 ∧ (h_TR_translate_155 G d a0 a1 l3 (mI M (mR M a1 3) (Int.toNat (mI M (mR M a0 0) 2))) x57 M56 Q)))) ∧ (¬ (mI M (mR M a1 3) (Int.toNat (mI M (mR M a0 0) 2)) = 12) → ((((mI M (mR M a1 3) (Int.toNat (mI M (mR M a0 0) 2)) = 8) ∨ (mI M (mR M a1 3) (Int.toNat (mI M (mR M a0 0) 2)) = 9)) → (Ci G y_TR_readCommand d [vr a0, vi (mI M (mR M a1 3) (Int.toNat (mI M (mR M a0 0) 2)))] M (fun x66 M65 => i32 x66 ∧ mOk M65 ∧ (h_TR_translate_155 G d a0 a1 l3 (mI M (mR M a1 3) (Int.toNat (mI M (mR M a0 0) 2))) x66 M65 Q)))) ∧ (¬ ((mI M (mR M a1 3) (Int.toNat (mI M (mR M a0 0) 2)) = 8) ∨ (mI M (mR M a1 3) (Int.toNat (mI M (mR M a0 0) 2)) = 9)) → ((((mI M (mR M a1 3) (Int.toNat (mI M (mR M a0 0) 2)) = 4) ∨ (mI M (mR M a1 3) (Int.toNat (mI M (mR M a0 0) 2)) = 7)) → (Ci G y_TR_readNamed d [vr a0, vi (mI M (mR M a1 3) (Int.toNat (mI M (mR M a0 0) 2)))] M (fun x74 M73 => i32 x74 ∧ mOk M73 ∧ (((x74 = 0) → (h_TR_translate_155 G d a0 a1 l3 (mI M (mR M a1 3) (Int.toNat (mI M (mR M a0 0) 2))) 0 M73 Q)) ∧ (¬ (x74 = 0) → (h_TR_translate_155 G d a0 a1 l3 (mI M (mR M a1 3) (Int.toNat (mI M (mR M a0 0) 2))) 1 M73 Q)))))) ∧ (¬ ((mI M (mR M a1 3) (Int.toNat (mI M (mR M a0 0) 2)) = 4) ∨ (mI M (mR M a1 3) (Int.toNat (mI M (mR M a0 0) 2)) = 7)) → (h_TR_translate_155 G d a0 a1 l3 (mI M (mR M a1 3) (Int.toNat (mI M (mR M a0 0) 2))) 0 M Q))))))))))) :
    h_TR_translate_41 G d a0 a1 l3 M Q := by
  unfold h_TR_translate_41
  obtain ⟨h17, h⟩ := h
  refine wm_iload_n d_TR_translate_41 rfl rfl ?_
  refine wm_aload_n d_TR_translate_42 rfl rfl ?_
  refine gf_TR_40 rfl d_TR_translate_43 h17 ?_
  obtain ⟨s25, h⟩ := h
  have hE0 : ((mI M a1 2 ≤ l3) ∨ (mI M (mR M a1 3) (Int.toNat (mI M (mR M a0 0) 2)) = 0)) → mWm G y_TR_translate (d + 1) 224 [vr a0, vr a1, vd, vi l3, vd, vd] [] M (fun r9 M9 => ∃ x9, r9 = some (vi x9) ∧ Q x9 M9) := by
    intro q26
    have h := h.1 q26
    obtain ⟨h27, h⟩ := h
    obtain ⟨h28, h⟩ := h
    refine wm_aload_n d_TR_translate_224 rfl rfl ?_
    refine gf_TR_36 rfl d_TR_translate_225 h27 ?_
    refine gf_TR_89 rfl d_TR_translate_228 h28 ?_
    refine wm_iconst d_TR_translate_231 ?_
    refine wm_icmp_ne (tgt := 248) d_TR_translate_232 rfl (hO _ _).1 ⟨by decide, by decide⟩ (fun c30 => ?_) (fun c30 => ?_)
    · replace h := h.2 c30
      refine wm_less (L' := [vr a0, vd, vd, vd, vd, vd]) ⟨Or.inr rfl, Or.inl rfl, Or.inl rfl, Or.inl rfl, Or.inl rfl, Or.inl rfl, trivial⟩ ?_
      exact h
    · replace c30 := Classical.not_not.mp c30
      replace h := h.1 c30
      obtain ⟨h31, h⟩ := h
      refine wm_aload_n d_TR_translate_235 rfl rfl ?_
      refine gf_TR_12 rfl d_TR_translate_236 h27 ?_
      refine wm_bipush d_TR_translate_239 (by decide) ?_
      refine wm_aload_n d_TR_translate_241 rfl rfl ?_
      refine gf_TR_92 rfl d_TR_translate_242 h17 ?_
      refine cf_TR_95 rfl d_TR_translate_245 h31 (Nat.le_of_ble_eq_true rfl) (Cv.mono h (fun M32 h => ?_))
      obtain ⟨hOM32, h⟩ := h
      refine wm_less (L' := [vr a0, vd, vd, vd, vd, vd]) ⟨Or.inr rfl, Or.inl rfl, Or.inl rfl, Or.inl rfl, Or.inl rfl, Or.inl rfl, trivial⟩ ?_
      exact h
  have hE1 : ¬ ((mI M a1 2 ≤ l3) ∨ (mI M (mR M a1 3) (Int.toNat (mI M (mR M a0 0) 2)) = 0)) → mWm G y_TR_translate (d + 1) 64 [vr a0, vr a1, vd, vi l3, vd, vd] [] M (fun r9 M9 => ∃ x9, r9 = some (vi x9) ∧ Q x9 M9) := by
    intro q35
    have h := h.2 q35
    obtain ⟨h36, h⟩ := h
    obtain ⟨h37, h⟩ := h
    obtain ⟨h38, h⟩ := h
    obtain ⟨h39, h⟩ := h
    refine wm_aload_n d_TR_translate_64 rfl rfl ?_
    refine gf_TR_56 rfl d_TR_translate_65 h17 ?_
    refine wm_aload_n d_TR_translate_68 rfl rfl ?_
    refine gf_TR_12 rfl d_TR_translate_69 h36 ?_
    refine gf_TR_59 rfl d_TR_translate_72 h37 ?_
    refine wm_iald d_TR_translate_75 h38 h39 ?_
    refine wm_istore d_TR_translate_76 (by decide) (L' := [vr a0, vr a1, vd, vi l3, vi (mI M (mR M a1 3) (Int.toNat (mI M (mR M a0 0) 2))), vd]) rfl ?_
    refine wm_iload d_TR_translate_78 rfl ?_
    refine wm_iconst d_TR_translate_80 ?_
    refine wm_icmp_ne (tgt := 91) d_TR_translate_81 rfl (hO _ _).1 ⟨by decide, by decide⟩ (fun c46 => ?_) (fun c46 => ?_)
    · replace h := h.2 c46
      refine wm_iload d_TR_translate_91 rfl ?_
      refine wm_bipush d_TR_translate_93 (by decide) ?_
      refine wm_icmp_ne (tgt := 105) d_TR_translate_95 rfl (hO _ _).1 ⟨by decide, by decide⟩ (fun c55 => ?_) (fun c55 => ?_)
      · replace h := h.2 c55
        refine wm_iload d_TR_translate_105 rfl ?_
        refine wm_bipush d_TR_translate_107 (by decide) ?_
        have hE0 : ((mI M (mR M a1 3) (Int.toNat (mI M (mR M a0 0) 2)) = 8) ∨ (mI M (mR M a1 3) (Int.toNat (mI M (mR M a0 0) 2)) = 9)) → mWm G y_TR_translate (d + 1) 119 [vr a0, vr a1, vd, vi l3, vi (mI M (mR M a1 3) (Int.toNat (mI M (mR M a0 0) 2))), vd] [] M (fun r9 M9 => ∃ x9, r9 = some (vi x9) ∧ Q x9 M9) := by
          intro q64
          have h := h.1 q64
          refine wm_aload_n d_TR_translate_119 rfl rfl ?_
          refine wm_iload d_TR_translate_120 rfl ?_
          refine cf_TR_69 rfl d_TR_translate_122 h36 (Nat.le_of_ble_eq_true rfl) (Ci.mono h (fun x66 M65 h => ?_))
          obtain ⟨h67, hOM65, h⟩ := h
          refine wm_goto (tgt := 155) d_TR_translate_125 rfl ?_
          exact h
        have hE1 : ¬ ((mI M (mR M a1 3) (Int.toNat (mI M (mR M a0 0) 2)) = 8) ∨ (mI M (mR M a1 3) (Int.toNat (mI M (mR M a0 0) 2)) = 9)) → mWm G y_TR_translate (d + 1) 128 [vr a0, vr a1, vd, vi l3, vi (mI M (mR M a1 3) (Int.toNat (mI M (mR M a0 0) 2))), vd] [] M (fun r9 M9 => ∃ x9, r9 = some (vi x9) ∧ Q x9 M9) := by
          intro q68
          have h := h.2 q68
          refine wm_iload d_TR_translate_128 rfl ?_
          refine wm_iconst d_TR_translate_130 ?_
          have hE0 : ((mI M (mR M a1 3) (Int.toNat (mI M (mR M a0 0) 2)) = 4) ∨ (mI M (mR M a1 3) (Int.toNat (mI M (mR M a0 0) 2)) = 7)) → mWm G y_TR_translate (d + 1) 141 [vr a0, vr a1, vd, vi l3, vi (mI M (mR M a1 3) (Int.toNat (mI M (mR M a0 0) 2))), vd] [] M (fun r9 M9 => ∃ x9, r9 = some (vi x9) ∧ Q x9 M9) := by
            intro q72
            have h := h.1 q72
            refine wm_aload_n d_TR_translate_141 rfl rfl ?_
            refine wm_iload d_TR_translate_142 rfl ?_
            refine cf_TR_73 rfl d_TR_translate_144 h36 (Nat.le_of_ble_eq_true rfl) (Ci.mono h (fun x74 M73 h => ?_))
            obtain ⟨h75, hOM73, h⟩ := h
            refine wm_if_eq (tgt := 154) d_TR_translate_147 rfl h75 (fun c77 => ?_) (fun c77 => ?_)
            · replace h := h.1 c77
              refine wm_iconst d_TR_translate_154 ?_
              exact h
            · replace h := h.2 c77
              refine wm_iconst d_TR_translate_150 ?_
              refine wm_goto (tgt := 155) d_TR_translate_151 rfl ?_
              exact h
          have hE1 : ¬ ((mI M (mR M a1 3) (Int.toNat (mI M (mR M a0 0) 2)) = 4) ∨ (mI M (mR M a1 3) (Int.toNat (mI M (mR M a0 0) 2)) = 7)) → mWm G y_TR_translate (d + 1) 154 [vr a0, vr a1, vd, vi l3, vi (mI M (mR M a1 3) (Int.toNat (mI M (mR M a0 0) 2))), vd] [] M (fun r9 M9 => ∃ x9, r9 = some (vi x9) ∧ Q x9 M9) := by
            intro q78
            have h := h.2 q78
            refine wm_iconst d_TR_translate_154 ?_
            exact h
          clear h
          refine wm_icmp_eq (tgt := 141) d_TR_translate_131 rfl (hO _ _).1 ⟨by decide, by decide⟩ (fun c70 => ?_) (fun c70 => ?_)
          · exact hE0 (Or.inl c70)
          · refine wm_iload d_TR_translate_134 rfl ?_
            refine wm_bipush d_TR_translate_136 (by decide) ?_
            refine wm_icmp_ne (tgt := 154) d_TR_translate_138 rfl (hO _ _).1 ⟨by decide, by decide⟩ (fun c69 => ?_) (fun c69 => ?_)
            · exact hE1 (fun z79 => Or.elim z79 c70 c69)
            · replace c69 := Classical.not_not.mp c69
              exact hE0 (Or.inr c69)
        clear h
        refine wm_icmp_eq (tgt := 119) d_TR_translate_109 rfl (hO _ _).1 ⟨by decide, by decide⟩ (fun c62 => ?_) (fun c62 => ?_)
        · exact hE0 (Or.inl c62)
        · refine wm_iload d_TR_translate_112 rfl ?_
          refine wm_bipush d_TR_translate_114 (by decide) ?_
          refine wm_icmp_ne (tgt := 128) d_TR_translate_116 rfl (hO _ _).1 ⟨by decide, by decide⟩ (fun c61 => ?_) (fun c61 => ?_)
          · exact hE1 (fun z81 => Or.elim z81 c62 c61)
          · replace c61 := Classical.not_not.mp c61
            exact hE0 (Or.inr c61)
      · replace c55 := Classical.not_not.mp c55
        replace h := h.1 c55
        refine wm_aload_n d_TR_translate_98 rfl rfl ?_
        refine cf_TR_66 rfl d_TR_translate_99 h36 (Nat.le_of_ble_eq_true rfl) (Ci.mono h (fun x57 M56 h => ?_))
        obtain ⟨h58, hOM56, h⟩ := h
        refine wm_goto (tgt := 155) d_TR_translate_102 rfl ?_
        exact h
    · replace c46 := Classical.not_not.mp c46
      replace h := h.1 c46
      refine wm_aload_n d_TR_translate_84 rfl rfl ?_
      refine cf_TR_62 rfl d_TR_translate_85 h36 (Nat.le_of_ble_eq_true rfl) (Ci.mono h (fun x48 M47 h => ?_))
      obtain ⟨h49, hOM47, h⟩ := h
      refine wm_goto (tgt := 155) d_TR_translate_88 rfl ?_
      exact h
  clear h
  have s83 := s25
  refine wm_icmp_ge (tgt := 224) d_TR_translate_46 rfl hi_l3 (hO _ _).1 (fun c24 => ?_) (fun c24 => ?_)
  · exact hE0 (Or.inl c24)
  · have s83 := s83 c24
    obtain ⟨h18, h19, h20, h21⟩ := s83
    refine wm_aload_n d_TR_translate_49 rfl rfl ?_
    refine gf_TR_56 rfl d_TR_translate_50 h17 ?_
    refine wm_aload_n d_TR_translate_53 rfl rfl ?_
    refine gf_TR_12 rfl d_TR_translate_54 h18 ?_
    refine gf_TR_59 rfl d_TR_translate_57 h19 ?_
    refine wm_iald d_TR_translate_60 h20 h21 ?_
    refine wm_if_eq (tgt := 224) d_TR_translate_61 rfl (hO _ _).1 (fun c23 => ?_) (fun c23 => ?_)
    · exact hE0 (Or.inr c23)
    · exact hE1 (fun z84 => Or.elim z84 c24 c23)
theorem k_TR_translate_155 {G : mG} {d : Nat} {a0 : Nat} {a1 : Nat} {l3 : Int} {l4 : Int} {k0 : Int} {M : mM} {Q : Int → mM → Prop} (hO : mOk M) (hi_l3 : i32 l3) (hi_l4 : i32 l4) (hi_k0 : i32 k0)
    (h : ((k0 = 0) → (mK M a0 = 3 ∧ mK M (mR M a0 0) = 4 ∧ ∀ M93, M93 = mUI M (mR M a0 0) 3 1 → mK M93 (mR M93 a0 0) = 4 ∧ Ci G y_RR_here d [vr (mR M93 a0 0)] M93 (fun x97 M96 => i32 x97 ∧ mOk M96 ∧ (mK M96 (mR M93 a0 0) = 4 ∧ ∀ M100, M100 = mUI M96 (mR M93 a0 0) 4 x97 → Q 1 M100)))) ∧ (¬ (k0 = 0) → (((l4 = 5) → (mK M a0 = 3 ∧ Cv G y_TR_settleVar d [vr a0] M (fun M107 => mOk M107 ∧ (h_TR_translate_218 G d a0 a1 l3 M107 Q)))) ∧ (¬ (l4 = 5) → ((((l4 = 4) ∨ (l4 = 7)) → (mK M a0 = 3 ∧ Cv G y_TR_settleNamed d [vr a0, vi l4] M (fun M115 => mOk M115 ∧ (h_TR_translate_218 G d a0 a1 l3 M115 Q)))) ∧ (¬ ((l4 = 4) ∨ (l4 = 7)) → (h_TR_translate_218 G d a0 a1 l3 M Q))))))) :
    h_TR_translate_155 G d a0 a1 l3 l4 k0 M Q := by
  unfold h_TR_translate_155
  refine wm_istore d_TR_translate_155 (by decide) (L' := [vr a0, vr a1, vd, vi l3, vi l4, vi k0]) rfl ?_
  refine wm_iload d_TR_translate_157 rfl ?_
  refine wm_if_ne (tgt := 186) d_TR_translate_159 rfl hi_k0 (fun c90 => ?_) (fun c90 => ?_)
  · replace h := h.2 c90
    refine wm_iload d_TR_translate_186 rfl ?_
    refine wm_iconst d_TR_translate_188 ?_
    refine wm_icmp_ne (tgt := 199) d_TR_translate_189 rfl hi_l4 ⟨by decide, by decide⟩ (fun c105 => ?_) (fun c105 => ?_)
    · replace h := h.2 c105
      refine wm_iload d_TR_translate_199 rfl ?_
      refine wm_iconst d_TR_translate_201 ?_
      have hE0 : ((l4 = 4) ∨ (l4 = 7)) → mWm G y_TR_translate (d + 1) 212 [vr a0, vr a1, vd, vi l3, vi l4, vi k0] [] M (fun r9 M9 => ∃ x9, r9 = some (vi x9) ∧ Q x9 M9) := by
        intro q113
        have h := h.1 q113
        obtain ⟨h114, h⟩ := h
        refine wm_aload_n d_TR_translate_212 rfl rfl ?_
        refine wm_iload d_TR_translate_213 rfl ?_
        refine cf_TR_86 rfl d_TR_translate_215 h114 (Nat.le_of_ble_eq_true rfl) (Cv.mono h (fun M115 h => ?_))
        obtain ⟨hOM115, h⟩ := h
        refine wm_less (L' := [vr a0, vr a1, vd, vi l3, vd, vd]) ⟨Or.inr rfl, Or.inr rfl, Or.inl rfl, Or.inr rfl, Or.inl rfl, Or.inl rfl, trivial⟩ ?_
        exact h
      have hE1 : ¬ ((l4 = 4) ∨ (l4 = 7)) → mWm G y_TR_translate (d + 1) 218 [vr a0, vr a1, vd, vi l3, vi l4, vi k0] [] M (fun r9 M9 => ∃ x9, r9 = some (vi x9) ∧ Q x9 M9) := by
        intro q118
        have h := h.2 q118
        refine wm_less (L' := [vr a0, vr a1, vd, vi l3, vd, vd]) ⟨Or.inr rfl, Or.inr rfl, Or.inl rfl, Or.inr rfl, Or.inl rfl, Or.inl rfl, trivial⟩ ?_
        exact h
      clear h
      refine wm_icmp_eq (tgt := 212) d_TR_translate_202 rfl hi_l4 ⟨by decide, by decide⟩ (fun c111 => ?_) (fun c111 => ?_)
      · exact hE0 (Or.inl c111)
      · refine wm_iload d_TR_translate_205 rfl ?_
        refine wm_bipush d_TR_translate_207 (by decide) ?_
        refine wm_icmp_ne (tgt := 218) d_TR_translate_209 rfl hi_l4 ⟨by decide, by decide⟩ (fun c110 => ?_) (fun c110 => ?_)
        · exact hE1 (fun z119 => Or.elim z119 c111 c110)
        · replace c110 := Classical.not_not.mp c110
          exact hE0 (Or.inr c110)
    · replace c105 := Classical.not_not.mp c105
      replace h := h.1 c105
      obtain ⟨h106, h⟩ := h
      refine wm_aload_n d_TR_translate_192 rfl rfl ?_
      refine cf_TR_83 rfl d_TR_translate_193 h106 (Nat.le_of_ble_eq_true rfl) (Cv.mono h (fun M107 h => ?_))
      obtain ⟨hOM107, h⟩ := h
      refine wm_goto (tgt := 218) d_TR_translate_196 rfl ?_
      refine wm_less (L' := [vr a0, vr a1, vd, vi l3, vd, vd]) ⟨Or.inr rfl, Or.inr rfl, Or.inl rfl, Or.inr rfl, Or.inl rfl, Or.inl rfl, trivial⟩ ?_
      exact h
  · replace c90 := Classical.not_not.mp c90
    replace h := h.1 c90
    obtain ⟨h91, h⟩ := h
    obtain ⟨h92, h⟩ := h
    obtain ⟨M93, e94⟩ : ∃ M93, M93 = mUI M (mR M a0 0) 3 1 := ⟨_, rfl⟩
    replace h := h M93 e94
    obtain ⟨h95, h⟩ := h
    refine wm_aload_n d_TR_translate_162 rfl rfl ?_
    refine gf_TR_12 rfl d_TR_translate_163 h91 ?_
    refine wm_iconst d_TR_translate_166 ?_
    have hOM93 : mOk M93 := by rw [e94]; exact mOk_UI hO ⟨by decide, by decide⟩
    refine pf_TR_76 rfl d_TR_translate_167 h92 ⟨by decide, by decide⟩ e94 ?_
    refine wm_aload_n d_TR_translate_170 rfl rfl ?_
    refine gf_TR_12 rfl d_TR_translate_171 (by rw [e94]; exact h91) ?_
    refine wm_aload_n d_TR_translate_174 rfl rfl ?_
    refine gf_TR_12 rfl d_TR_translate_175 (by rw [e94]; exact h91) ?_
    refine cf_TR_79 rfl d_TR_translate_178 h95 (Nat.le_of_ble_eq_true rfl) (Ci.mono h (fun x97 M96 h => ?_))
    obtain ⟨h98, hOM96, h⟩ := h
    obtain ⟨h99, h⟩ := h
    obtain ⟨M100, e101⟩ : ∃ M100, M100 = mUI M96 (mR M93 a0 0) 4 x97 := ⟨_, rfl⟩
    replace h := h M100 e101
    have hOM100 : mOk M100 := by rw [e101]; exact mOk_UI hOM96 h98
    refine pf_TR_32 rfl d_TR_translate_181 h99 h98 e101 ?_
    refine wm_iconst d_TR_translate_184 ?_
    refine wm_ireturn d_TR_translate_185 rfl rfl ?_
    exact ⟨_, rfl, h⟩
theorem k_TR_translate_218 {G : mG} {d : Nat} {a0 : Nat} {a1 : Nat} {l3 : Int} {M : mM} {Q : Int → mM → Prop} (hO : mOk M) (hi_l3 : i32 l3)
    (h : h_TR_translate_41 G d a0 a1 (l3 + 1) M Q) :
    h_TR_translate_218 G d a0 a1 l3 M Q := by
  unfold h_TR_translate_218
  refine wm_iinc d_TR_translate_218 (by decide) rfl (L' := [vr a0, vr a1, vd, vi (l3 + 1), vd, vd]) rfl ?_
  refine wm_goto (tgt := 41) d_TR_translate_221 rfl ?_
  exact h
theorem k_TR_translate_248 {G : mG} {d : Nat} {a0 : Nat} {M : mM} {Q : Int → mM → Prop} (hO : mOk M)
    (h : mK M a0 = 3 ∧ mK M (mR M a0 0) = 4 ∧ Q (mI M (mR M a0 0) 3) M) :
    h_TR_translate_248 G d a0 M Q := by
  unfold h_TR_translate_248
  obtain ⟨h121, h⟩ := h
  obtain ⟨h122, h⟩ := h
  refine wm_aload_n d_TR_translate_248 rfl rfl ?_
  refine gf_TR_12 rfl d_TR_translate_249 h121 ?_
  refine gf_TR_76 rfl d_TR_translate_252 h122 ?_
  refine wm_ireturn d_TR_translate_255 rfl rfl ?_
  exact ⟨_, rfl, h⟩
theorem d_TR_readName_0 : decode y_TR_readName.2.1 0 = .ok (.iload_n 1, 1) := dc9_27 (by decide +kernel)
theorem d_TR_readName_1 : decode y_TR_readName.2.1 1 = .ok (.ifCond .eq 18, 3) := dc9_153 (by decide +kernel)
theorem d_TR_readName_4 : decode y_TR_readName.2.1 4 = .ok (.aload_n 0, 1) := dc9_42 (by decide +kernel)
theorem d_TR_readName_5 : decode y_TR_readName.2.1 5 = .ok (.getfield 12, 3) := dc9_180 (by decide +kernel)
theorem d_TR_readName_8 : decode y_TR_readName.2.1 8 = .ok (.iconst 5, 1) := dc9_8 (by decide +kernel)
theorem d_TR_readName_9 : decode y_TR_readName.2.1 9 = .ok (.aload_n 0, 1) := dc9_42 (by decide +kernel)
theorem d_TR_readName_10 : decode y_TR_readName.2.1 10 = .ok (.getfield 12, 3) := dc9_180 (by decide +kernel)
theorem d_TR_readName_13 : decode y_TR_readName.2.1 13 = .ok (.invokevirtual 79, 3) := dc9_182 (by decide +kernel)
theorem d_TR_readName_16 : decode y_TR_readName.2.1 16 = .ok (.invokevirtual 95, 3) := dc9_182 (by decide +kernel)
theorem d_TR_readName_19 : decode y_TR_readName.2.1 19 = .ok (.aload_n 0, 1) := dc9_42 (by decide +kernel)
theorem d_TR_readName_20 : decode y_TR_readName.2.1 20 = .ok (.getfield 12, 3) := dc9_180 (by decide +kernel)
theorem d_TR_readName_23 : decode y_TR_readName.2.1 23 = .ok (.dup, 1) := dc9_89 (by decide +kernel)
theorem d_TR_readName_24 : decode y_TR_readName.2.1 24 = .ok (.getfield 59, 3) := dc9_180 (by decide +kernel)
theorem d_TR_readName_27 : decode y_TR_readName.2.1 27 = .ok (.iconst 1, 1) := dc9_4 (by decide +kernel)
theorem d_TR_readName_28 : decode y_TR_readName.2.1 28 = .ok (.iadd, 1) := dc9_96 (by decide +kernel)
theorem d_TR_readName_29 : decode y_TR_readName.2.1 29 = .ok (.putfield 59, 3) := dc9_181 (by decide +kernel)
theorem d_TR_readName_32 : decode y_TR_readName.2.1 32 = .ok (.aload_n 0, 1) := dc9_42 (by decide +kernel)
theorem d_TR_readName_33 : decode y_TR_readName.2.1 33 = .ok (.aload_n 0, 1) := dc9_42 (by decide +kernel)
theorem d_TR_readName_34 : decode y_TR_readName.2.1 34 = .ok (.getfield 12, 3) := dc9_180 (by decide +kernel)
theorem d_TR_readName_37 : decode y_TR_readName.2.1 37 = .ok (.getfield 59, 3) := dc9_180 (by decide +kernel)
theorem d_TR_readName_40 : decode y_TR_readName.2.1 40 = .ok (.putfield 99, 3) := dc9_181 (by decide +kernel)
theorem d_TR_readName_43 : decode y_TR_readName.2.1 43 = .ok (.aload_n 0, 1) := dc9_42 (by decide +kernel)
theorem d_TR_readName_44 : decode y_TR_readName.2.1 44 = .ok (.getfield 12, 3) := dc9_180 (by decide +kernel)
theorem d_TR_readName_47 : decode y_TR_readName.2.1 47 = .ok (.iconst 2, 1) := dc9_5 (by decide +kernel)
theorem d_TR_readName_48 : decode y_TR_readName.2.1 48 = .ok (.invokevirtual 102, 3) := dc9_182 (by decide +kernel)
theorem d_TR_readName_51 : decode y_TR_readName.2.1 51 = .ok (.ifCond .ne 5, 3) := dc9_154 (by decide +kernel)
theorem d_TR_readName_54 : decode y_TR_readName.2.1 54 = .ok (.iconst 0, 1) := dc9_3 (by decide +kernel)
theorem d_TR_readName_55 : decode y_TR_readName.2.1 55 = .ok (.ireturn, 1) := dc9_172 (by decide +kernel)
theorem d_TR_readName_56 : decode y_TR_readName.2.1 56 = .ok (.aload_n 0, 1) := dc9_42 (by decide +kernel)
theorem d_TR_readName_57 : decode y_TR_readName.2.1 57 = .ok (.getfield 12, 3) := dc9_180 (by decide +kernel)
theorem d_TR_readName_60 : decode y_TR_readName.2.1 60 = .ok (.aload_n 0, 1) := dc9_42 (by decide +kernel)
theorem d_TR_readName_61 : decode y_TR_readName.2.1 61 = .ok (.getfield 99, 3) := dc9_180 (by decide +kernel)
theorem d_TR_readName_64 : decode y_TR_readName.2.1 64 = .ok (.invokevirtual 105, 3) := dc9_182 (by decide +kernel)
theorem d_TR_readName_67 : decode y_TR_readName.2.1 67 = .ok (.iconst (-1), 1) := dc9_2 (by decide +kernel)
theorem d_TR_readName_68 : decode y_TR_readName.2.1 68 = .ok (.if_icmp .eq 26, 3) := dc9_159 (by decide +kernel)
theorem d_TR_readName_71 : decode y_TR_readName.2.1 71 = .ok (.aload_n 0, 1) := dc9_42 (by decide +kernel)
theorem d_TR_readName_72 : decode y_TR_readName.2.1 72 = .ok (.getfield 12, 3) := dc9_180 (by decide +kernel)
theorem d_TR_readName_75 : decode y_TR_readName.2.1 75 = .ok (.iconst 2, 1) := dc9_5 (by decide +kernel)
theorem d_TR_readName_76 : decode y_TR_readName.2.1 76 = .ok (.aload_n 0, 1) := dc9_42 (by decide +kernel)
theorem d_TR_readName_77 : decode y_TR_readName.2.1 77 = .ok (.getfield 12, 3) := dc9_180 (by decide +kernel)
theorem d_TR_readName_80 : decode y_TR_readName.2.1 80 = .ok (.getfield 109, 3) := dc9_180 (by decide +kernel)
theorem d_TR_readName_83 : decode y_TR_readName.2.1 83 = .ok (.getfield 113, 3) := dc9_180 (by decide +kernel)
theorem d_TR_readName_86 : decode y_TR_readName.2.1 86 = .ok (.aload_n 0, 1) := dc9_42 (by decide +kernel)
theorem d_TR_readName_87 : decode y_TR_readName.2.1 87 = .ok (.getfield 99, 3) := dc9_180 (by decide +kernel)
theorem d_TR_readName_90 : decode y_TR_readName.2.1 90 = .ok (.iaload, 1) := dc9_46 (by decide +kernel)
theorem d_TR_readName_94 : decode y_TR_readName.2.1 94 = .ok (.iconst 1, 1) := dc9_4 (by decide +kernel)
theorem d_TR_readName_95 : decode y_TR_readName.2.1 95 = .ok (.ireturn, 1) := dc9_172 (by decide +kernel)
theorem d_TR_readName_91 : decode y_TR_readName.2.1 91 = .ok (.invokevirtual 95, 3) := dc9_182 (by decide +kernel)
def h_TR_readName_19 (G : mG) (d : Nat) (a0 : Nat) (M : mM) (Q : Int → mM → Prop) : Prop := mWm G y_TR_readName (d + 1) 19 [vr a0, vd] [] M (fun r9 M9 => ∃ x9, r9 = some (vi x9) ∧ Q x9 M9)
theorem k_TR_readName {G : mG} {d : Nat} {a0 : Nat} {l1 : Int} {M : mM} {Q : Int → mM → Prop} (hO : mOk M) (hi_l1 : i32 l1)
    (h : ((l1 = 0) → (h_TR_readName_19 G d a0 M Q)) ∧ (¬ (l1 = 0) → (mK M a0 = 3 ∧ mK M (mR M a0 0) = 4 ∧ Ci G y_RR_here d [vr (mR M a0 0)] M (fun x6 M5 => i32 x6 ∧ mOk M5 ∧ (mK M5 (mR M a0 0) = 4 ∧ Cv G y_RR_note d [vr (mR M a0 0), vi 5, vi x6] M5 (fun M9 => mOk M9 ∧ (h_TR_readName_19 G d a0 M9 Q))))))) :
    Ci G y_TR_readName (d + 1) [vr a0, vi l1] M Q := by
  refine wm_open (y := y_TR_readName) rfl (Nat.le_of_ble_eq_true rfl) (L := [vr a0, vi l1]) rfl ?_
  refine wm_iload_n d_TR_readName_0 rfl rfl ?_
  refine wm_if_eq (tgt := 19) d_TR_readName_1 rfl hi_l1 (fun c2 => ?_) (fun c2 => ?_)
  · replace h := h.1 c2
    refine wm_less (L' := [vr a0, vd]) ⟨Or.inr rfl, Or.inl rfl, trivial⟩ ?_
    exact h
  · replace h := h.2 c2
    obtain ⟨h3, h⟩ := h
    obtain ⟨h4, h⟩ := h
    refine wm_aload_n d_TR_readName_4 rfl rfl ?_
    refine gf_TR_12 rfl d_TR_readName_5 h3 ?_
    refine wm_iconst d_TR_readName_8 ?_
    refine wm_aload_n d_TR_readName_9 rfl rfl ?_
    refine gf_TR_12 rfl d_TR_readName_10 h3 ?_
    refine cf_TR_79 rfl d_TR_readName_13 h4 (Nat.le_of_ble_eq_true rfl) (Ci.mono h (fun x6 M5 h => ?_))
    obtain ⟨h7, hOM5, h⟩ := h
    obtain ⟨h8, h⟩ := h
    refine cf_TR_95 rfl d_TR_readName_16 h8 (Nat.le_of_ble_eq_true rfl) (Cv.mono h (fun M9 h => ?_))
    obtain ⟨hOM9, h⟩ := h
    refine wm_less (L' := [vr a0, vd]) ⟨Or.inr rfl, Or.inl rfl, trivial⟩ ?_
    exact h
theorem k_TR_readName_19 {G : mG} {d : Nat} {a0 : Nat} {M : mM} {Q : Int → mM → Prop} (hO : mOk M)
    (h : mK M a0 = 3 ∧ mK M (mR M a0 0) = 4 ∧ i32 ((mI M (mR M a0 0) 2) + 1) ∧ ∀ M15, M15 = mUI M (mR M a0 0) 2 ((mI M (mR M a0 0) 2) + 1) → mK M15 (mR M15 a0 0) = 4 ∧ ∀ M18, M18 = mUI M15 a0 3 (mI M15 (mR M15 a0 0) 2) → mK M18 (mR M18 a0 0) = 4 ∧ Ci G y_RR_accept d [vr (mR M18 a0 0), vi 2] M18 (fun x22 M21 => i32 x22 ∧ mOk M21 ∧ (((x22 = 0) → (Q 0 M21)) ∧ (¬ (x22 = 0) → (mK M21 a0 = 3 ∧ mK M21 (mR M21 a0 0) = 4 ∧ Ci G y_RR_find d [vr (mR M21 a0 0), vi (mI M21 a0 3)] M21 (fun x29 M28 => i32 x29 ∧ mOk M28 ∧ (((x29 = (-1)) → (Q 1 M28)) ∧ (¬ (x29 = (-1)) → (mK M28 a0 = 3 ∧ mK M28 (mR M28 a0 0) = 4 ∧ mK M28 (mR M28 (mR M28 a0 0) 0) = 2 ∧ mK M28 (mR M28 (mR M28 (mR M28 a0 0) 0) 4) = 30 ∧ ((0 : Int) ≤ mI M28 a0 3 ∧ mI M28 a0 3 < (mN M28 (mR M28 (mR M28 (mR M28 a0 0) 0) 4) : Int)) ∧ Cv G y_RR_note d [vr (mR M28 a0 0), vi 2, vi (mI M28 (mR M28 (mR M28 (mR M28 a0 0) 0) 4) (Int.toNat (mI M28 a0 3)))] M28 (fun M44 => mOk M44 ∧ (Q 1 M44))))))))))) :
    h_TR_readName_19 G d a0 M Q := by
  unfold h_TR_readName_19
  obtain ⟨h12, h⟩ := h
  obtain ⟨h13, h⟩ := h
  obtain ⟨h14, h⟩ := h
  obtain ⟨M15, e16⟩ : ∃ M15, M15 = mUI M (mR M a0 0) 2 ((mI M (mR M a0 0) 2) + 1) := ⟨_, rfl⟩
  replace h := h M15 e16
  obtain ⟨h17, h⟩ := h
  obtain ⟨M18, e19⟩ : ∃ M18, M18 = mUI M15 a0 3 (mI M15 (mR M15 a0 0) 2) := ⟨_, rfl⟩
  replace h := h M18 e19
  obtain ⟨h20, h⟩ := h
  refine wm_aload_n d_TR_readName_19 rfl rfl ?_
  refine gf_TR_12 rfl d_TR_readName_20 h12 ?_
  refine wm_dup d_TR_readName_23 rfl ?_
  refine gf_TR_59 rfl d_TR_readName_24 h13 ?_
  refine wm_iconst d_TR_readName_27 ?_
  refine wm_iadd d_TR_readName_28 ?_
  have hOM15 : mOk M15 := by rw [e16]; exact mOk_UI hO h14
  refine pf_TR_59 rfl d_TR_readName_29 h13 h14 e16 ?_
  refine wm_aload_n d_TR_readName_32 rfl rfl ?_
  refine wm_aload_n d_TR_readName_33 rfl rfl ?_
  refine gf_TR_12 rfl d_TR_readName_34 (by rw [e16]; exact h12) ?_
  refine gf_TR_59 rfl d_TR_readName_37 h17 ?_
  have hOM18 : mOk M18 := by rw [e19]; exact mOk_UI hOM15 (hOM15 _ _).1
  refine pf_TR_99 rfl d_TR_readName_40 (by rw [e16]; exact h12) (hOM15 _ _).1 e19 ?_
  refine wm_aload_n d_TR_readName_43 rfl rfl ?_
  refine gf_TR_12 rfl d_TR_readName_44 (by rw [e19, e16]; exact h12) ?_
  refine wm_iconst d_TR_readName_47 ?_
  refine cf_TR_102 rfl d_TR_readName_48 h20 (Nat.le_of_ble_eq_true rfl) (Ci.mono h (fun x22 M21 h => ?_))
  obtain ⟨h23, hOM21, h⟩ := h
  refine wm_if_ne (tgt := 56) d_TR_readName_51 rfl h23 (fun c25 => ?_) (fun c25 => ?_)
  · replace h := h.2 c25
    obtain ⟨h26, h⟩ := h
    obtain ⟨h27, h⟩ := h
    refine wm_aload_n d_TR_readName_56 rfl rfl ?_
    refine gf_TR_12 rfl d_TR_readName_57 h26 ?_
    refine wm_aload_n d_TR_readName_60 rfl rfl ?_
    refine gf_TR_99 rfl d_TR_readName_61 h26 ?_
    refine cf_TR_105 rfl d_TR_readName_64 h27 (Nat.le_of_ble_eq_true rfl) (Ci.mono h (fun x29 M28 h => ?_))
    obtain ⟨h30, hOM28, h⟩ := h
    refine wm_iconst d_TR_readName_67 ?_
    refine wm_icmp_eq (tgt := 94) d_TR_readName_68 rfl h30 ⟨by decide, by decide⟩ (fun c38 => ?_) (fun c38 => ?_)
    · replace h := h.1 c38
      refine wm_iconst d_TR_readName_94 ?_
      refine wm_ireturn d_TR_readName_95 rfl (m_nb (by decide)) ?_
      exact ⟨_, rfl, h⟩
    · replace h := h.2 c38
      obtain ⟨h39, h⟩ := h
      obtain ⟨h40, h⟩ := h
      obtain ⟨h41, h⟩ := h
      obtain ⟨h42, h⟩ := h
      obtain ⟨h43, h⟩ := h
      refine wm_aload_n d_TR_readName_71 rfl rfl ?_
      refine gf_TR_12 rfl d_TR_readName_72 h39 ?_
      refine wm_iconst d_TR_readName_75 ?_
      refine wm_aload_n d_TR_readName_76 rfl rfl ?_
      refine gf_TR_12 rfl d_TR_readName_77 h39 ?_
      refine gf_TR_109 rfl d_TR_readName_80 h40 ?_
      refine gf_TR_113 rfl d_TR_readName_83 h41 ?_
      refine wm_aload_n d_TR_readName_86 rfl rfl ?_
      refine gf_TR_99 rfl d_TR_readName_87 h39 ?_
      refine wm_iald d_TR_readName_90 h42 h43 ?_
      refine cf_TR_95 rfl d_TR_readName_91 h40 (Nat.le_of_ble_eq_true rfl) (Cv.mono h (fun M44 h => ?_))
      obtain ⟨hOM44, h⟩ := h
      refine wm_iconst d_TR_readName_94 ?_
      refine wm_ireturn d_TR_readName_95 rfl (m_nb (by decide)) ?_
      exact ⟨_, rfl, h⟩
  · replace c25 := Classical.not_not.mp c25
    replace h := h.1 c25
    refine wm_iconst d_TR_readName_54 ?_
    refine wm_ireturn d_TR_readName_55 rfl (m_nb (by decide)) ?_
    exact ⟨_, rfl, h⟩
theorem d_TR_readItemRule_0 : decode y_TR_readItemRule.2.1 0 = .ok (.aload_n 0, 1) := dc9_42 (by decide +kernel)
theorem d_TR_readItemRule_1 : decode y_TR_readItemRule.2.1 1 = .ok (.getfield 25, 3) := dc9_180 (by decide +kernel)
theorem d_TR_readItemRule_4 : decode y_TR_readItemRule.2.1 4 = .ok (.iload_n 1, 1) := dc9_27 (by decide +kernel)
theorem d_TR_readItemRule_5 : decode y_TR_readItemRule.2.1 5 = .ok (.aload_n 0, 1) := dc9_42 (by decide +kernel)
theorem d_TR_readItemRule_6 : decode y_TR_readItemRule.2.1 6 = .ok (.getfield 36, 3) := dc9_180 (by decide +kernel)
theorem d_TR_readItemRule_9 : decode y_TR_readItemRule.2.1 9 = .ok (.getfield 116, 3) := dc9_180 (by decide +kernel)
theorem d_TR_readItemRule_12 : decode y_TR_readItemRule.2.1 12 = .ok (.iastore, 1) := dc9_79 (by decide +kernel)
theorem d_TR_readItemRule_13 : decode y_TR_readItemRule.2.1 13 = .ok (.aload_n 0, 1) := dc9_42 (by decide +kernel)
theorem d_TR_readItemRule_14 : decode y_TR_readItemRule.2.1 14 = .ok (.getfield 29, 3) := dc9_180 (by decide +kernel)
theorem d_TR_readItemRule_17 : decode y_TR_readItemRule.2.1 17 = .ok (.iload_n 1, 1) := dc9_27 (by decide +kernel)
theorem d_TR_readItemRule_18 : decode y_TR_readItemRule.2.1 18 = .ok (.aload_n 0, 1) := dc9_42 (by decide +kernel)
theorem d_TR_readItemRule_19 : decode y_TR_readItemRule.2.1 19 = .ok (.getfield 12, 3) := dc9_180 (by decide +kernel)
theorem d_TR_readItemRule_22 : decode y_TR_readItemRule.2.1 22 = .ok (.invokevirtual 79, 3) := dc9_182 (by decide +kernel)
theorem d_TR_readItemRule_25 : decode y_TR_readItemRule.2.1 25 = .ok (.iastore, 1) := dc9_79 (by decide +kernel)
theorem d_TR_readItemRule_26 : decode y_TR_readItemRule.2.1 26 = .ok (.aload_n 0, 1) := dc9_42 (by decide +kernel)
theorem d_TR_readItemRule_27 : decode y_TR_readItemRule.2.1 27 = .ok (.getfield 12, 3) := dc9_180 (by decide +kernel)
theorem d_TR_readItemRule_30 : decode y_TR_readItemRule.2.1 30 = .ok (.iload_n 2, 1) := dc9_28 (by decide +kernel)
theorem d_TR_readItemRule_31 : decode y_TR_readItemRule.2.1 31 = .ok (.iconst 1, 1) := dc9_4 (by decide +kernel)
theorem d_TR_readItemRule_32 : decode y_TR_readItemRule.2.1 32 = .ok (.invokevirtual 117, 3) := dc9_182 (by decide +kernel)
theorem d_TR_readItemRule_35 : decode y_TR_readItemRule.2.1 35 = .ok (.ifCond .ne 5, 3) := dc9_154 (by decide +kernel)
theorem d_TR_readItemRule_38 : decode y_TR_readItemRule.2.1 38 = .ok (.iconst 0, 1) := dc9_3 (by decide +kernel)
theorem d_TR_readItemRule_39 : decode y_TR_readItemRule.2.1 39 = .ok (.ireturn, 1) := dc9_172 (by decide +kernel)
theorem d_TR_readItemRule_40 : decode y_TR_readItemRule.2.1 40 = .ok (.aload_n 0, 1) := dc9_42 (by decide +kernel)
theorem d_TR_readItemRule_41 : decode y_TR_readItemRule.2.1 41 = .ok (.getfield 36, 3) := dc9_180 (by decide +kernel)
theorem d_TR_readItemRule_44 : decode y_TR_readItemRule.2.1 44 = .ok (.iconst 0, 1) := dc9_3 (by decide +kernel)
theorem d_TR_readItemRule_45 : decode y_TR_readItemRule.2.1 45 = .ok (.iconst 0, 1) := dc9_3 (by decide +kernel)
theorem d_TR_readItemRule_46 : decode y_TR_readItemRule.2.1 46 = .ok (.invokevirtual 121, 3) := dc9_182 (by decide +kernel)
theorem d_TR_readItemRule_49 : decode y_TR_readItemRule.2.1 49 = .ok (.pop, 1) := dc9_87 (by decide +kernel)
theorem d_TR_readItemRule_50 : decode y_TR_readItemRule.2.1 50 = .ok (.iconst 1, 1) := dc9_4 (by decide +kernel)
theorem d_TR_readItemRule_51 : decode y_TR_readItemRule.2.1 51 = .ok (.ireturn, 1) := dc9_172 (by decide +kernel)
theorem k_TR_readItemRule {G : mG} {d : Nat} {a0 : Nat} {l1 : Int} {l2 : Int} {M : mM} {Q : Int → mM → Prop} (hO : mOk M) (hi_l1 : i32 l1) (hi_l2 : i32 l2)
    (h : mK M a0 = 3 ∧ mK M (mR M a0 2) = 6 ∧ mK M (mR M a0 5) = 30 ∧ ((0 : Int) ≤ l1 ∧ l1 < (mN M (mR M a0 5) : Int)) ∧ ∀ M5, M5 = mUI M (mR M a0 5) (Int.toNat l1) (mI M (mR M a0 2) 2) → mK M5 (mR M5 a0 0) = 4 ∧ Ci G y_RR_here d [vr (mR M5 a0 0)] M5 (fun x9 M8 => i32 x9 ∧ mOk M8 ∧ (mK M8 (mR M5 a0 6) = 30 ∧ ((0 : Int) ≤ l1 ∧ l1 < (mN M8 (mR M5 a0 6) : Int)) ∧ ∀ M13, M13 = mUI M8 (mR M5 a0 6) (Int.toNat l1) x9 → mK M13 a0 = 3 ∧ mK M13 (mR M13 a0 0) = 4 ∧ Ci G y_RR_readRule d [vr (mR M13 a0 0), vi l2, vi 1] M13 (fun x18 M17 => i32 x18 ∧ mOk M17 ∧ (((x18 = 0) → (Q 0 M17)) ∧ (¬ (x18 = 0) → (mK M17 a0 = 3 ∧ mK M17 (mR M17 a0 2) = 6 ∧ Ci G y_Pr_add d [vr (mR M17 a0 2), vi 0, vi 0] M17 (fun x25 M24 => i32 x25 ∧ mOk M24 ∧ (Q 1 M24))))))))) :
    Ci G y_TR_readItemRule (d + 1) [vr a0, vi l1, vi l2] M Q := by
  refine wm_open (y := y_TR_readItemRule) rfl (Nat.le_of_ble_eq_true rfl) (L := [vr a0, vi l1, vi l2]) rfl ?_
  obtain ⟨h1, h⟩ := h
  obtain ⟨h2, h⟩ := h
  obtain ⟨h3, h⟩ := h
  obtain ⟨h4, h⟩ := h
  obtain ⟨M5, e6⟩ : ∃ M5, M5 = mUI M (mR M a0 5) (Int.toNat l1) (mI M (mR M a0 2) 2) := ⟨_, rfl⟩
  replace h := h M5 e6
  obtain ⟨h7, h⟩ := h
  refine wm_aload_n d_TR_readItemRule_0 rfl rfl ?_
  refine gf_TR_25 rfl d_TR_readItemRule_1 h1 ?_
  refine wm_iload_n d_TR_readItemRule_4 rfl rfl ?_
  refine wm_aload_n d_TR_readItemRule_5 rfl rfl ?_
  refine gf_TR_36 rfl d_TR_readItemRule_6 h1 ?_
  refine gf_TR_116 rfl d_TR_readItemRule_9 h2 ?_
  have hOM5 : mOk M5 := by rw [e6]; exact mOk_UI hO (hO _ _).1
  refine wm_iastE d_TR_readItemRule_12 h3 h4 (hO _ _).1 e6 ?_
  refine wm_aload_n d_TR_readItemRule_13 rfl rfl ?_
  refine gf_TR_29 rfl d_TR_readItemRule_14 (by rw [e6]; exact h1) ?_
  refine wm_iload_n d_TR_readItemRule_17 rfl rfl ?_
  refine wm_aload_n d_TR_readItemRule_18 rfl rfl ?_
  refine gf_TR_12 rfl d_TR_readItemRule_19 (by rw [e6]; exact h1) ?_
  refine cf_TR_79 rfl d_TR_readItemRule_22 h7 (Nat.le_of_ble_eq_true rfl) (Ci.mono h (fun x9 M8 h => ?_))
  obtain ⟨h10, hOM8, h⟩ := h
  obtain ⟨h11, h⟩ := h
  obtain ⟨h12, h⟩ := h
  obtain ⟨M13, e14⟩ : ∃ M13, M13 = mUI M8 (mR M5 a0 6) (Int.toNat l1) x9 := ⟨_, rfl⟩
  replace h := h M13 e14
  obtain ⟨h15, h⟩ := h
  obtain ⟨h16, h⟩ := h
  have hOM13 : mOk M13 := by rw [e14]; exact mOk_UI hOM8 h10
  refine wm_iastE d_TR_readItemRule_25 h11 h12 h10 e14 ?_
  refine wm_aload_n d_TR_readItemRule_26 rfl rfl ?_
  refine gf_TR_12 rfl d_TR_readItemRule_27 h15 ?_
  refine wm_iload_n d_TR_readItemRule_30 rfl rfl ?_
  refine wm_iconst d_TR_readItemRule_31 ?_
  refine cf_TR_117 rfl d_TR_readItemRule_32 h16 (Nat.le_of_ble_eq_true rfl) (Ci.mono h (fun x18 M17 h => ?_))
  obtain ⟨h19, hOM17, h⟩ := h
  refine wm_if_ne (tgt := 40) d_TR_readItemRule_35 rfl h19 (fun c21 => ?_) (fun c21 => ?_)
  · replace h := h.2 c21
    obtain ⟨h22, h⟩ := h
    obtain ⟨h23, h⟩ := h
    refine wm_aload_n d_TR_readItemRule_40 rfl rfl ?_
    refine gf_TR_36 rfl d_TR_readItemRule_41 h22 ?_
    refine wm_iconst d_TR_readItemRule_44 ?_
    refine wm_iconst d_TR_readItemRule_45 ?_
    refine cf_TR_121 rfl d_TR_readItemRule_46 h23 (Nat.le_of_ble_eq_true rfl) (Ci.mono h (fun x25 M24 h => ?_))
    obtain ⟨h26, hOM24, h⟩ := h
    refine wm_pop d_TR_readItemRule_49 rfl ?_
    refine wm_iconst d_TR_readItemRule_50 ?_
    refine wm_ireturn d_TR_readItemRule_51 rfl (m_nb (by decide)) ?_
    exact ⟨_, rfl, h⟩
  · replace c21 := Classical.not_not.mp c21
    replace h := h.1 c21
    refine wm_iconst d_TR_readItemRule_38 ?_
    refine wm_ireturn d_TR_readItemRule_39 rfl (m_nb (by decide)) ?_
    exact ⟨_, rfl, h⟩
theorem d_TR_readNamed_0 : decode y_TR_readNamed.2.1 0 = .ok (.aload_n 0, 1) := dc9_42 (by decide +kernel)
theorem d_TR_readNamed_1 : decode y_TR_readNamed.2.1 1 = .ok (.getfield 12, 3) := dc9_180 (by decide +kernel)
theorem d_TR_readNamed_4 : decode y_TR_readNamed.2.1 4 = .ok (.iload_n 1, 1) := dc9_27 (by decide +kernel)
theorem d_TR_readNamed_5 : decode y_TR_readNamed.2.1 5 = .ok (.iconst 4, 1) := dc9_7 (by decide +kernel)
theorem d_TR_readNamed_6 : decode y_TR_readNamed.2.1 6 = .ok (.if_icmp .ne 7, 3) := dc9_160 (by decide +kernel)
theorem d_TR_readNamed_9 : decode y_TR_readNamed.2.1 9 = .ok (.iconst 1, 1) := dc9_4 (by decide +kernel)
theorem d_TR_readNamed_10 : decode y_TR_readNamed.2.1 10 = .ok (.goto 4, 3) := dc9_167 (by decide +kernel)
theorem d_TR_readNamed_13 : decode y_TR_readNamed.2.1 13 = .ok (.iconst 0, 1) := dc9_3 (by decide +kernel)
theorem d_TR_readNamed_14 : decode y_TR_readNamed.2.1 14 = .ok (.putfield 125, 3) := dc9_181 (by decide +kernel)
theorem d_TR_readNamed_17 : decode y_TR_readNamed.2.1 17 = .ok (.aload_n 0, 1) := dc9_42 (by decide +kernel)
theorem d_TR_readNamed_18 : decode y_TR_readNamed.2.1 18 = .ok (.aload_n 0, 1) := dc9_42 (by decide +kernel)
theorem d_TR_readNamed_19 : decode y_TR_readNamed.2.1 19 = .ok (.getfield 36, 3) := dc9_180 (by decide +kernel)
theorem d_TR_readNamed_22 : decode y_TR_readNamed.2.1 22 = .ok (.getfield 129, 3) := dc9_180 (by decide +kernel)
theorem d_TR_readNamed_25 : decode y_TR_readNamed.2.1 25 = .ok (.bipush 60, 2) := dc9_16 (by decide +kernel)
theorem d_TR_readNamed_27 : decode y_TR_readNamed.2.1 27 = .ok (.if_icmp .lt 7, 3) := dc9_161 (by decide +kernel)
theorem d_TR_readNamed_34 : decode y_TR_readNamed.2.1 34 = .ok (.iconst 0, 1) := dc9_3 (by decide +kernel)
theorem d_TR_readNamed_30 : decode y_TR_readNamed.2.1 30 = .ok (.iconst 1, 1) := dc9_4 (by decide +kernel)
theorem d_TR_readNamed_31 : decode y_TR_readNamed.2.1 31 = .ok (.goto 4, 3) := dc9_167 (by decide +kernel)
theorem d_TR_readNamed_35 : decode y_TR_readNamed.2.1 35 = .ok (.invokevirtual 132, 3) := dc9_182 (by decide +kernel)
theorem d_TR_readNamed_38 : decode y_TR_readNamed.2.1 38 = .ok (.ifCond .eq 24, 3) := dc9_153 (by decide +kernel)
theorem d_TR_readNamed_41 : decode y_TR_readNamed.2.1 41 = .ok (.aload_n 0, 1) := dc9_42 (by decide +kernel)
theorem d_TR_readNamed_42 : decode y_TR_readNamed.2.1 42 = .ok (.getfield 12, 3) := dc9_180 (by decide +kernel)
theorem d_TR_readNamed_45 : decode y_TR_readNamed.2.1 45 = .ok (.bipush 24, 2) := dc9_16 (by decide +kernel)
theorem d_TR_readNamed_62 : decode y_TR_readNamed.2.1 62 = .ok (.iconst 0, 1) := dc9_3 (by decide +kernel)
theorem d_TR_readNamed_63 : decode y_TR_readNamed.2.1 63 = .ok (.ireturn, 1) := dc9_172 (by decide +kernel)
theorem d_TR_readNamed_47 : decode y_TR_readNamed.2.1 47 = .ok (.invokevirtual 102, 3) := dc9_182 (by decide +kernel)
theorem d_TR_readNamed_50 : decode y_TR_readNamed.2.1 50 = .ok (.ifCond .eq 12, 3) := dc9_153 (by decide +kernel)
theorem d_TR_readNamed_53 : decode y_TR_readNamed.2.1 53 = .ok (.aload_n 0, 1) := dc9_42 (by decide +kernel)
theorem d_TR_readNamed_54 : decode y_TR_readNamed.2.1 54 = .ok (.iconst 0, 1) := dc9_3 (by decide +kernel)
theorem d_TR_readNamed_55 : decode y_TR_readNamed.2.1 55 = .ok (.iconst 0, 1) := dc9_3 (by decide +kernel)
theorem d_TR_readNamed_56 : decode y_TR_readNamed.2.1 56 = .ok (.invokevirtual 136, 3) := dc9_182 (by decide +kernel)
theorem d_TR_readNamed_59 : decode y_TR_readNamed.2.1 59 = .ok (.ifCond .ne 5, 3) := dc9_154 (by decide +kernel)
theorem d_TR_readNamed_64 : decode y_TR_readNamed.2.1 64 = .ok (.aload_n 0, 1) := dc9_42 (by decide +kernel)
theorem d_TR_readNamed_65 : decode y_TR_readNamed.2.1 65 = .ok (.aload_n 0, 1) := dc9_42 (by decide +kernel)
theorem d_TR_readNamed_66 : decode y_TR_readNamed.2.1 66 = .ok (.getfield 12, 3) := dc9_180 (by decide +kernel)
theorem d_TR_readNamed_69 : decode y_TR_readNamed.2.1 69 = .ok (.invokevirtual 140, 3) := dc9_182 (by decide +kernel)
theorem d_TR_readNamed_72 : decode y_TR_readNamed.2.1 72 = .ok (.putfield 143, 3) := dc9_181 (by decide +kernel)
theorem d_TR_readNamed_75 : decode y_TR_readNamed.2.1 75 = .ok (.aload_n 0, 1) := dc9_42 (by decide +kernel)
theorem d_TR_readNamed_76 : decode y_TR_readNamed.2.1 76 = .ok (.getfield 12, 3) := dc9_180 (by decide +kernel)
theorem d_TR_readNamed_79 : decode y_TR_readNamed.2.1 79 = .ok (.bipush 35, 2) := dc9_16 (by decide +kernel)
theorem d_TR_readNamed_81 : decode y_TR_readNamed.2.1 81 = .ok (.invokevirtual 102, 3) := dc9_182 (by decide +kernel)
theorem d_TR_readNamed_84 : decode y_TR_readNamed.2.1 84 = .ok (.ireturn, 1) := dc9_172 (by decide +kernel)
theorem k_TR_readNamed {G : mG} {d : Nat} {a0 : Nat} {l1 : Int} {M : mM} {Q : Int → mM → Prop} (hO : mOk M) (hi_l1 : i32 l1)
    (h : mK M a0 = 3 ∧ ∀ v3 : Int, v3 = (if (l1 = 4) then 1 else 0) → mK M (mR M a0 0) = 4 ∧ ∀ M9, M9 = mUI M (mR M a0 0) 6 v3 → mK M9 (mR M9 a0 2) = 6 ∧ ∀ v13 : Int, v13 = (if (mI M9 (mR M9 a0 2) 7 < 60) then 0 else 1) → Ci G y_TR_readName d [vr a0, vi v13] M9 (fun x19 M18 => i32 x19 ∧ mOk M18 ∧ (((x19 = 0) → (Q 0 M18)) ∧ (¬ (x19 = 0) → (mK M18 a0 = 3 ∧ mK M18 (mR M18 a0 0) = 4 ∧ Ci G y_RR_accept d [vr (mR M18 a0 0), vi 24] M18 (fun x26 M25 => i32 x26 ∧ mOk M25 ∧ (((x26 = 0) → (Q 0 M25)) ∧ (¬ (x26 = 0) → (mK M25 a0 = 3 ∧ Ci G y_TR_readItemRule d [vr a0, vi 0, vi 0] M25 (fun x32 M31 => i32 x32 ∧ mOk M31 ∧ (((x32 = 0) → (Q 0 M31)) ∧ (¬ (x32 = 0) → (mK M31 a0 = 3 ∧ mK M31 (mR M31 a0 0) = 4 ∧ Ci G y_RR_isTruth d [vr (mR M31 a0 0)] M31 (fun x39 M38 => i32 x39 ∧ mOk M38 ∧ (mK M38 a0 = 3 ∧ (x39 = 0 ∨ x39 = 1) ∧ ∀ M43, M43 = mUI M38 a0 8 x39 → mK M43 (mR M43 a0 0) = 4 ∧ Ci G y_RR_accept d [vr (mR M43 a0 0), vi 35] M43 (fun x47 M46 => i32 x47 ∧ mOk M46 ∧ ((x47 = 0 ∨ x47 = 1) ∧ Q x47 M46))))))))))))))))) :
    Ci G y_TR_readNamed (d + 1) [vr a0, vi l1] M Q := by
  refine wm_open (y := y_TR_readNamed) rfl (Nat.le_of_ble_eq_true rfl) (L := [vr a0, vi l1]) rfl ?_
  obtain ⟨h1, h⟩ := h
  refine wm_aload_n d_TR_readNamed_0 rfl rfl ?_
  refine gf_TR_12 rfl d_TR_readNamed_1 h1 ?_
  refine wm_iload_n d_TR_readNamed_4 rfl rfl ?_
  refine wm_iconst d_TR_readNamed_5 ?_
  have hJ : ∀ v3 : Int, v3 = (if (l1 = 4) then 1 else 0) → mWm G y_TR_readNamed (d + 1) 14 [vr a0, vd] [vi v3, vr (mR M a0 0)] M (fun r9 M9 => ∃ x9, r9 = some (vi x9) ∧ Q x9 M9) := by
    intro v3 e5
    have h := h v3 e5
    have h6 : i32 v3 := by rw [e5]; (repeat' split) <;> first | exact ⟨by decide, by decide⟩ | exact ⟨by decide, by decide⟩
    have h7 : (v3 = 0 ∨ v3 = 1) := by rw [e5]; (repeat' split) <;> decide
    obtain ⟨h8, h⟩ := h
    obtain ⟨M9, e10⟩ : ∃ M9, M9 = mUI M (mR M a0 0) 6 v3 := ⟨_, rfl⟩
    replace h := h M9 e10
    obtain ⟨h11, h⟩ := h
    have hOM9 : mOk M9 := by rw [e10]; exact mOk_UI hO (m_b32 h7)
    refine pf_TR_125 rfl d_TR_readNamed_14 h8 h7 e10 ?_
    refine wm_aload_n d_TR_readNamed_17 rfl rfl ?_
    refine wm_aload_n d_TR_readNamed_18 rfl rfl ?_
    refine gf_TR_36 rfl d_TR_readNamed_19 (by rw [e10]; exact h1) ?_
    refine gf_TR_129 rfl d_TR_readNamed_22 h11 ?_
    refine wm_bipush d_TR_readNamed_25 (by decide) ?_
    have hJ : ∀ v13 : Int, v13 = (if (mI M9 (mR M9 a0 2) 7 < 60) then 0 else 1) → mWm G y_TR_readNamed (d + 1) 35 [vr a0, vd] [vi v13, vr a0] M9 (fun r9 M9 => ∃ x9, r9 = some (vi x9) ∧ Q x9 M9) := by
      intro v13 e15
      have h := h v13 e15
      have h16 : i32 v13 := by rw [e15]; (repeat' split) <;> first | exact ⟨by decide, by decide⟩ | exact ⟨by decide, by decide⟩
      have h17 : (v13 = 0 ∨ v13 = 1) := by rw [e15]; (repeat' split) <;> decide
      refine cf_TR_132 rfl d_TR_readNamed_35 (by rw [e10]; exact h1) (Nat.le_of_ble_eq_true rfl) (Ci.mono h (fun x19 M18 h => ?_))
      obtain ⟨h20, hOM18, h⟩ := h
      refine wm_if_eq (tgt := 62) d_TR_readNamed_38 rfl h20 (fun c22 => ?_) (fun c22 => ?_)
      · replace h := h.1 c22
        refine wm_iconst d_TR_readNamed_62 ?_
        refine wm_ireturn d_TR_readNamed_63 rfl (m_nb (by decide)) ?_
        exact ⟨_, rfl, h⟩
      · replace h := h.2 c22
        obtain ⟨h23, h⟩ := h
        obtain ⟨h24, h⟩ := h
        refine wm_aload_n d_TR_readNamed_41 rfl rfl ?_
        refine gf_TR_12 rfl d_TR_readNamed_42 h23 ?_
        refine wm_bipush d_TR_readNamed_45 (by decide) ?_
        refine cf_TR_102 rfl d_TR_readNamed_47 h24 (Nat.le_of_ble_eq_true rfl) (Ci.mono h (fun x26 M25 h => ?_))
        obtain ⟨h27, hOM25, h⟩ := h
        refine wm_if_eq (tgt := 62) d_TR_readNamed_50 rfl h27 (fun c29 => ?_) (fun c29 => ?_)
        · replace h := h.1 c29
          refine wm_iconst d_TR_readNamed_62 ?_
          refine wm_ireturn d_TR_readNamed_63 rfl (m_nb (by decide)) ?_
          exact ⟨_, rfl, h⟩
        · replace h := h.2 c29
          obtain ⟨h30, h⟩ := h
          refine wm_aload_n d_TR_readNamed_53 rfl rfl ?_
          refine wm_iconst d_TR_readNamed_54 ?_
          refine wm_iconst d_TR_readNamed_55 ?_
          refine cf_TR_136 rfl d_TR_readNamed_56 h30 (Nat.le_of_ble_eq_true rfl) (Ci.mono h (fun x32 M31 h => ?_))
          obtain ⟨h33, hOM31, h⟩ := h
          refine wm_if_ne (tgt := 64) d_TR_readNamed_59 rfl h33 (fun c35 => ?_) (fun c35 => ?_)
          · replace h := h.2 c35
            obtain ⟨h36, h⟩ := h
            obtain ⟨h37, h⟩ := h
            refine wm_aload_n d_TR_readNamed_64 rfl rfl ?_
            refine wm_aload_n d_TR_readNamed_65 rfl rfl ?_
            refine gf_TR_12 rfl d_TR_readNamed_66 h36 ?_
            refine cf_TR_140 rfl d_TR_readNamed_69 h37 (Nat.le_of_ble_eq_true rfl) (Ci.mono h (fun x39 M38 h => ?_))
            obtain ⟨h40, hOM38, h⟩ := h
            obtain ⟨h41, h⟩ := h
            obtain ⟨h42, h⟩ := h
            obtain ⟨M43, e44⟩ : ∃ M43, M43 = mUI M38 a0 8 x39 := ⟨_, rfl⟩
            replace h := h M43 e44
            obtain ⟨h45, h⟩ := h
            have hOM43 : mOk M43 := by rw [e44]; exact mOk_UI hOM38 (m_b32 h42)
            refine pf_TR_143 rfl d_TR_readNamed_72 h41 h42 e44 ?_
            refine wm_aload_n d_TR_readNamed_75 rfl rfl ?_
            refine gf_TR_12 rfl d_TR_readNamed_76 (by rw [e44]; exact h41) ?_
            refine wm_bipush d_TR_readNamed_79 (by decide) ?_
            refine cf_TR_102 rfl d_TR_readNamed_81 h45 (Nat.le_of_ble_eq_true rfl) (Ci.mono h (fun x47 M46 h => ?_))
            obtain ⟨h48, hOM46, h⟩ := h
            obtain ⟨h49, h⟩ := h
            refine wm_ireturn d_TR_readNamed_84 rfl (m_nb h49) ?_
            exact ⟨_, rfl, h⟩
          · replace c35 := Classical.not_not.mp c35
            replace h := h.1 c35
            refine wm_iconst d_TR_readNamed_62 ?_
            refine wm_ireturn d_TR_readNamed_63 rfl (m_nb (by decide)) ?_
            exact ⟨_, rfl, h⟩
    clear h
    refine wm_icmp_lt (tgt := 34) d_TR_readNamed_27 rfl (hOM9 _ _).1 ⟨by decide, by decide⟩ (fun c12 => ?_) (fun c12 => ?_)
    · refine wm_iconst d_TR_readNamed_34 ?_
      exact hJ 0 (if_pos c12).symm
    · refine wm_iconst d_TR_readNamed_30 ?_
      refine wm_goto (tgt := 35) d_TR_readNamed_31 rfl ?_
      exact hJ 1 (if_neg c12).symm
  clear h
  refine wm_icmp_ne (tgt := 13) d_TR_readNamed_6 rfl hi_l1 ⟨by decide, by decide⟩ (fun c2 => ?_) (fun c2 => ?_)
  · refine wm_iconst d_TR_readNamed_13 ?_
    refine wm_less (L' := [vr a0, vd]) ⟨Or.inr rfl, Or.inl rfl, trivial⟩ ?_
    exact hJ 0 (if_neg c2).symm
  · replace c2 := Classical.not_not.mp c2
    refine wm_iconst d_TR_readNamed_9 ?_
    refine wm_goto (tgt := 14) d_TR_readNamed_10 rfl ?_
    refine wm_less (L' := [vr a0, vd]) ⟨Or.inr rfl, Or.inl rfl, trivial⟩ ?_
    exact hJ 1 (if_pos c2).symm
theorem d_TR_settleNamed_0 : decode y_TR_settleNamed.2.1 0 = .ok (.aload_n 0, 1) := dc9_42 (by decide +kernel)
theorem d_TR_settleNamed_1 : decode y_TR_settleNamed.2.1 1 = .ok (.getfield 12, 3) := dc9_180 (by decide +kernel)
theorem d_TR_settleNamed_4 : decode y_TR_settleNamed.2.1 4 = .ok (.getfield 76, 3) := dc9_180 (by decide +kernel)
theorem d_TR_settleNamed_7 : decode y_TR_settleNamed.2.1 7 = .ok (.ifCond .ne 17, 3) := dc9_154 (by decide +kernel)
theorem d_TR_settleNamed_10 : decode y_TR_settleNamed.2.1 10 = .ok (.iload_n 1, 1) := dc9_27 (by decide +kernel)
theorem d_TR_settleNamed_11 : decode y_TR_settleNamed.2.1 11 = .ok (.iconst 4, 1) := dc9_7 (by decide +kernel)
theorem d_TR_settleNamed_12 : decode y_TR_settleNamed.2.1 12 = .ok (.if_icmp .ne 13, 3) := dc9_160 (by decide +kernel)
theorem d_TR_settleNamed_15 : decode y_TR_settleNamed.2.1 15 = .ok (.aload_n 0, 1) := dc9_42 (by decide +kernel)
theorem d_TR_settleNamed_16 : decode y_TR_settleNamed.2.1 16 = .ok (.iconst 0, 1) := dc9_3 (by decide +kernel)
theorem d_TR_settleNamed_17 : decode y_TR_settleNamed.2.1 17 = .ok (.iconst 0, 1) := dc9_3 (by decide +kernel)
theorem d_TR_settleNamed_18 : decode y_TR_settleNamed.2.1 18 = .ok (.invokevirtual 146, 3) := dc9_182 (by decide +kernel)
theorem d_TR_settleNamed_21 : decode y_TR_settleNamed.2.1 21 = .ok (.ifCond .ne 4, 3) := dc9_154 (by decide +kernel)
theorem d_TR_settleNamed_24 : decode y_TR_settleNamed.2.1 24 = .ok (.return_, 1) := dc9_177 (by decide +kernel)
theorem d_TR_settleNamed_25 : decode y_TR_settleNamed.2.1 25 = .ok (.aload_n 0, 1) := dc9_42 (by decide +kernel)
theorem d_TR_settleNamed_26 : decode y_TR_settleNamed.2.1 26 = .ok (.getfield 36, 3) := dc9_180 (by decide +kernel)
theorem d_TR_settleNamed_29 : decode y_TR_settleNamed.2.1 29 = .ok (.getfield 129, 3) := dc9_180 (by decide +kernel)
theorem d_TR_settleNamed_32 : decode y_TR_settleNamed.2.1 32 = .ok (.istore_n 2, 1) := dc9_61 (by decide +kernel)
theorem d_TR_settleNamed_33 : decode y_TR_settleNamed.2.1 33 = .ok (.aload_n 0, 1) := dc9_42 (by decide +kernel)
theorem d_TR_settleNamed_34 : decode y_TR_settleNamed.2.1 34 = .ok (.getfield 36, 3) := dc9_180 (by decide +kernel)
theorem d_TR_settleNamed_37 : decode y_TR_settleNamed.2.1 37 = .ok (.dup, 1) := dc9_89 (by decide +kernel)
theorem d_TR_settleNamed_38 : decode y_TR_settleNamed.2.1 38 = .ok (.getfield 129, 3) := dc9_180 (by decide +kernel)
theorem d_TR_settleNamed_41 : decode y_TR_settleNamed.2.1 41 = .ok (.iconst 1, 1) := dc9_4 (by decide +kernel)
theorem d_TR_settleNamed_42 : decode y_TR_settleNamed.2.1 42 = .ok (.iadd, 1) := dc9_96 (by decide +kernel)
theorem d_TR_settleNamed_43 : decode y_TR_settleNamed.2.1 43 = .ok (.putfield 129, 3) := dc9_181 (by decide +kernel)
theorem d_TR_settleNamed_46 : decode y_TR_settleNamed.2.1 46 = .ok (.aload_n 0, 1) := dc9_42 (by decide +kernel)
theorem d_TR_settleNamed_47 : decode y_TR_settleNamed.2.1 47 = .ok (.getfield 36, 3) := dc9_180 (by decide +kernel)
theorem d_TR_settleNamed_50 : decode y_TR_settleNamed.2.1 50 = .ok (.getfield 149, 3) := dc9_180 (by decide +kernel)
theorem d_TR_settleNamed_53 : decode y_TR_settleNamed.2.1 53 = .ok (.iload_n 2, 1) := dc9_28 (by decide +kernel)
theorem d_TR_settleNamed_54 : decode y_TR_settleNamed.2.1 54 = .ok (.aload_n 0, 1) := dc9_42 (by decide +kernel)
theorem d_TR_settleNamed_55 : decode y_TR_settleNamed.2.1 55 = .ok (.getfield 25, 3) := dc9_180 (by decide +kernel)
theorem d_TR_settleNamed_58 : decode y_TR_settleNamed.2.1 58 = .ok (.iconst 0, 1) := dc9_3 (by decide +kernel)
theorem d_TR_settleNamed_59 : decode y_TR_settleNamed.2.1 59 = .ok (.iaload, 1) := dc9_46 (by decide +kernel)
theorem d_TR_settleNamed_60 : decode y_TR_settleNamed.2.1 60 = .ok (.iastore, 1) := dc9_79 (by decide +kernel)
theorem d_TR_settleNamed_61 : decode y_TR_settleNamed.2.1 61 = .ok (.iload_n 1, 1) := dc9_27 (by decide +kernel)
theorem d_TR_settleNamed_62 : decode y_TR_settleNamed.2.1 62 = .ok (.iconst 4, 1) := dc9_7 (by decide +kernel)
theorem d_TR_settleNamed_63 : decode y_TR_settleNamed.2.1 63 = .ok (.if_icmp .ne 52, 3) := dc9_160 (by decide +kernel)
theorem d_TR_settleNamed_66 : decode y_TR_settleNamed.2.1 66 = .ok (.aload_n 0, 1) := dc9_42 (by decide +kernel)
theorem d_TR_settleNamed_67 : decode y_TR_settleNamed.2.1 67 = .ok (.getfield 36, 3) := dc9_180 (by decide +kernel)
theorem d_TR_settleNamed_70 : decode y_TR_settleNamed.2.1 70 = .ok (.getfield 152, 3) := dc9_180 (by decide +kernel)
theorem d_TR_settleNamed_73 : decode y_TR_settleNamed.2.1 73 = .ok (.iload_n 2, 1) := dc9_28 (by decide +kernel)
theorem d_TR_settleNamed_74 : decode y_TR_settleNamed.2.1 74 = .ok (.aload_n 0, 1) := dc9_42 (by decide +kernel)
theorem d_TR_settleNamed_75 : decode y_TR_settleNamed.2.1 75 = .ok (.getfield 21, 3) := dc9_180 (by decide +kernel)
theorem d_TR_settleNamed_78 : decode y_TR_settleNamed.2.1 78 = .ok (.getfield 155, 3) := dc9_180 (by decide +kernel)
theorem d_TR_settleNamed_81 : decode y_TR_settleNamed.2.1 81 = .ok (.iconst 0, 1) := dc9_3 (by decide +kernel)
theorem d_TR_settleNamed_82 : decode y_TR_settleNamed.2.1 82 = .ok (.iaload, 1) := dc9_46 (by decide +kernel)
theorem d_TR_settleNamed_83 : decode y_TR_settleNamed.2.1 83 = .ok (.iastore, 1) := dc9_79 (by decide +kernel)
theorem d_TR_settleNamed_84 : decode y_TR_settleNamed.2.1 84 = .ok (.aload_n 0, 1) := dc9_42 (by decide +kernel)
theorem d_TR_settleNamed_85 : decode y_TR_settleNamed.2.1 85 = .ok (.getfield 36, 3) := dc9_180 (by decide +kernel)
theorem d_TR_settleNamed_88 : decode y_TR_settleNamed.2.1 88 = .ok (.getfield 156, 3) := dc9_180 (by decide +kernel)
theorem d_TR_settleNamed_91 : decode y_TR_settleNamed.2.1 91 = .ok (.iload_n 2, 1) := dc9_28 (by decide +kernel)
theorem d_TR_settleNamed_92 : decode y_TR_settleNamed.2.1 92 = .ok (.aload_n 0, 1) := dc9_42 (by decide +kernel)
theorem d_TR_settleNamed_93 : decode y_TR_settleNamed.2.1 93 = .ok (.getfield 21, 3) := dc9_180 (by decide +kernel)
theorem d_TR_settleNamed_96 : decode y_TR_settleNamed.2.1 96 = .ok (.getfield 159, 3) := dc9_180 (by decide +kernel)
theorem d_TR_settleNamed_99 : decode y_TR_settleNamed.2.1 99 = .ok (.iconst 0, 1) := dc9_3 (by decide +kernel)
theorem d_TR_settleNamed_100 : decode y_TR_settleNamed.2.1 100 = .ok (.iaload, 1) := dc9_46 (by decide +kernel)
theorem d_TR_settleNamed_101 : decode y_TR_settleNamed.2.1 101 = .ok (.iastore, 1) := dc9_79 (by decide +kernel)
theorem d_TR_settleNamed_102 : decode y_TR_settleNamed.2.1 102 = .ok (.aload_n 0, 1) := dc9_42 (by decide +kernel)
theorem d_TR_settleNamed_103 : decode y_TR_settleNamed.2.1 103 = .ok (.getfield 36, 3) := dc9_180 (by decide +kernel)
theorem d_TR_settleNamed_106 : decode y_TR_settleNamed.2.1 106 = .ok (.aload_n 0, 1) := dc9_42 (by decide +kernel)
theorem d_TR_settleNamed_107 : decode y_TR_settleNamed.2.1 107 = .ok (.getfield 25, 3) := dc9_180 (by decide +kernel)
theorem d_TR_settleNamed_110 : decode y_TR_settleNamed.2.1 110 = .ok (.iconst 0, 1) := dc9_3 (by decide +kernel)
theorem d_TR_settleNamed_111 : decode y_TR_settleNamed.2.1 111 = .ok (.iaload, 1) := dc9_46 (by decide +kernel)
theorem d_TR_settleNamed_112 : decode y_TR_settleNamed.2.1 112 = .ok (.putfield 116, 3) := dc9_181 (by decide +kernel)
theorem d_TR_settleNamed_115 : decode y_TR_settleNamed.2.1 115 = .ok (.aload_n 0, 1) := dc9_42 (by decide +kernel)
theorem d_TR_settleNamed_116 : decode y_TR_settleNamed.2.1 116 = .ok (.getfield 12, 3) := dc9_180 (by decide +kernel)
theorem d_TR_settleNamed_119 : decode y_TR_settleNamed.2.1 119 = .ok (.aload_n 0, 1) := dc9_42 (by decide +kernel)
theorem d_TR_settleNamed_120 : decode y_TR_settleNamed.2.1 120 = .ok (.getfield 99, 3) := dc9_180 (by decide +kernel)
theorem d_TR_settleNamed_123 : decode y_TR_settleNamed.2.1 123 = .ok (.iload_n 1, 1) := dc9_27 (by decide +kernel)
theorem d_TR_settleNamed_124 : decode y_TR_settleNamed.2.1 124 = .ok (.iload_n 2, 1) := dc9_28 (by decide +kernel)
theorem d_TR_settleNamed_125 : decode y_TR_settleNamed.2.1 125 = .ok (.aload_n 0, 1) := dc9_42 (by decide +kernel)
theorem d_TR_settleNamed_126 : decode y_TR_settleNamed.2.1 126 = .ok (.getfield 143, 3) := dc9_180 (by decide +kernel)
theorem d_TR_settleNamed_129 : decode y_TR_settleNamed.2.1 129 = .ok (.invokevirtual 160, 3) := dc9_182 (by decide +kernel)
theorem d_TR_settleNamed_132 : decode y_TR_settleNamed.2.1 132 = .ok (.return_, 1) := dc9_177 (by decide +kernel)
def h_TR_settleNamed_115 (G : mG) (d : Nat) (a0 : Nat) (l1 : Int) (l2 : Int) (M : mM) (Q : mM → Prop) : Prop := mWm G y_TR_settleNamed (d + 1) 115 [vr a0, vi l1, vi l2] [] M (fun r9 M9 => r9 = none ∧ Q M9)
theorem k_TR_settleNamed {G : mG} {d : Nat} {a0 : Nat} {l1 : Int} {M : mM} {Q : mM → Prop} (hO : mOk M) (hi_l1 : i32 l1)
    (h : mK M a0 = 3 ∧ mK M (mR M a0 0) = 4 ∧ ((mI M (mR M a0 0) 3 = 0) → (((l1 = 4) → (Ci G y_TR_worksOut d [vr a0, vi 0, vi 0] M (fun x9 M8 => i32 x9 ∧ mOk M8 ∧ (((x9 = 0) → (Q M8)) ∧ (¬ (x9 = 0) → (mK M8 a0 = 3 ∧ mK M8 (mR M8 a0 2) = 6 ∧ i32 ((mI M8 (mR M8 a0 2) 7) + 1) ∧ ∀ M16, M16 = mUI M8 (mR M8 a0 2) 7 ((mI M8 (mR M8 a0 2) 7) + 1) → mK M16 (mR M16 a0 2) = 6 ∧ mK M16 (mR M16 a0 5) = 30 ∧ ((0 : Int) ≤ 0 ∧ 0 < (mN M16 (mR M16 a0 5) : Int)) ∧ mK M16 (mR M16 (mR M16 a0 2) 10) = 30 ∧ ((0 : Int) ≤ mI M8 (mR M8 a0 2) 7 ∧ mI M8 (mR M8 a0 2) 7 < (mN M16 (mR M16 (mR M16 a0 2) 10) : Int)) ∧ ∀ M23, M23 = mUI M16 (mR M16 (mR M16 a0 2) 10) (Int.toNat (mI M8 (mR M8 a0 2) 7)) (mI M16 (mR M16 a0 5) 0) → ((l1 = 4) → (mK M23 (mR M23 a0 2) = 6 ∧ mK M23 (mR M23 a0 1) = 5 ∧ mK M23 (mR M23 (mR M23 a0 1) 6) = 30 ∧ ((0 : Int) ≤ 0 ∧ 0 < (mN M23 (mR M23 (mR M23 a0 1) 6) : Int)) ∧ mK M23 (mR M23 (mR M23 a0 2) 8) = 30 ∧ ((0 : Int) ≤ mI M8 (mR M8 a0 2) 7 ∧ mI M8 (mR M8 a0 2) 7 < (mN M23 (mR M23 (mR M23 a0 2) 8) : Int)) ∧ ∀ M33, M33 = mUI M23 (mR M23 (mR M23 a0 2) 8) (Int.toNat (mI M8 (mR M8 a0 2) 7)) (mI M23 (mR M23 (mR M23 a0 1) 6) 0) → mK M33 (mR M33 a0 2) = 6 ∧ mK M33 (mR M33 a0 1) = 5 ∧ mK M33 (mR M33 (mR M33 a0 1) 7) = 30 ∧ ((0 : Int) ≤ 0 ∧ 0 < (mN M33 (mR M33 (mR M33 a0 1) 7) : Int)) ∧ mK M33 (mR M33 (mR M33 a0 2) 9) = 30 ∧ ((0 : Int) ≤ mI M8 (mR M8 a0 2) 7 ∧ mI M8 (mR M8 a0 2) 7 < (mN M33 (mR M33 (mR M33 a0 2) 9) : Int)) ∧ ∀ M41, M41 = mUI M33 (mR M33 (mR M33 a0 2) 9) (Int.toNat (mI M8 (mR M8 a0 2) 7)) (mI M33 (mR M33 (mR M33 a0 1) 7) 0) → mK M41 (mR M41 a0 5) = 30 ∧ ((0 : Int) ≤ 0 ∧ 0 < (mN M41 (mR M41 a0 5) : Int)) ∧ mK M41 (mR M41 a0 2) = 6 ∧ ∀ M46, M46 = mUI M41 (mR M41 a0 2) 2 (mI M41 (mR M41 a0 5) 0) → h_TR_settleNamed_115 G d a0 l1 (mI M8 (mR M8 a0 2) 7) M46 Q)) ∧ (¬ (l1 = 4) → (h_TR_settleNamed_115 G d a0 l1 (mI M8 (mR M8 a0 2) 7) M23 Q)))))))) ∧ (¬ (l1 = 4) → (mK M (mR M a0 2) = 6 ∧ i32 ((mI M (mR M a0 2) 7) + 1) ∧ ∀ M50, M50 = mUI M (mR M a0 2) 7 ((mI M (mR M a0 2) 7) + 1) → mK M50 (mR M50 a0 2) = 6 ∧ mK M50 (mR M50 a0 5) = 30 ∧ ((0 : Int) ≤ 0 ∧ 0 < (mN M50 (mR M50 a0 5) : Int)) ∧ mK M50 (mR M50 (mR M50 a0 2) 10) = 30 ∧ ((0 : Int) ≤ mI M (mR M a0 2) 7 ∧ mI M (mR M a0 2) 7 < (mN M50 (mR M50 (mR M50 a0 2) 10) : Int)) ∧ ∀ M57, M57 = mUI M50 (mR M50 (mR M50 a0 2) 10) (Int.toNat (mI M (mR M a0 2) 7)) (mI M50 (mR M50 a0 5) 0) → ((l1 = 4) → (mK M57 (mR M57 a0 2) = 6 ∧ mK M57 (mR M57 a0 1) = 5 ∧ mK M57 (mR M57 (mR M57 a0 1) 6) = 30 ∧ ((0 : Int) ≤ 0 ∧ 0 < (mN M57 (mR M57 (mR M57 a0 1) 6) : Int)) ∧ mK M57 (mR M57 (mR M57 a0 2) 8) = 30 ∧ ((0 : Int) ≤ mI M (mR M a0 2) 7 ∧ mI M (mR M a0 2) 7 < (mN M57 (mR M57 (mR M57 a0 2) 8) : Int)) ∧ ∀ M67, M67 = mUI M57 (mR M57 (mR M57 a0 2) 8) (Int.toNat (mI M (mR M a0 2) 7)) (mI M57 (mR M57 (mR M57 a0 1) 6) 0) → mK M67 (mR M67 a0 2) = 6 ∧ mK M67 (mR M67 a0 1) = 5 ∧ mK M67 (mR M67 (mR M67 a0 1) 7) = 30 ∧ ((0 : Int) ≤ 0 ∧ 0 < (mN M67 (mR M67 (mR M67 a0 1) 7) : Int)) ∧ mK M67 (mR M67 (mR M67 a0 2) 9) = 30 ∧ ((0 : Int) ≤ mI M (mR M a0 2) 7 ∧ mI M (mR M a0 2) 7 < (mN M67 (mR M67 (mR M67 a0 2) 9) : Int)) ∧ ∀ M75, M75 = mUI M67 (mR M67 (mR M67 a0 2) 9) (Int.toNat (mI M (mR M a0 2) 7)) (mI M67 (mR M67 (mR M67 a0 1) 7) 0) → mK M75 (mR M75 a0 5) = 30 ∧ ((0 : Int) ≤ 0 ∧ 0 < (mN M75 (mR M75 a0 5) : Int)) ∧ mK M75 (mR M75 a0 2) = 6 ∧ ∀ M80, M80 = mUI M75 (mR M75 a0 2) 2 (mI M75 (mR M75 a0 5) 0) → h_TR_settleNamed_115 G d a0 l1 (mI M (mR M a0 2) 7) M80 Q)) ∧ (¬ (l1 = 4) → (h_TR_settleNamed_115 G d a0 l1 (mI M (mR M a0 2) 7) M57 Q)))))) ∧ (¬ (mI M (mR M a0 0) 3 = 0) → (Q M))) :
    Cv G y_TR_settleNamed (d + 1) [vr a0, vi l1] M Q := by
  refine wm_open (y := y_TR_settleNamed) rfl (Nat.le_of_ble_eq_true rfl) (L := [vr a0, vi l1, vd]) rfl ?_
  obtain ⟨h1, h⟩ := h
  obtain ⟨h2, h⟩ := h
  refine wm_aload_n d_TR_settleNamed_0 rfl rfl ?_
  refine gf_TR_12 rfl d_TR_settleNamed_1 h1 ?_
  refine gf_TR_76 rfl d_TR_settleNamed_4 h2 ?_
  refine wm_if_ne (tgt := 24) d_TR_settleNamed_7 rfl (hO _ _).1 (fun c5 => ?_) (fun c5 => ?_)
  · replace h := h.2 c5
    refine wm_return d_TR_settleNamed_24 rfl ?_
    exact ⟨rfl, h⟩
  · replace c5 := Classical.not_not.mp c5
    replace h := h.1 c5
    refine wm_iload_n d_TR_settleNamed_10 rfl rfl ?_
    refine wm_iconst d_TR_settleNamed_11 ?_
    refine wm_icmp_ne (tgt := 25) d_TR_settleNamed_12 rfl hi_l1 ⟨by decide, by decide⟩ (fun c7 => ?_) (fun c7 => ?_)
    · replace h := h.2 c7
      obtain ⟨h48, h⟩ := h
      obtain ⟨h49, h⟩ := h
      obtain ⟨M50, e51⟩ : ∃ M50, M50 = mUI M (mR M a0 2) 7 ((mI M (mR M a0 2) 7) + 1) := ⟨_, rfl⟩
      replace h := h M50 e51
      obtain ⟨h52, h⟩ := h
      obtain ⟨h53, h⟩ := h
      obtain ⟨h54, h⟩ := h
      obtain ⟨h55, h⟩ := h
      obtain ⟨h56, h⟩ := h
      obtain ⟨M57, e58⟩ : ∃ M57, M57 = mUI M50 (mR M50 (mR M50 a0 2) 10) (Int.toNat (mI M (mR M a0 2) 7)) (mI M50 (mR M50 a0 5) 0) := ⟨_, rfl⟩
      replace h := h M57 e58
      refine wm_aload_n d_TR_settleNamed_25 rfl rfl ?_
      refine gf_TR_36 rfl d_TR_settleNamed_26 h1 ?_
      refine gf_TR_129 rfl d_TR_settleNamed_29 h48 ?_
      refine wm_istore_n d_TR_settleNamed_32 rfl (by decide) (L' := [vr a0, vi l1, vi (mI M (mR M a0 2) 7)]) rfl ?_
      refine wm_aload_n d_TR_settleNamed_33 rfl rfl ?_
      refine gf_TR_36 rfl d_TR_settleNamed_34 h1 ?_
      refine wm_dup d_TR_settleNamed_37 rfl ?_
      refine gf_TR_129 rfl d_TR_settleNamed_38 h48 ?_
      refine wm_iconst d_TR_settleNamed_41 ?_
      refine wm_iadd d_TR_settleNamed_42 ?_
      have hOM50 : mOk M50 := by rw [e51]; exact mOk_UI hO h49
      refine pf_TR_129 rfl d_TR_settleNamed_43 h48 h49 e51 ?_
      refine wm_aload_n d_TR_settleNamed_46 rfl rfl ?_
      refine gf_TR_36 rfl d_TR_settleNamed_47 (by rw [e51]; exact h1) ?_
      refine gf_TR_149 rfl d_TR_settleNamed_50 h52 ?_
      refine wm_iload_n d_TR_settleNamed_53 rfl rfl ?_
      refine wm_aload_n d_TR_settleNamed_54 rfl rfl ?_
      refine gf_TR_25 rfl d_TR_settleNamed_55 (by rw [e51]; exact h1) ?_
      refine wm_iconst d_TR_settleNamed_58 ?_
      refine wm_iald d_TR_settleNamed_59 h53 h54 ?_
      have hOM57 : mOk M57 := by rw [e58]; exact mOk_UI hOM50 (hOM50 _ _).1
      refine wm_iastE d_TR_settleNamed_60 h55 h56 (hOM50 _ _).1 e58 ?_
      refine wm_iload_n d_TR_settleNamed_61 rfl rfl ?_
      refine wm_iconst d_TR_settleNamed_62 ?_
      refine wm_icmp_ne (tgt := 115) d_TR_settleNamed_63 rfl hi_l1 ⟨by decide, by decide⟩ (fun c60 => ?_) (fun c60 => ?_)
      · replace h := h.2 c60
        exact h
      · replace c60 := Classical.not_not.mp c60
        replace h := h.1 c60
        obtain ⟨h61, h⟩ := h
        obtain ⟨h62, h⟩ := h
        obtain ⟨h63, h⟩ := h
        obtain ⟨h64, h⟩ := h
        obtain ⟨h65, h⟩ := h
        obtain ⟨h66, h⟩ := h
        obtain ⟨M67, e68⟩ : ∃ M67, M67 = mUI M57 (mR M57 (mR M57 a0 2) 8) (Int.toNat (mI M (mR M a0 2) 7)) (mI M57 (mR M57 (mR M57 a0 1) 6) 0) := ⟨_, rfl⟩
        replace h := h M67 e68
        obtain ⟨h69, h⟩ := h
        obtain ⟨h70, h⟩ := h
        obtain ⟨h71, h⟩ := h
        obtain ⟨h72, h⟩ := h
        obtain ⟨h73, h⟩ := h
        obtain ⟨h74, h⟩ := h
        obtain ⟨M75, e76⟩ : ∃ M75, M75 = mUI M67 (mR M67 (mR M67 a0 2) 9) (Int.toNat (mI M (mR M a0 2) 7)) (mI M67 (mR M67 (mR M67 a0 1) 7) 0) := ⟨_, rfl⟩
        replace h := h M75 e76
        obtain ⟨h77, h⟩ := h
        obtain ⟨h78, h⟩ := h
        obtain ⟨h79, h⟩ := h
        obtain ⟨M80, e81⟩ : ∃ M80, M80 = mUI M75 (mR M75 a0 2) 2 (mI M75 (mR M75 a0 5) 0) := ⟨_, rfl⟩
        replace h := h M80 e81
        refine wm_aload_n d_TR_settleNamed_66 rfl rfl ?_
        refine gf_TR_36 rfl d_TR_settleNamed_67 (by rw [e58, e51]; exact h1) ?_
        refine gf_TR_152 rfl d_TR_settleNamed_70 h61 ?_
        refine wm_iload_n d_TR_settleNamed_73 rfl rfl ?_
        refine wm_aload_n d_TR_settleNamed_74 rfl rfl ?_
        refine gf_TR_21 rfl d_TR_settleNamed_75 (by rw [e58, e51]; exact h1) ?_
        refine gf_TR_155 rfl d_TR_settleNamed_78 h62 ?_
        refine wm_iconst d_TR_settleNamed_81 ?_
        refine wm_iald d_TR_settleNamed_82 h63 h64 ?_
        have hOM67 : mOk M67 := by rw [e68]; exact mOk_UI hOM57 (hOM57 _ _).1
        refine wm_iastE d_TR_settleNamed_83 h65 h66 (hOM57 _ _).1 e68 ?_
        refine wm_aload_n d_TR_settleNamed_84 rfl rfl ?_
        refine gf_TR_36 rfl d_TR_settleNamed_85 (by rw [e68, e58, e51]; exact h1) ?_
        refine gf_TR_156 rfl d_TR_settleNamed_88 h69 ?_
        refine wm_iload_n d_TR_settleNamed_91 rfl rfl ?_
        refine wm_aload_n d_TR_settleNamed_92 rfl rfl ?_
        refine gf_TR_21 rfl d_TR_settleNamed_93 (by rw [e68, e58, e51]; exact h1) ?_
        refine gf_TR_159 rfl d_TR_settleNamed_96 h70 ?_
        refine wm_iconst d_TR_settleNamed_99 ?_
        refine wm_iald d_TR_settleNamed_100 h71 h72 ?_
        have hOM75 : mOk M75 := by rw [e76]; exact mOk_UI hOM67 (hOM67 _ _).1
        refine wm_iastE d_TR_settleNamed_101 h73 h74 (hOM67 _ _).1 e76 ?_
        refine wm_aload_n d_TR_settleNamed_102 rfl rfl ?_
        refine gf_TR_36 rfl d_TR_settleNamed_103 (by rw [e76, e68, e58, e51]; exact h1) ?_
        refine wm_aload_n d_TR_settleNamed_106 rfl rfl ?_
        refine gf_TR_25 rfl d_TR_settleNamed_107 (by rw [e76, e68, e58, e51]; exact h1) ?_
        refine wm_iconst d_TR_settleNamed_110 ?_
        refine wm_iald d_TR_settleNamed_111 h77 h78 ?_
        have hOM80 : mOk M80 := by rw [e81]; exact mOk_UI hOM75 (hOM75 _ _).1
        refine pf_TR_116 rfl d_TR_settleNamed_112 h79 (hOM75 _ _).1 e81 ?_
        exact h
    · replace c7 := Classical.not_not.mp c7
      replace h := h.1 c7
      refine wm_aload_n d_TR_settleNamed_15 rfl rfl ?_
      refine wm_iconst d_TR_settleNamed_16 ?_
      refine wm_iconst d_TR_settleNamed_17 ?_
      refine cf_TR_146 rfl d_TR_settleNamed_18 h1 (Nat.le_of_ble_eq_true rfl) (Ci.mono h (fun x9 M8 h => ?_))
      obtain ⟨h10, hOM8, h⟩ := h
      refine wm_if_ne (tgt := 25) d_TR_settleNamed_21 rfl h10 (fun c12 => ?_) (fun c12 => ?_)
      · replace h := h.2 c12
        obtain ⟨h13, h⟩ := h
        obtain ⟨h14, h⟩ := h
        obtain ⟨h15, h⟩ := h
        obtain ⟨M16, e17⟩ : ∃ M16, M16 = mUI M8 (mR M8 a0 2) 7 ((mI M8 (mR M8 a0 2) 7) + 1) := ⟨_, rfl⟩
        replace h := h M16 e17
        obtain ⟨h18, h⟩ := h
        obtain ⟨h19, h⟩ := h
        obtain ⟨h20, h⟩ := h
        obtain ⟨h21, h⟩ := h
        obtain ⟨h22, h⟩ := h
        obtain ⟨M23, e24⟩ : ∃ M23, M23 = mUI M16 (mR M16 (mR M16 a0 2) 10) (Int.toNat (mI M8 (mR M8 a0 2) 7)) (mI M16 (mR M16 a0 5) 0) := ⟨_, rfl⟩
        replace h := h M23 e24
        refine wm_aload_n d_TR_settleNamed_25 rfl rfl ?_
        refine gf_TR_36 rfl d_TR_settleNamed_26 h13 ?_
        refine gf_TR_129 rfl d_TR_settleNamed_29 h14 ?_
        refine wm_istore_n d_TR_settleNamed_32 rfl (by decide) (L' := [vr a0, vi l1, vi (mI M8 (mR M8 a0 2) 7)]) rfl ?_
        refine wm_aload_n d_TR_settleNamed_33 rfl rfl ?_
        refine gf_TR_36 rfl d_TR_settleNamed_34 h13 ?_
        refine wm_dup d_TR_settleNamed_37 rfl ?_
        refine gf_TR_129 rfl d_TR_settleNamed_38 h14 ?_
        refine wm_iconst d_TR_settleNamed_41 ?_
        refine wm_iadd d_TR_settleNamed_42 ?_
        have hOM16 : mOk M16 := by rw [e17]; exact mOk_UI hOM8 h15
        refine pf_TR_129 rfl d_TR_settleNamed_43 h14 h15 e17 ?_
        refine wm_aload_n d_TR_settleNamed_46 rfl rfl ?_
        refine gf_TR_36 rfl d_TR_settleNamed_47 (by rw [e17]; exact h13) ?_
        refine gf_TR_149 rfl d_TR_settleNamed_50 h18 ?_
        refine wm_iload_n d_TR_settleNamed_53 rfl rfl ?_
        refine wm_aload_n d_TR_settleNamed_54 rfl rfl ?_
        refine gf_TR_25 rfl d_TR_settleNamed_55 (by rw [e17]; exact h13) ?_
        refine wm_iconst d_TR_settleNamed_58 ?_
        refine wm_iald d_TR_settleNamed_59 h19 h20 ?_
        have hOM23 : mOk M23 := by rw [e24]; exact mOk_UI hOM16 (hOM16 _ _).1
        refine wm_iastE d_TR_settleNamed_60 h21 h22 (hOM16 _ _).1 e24 ?_
        refine wm_iload_n d_TR_settleNamed_61 rfl rfl ?_
        refine wm_iconst d_TR_settleNamed_62 ?_
        refine wm_icmp_ne (tgt := 115) d_TR_settleNamed_63 rfl hi_l1 ⟨by decide, by decide⟩ (fun c26 => ?_) (fun c26 => ?_)
        · replace h := h.2 c26
          exact h
        · replace c26 := Classical.not_not.mp c26
          replace h := h.1 c26
          obtain ⟨h27, h⟩ := h
          obtain ⟨h28, h⟩ := h
          obtain ⟨h29, h⟩ := h
          obtain ⟨h30, h⟩ := h
          obtain ⟨h31, h⟩ := h
          obtain ⟨h32, h⟩ := h
          obtain ⟨M33, e34⟩ : ∃ M33, M33 = mUI M23 (mR M23 (mR M23 a0 2) 8) (Int.toNat (mI M8 (mR M8 a0 2) 7)) (mI M23 (mR M23 (mR M23 a0 1) 6) 0) := ⟨_, rfl⟩
          replace h := h M33 e34
          obtain ⟨h35, h⟩ := h
          obtain ⟨h36, h⟩ := h
          obtain ⟨h37, h⟩ := h
          obtain ⟨h38, h⟩ := h
          obtain ⟨h39, h⟩ := h
          obtain ⟨h40, h⟩ := h
          obtain ⟨M41, e42⟩ : ∃ M41, M41 = mUI M33 (mR M33 (mR M33 a0 2) 9) (Int.toNat (mI M8 (mR M8 a0 2) 7)) (mI M33 (mR M33 (mR M33 a0 1) 7) 0) := ⟨_, rfl⟩
          replace h := h M41 e42
          obtain ⟨h43, h⟩ := h
          obtain ⟨h44, h⟩ := h
          obtain ⟨h45, h⟩ := h
          obtain ⟨M46, e47⟩ : ∃ M46, M46 = mUI M41 (mR M41 a0 2) 2 (mI M41 (mR M41 a0 5) 0) := ⟨_, rfl⟩
          replace h := h M46 e47
          refine wm_aload_n d_TR_settleNamed_66 rfl rfl ?_
          refine gf_TR_36 rfl d_TR_settleNamed_67 (by rw [e24, e17]; exact h13) ?_
          refine gf_TR_152 rfl d_TR_settleNamed_70 h27 ?_
          refine wm_iload_n d_TR_settleNamed_73 rfl rfl ?_
          refine wm_aload_n d_TR_settleNamed_74 rfl rfl ?_
          refine gf_TR_21 rfl d_TR_settleNamed_75 (by rw [e24, e17]; exact h13) ?_
          refine gf_TR_155 rfl d_TR_settleNamed_78 h28 ?_
          refine wm_iconst d_TR_settleNamed_81 ?_
          refine wm_iald d_TR_settleNamed_82 h29 h30 ?_
          have hOM33 : mOk M33 := by rw [e34]; exact mOk_UI hOM23 (hOM23 _ _).1
          refine wm_iastE d_TR_settleNamed_83 h31 h32 (hOM23 _ _).1 e34 ?_
          refine wm_aload_n d_TR_settleNamed_84 rfl rfl ?_
          refine gf_TR_36 rfl d_TR_settleNamed_85 (by rw [e34, e24, e17]; exact h13) ?_
          refine gf_TR_156 rfl d_TR_settleNamed_88 h35 ?_
          refine wm_iload_n d_TR_settleNamed_91 rfl rfl ?_
          refine wm_aload_n d_TR_settleNamed_92 rfl rfl ?_
          refine gf_TR_21 rfl d_TR_settleNamed_93 (by rw [e34, e24, e17]; exact h13) ?_
          refine gf_TR_159 rfl d_TR_settleNamed_96 h36 ?_
          refine wm_iconst d_TR_settleNamed_99 ?_
          refine wm_iald d_TR_settleNamed_100 h37 h38 ?_
          have hOM41 : mOk M41 := by rw [e42]; exact mOk_UI hOM33 (hOM33 _ _).1
          refine wm_iastE d_TR_settleNamed_101 h39 h40 (hOM33 _ _).1 e42 ?_
          refine wm_aload_n d_TR_settleNamed_102 rfl rfl ?_
          refine gf_TR_36 rfl d_TR_settleNamed_103 (by rw [e42, e34, e24, e17]; exact h13) ?_
          refine wm_aload_n d_TR_settleNamed_106 rfl rfl ?_
          refine gf_TR_25 rfl d_TR_settleNamed_107 (by rw [e42, e34, e24, e17]; exact h13) ?_
          refine wm_iconst d_TR_settleNamed_110 ?_
          refine wm_iald d_TR_settleNamed_111 h43 h44 ?_
          have hOM46 : mOk M46 := by rw [e47]; exact mOk_UI hOM41 (hOM41 _ _).1
          refine pf_TR_116 rfl d_TR_settleNamed_112 h45 (hOM41 _ _).1 e47 ?_
          exact h
      · replace c12 := Classical.not_not.mp c12
        replace h := h.1 c12
        refine wm_return d_TR_settleNamed_24 rfl ?_
        exact ⟨rfl, h⟩
theorem k_TR_settleNamed_115 {G : mG} {d : Nat} {a0 : Nat} {l1 : Int} {l2 : Int} {M : mM} {Q : mM → Prop} (hO : mOk M) (hi_l1 : i32 l1) (hi_l2 : i32 l2)
    (h : mK M a0 = 3 ∧ mK M (mR M a0 0) = 4 ∧ Cv G y_RR_know d [vr (mR M a0 0), vi (mI M a0 3), vi l1, vi l2, vi (mI M a0 8)] M (fun M84 => mOk M84 ∧ (Q M84))) :
    h_TR_settleNamed_115 G d a0 l1 l2 M Q := by
  unfold h_TR_settleNamed_115
  obtain ⟨h82, h⟩ := h
  obtain ⟨h83, h⟩ := h
  refine wm_aload_n d_TR_settleNamed_115 rfl rfl ?_
  refine gf_TR_12 rfl d_TR_settleNamed_116 h82 ?_
  refine wm_aload_n d_TR_settleNamed_119 rfl rfl ?_
  refine gf_TR_99 rfl d_TR_settleNamed_120 h82 ?_
  refine wm_iload_n d_TR_settleNamed_123 rfl rfl ?_
  refine wm_iload_n d_TR_settleNamed_124 rfl rfl ?_
  refine wm_aload_n d_TR_settleNamed_125 rfl rfl ?_
  refine gf_TR_143 rfl d_TR_settleNamed_126 h82 ?_
  refine cf_TR_160 rfl d_TR_settleNamed_129 h83 (Nat.le_of_ble_eq_true rfl) (Cv.mono h (fun M84 h => ?_))
  obtain ⟨hOM84, h⟩ := h
  refine wm_return d_TR_settleNamed_132 rfl ?_
  exact ⟨rfl, h⟩
theorem d_TR_worksOut_0 : decode y_TR_worksOut.2.1 0 = .ok (.aload_n 0, 1) := dc9_42 (by decide +kernel)
theorem d_TR_worksOut_1 : decode y_TR_worksOut.2.1 1 = .ok (.getfield 21, 3) := dc9_180 (by decide +kernel)
theorem d_TR_worksOut_4 : decode y_TR_worksOut.2.1 4 = .ok (.aload_n 0, 1) := dc9_42 (by decide +kernel)
theorem d_TR_worksOut_5 : decode y_TR_worksOut.2.1 5 = .ok (.getfield 25, 3) := dc9_180 (by decide +kernel)
theorem d_TR_worksOut_8 : decode y_TR_worksOut.2.1 8 = .ok (.iload_n 1, 1) := dc9_27 (by decide +kernel)
theorem d_TR_worksOut_9 : decode y_TR_worksOut.2.1 9 = .ok (.iaload, 1) := dc9_46 (by decide +kernel)
theorem d_TR_worksOut_10 : decode y_TR_worksOut.2.1 10 = .ok (.invokevirtual 164, 3) := dc9_182 (by decide +kernel)
theorem d_TR_worksOut_13 : decode y_TR_worksOut.2.1 13 = .ok (.ifCond .ne 26, 3) := dc9_154 (by decide +kernel)
theorem d_TR_worksOut_16 : decode y_TR_worksOut.2.1 16 = .ok (.aload_n 0, 1) := dc9_42 (by decide +kernel)
theorem d_TR_worksOut_17 : decode y_TR_worksOut.2.1 17 = .ok (.getfield 12, 3) := dc9_180 (by decide +kernel)
theorem d_TR_worksOut_20 : decode y_TR_worksOut.2.1 20 = .ok (.aload_n 0, 1) := dc9_42 (by decide +kernel)
theorem d_TR_worksOut_21 : decode y_TR_worksOut.2.1 21 = .ok (.getfield 21, 3) := dc9_180 (by decide +kernel)
theorem d_TR_worksOut_24 : decode y_TR_worksOut.2.1 24 = .ok (.getfield 167, 3) := dc9_180 (by decide +kernel)
theorem d_TR_worksOut_27 : decode y_TR_worksOut.2.1 27 = .ok (.aload_n 0, 1) := dc9_42 (by decide +kernel)
theorem d_TR_worksOut_28 : decode y_TR_worksOut.2.1 28 = .ok (.getfield 21, 3) := dc9_180 (by decide +kernel)
theorem d_TR_worksOut_31 : decode y_TR_worksOut.2.1 31 = .ok (.getfield 168, 3) := dc9_180 (by decide +kernel)
theorem d_TR_worksOut_39 : decode y_TR_worksOut.2.1 39 = .ok (.iload_n 2, 1) := dc9_28 (by decide +kernel)
theorem d_TR_worksOut_40 : decode y_TR_worksOut.2.1 40 = .ok (.ifCond .eq 33, 3) := dc9_153 (by decide +kernel)
theorem d_TR_worksOut_43 : decode y_TR_worksOut.2.1 43 = .ok (.aload_n 0, 1) := dc9_42 (by decide +kernel)
theorem d_TR_worksOut_44 : decode y_TR_worksOut.2.1 44 = .ok (.getfield 21, 3) := dc9_180 (by decide +kernel)
theorem d_TR_worksOut_47 : decode y_TR_worksOut.2.1 47 = .ok (.getfield 159, 3) := dc9_180 (by decide +kernel)
theorem d_TR_worksOut_50 : decode y_TR_worksOut.2.1 50 = .ok (.iconst 0, 1) := dc9_3 (by decide +kernel)
theorem d_TR_worksOut_51 : decode y_TR_worksOut.2.1 51 = .ok (.iaload, 1) := dc9_46 (by decide +kernel)
theorem d_TR_worksOut_52 : decode y_TR_worksOut.2.1 52 = .ok (.iconst 1, 1) := dc9_4 (by decide +kernel)
theorem d_TR_worksOut_53 : decode y_TR_worksOut.2.1 53 = .ok (.if_icmp .eq 20, 3) := dc9_159 (by decide +kernel)
theorem d_TR_worksOut_56 : decode y_TR_worksOut.2.1 56 = .ok (.aload_n 0, 1) := dc9_42 (by decide +kernel)
theorem d_TR_worksOut_57 : decode y_TR_worksOut.2.1 57 = .ok (.getfield 12, 3) := dc9_180 (by decide +kernel)
theorem d_TR_worksOut_60 : decode y_TR_worksOut.2.1 60 = .ok (.bipush 8, 2) := dc9_16 (by decide +kernel)
theorem d_TR_worksOut_62 : decode y_TR_worksOut.2.1 62 = .ok (.aload_n 0, 1) := dc9_42 (by decide +kernel)
theorem d_TR_worksOut_63 : decode y_TR_worksOut.2.1 63 = .ok (.getfield 29, 3) := dc9_180 (by decide +kernel)
theorem d_TR_worksOut_66 : decode y_TR_worksOut.2.1 66 = .ok (.iload_n 1, 1) := dc9_27 (by decide +kernel)
theorem d_TR_worksOut_67 : decode y_TR_worksOut.2.1 67 = .ok (.iaload, 1) := dc9_46 (by decide +kernel)
theorem d_TR_worksOut_34 : decode y_TR_worksOut.2.1 34 = .ok (.invokevirtual 95, 3) := dc9_182 (by decide +kernel)
theorem d_TR_worksOut_37 : decode y_TR_worksOut.2.1 37 = .ok (.iconst 0, 1) := dc9_3 (by decide +kernel)
theorem d_TR_worksOut_38 : decode y_TR_worksOut.2.1 38 = .ok (.ireturn, 1) := dc9_172 (by decide +kernel)
theorem d_TR_worksOut_73 : decode y_TR_worksOut.2.1 73 = .ok (.iconst 1, 1) := dc9_4 (by decide +kernel)
theorem d_TR_worksOut_74 : decode y_TR_worksOut.2.1 74 = .ok (.ireturn, 1) := dc9_172 (by decide +kernel)
theorem d_TR_worksOut_68 : decode y_TR_worksOut.2.1 68 = .ok (.invokevirtual 95, 3) := dc9_182 (by decide +kernel)
theorem d_TR_worksOut_71 : decode y_TR_worksOut.2.1 71 = .ok (.iconst 0, 1) := dc9_3 (by decide +kernel)
theorem d_TR_worksOut_72 : decode y_TR_worksOut.2.1 72 = .ok (.ireturn, 1) := dc9_172 (by decide +kernel)
theorem k_TR_worksOut {G : mG} {d : Nat} {a0 : Nat} {l1 : Int} {l2 : Int} {M : mM} {Q : Int → mM → Prop} (hO : mOk M) (hi_l1 : i32 l1) (hi_l2 : i32 l2)
    (h : mK M a0 = 3 ∧ mK M (mR M a0 5) = 30 ∧ ((0 : Int) ≤ l1 ∧ l1 < (mN M (mR M a0 5) : Int)) ∧ mK M (mR M a0 1) = 5 ∧ Ci G y_Ma_run d [vr (mR M a0 1), vi (mI M (mR M a0 5) (Int.toNat l1))] M (fun x6 M5 => i32 x6 ∧ mOk M5 ∧ (((x6 = 0) → (mK M5 a0 = 3 ∧ mK M5 (mR M5 a0 1) = 5 ∧ mK M5 (mR M5 a0 0) = 4 ∧ Cv G y_RR_note d [vr (mR M5 a0 0), vi (mI M5 (mR M5 a0 1) 1), vi (mI M5 (mR M5 a0 1) 2)] M5 (fun M19 => mOk M19 ∧ (Q 0 M19)))) ∧ (¬ (x6 = 0) → ((¬ (l2 = 0) → (mK M5 a0 = 3 ∧ mK M5 (mR M5 a0 1) = 5 ∧ mK M5 (mR M5 (mR M5 a0 1) 7) = 30 ∧ ((0 : Int) ≤ 0 ∧ 0 < (mN M5 (mR M5 (mR M5 a0 1) 7) : Int)))) ∧ (((l2 = 0) ∨ (mI M5 (mR M5 (mR M5 a0 1) 7) 0 = 1)) → (Q 1 M5)) ∧ (¬ ((l2 = 0) ∨ (mI M5 (mR M5 (mR M5 a0 1) 7) 0 = 1)) → (mK M5 a0 = 3 ∧ mK M5 (mR M5 a0 6) = 30 ∧ ((0 : Int) ≤ l1 ∧ l1 < (mN M5 (mR M5 a0 6) : Int)) ∧ mK M5 (mR M5 a0 0) = 4 ∧ Cv G y_RR_note d [vr (mR M5 a0 0), vi 8, vi (mI M5 (mR M5 a0 6) (Int.toNat l1))] M5 (fun M35 => mOk M35 ∧ (Q 0 M35))))))))) :
    Ci G y_TR_worksOut (d + 1) [vr a0, vi l1, vi l2] M Q := by
  refine wm_open (y := y_TR_worksOut) rfl (Nat.le_of_ble_eq_true rfl) (L := [vr a0, vi l1, vi l2]) rfl ?_
  obtain ⟨h1, h⟩ := h
  obtain ⟨h2, h⟩ := h
  obtain ⟨h3, h⟩ := h
  obtain ⟨h4, h⟩ := h
  refine wm_aload_n d_TR_worksOut_0 rfl rfl ?_
  refine gf_TR_21 rfl d_TR_worksOut_1 h1 ?_
  refine wm_aload_n d_TR_worksOut_4 rfl rfl ?_
  refine gf_TR_25 rfl d_TR_worksOut_5 h1 ?_
  refine wm_iload_n d_TR_worksOut_8 rfl rfl ?_
  refine wm_iald d_TR_worksOut_9 h2 h3 ?_
  refine cf_TR_164 rfl d_TR_worksOut_10 h4 (Nat.le_of_ble_eq_true rfl) (Ci.mono h (fun x6 M5 h => ?_))
  obtain ⟨h7, hOM5, h⟩ := h
  refine wm_if_ne (tgt := 39) d_TR_worksOut_13 rfl h7 (fun c15 => ?_) (fun c15 => ?_)
  · replace h := h.2 c15
    refine wm_iload_n d_TR_worksOut_39 rfl rfl ?_
    obtain ⟨s28, h⟩ := h
    have hE0 : ((l2 = 0) ∨ (mI M5 (mR M5 (mR M5 a0 1) 7) 0 = 1)) → mWm G y_TR_worksOut (d + 1) 73 [vr a0, vi l1, vi l2] [] M5 (fun r9 M9 => ∃ x9, r9 = some (vi x9) ∧ Q x9 M9) := by
      intro q29
      have h := h.1 q29
      refine wm_iconst d_TR_worksOut_73 ?_
      refine wm_ireturn d_TR_worksOut_74 rfl (m_nb (by decide)) ?_
      exact ⟨_, rfl, h⟩
    have hE1 : ¬ ((l2 = 0) ∨ (mI M5 (mR M5 (mR M5 a0 1) 7) 0 = 1)) → mWm G y_TR_worksOut (d + 1) 56 [vr a0, vi l1, vi l2] [] M5 (fun r9 M9 => ∃ x9, r9 = some (vi x9) ∧ Q x9 M9) := by
      intro q30
      have h := h.2 q30
      obtain ⟨h31, h⟩ := h
      obtain ⟨h32, h⟩ := h
      obtain ⟨h33, h⟩ := h
      obtain ⟨h34, h⟩ := h
      refine wm_aload_n d_TR_worksOut_56 rfl rfl ?_
      refine gf_TR_12 rfl d_TR_worksOut_57 h31 ?_
      refine wm_bipush d_TR_worksOut_60 (by decide) ?_
      refine wm_aload_n d_TR_worksOut_62 rfl rfl ?_
      refine gf_TR_29 rfl d_TR_worksOut_63 h31 ?_
      refine wm_iload_n d_TR_worksOut_66 rfl rfl ?_
      refine wm_iald d_TR_worksOut_67 h32 h33 ?_
      refine cf_TR_95 rfl d_TR_worksOut_68 h34 (Nat.le_of_ble_eq_true rfl) (Cv.mono h (fun M35 h => ?_))
      obtain ⟨hOM35, h⟩ := h
      refine wm_iconst d_TR_worksOut_71 ?_
      refine wm_ireturn d_TR_worksOut_72 rfl (m_nb (by decide)) ?_
      exact ⟨_, rfl, h⟩
    clear h
    have s38 := s28
    refine wm_if_eq (tgt := 73) d_TR_worksOut_40 rfl hi_l2 (fun c27 => ?_) (fun c27 => ?_)
    · exact hE0 (Or.inl c27)
    · have s38 := s38 c27
      obtain ⟨h22, h23, h24, h25⟩ := s38
      refine wm_aload_n d_TR_worksOut_43 rfl rfl ?_
      refine gf_TR_21 rfl d_TR_worksOut_44 h22 ?_
      refine gf_TR_159 rfl d_TR_worksOut_47 h23 ?_
      refine wm_iconst d_TR_worksOut_50 ?_
      refine wm_iald d_TR_worksOut_51 h24 h25 ?_
      refine wm_iconst d_TR_worksOut_52 ?_
      refine wm_icmp_eq (tgt := 73) d_TR_worksOut_53 rfl (hOM5 _ _).1 ⟨by decide, by decide⟩ (fun c26 => ?_) (fun c26 => ?_)
      · exact hE0 (Or.inr c26)
      · exact hE1 (fun z39 => Or.elim z39 c27 c26)
  · replace c15 := Classical.not_not.mp c15
    replace h := h.1 c15
    obtain ⟨h16, h⟩ := h
    obtain ⟨h17, h⟩ := h
    obtain ⟨h18, h⟩ := h
    refine wm_aload_n d_TR_worksOut_16 rfl rfl ?_
    refine gf_TR_12 rfl d_TR_worksOut_17 h16 ?_
    refine wm_aload_n d_TR_worksOut_20 rfl rfl ?_
    refine gf_TR_21 rfl d_TR_worksOut_21 h16 ?_
    refine gf_TR_167 rfl d_TR_worksOut_24 h17 ?_
    refine wm_aload_n d_TR_worksOut_27 rfl rfl ?_
    refine gf_TR_21 rfl d_TR_worksOut_28 h16 ?_
    refine gf_TR_168 rfl d_TR_worksOut_31 h17 ?_
    refine cf_TR_95 rfl d_TR_worksOut_34 h18 (Nat.le_of_ble_eq_true rfl) (Cv.mono h (fun M19 h => ?_))
    obtain ⟨hOM19, h⟩ := h
    refine wm_iconst d_TR_worksOut_37 ?_
    refine wm_ireturn d_TR_worksOut_38 rfl (m_nb (by decide)) ?_
    exact ⟨_, rfl, h⟩
theorem d_TR_readVar_0 : decode y_TR_readVar.2.1 0 = .ok (.aload_n 0, 1) := dc9_42 (by decide +kernel)
theorem d_TR_readVar_1 : decode y_TR_readVar.2.1 1 = .ok (.getfield 12, 3) := dc9_180 (by decide +kernel)
theorem d_TR_readVar_4 : decode y_TR_readVar.2.1 4 = .ok (.iconst 1, 1) := dc9_4 (by decide +kernel)
theorem d_TR_readVar_5 : decode y_TR_readVar.2.1 5 = .ok (.putfield 125, 3) := dc9_181 (by decide +kernel)
theorem d_TR_readVar_8 : decode y_TR_readVar.2.1 8 = .ok (.aload_n 0, 1) := dc9_42 (by decide +kernel)
theorem d_TR_readVar_9 : decode y_TR_readVar.2.1 9 = .ok (.aload_n 0, 1) := dc9_42 (by decide +kernel)
theorem d_TR_readVar_10 : decode y_TR_readVar.2.1 10 = .ok (.getfield 36, 3) := dc9_180 (by decide +kernel)
theorem d_TR_readVar_13 : decode y_TR_readVar.2.1 13 = .ok (.getfield 116, 3) := dc9_180 (by decide +kernel)
theorem d_TR_readVar_16 : decode y_TR_readVar.2.1 16 = .ok (.putfield 169, 3) := dc9_181 (by decide +kernel)
theorem d_TR_readVar_19 : decode y_TR_readVar.2.1 19 = .ok (.aload_n 0, 1) := dc9_42 (by decide +kernel)
theorem d_TR_readVar_20 : decode y_TR_readVar.2.1 20 = .ok (.aload_n 0, 1) := dc9_42 (by decide +kernel)
theorem d_TR_readVar_21 : decode y_TR_readVar.2.1 21 = .ok (.getfield 36, 3) := dc9_180 (by decide +kernel)
theorem d_TR_readVar_24 : decode y_TR_readVar.2.1 24 = .ok (.getfield 172, 3) := dc9_180 (by decide +kernel)
theorem d_TR_readVar_27 : decode y_TR_readVar.2.1 27 = .ok (.bipush 12, 2) := dc9_16 (by decide +kernel)
theorem d_TR_readVar_29 : decode y_TR_readVar.2.1 29 = .ok (.if_icmp .lt 7, 3) := dc9_161 (by decide +kernel)
theorem d_TR_readVar_36 : decode y_TR_readVar.2.1 36 = .ok (.iconst 0, 1) := dc9_3 (by decide +kernel)
theorem d_TR_readVar_32 : decode y_TR_readVar.2.1 32 = .ok (.iconst 1, 1) := dc9_4 (by decide +kernel)
theorem d_TR_readVar_33 : decode y_TR_readVar.2.1 33 = .ok (.goto 4, 3) := dc9_167 (by decide +kernel)
theorem d_TR_readVar_37 : decode y_TR_readVar.2.1 37 = .ok (.invokevirtual 132, 3) := dc9_182 (by decide +kernel)
theorem d_TR_readVar_40 : decode y_TR_readVar.2.1 40 = .ok (.ifCond .eq 15, 3) := dc9_153 (by decide +kernel)
theorem d_TR_readVar_43 : decode y_TR_readVar.2.1 43 = .ok (.aload_n 0, 1) := dc9_42 (by decide +kernel)
theorem d_TR_readVar_44 : decode y_TR_readVar.2.1 44 = .ok (.getfield 12, 3) := dc9_180 (by decide +kernel)
theorem d_TR_readVar_47 : decode y_TR_readVar.2.1 47 = .ok (.bipush 34, 2) := dc9_16 (by decide +kernel)
theorem d_TR_readVar_55 : decode y_TR_readVar.2.1 55 = .ok (.iconst 0, 1) := dc9_3 (by decide +kernel)
theorem d_TR_readVar_56 : decode y_TR_readVar.2.1 56 = .ok (.ireturn, 1) := dc9_172 (by decide +kernel)
theorem d_TR_readVar_49 : decode y_TR_readVar.2.1 49 = .ok (.invokevirtual 102, 3) := dc9_182 (by decide +kernel)
theorem d_TR_readVar_52 : decode y_TR_readVar.2.1 52 = .ok (.ifCond .ne 5, 3) := dc9_154 (by decide +kernel)
theorem d_TR_readVar_57 : decode y_TR_readVar.2.1 57 = .ok (.aload_n 0, 1) := dc9_42 (by decide +kernel)
theorem d_TR_readVar_58 : decode y_TR_readVar.2.1 58 = .ok (.aload_n 0, 1) := dc9_42 (by decide +kernel)
theorem d_TR_readVar_59 : decode y_TR_readVar.2.1 59 = .ok (.getfield 12, 3) := dc9_180 (by decide +kernel)
theorem d_TR_readVar_62 : decode y_TR_readVar.2.1 62 = .ok (.bipush 6, 2) := dc9_16 (by decide +kernel)
theorem d_TR_readVar_64 : decode y_TR_readVar.2.1 64 = .ok (.invokevirtual 102, 3) := dc9_182 (by decide +kernel)
theorem d_TR_readVar_67 : decode y_TR_readVar.2.1 67 = .ok (.putfield 143, 3) := dc9_181 (by decide +kernel)
theorem d_TR_readVar_70 : decode y_TR_readVar.2.1 70 = .ok (.aload_n 0, 1) := dc9_42 (by decide +kernel)
theorem d_TR_readVar_71 : decode y_TR_readVar.2.1 71 = .ok (.getfield 143, 3) := dc9_180 (by decide +kernel)
theorem d_TR_readVar_74 : decode y_TR_readVar.2.1 74 = .ok (.ifCond .ne 35, 3) := dc9_154 (by decide +kernel)
theorem d_TR_readVar_77 : decode y_TR_readVar.2.1 77 = .ok (.aload_n 0, 1) := dc9_42 (by decide +kernel)
theorem d_TR_readVar_78 : decode y_TR_readVar.2.1 78 = .ok (.iconst 0, 1) := dc9_3 (by decide +kernel)
theorem d_TR_readVar_79 : decode y_TR_readVar.2.1 79 = .ok (.iconst 1, 1) := dc9_4 (by decide +kernel)
theorem d_TR_readVar_80 : decode y_TR_readVar.2.1 80 = .ok (.invokevirtual 136, 3) := dc9_182 (by decide +kernel)
theorem d_TR_readVar_83 : decode y_TR_readVar.2.1 83 = .ok (.ifCond .eq 24, 3) := dc9_153 (by decide +kernel)
theorem d_TR_readVar_86 : decode y_TR_readVar.2.1 86 = .ok (.aload_n 0, 1) := dc9_42 (by decide +kernel)
theorem d_TR_readVar_87 : decode y_TR_readVar.2.1 87 = .ok (.getfield 12, 3) := dc9_180 (by decide +kernel)
theorem d_TR_readVar_90 : decode y_TR_readVar.2.1 90 = .ok (.bipush 17, 2) := dc9_16 (by decide +kernel)
theorem d_TR_readVar_107 : decode y_TR_readVar.2.1 107 = .ok (.iconst 0, 1) := dc9_3 (by decide +kernel)
theorem d_TR_readVar_108 : decode y_TR_readVar.2.1 108 = .ok (.ireturn, 1) := dc9_172 (by decide +kernel)
theorem d_TR_readVar_92 : decode y_TR_readVar.2.1 92 = .ok (.invokevirtual 102, 3) := dc9_182 (by decide +kernel)
theorem d_TR_readVar_95 : decode y_TR_readVar.2.1 95 = .ok (.ifCond .eq 12, 3) := dc9_153 (by decide +kernel)
theorem d_TR_readVar_98 : decode y_TR_readVar.2.1 98 = .ok (.aload_n 0, 1) := dc9_42 (by decide +kernel)
theorem d_TR_readVar_99 : decode y_TR_readVar.2.1 99 = .ok (.iconst 1, 1) := dc9_4 (by decide +kernel)
theorem d_TR_readVar_100 : decode y_TR_readVar.2.1 100 = .ok (.iconst 1, 1) := dc9_4 (by decide +kernel)
theorem d_TR_readVar_101 : decode y_TR_readVar.2.1 101 = .ok (.invokevirtual 136, 3) := dc9_182 (by decide +kernel)
theorem d_TR_readVar_104 : decode y_TR_readVar.2.1 104 = .ok (.ifCond .ne 5, 3) := dc9_154 (by decide +kernel)
theorem d_TR_readVar_109 : decode y_TR_readVar.2.1 109 = .ok (.aload_n 0, 1) := dc9_42 (by decide +kernel)
theorem d_TR_readVar_110 : decode y_TR_readVar.2.1 110 = .ok (.aload_n 0, 1) := dc9_42 (by decide +kernel)
theorem d_TR_readVar_111 : decode y_TR_readVar.2.1 111 = .ok (.getfield 12, 3) := dc9_180 (by decide +kernel)
theorem d_TR_readVar_114 : decode y_TR_readVar.2.1 114 = .ok (.bipush 10, 2) := dc9_16 (by decide +kernel)
theorem d_TR_readVar_116 : decode y_TR_readVar.2.1 116 = .ok (.invokevirtual 102, 3) := dc9_182 (by decide +kernel)
theorem d_TR_readVar_119 : decode y_TR_readVar.2.1 119 = .ok (.putfield 175, 3) := dc9_181 (by decide +kernel)
theorem d_TR_readVar_122 : decode y_TR_readVar.2.1 122 = .ok (.aload_n 0, 1) := dc9_42 (by decide +kernel)
theorem d_TR_readVar_123 : decode y_TR_readVar.2.1 123 = .ok (.getfield 175, 3) := dc9_180 (by decide +kernel)
theorem d_TR_readVar_126 : decode y_TR_readVar.2.1 126 = .ok (.ifCond .eq 25, 3) := dc9_153 (by decide +kernel)
theorem d_TR_readVar_129 : decode y_TR_readVar.2.1 129 = .ok (.aload_n 0, 1) := dc9_42 (by decide +kernel)
theorem d_TR_readVar_130 : decode y_TR_readVar.2.1 130 = .ok (.iconst 2, 1) := dc9_5 (by decide +kernel)
theorem d_TR_readVar_131 : decode y_TR_readVar.2.1 131 = .ok (.aload_n 0, 1) := dc9_42 (by decide +kernel)
theorem d_TR_readVar_132 : decode y_TR_readVar.2.1 132 = .ok (.getfield 143, 3) := dc9_180 (by decide +kernel)
theorem d_TR_readVar_151 : decode y_TR_readVar.2.1 151 = .ok (.aload_n 0, 1) := dc9_42 (by decide +kernel)
theorem d_TR_readVar_152 : decode y_TR_readVar.2.1 152 = .ok (.getfield 12, 3) := dc9_180 (by decide +kernel)
theorem d_TR_readVar_155 : decode y_TR_readVar.2.1 155 = .ok (.bipush 35, 2) := dc9_16 (by decide +kernel)
theorem d_TR_readVar_157 : decode y_TR_readVar.2.1 157 = .ok (.invokevirtual 102, 3) := dc9_182 (by decide +kernel)
theorem d_TR_readVar_160 : decode y_TR_readVar.2.1 160 = .ok (.ireturn, 1) := dc9_172 (by decide +kernel)
theorem d_TR_readVar_135 : decode y_TR_readVar.2.1 135 = .ok (.ifCond .eq 7, 3) := dc9_153 (by decide +kernel)
theorem d_TR_readVar_142 : decode y_TR_readVar.2.1 142 = .ok (.iconst 1, 1) := dc9_4 (by decide +kernel)
theorem d_TR_readVar_138 : decode y_TR_readVar.2.1 138 = .ok (.iconst 2, 1) := dc9_5 (by decide +kernel)
theorem d_TR_readVar_139 : decode y_TR_readVar.2.1 139 = .ok (.goto 4, 3) := dc9_167 (by decide +kernel)
theorem d_TR_readVar_143 : decode y_TR_readVar.2.1 143 = .ok (.invokevirtual 136, 3) := dc9_182 (by decide +kernel)
theorem d_TR_readVar_146 : decode y_TR_readVar.2.1 146 = .ok (.ifCond .ne 5, 3) := dc9_154 (by decide +kernel)
theorem d_TR_readVar_149 : decode y_TR_readVar.2.1 149 = .ok (.iconst 0, 1) := dc9_3 (by decide +kernel)
theorem d_TR_readVar_150 : decode y_TR_readVar.2.1 150 = .ok (.ireturn, 1) := dc9_172 (by decide +kernel)
theorem k_TR_readVar {G : mG} {d : Nat} {a0 : Nat} {M : mM} {Q : Int → mM → Prop} (hO : mOk M)
    (h : mK M a0 = 3 ∧ mK M (mR M a0 0) = 4 ∧ ∀ M3, M3 = mUI M (mR M a0 0) 6 1 → mK M3 (mR M3 a0 2) = 6 ∧ ∀ M6, M6 = mUI M3 a0 4 (mI M3 (mR M3 a0 2) 2) → mK M6 (mR M6 a0 2) = 6 ∧ ∀ v10 : Int, v10 = (if (mI M6 (mR M6 a0 2) 3 < 12) then 0 else 1) → Ci G y_TR_readName d [vr a0, vi v10] M6 (fun x16 M15 => i32 x16 ∧ mOk M15 ∧ (((x16 = 0) → (Q 0 M15)) ∧ (¬ (x16 = 0) → (mK M15 a0 = 3 ∧ mK M15 (mR M15 a0 0) = 4 ∧ Ci G y_RR_accept d [vr (mR M15 a0 0), vi 34] M15 (fun x23 M22 => i32 x23 ∧ mOk M22 ∧ (((x23 = 0) → (Q 0 M22)) ∧ (¬ (x23 = 0) → (mK M22 a0 = 3 ∧ mK M22 (mR M22 a0 0) = 4 ∧ Ci G y_RR_accept d [vr (mR M22 a0 0), vi 6] M22 (fun x30 M29 => i32 x30 ∧ mOk M29 ∧ (mK M29 a0 = 3 ∧ (x30 = 0 ∨ x30 = 1) ∧ ∀ M34, M34 = mUI M29 a0 8 x30 → ((mI M34 a0 8 = 0) → (Ci G y_TR_readItemRule d [vr a0, vi 0, vi 1] M34 (fun x39 M38 => i32 x39 ∧ mOk M38 ∧ (((x39 = 0) → (Q 0 M38)) ∧ (¬ (x39 = 0) → (mK M38 a0 = 3 ∧ mK M38 (mR M38 a0 0) = 4 ∧ Ci G y_RR_accept d [vr (mR M38 a0 0), vi 17] M38 (fun x46 M45 => i32 x46 ∧ mOk M45 ∧ (((x46 = 0) → (Q 0 M45)) ∧ (¬ (x46 = 0) → (mK M45 a0 = 3 ∧ Ci G y_TR_readItemRule d [vr a0, vi 1, vi 1] M45 (fun x52 M51 => i32 x52 ∧ mOk M51 ∧ (((x52 = 0) → (Q 0 M51)) ∧ (¬ (x52 = 0) → (mK M51 a0 = 3 ∧ mK M51 (mR M51 a0 0) = 4 ∧ Ci G y_RR_accept d [vr (mR M51 a0 0), vi 10] M51 (fun x59 M58 => i32 x59 ∧ mOk M58 ∧ (mK M58 a0 = 3 ∧ (x59 = 0 ∨ x59 = 1) ∧ ∀ M63, M63 = mUI M58 a0 7 x59 → ((mI M63 a0 7 = 0) → (mK M63 (mR M63 a0 0) = 4 ∧ Ci G y_RR_accept d [vr (mR M63 a0 0), vi 35] M63 (fun x69 M68 => i32 x69 ∧ mOk M68 ∧ ((x69 = 0 ∨ x69 = 1) ∧ Q x69 M68)))) ∧ (¬ (mI M63 a0 7 = 0) → (∀ v73 : Int, v73 = (if (mI M63 a0 8 = 0) then 1 else 2) → Ci G y_TR_readItemRule d [vr a0, vi 2, vi v73] M63 (fun x78 M77 => i32 x78 ∧ mOk M77 ∧ (((x78 = 0) → (Q 0 M77)) ∧ (¬ (x78 = 0) → (mK M77 a0 = 3 ∧ mK M77 (mR M77 a0 0) = 4 ∧ Ci G y_RR_accept d [vr (mR M77 a0 0), vi 35] M77 (fun x85 M84 => i32 x85 ∧ mOk M84 ∧ ((x85 = 0 ∨ x85 = 1) ∧ Q x85 M84)))))))))))))))))))))))) ∧ (¬ (mI M34 a0 8 = 0) → (mK M34 (mR M34 a0 0) = 4 ∧ Ci G y_RR_accept d [vr (mR M34 a0 0), vi 10] M34 (fun x91 M90 => i32 x91 ∧ mOk M90 ∧ (mK M90 a0 = 3 ∧ (x91 = 0 ∨ x91 = 1) ∧ ∀ M95, M95 = mUI M90 a0 7 x91 → ((mI M95 a0 7 = 0) → (mK M95 (mR M95 a0 0) = 4 ∧ Ci G y_RR_accept d [vr (mR M95 a0 0), vi 35] M95 (fun x101 M100 => i32 x101 ∧ mOk M100 ∧ ((x101 = 0 ∨ x101 = 1) ∧ Q x101 M100)))) ∧ (¬ (mI M95 a0 7 = 0) → (∀ v105 : Int, v105 = (if (mI M95 a0 8 = 0) then 1 else 2) → Ci G y_TR_readItemRule d [vr a0, vi 2, vi v105] M95 (fun x110 M109 => i32 x110 ∧ mOk M109 ∧ (((x110 = 0) → (Q 0 M109)) ∧ (¬ (x110 = 0) → (mK M109 a0 = 3 ∧ mK M109 (mR M109 a0 0) = 4 ∧ Ci G y_RR_accept d [vr (mR M109 a0 0), vi 35] M109 (fun x117 M116 => i32 x117 ∧ mOk M116 ∧ ((x117 = 0 ∨ x117 = 1) ∧ Q x117 M116))))))))))))))))))))))) :
    Ci G y_TR_readVar (d + 1) [vr a0] M Q := by
  refine wm_open (y := y_TR_readVar) rfl (Nat.le_of_ble_eq_true rfl) (L := [vr a0]) rfl ?_
  obtain ⟨h1, h⟩ := h
  obtain ⟨h2, h⟩ := h
  obtain ⟨M3, e4⟩ : ∃ M3, M3 = mUI M (mR M a0 0) 6 1 := ⟨_, rfl⟩
  replace h := h M3 e4
  obtain ⟨h5, h⟩ := h
  obtain ⟨M6, e7⟩ : ∃ M6, M6 = mUI M3 a0 4 (mI M3 (mR M3 a0 2) 2) := ⟨_, rfl⟩
  replace h := h M6 e7
  obtain ⟨h8, h⟩ := h
  refine wm_aload_n d_TR_readVar_0 rfl rfl ?_
  refine gf_TR_12 rfl d_TR_readVar_1 h1 ?_
  refine wm_iconst d_TR_readVar_4 ?_
  have hOM3 : mOk M3 := by rw [e4]; exact mOk_UI hO (m_b32 (by decide))
  refine pf_TR_125 rfl d_TR_readVar_5 h2 (by decide) e4 ?_
  refine wm_aload_n d_TR_readVar_8 rfl rfl ?_
  refine wm_aload_n d_TR_readVar_9 rfl rfl ?_
  refine gf_TR_36 rfl d_TR_readVar_10 (by rw [e4]; exact h1) ?_
  refine gf_TR_116 rfl d_TR_readVar_13 h5 ?_
  have hOM6 : mOk M6 := by rw [e7]; exact mOk_UI hOM3 (hOM3 _ _).1
  refine pf_TR_169 rfl d_TR_readVar_16 (by rw [e4]; exact h1) (hOM3 _ _).1 e7 ?_
  refine wm_aload_n d_TR_readVar_19 rfl rfl ?_
  refine wm_aload_n d_TR_readVar_20 rfl rfl ?_
  refine gf_TR_36 rfl d_TR_readVar_21 (by rw [e7, e4]; exact h1) ?_
  refine gf_TR_172 rfl d_TR_readVar_24 h8 ?_
  refine wm_bipush d_TR_readVar_27 (by decide) ?_
  have hJ : ∀ v10 : Int, v10 = (if (mI M6 (mR M6 a0 2) 3 < 12) then 0 else 1) → mWm G y_TR_readVar (d + 1) 37 [vr a0] [vi v10, vr a0] M6 (fun r9 M9 => ∃ x9, r9 = some (vi x9) ∧ Q x9 M9) := by
    intro v10 e12
    have h := h v10 e12
    have h13 : i32 v10 := by rw [e12]; (repeat' split) <;> first | exact ⟨by decide, by decide⟩ | exact ⟨by decide, by decide⟩
    have h14 : (v10 = 0 ∨ v10 = 1) := by rw [e12]; (repeat' split) <;> decide
    refine cf_TR_132 rfl d_TR_readVar_37 (by rw [e7, e4]; exact h1) (Nat.le_of_ble_eq_true rfl) (Ci.mono h (fun x16 M15 h => ?_))
    obtain ⟨h17, hOM15, h⟩ := h
    refine wm_if_eq (tgt := 55) d_TR_readVar_40 rfl h17 (fun c19 => ?_) (fun c19 => ?_)
    · replace h := h.1 c19
      refine wm_iconst d_TR_readVar_55 ?_
      refine wm_ireturn d_TR_readVar_56 rfl (m_nb (by decide)) ?_
      exact ⟨_, rfl, h⟩
    · replace h := h.2 c19
      obtain ⟨h20, h⟩ := h
      obtain ⟨h21, h⟩ := h
      refine wm_aload_n d_TR_readVar_43 rfl rfl ?_
      refine gf_TR_12 rfl d_TR_readVar_44 h20 ?_
      refine wm_bipush d_TR_readVar_47 (by decide) ?_
      refine cf_TR_102 rfl d_TR_readVar_49 h21 (Nat.le_of_ble_eq_true rfl) (Ci.mono h (fun x23 M22 h => ?_))
      obtain ⟨h24, hOM22, h⟩ := h
      refine wm_if_ne (tgt := 57) d_TR_readVar_52 rfl h24 (fun c26 => ?_) (fun c26 => ?_)
      · replace h := h.2 c26
        obtain ⟨h27, h⟩ := h
        obtain ⟨h28, h⟩ := h
        refine wm_aload_n d_TR_readVar_57 rfl rfl ?_
        refine wm_aload_n d_TR_readVar_58 rfl rfl ?_
        refine gf_TR_12 rfl d_TR_readVar_59 h27 ?_
        refine wm_bipush d_TR_readVar_62 (by decide) ?_
        refine cf_TR_102 rfl d_TR_readVar_64 h28 (Nat.le_of_ble_eq_true rfl) (Ci.mono h (fun x30 M29 h => ?_))
        obtain ⟨h31, hOM29, h⟩ := h
        obtain ⟨h32, h⟩ := h
        obtain ⟨h33, h⟩ := h
        obtain ⟨M34, e35⟩ : ∃ M34, M34 = mUI M29 a0 8 x30 := ⟨_, rfl⟩
        replace h := h M34 e35
        have hOM34 : mOk M34 := by rw [e35]; exact mOk_UI hOM29 (m_b32 h33)
        refine pf_TR_143 rfl d_TR_readVar_67 h32 h33 e35 ?_
        refine wm_aload_n d_TR_readVar_70 rfl rfl ?_
        refine gf_TR_143 rfl d_TR_readVar_71 (by rw [e35]; exact h32) ?_
        refine wm_if_ne (tgt := 109) d_TR_readVar_74 rfl (hOM34 _ _).1 (fun c37 => ?_) (fun c37 => ?_)
        · replace h := h.2 c37
          obtain ⟨h89, h⟩ := h
          refine wm_aload_n d_TR_readVar_109 rfl rfl ?_
          refine wm_aload_n d_TR_readVar_110 rfl rfl ?_
          refine gf_TR_12 rfl d_TR_readVar_111 (by rw [e35]; exact h32) ?_
          refine wm_bipush d_TR_readVar_114 (by decide) ?_
          refine cf_TR_102 rfl d_TR_readVar_116 h89 (Nat.le_of_ble_eq_true rfl) (Ci.mono h (fun x91 M90 h => ?_))
          obtain ⟨h92, hOM90, h⟩ := h
          obtain ⟨h93, h⟩ := h
          obtain ⟨h94, h⟩ := h
          obtain ⟨M95, e96⟩ : ∃ M95, M95 = mUI M90 a0 7 x91 := ⟨_, rfl⟩
          replace h := h M95 e96
          have hOM95 : mOk M95 := by rw [e96]; exact mOk_UI hOM90 (m_b32 h94)
          refine pf_TR_175 rfl d_TR_readVar_119 h93 h94 e96 ?_
          refine wm_aload_n d_TR_readVar_122 rfl rfl ?_
          refine gf_TR_175 rfl d_TR_readVar_123 (by rw [e96]; exact h93) ?_
          refine wm_if_eq (tgt := 151) d_TR_readVar_126 rfl (hOM95 _ _).1 (fun c98 => ?_) (fun c98 => ?_)
          · replace h := h.1 c98
            obtain ⟨h99, h⟩ := h
            refine wm_aload_n d_TR_readVar_151 rfl rfl ?_
            refine gf_TR_12 rfl d_TR_readVar_152 (by rw [e96]; exact h93) ?_
            refine wm_bipush d_TR_readVar_155 (by decide) ?_
            refine cf_TR_102 rfl d_TR_readVar_157 h99 (Nat.le_of_ble_eq_true rfl) (Ci.mono h (fun x101 M100 h => ?_))
            obtain ⟨h102, hOM100, h⟩ := h
            obtain ⟨h103, h⟩ := h
            refine wm_ireturn d_TR_readVar_160 rfl (m_nb h103) ?_
            exact ⟨_, rfl, h⟩
          · replace h := h.2 c98
            refine wm_aload_n d_TR_readVar_129 rfl rfl ?_
            refine wm_iconst d_TR_readVar_130 ?_
            refine wm_aload_n d_TR_readVar_131 rfl rfl ?_
            refine gf_TR_143 rfl d_TR_readVar_132 (by rw [e96]; exact h93) ?_
            have hJ : ∀ v105 : Int, v105 = (if (mI M95 a0 8 = 0) then 1 else 2) → mWm G y_TR_readVar (d + 1) 143 [vr a0] [vi v105, vi 2, vr a0] M95 (fun r9 M9 => ∃ x9, r9 = some (vi x9) ∧ Q x9 M9) := by
              intro v105 e107
              have h := h v105 e107
              have h108 : i32 v105 := by rw [e107]; (repeat' split) <;> first | exact ⟨by decide, by decide⟩ | exact ⟨by decide, by decide⟩
              refine cf_TR_136 rfl d_TR_readVar_143 (by rw [e96]; exact h93) (Nat.le_of_ble_eq_true rfl) (Ci.mono h (fun x110 M109 h => ?_))
              obtain ⟨h111, hOM109, h⟩ := h
              refine wm_if_ne (tgt := 151) d_TR_readVar_146 rfl h111 (fun c113 => ?_) (fun c113 => ?_)
              · replace h := h.2 c113
                obtain ⟨h114, h⟩ := h
                obtain ⟨h115, h⟩ := h
                refine wm_aload_n d_TR_readVar_151 rfl rfl ?_
                refine gf_TR_12 rfl d_TR_readVar_152 h114 ?_
                refine wm_bipush d_TR_readVar_155 (by decide) ?_
                refine cf_TR_102 rfl d_TR_readVar_157 h115 (Nat.le_of_ble_eq_true rfl) (Ci.mono h (fun x117 M116 h => ?_))
                obtain ⟨h118, hOM116, h⟩ := h
                obtain ⟨h119, h⟩ := h
                refine wm_ireturn d_TR_readVar_160 rfl (m_nb h119) ?_
                exact ⟨_, rfl, h⟩
              · replace c113 := Classical.not_not.mp c113
                replace h := h.1 c113
                refine wm_iconst d_TR_readVar_149 ?_
                refine wm_ireturn d_TR_readVar_150 rfl (m_nb (by decide)) ?_
                exact ⟨_, rfl, h⟩
            clear h
            refine wm_if_eq (tgt := 142) d_TR_readVar_135 rfl (hOM95 _ _).1 (fun c104 => ?_) (fun c104 => ?_)
            · refine wm_iconst d_TR_readVar_142 ?_
              exact hJ 1 (if_pos c104).symm
            · refine wm_iconst d_TR_readVar_138 ?_
              refine wm_goto (tgt := 143) d_TR_readVar_139 rfl ?_
              exact hJ 2 (if_neg c104).symm
        · replace c37 := Classical.not_not.mp c37
          replace h := h.1 c37
          refine wm_aload_n d_TR_readVar_77 rfl rfl ?_
          refine wm_iconst d_TR_readVar_78 ?_
          refine wm_iconst d_TR_readVar_79 ?_
          refine cf_TR_136 rfl d_TR_readVar_80 (by rw [e35]; exact h32) (Nat.le_of_ble_eq_true rfl) (Ci.mono h (fun x39 M38 h => ?_))
          obtain ⟨h40, hOM38, h⟩ := h
          refine wm_if_eq (tgt := 107) d_TR_readVar_83 rfl h40 (fun c42 => ?_) (fun c42 => ?_)
          · replace h := h.1 c42
            refine wm_iconst d_TR_readVar_107 ?_
            refine wm_ireturn d_TR_readVar_108 rfl (m_nb (by decide)) ?_
            exact ⟨_, rfl, h⟩
          · replace h := h.2 c42
            obtain ⟨h43, h⟩ := h
            obtain ⟨h44, h⟩ := h
            refine wm_aload_n d_TR_readVar_86 rfl rfl ?_
            refine gf_TR_12 rfl d_TR_readVar_87 h43 ?_
            refine wm_bipush d_TR_readVar_90 (by decide) ?_
            refine cf_TR_102 rfl d_TR_readVar_92 h44 (Nat.le_of_ble_eq_true rfl) (Ci.mono h (fun x46 M45 h => ?_))
            obtain ⟨h47, hOM45, h⟩ := h
            refine wm_if_eq (tgt := 107) d_TR_readVar_95 rfl h47 (fun c49 => ?_) (fun c49 => ?_)
            · replace h := h.1 c49
              refine wm_iconst d_TR_readVar_107 ?_
              refine wm_ireturn d_TR_readVar_108 rfl (m_nb (by decide)) ?_
              exact ⟨_, rfl, h⟩
            · replace h := h.2 c49
              obtain ⟨h50, h⟩ := h
              refine wm_aload_n d_TR_readVar_98 rfl rfl ?_
              refine wm_iconst d_TR_readVar_99 ?_
              refine wm_iconst d_TR_readVar_100 ?_
              refine cf_TR_136 rfl d_TR_readVar_101 h50 (Nat.le_of_ble_eq_true rfl) (Ci.mono h (fun x52 M51 h => ?_))
              obtain ⟨h53, hOM51, h⟩ := h
              refine wm_if_ne (tgt := 109) d_TR_readVar_104 rfl h53 (fun c55 => ?_) (fun c55 => ?_)
              · replace h := h.2 c55
                obtain ⟨h56, h⟩ := h
                obtain ⟨h57, h⟩ := h
                refine wm_aload_n d_TR_readVar_109 rfl rfl ?_
                refine wm_aload_n d_TR_readVar_110 rfl rfl ?_
                refine gf_TR_12 rfl d_TR_readVar_111 h56 ?_
                refine wm_bipush d_TR_readVar_114 (by decide) ?_
                refine cf_TR_102 rfl d_TR_readVar_116 h57 (Nat.le_of_ble_eq_true rfl) (Ci.mono h (fun x59 M58 h => ?_))
                obtain ⟨h60, hOM58, h⟩ := h
                obtain ⟨h61, h⟩ := h
                obtain ⟨h62, h⟩ := h
                obtain ⟨M63, e64⟩ : ∃ M63, M63 = mUI M58 a0 7 x59 := ⟨_, rfl⟩
                replace h := h M63 e64
                have hOM63 : mOk M63 := by rw [e64]; exact mOk_UI hOM58 (m_b32 h62)
                refine pf_TR_175 rfl d_TR_readVar_119 h61 h62 e64 ?_
                refine wm_aload_n d_TR_readVar_122 rfl rfl ?_
                refine gf_TR_175 rfl d_TR_readVar_123 (by rw [e64]; exact h61) ?_
                refine wm_if_eq (tgt := 151) d_TR_readVar_126 rfl (hOM63 _ _).1 (fun c66 => ?_) (fun c66 => ?_)
                · replace h := h.1 c66
                  obtain ⟨h67, h⟩ := h
                  refine wm_aload_n d_TR_readVar_151 rfl rfl ?_
                  refine gf_TR_12 rfl d_TR_readVar_152 (by rw [e64]; exact h61) ?_
                  refine wm_bipush d_TR_readVar_155 (by decide) ?_
                  refine cf_TR_102 rfl d_TR_readVar_157 h67 (Nat.le_of_ble_eq_true rfl) (Ci.mono h (fun x69 M68 h => ?_))
                  obtain ⟨h70, hOM68, h⟩ := h
                  obtain ⟨h71, h⟩ := h
                  refine wm_ireturn d_TR_readVar_160 rfl (m_nb h71) ?_
                  exact ⟨_, rfl, h⟩
                · replace h := h.2 c66
                  refine wm_aload_n d_TR_readVar_129 rfl rfl ?_
                  refine wm_iconst d_TR_readVar_130 ?_
                  refine wm_aload_n d_TR_readVar_131 rfl rfl ?_
                  refine gf_TR_143 rfl d_TR_readVar_132 (by rw [e64]; exact h61) ?_
                  have hJ : ∀ v73 : Int, v73 = (if (mI M63 a0 8 = 0) then 1 else 2) → mWm G y_TR_readVar (d + 1) 143 [vr a0] [vi v73, vi 2, vr a0] M63 (fun r9 M9 => ∃ x9, r9 = some (vi x9) ∧ Q x9 M9) := by
                    intro v73 e75
                    have h := h v73 e75
                    have h76 : i32 v73 := by rw [e75]; (repeat' split) <;> first | exact ⟨by decide, by decide⟩ | exact ⟨by decide, by decide⟩
                    refine cf_TR_136 rfl d_TR_readVar_143 (by rw [e64]; exact h61) (Nat.le_of_ble_eq_true rfl) (Ci.mono h (fun x78 M77 h => ?_))
                    obtain ⟨h79, hOM77, h⟩ := h
                    refine wm_if_ne (tgt := 151) d_TR_readVar_146 rfl h79 (fun c81 => ?_) (fun c81 => ?_)
                    · replace h := h.2 c81
                      obtain ⟨h82, h⟩ := h
                      obtain ⟨h83, h⟩ := h
                      refine wm_aload_n d_TR_readVar_151 rfl rfl ?_
                      refine gf_TR_12 rfl d_TR_readVar_152 h82 ?_
                      refine wm_bipush d_TR_readVar_155 (by decide) ?_
                      refine cf_TR_102 rfl d_TR_readVar_157 h83 (Nat.le_of_ble_eq_true rfl) (Ci.mono h (fun x85 M84 h => ?_))
                      obtain ⟨h86, hOM84, h⟩ := h
                      obtain ⟨h87, h⟩ := h
                      refine wm_ireturn d_TR_readVar_160 rfl (m_nb h87) ?_
                      exact ⟨_, rfl, h⟩
                    · replace c81 := Classical.not_not.mp c81
                      replace h := h.1 c81
                      refine wm_iconst d_TR_readVar_149 ?_
                      refine wm_ireturn d_TR_readVar_150 rfl (m_nb (by decide)) ?_
                      exact ⟨_, rfl, h⟩
                  clear h
                  refine wm_if_eq (tgt := 142) d_TR_readVar_135 rfl (hOM63 _ _).1 (fun c72 => ?_) (fun c72 => ?_)
                  · refine wm_iconst d_TR_readVar_142 ?_
                    exact hJ 1 (if_pos c72).symm
                  · refine wm_iconst d_TR_readVar_138 ?_
                    refine wm_goto (tgt := 143) d_TR_readVar_139 rfl ?_
                    exact hJ 2 (if_neg c72).symm
              · replace c55 := Classical.not_not.mp c55
                replace h := h.1 c55
                refine wm_iconst d_TR_readVar_107 ?_
                refine wm_ireturn d_TR_readVar_108 rfl (m_nb (by decide)) ?_
                exact ⟨_, rfl, h⟩
      · replace c26 := Classical.not_not.mp c26
        replace h := h.1 c26
        refine wm_iconst d_TR_readVar_55 ?_
        refine wm_ireturn d_TR_readVar_56 rfl (m_nb (by decide)) ?_
        exact ⟨_, rfl, h⟩
  clear h
  refine wm_icmp_lt (tgt := 36) d_TR_readVar_29 rfl (hOM6 _ _).1 ⟨by decide, by decide⟩ (fun c9 => ?_) (fun c9 => ?_)
  · refine wm_iconst d_TR_readVar_36 ?_
    exact hJ 0 (if_pos c9).symm
  · refine wm_iconst d_TR_readVar_32 ?_
    refine wm_goto (tgt := 37) d_TR_readVar_33 rfl ?_
    exact hJ 1 (if_neg c9).symm
end
