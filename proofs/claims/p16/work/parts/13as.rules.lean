theorem d_RR_takeOperator_0 : decode y_RR_takeOperator.2.1 0 = .ok (.aload_n 0, 1) := by decide +kernel
theorem d_RR_takeOperator_1 : decode y_RR_takeOperator.2.1 1 = .ok (.getfield 40, 3) := by decide +kernel
theorem d_RR_takeOperator_4 : decode y_RR_takeOperator.2.1 4 = .ok (.getfield 69, 3) := by decide +kernel
theorem d_RR_takeOperator_7 : decode y_RR_takeOperator.2.1 7 = .ok (.aload_n 0, 1) := by decide +kernel
theorem d_RR_takeOperator_8 : decode y_RR_takeOperator.2.1 8 = .ok (.getfield 48, 3) := by decide +kernel
theorem d_RR_takeOperator_11 : decode y_RR_takeOperator.2.1 11 = .ok (.iaload, 1) := by decide +kernel
theorem d_RR_takeOperator_12 : decode y_RR_takeOperator.2.1 12 = .ok (.istore_n 2, 1) := by decide +kernel
theorem d_RR_takeOperator_13 : decode y_RR_takeOperator.2.1 13 = .ok (.iload_n 2, 1) := by decide +kernel
theorem d_RR_takeOperator_14 : decode y_RR_takeOperator.2.1 14 = .ok (.invokestatic 132, 3) := by decide +kernel
theorem d_RR_takeOperator_17 : decode y_RR_takeOperator.2.1 17 = .ok (.istore_n 3, 1) := by decide +kernel
theorem d_RR_takeOperator_18 : decode y_RR_takeOperator.2.1 18 = .ok (.iload_n 3, 1) := by decide +kernel
theorem d_RR_takeOperator_19 : decode y_RR_takeOperator.2.1 19 = .ok (.iconst 4, 1) := by decide +kernel
theorem d_RR_takeOperator_20 : decode y_RR_takeOperator.2.1 20 = .ok (.if_icmp .ne 9, 3) := by decide +kernel
theorem d_RR_takeOperator_23 : decode y_RR_takeOperator.2.1 23 = .ok (.iload_n 3, 1) := by decide +kernel
theorem d_RR_takeOperator_24 : decode y_RR_takeOperator.2.1 24 = .ok (.iconst 1, 1) := by decide +kernel
theorem d_RR_takeOperator_25 : decode y_RR_takeOperator.2.1 25 = .ok (.iadd, 1) := by decide +kernel
theorem d_RR_takeOperator_26 : decode y_RR_takeOperator.2.1 26 = .ok (.goto 8, 3) := by decide +kernel
theorem d_RR_takeOperator_29 : decode y_RR_takeOperator.2.1 29 = .ok (.iload_n 3, 1) := by decide +kernel
theorem d_RR_takeOperator_30 : decode y_RR_takeOperator.2.1 30 = .ok (.iconst 1, 1) := by decide +kernel
theorem d_RR_takeOperator_31 : decode y_RR_takeOperator.2.1 31 = .ok (.invokestatic 148, 3) := by decide +kernel
theorem d_RR_takeOperator_34 : decode y_RR_takeOperator.2.1 34 = .ok (.istore 4, 2) := by decide +kernel
theorem d_RR_takeOperator_36 : decode y_RR_takeOperator.2.1 36 = .ok (.aload_n 0, 1) := by decide +kernel
theorem d_RR_takeOperator_37 : decode y_RR_takeOperator.2.1 37 = .ok (.getfield 87, 3) := by decide +kernel
theorem d_RR_takeOperator_40 : decode y_RR_takeOperator.2.1 40 = .ok (.ifCond .le 39, 3) := by decide +kernel
theorem d_RR_takeOperator_43 : decode y_RR_takeOperator.2.1 43 = .ok (.aload_n 0, 1) := by decide +kernel
theorem d_RR_takeOperator_44 : decode y_RR_takeOperator.2.1 44 = .ok (.getfield 11, 3) := by decide +kernel
theorem d_RR_takeOperator_47 : decode y_RR_takeOperator.2.1 47 = .ok (.aload_n 0, 1) := by decide +kernel
theorem d_RR_takeOperator_48 : decode y_RR_takeOperator.2.1 48 = .ok (.getfield 87, 3) := by decide +kernel
theorem d_RR_takeOperator_51 : decode y_RR_takeOperator.2.1 51 = .ok (.iconst 1, 1) := by decide +kernel
theorem d_RR_takeOperator_52 : decode y_RR_takeOperator.2.1 52 = .ok (.isub, 1) := by decide +kernel
theorem d_RR_takeOperator_53 : decode y_RR_takeOperator.2.1 53 = .ok (.iaload, 1) := by decide +kernel
theorem d_RR_takeOperator_79 : decode y_RR_takeOperator.2.1 79 = .ok (.iload_n 3, 1) := by decide +kernel
theorem d_RR_takeOperator_80 : decode y_RR_takeOperator.2.1 80 = .ok (.ifCond .le 10, 3) := by decide +kernel
theorem d_RR_takeOperator_90 : decode y_RR_takeOperator.2.1 90 = .ok (.iload_n 2, 1) := by decide +kernel
theorem d_RR_takeOperator_91 : decode y_RR_takeOperator.2.1 91 = .ok (.bipush 33, 2) := by decide +kernel
theorem d_RR_takeOperator_83 : decode y_RR_takeOperator.2.1 83 = .ok (.aload_n 0, 1) := by decide +kernel
theorem d_RR_takeOperator_84 : decode y_RR_takeOperator.2.1 84 = .ok (.iload_n 2, 1) := by decide +kernel
theorem d_RR_takeOperator_85 : decode y_RR_takeOperator.2.1 85 = .ok (.iload_n 3, 1) := by decide +kernel
theorem d_RR_takeOperator_93 : decode y_RR_takeOperator.2.1 93 = .ok (.if_icmp .ne 19, 3) := by decide +kernel
theorem d_RR_takeOperator_96 : decode y_RR_takeOperator.2.1 96 = .ok (.aload_n 0, 1) := by decide +kernel
theorem d_RR_takeOperator_97 : decode y_RR_takeOperator.2.1 97 = .ok (.getfield 87, 3) := by decide +kernel
theorem d_RR_takeOperator_100 : decode y_RR_takeOperator.2.1 100 = .ok (.ifCond .gt 7, 3) := by decide +kernel
theorem d_RR_takeOperator_103 : decode y_RR_takeOperator.2.1 103 = .ok (.iload_n 1, 1) := by decide +kernel
theorem d_RR_takeOperator_104 : decode y_RR_takeOperator.2.1 104 = .ok (.ifCond .eq 8, 3) := by decide +kernel
theorem d_RR_takeOperator_107 : decode y_RR_takeOperator.2.1 107 = .ok (.aload_n 0, 1) := by decide +kernel
theorem d_RR_takeOperator_108 : decode y_RR_takeOperator.2.1 108 = .ok (.invokevirtual 156, 3) := by decide +kernel
theorem d_RR_takeOperator_111 : decode y_RR_takeOperator.2.1 111 = .ok (.ireturn, 1) := by decide +kernel
theorem d_RR_takeOperator_86 : decode y_RR_takeOperator.2.1 86 = .ok (.invokevirtual 153, 3) := by decide +kernel
theorem d_RR_takeOperator_89 : decode y_RR_takeOperator.2.1 89 = .ok (.ireturn, 1) := by decide +kernel
theorem d_RR_takeOperator_54 : decode y_RR_takeOperator.2.1 54 = .ok (.invokestatic 132, 3) := by decide +kernel
theorem d_RR_takeOperator_57 : decode y_RR_takeOperator.2.1 57 = .ok (.iload 4, 2) := by decide +kernel
theorem d_RR_takeOperator_59 : decode y_RR_takeOperator.2.1 59 = .ok (.if_icmp .lt 20, 3) := by decide +kernel
theorem d_RR_takeOperator_62 : decode y_RR_takeOperator.2.1 62 = .ok (.aload_n 0, 1) := by decide +kernel
theorem d_RR_takeOperator_63 : decode y_RR_takeOperator.2.1 63 = .ok (.dup, 1) := by decide +kernel
theorem d_RR_takeOperator_64 : decode y_RR_takeOperator.2.1 64 = .ok (.getfield 87, 3) := by decide +kernel
theorem d_RR_takeOperator_67 : decode y_RR_takeOperator.2.1 67 = .ok (.iconst 1, 1) := by decide +kernel
theorem d_RR_takeOperator_68 : decode y_RR_takeOperator.2.1 68 = .ok (.isub, 1) := by decide +kernel
theorem d_RR_takeOperator_69 : decode y_RR_takeOperator.2.1 69 = .ok (.putfield 87, 3) := by decide +kernel
theorem d_RR_takeOperator_72 : decode y_RR_takeOperator.2.1 72 = .ok (.aload_n 0, 1) := by decide +kernel
theorem d_RR_takeOperator_73 : decode y_RR_takeOperator.2.1 73 = .ok (.invokevirtual 107, 3) := by decide +kernel
theorem d_RR_takeOperator_76 : decode y_RR_takeOperator.2.1 76 = .ok (.goto (-40), 3) := by decide +kernel
theorem d_RR_takeOperator_112 : decode y_RR_takeOperator.2.1 112 = .ok (.aload_n 0, 1) := by decide +kernel
theorem d_RR_takeOperator_113 : decode y_RR_takeOperator.2.1 113 = .ok (.getfield 87, 3) := by decide +kernel
theorem d_RR_takeOperator_116 : decode y_RR_takeOperator.2.1 116 = .ok (.ifCond .le 36, 3) := by decide +kernel
theorem d_RR_takeOperator_119 : decode y_RR_takeOperator.2.1 119 = .ok (.aload_n 0, 1) := by decide +kernel
theorem d_RR_takeOperator_120 : decode y_RR_takeOperator.2.1 120 = .ok (.getfield 11, 3) := by decide +kernel
theorem d_RR_takeOperator_123 : decode y_RR_takeOperator.2.1 123 = .ok (.aload_n 0, 1) := by decide +kernel
theorem d_RR_takeOperator_124 : decode y_RR_takeOperator.2.1 124 = .ok (.getfield 87, 3) := by decide +kernel
theorem d_RR_takeOperator_127 : decode y_RR_takeOperator.2.1 127 = .ok (.iconst 1, 1) := by decide +kernel
theorem d_RR_takeOperator_128 : decode y_RR_takeOperator.2.1 128 = .ok (.isub, 1) := by decide +kernel
theorem d_RR_takeOperator_129 : decode y_RR_takeOperator.2.1 129 = .ok (.iaload, 1) := by decide +kernel
theorem d_RR_takeOperator_130 : decode y_RR_takeOperator.2.1 130 = .ok (.bipush 42, 2) := by decide +kernel
theorem d_RR_takeOperator_132 : decode y_RR_takeOperator.2.1 132 = .ok (.if_icmp .ne 20, 3) := by decide +kernel
theorem d_RR_takeOperator_135 : decode y_RR_takeOperator.2.1 135 = .ok (.aload_n 0, 1) := by decide +kernel
theorem d_RR_takeOperator_136 : decode y_RR_takeOperator.2.1 136 = .ok (.dup, 1) := by decide +kernel
theorem d_RR_takeOperator_137 : decode y_RR_takeOperator.2.1 137 = .ok (.getfield 87, 3) := by decide +kernel
theorem d_RR_takeOperator_140 : decode y_RR_takeOperator.2.1 140 = .ok (.iconst 1, 1) := by decide +kernel
theorem d_RR_takeOperator_141 : decode y_RR_takeOperator.2.1 141 = .ok (.isub, 1) := by decide +kernel
theorem d_RR_takeOperator_142 : decode y_RR_takeOperator.2.1 142 = .ok (.putfield 87, 3) := by decide +kernel
theorem d_RR_takeOperator_145 : decode y_RR_takeOperator.2.1 145 = .ok (.aload_n 0, 1) := by decide +kernel
theorem d_RR_takeOperator_152 : decode y_RR_takeOperator.2.1 152 = .ok (.aload_n 0, 1) := by decide +kernel
theorem d_RR_takeOperator_153 : decode y_RR_takeOperator.2.1 153 = .ok (.getfield 87, 3) := by decide +kernel
theorem d_RR_takeOperator_156 : decode y_RR_takeOperator.2.1 156 = .ok (.ifCond .ne 7, 3) := by decide +kernel
theorem d_RR_takeOperator_159 : decode y_RR_takeOperator.2.1 159 = .ok (.iconst 1, 1) := by decide +kernel
theorem d_RR_takeOperator_160 : decode y_RR_takeOperator.2.1 160 = .ok (.goto 14, 3) := by decide +kernel
theorem d_RR_takeOperator_163 : decode y_RR_takeOperator.2.1 163 = .ok (.aload_n 0, 1) := by decide +kernel
theorem d_RR_takeOperator_164 : decode y_RR_takeOperator.2.1 164 = .ok (.iload_n 2, 1) := by decide +kernel
theorem d_RR_takeOperator_165 : decode y_RR_takeOperator.2.1 165 = .ok (.aload_n 0, 1) := by decide +kernel
theorem d_RR_takeOperator_166 : decode y_RR_takeOperator.2.1 166 = .ok (.getfield 87, 3) := by decide +kernel
theorem d_RR_takeOperator_169 : decode y_RR_takeOperator.2.1 169 = .ok (.iconst 1, 1) := by decide +kernel
theorem d_RR_takeOperator_170 : decode y_RR_takeOperator.2.1 170 = .ok (.isub, 1) := by decide +kernel
theorem d_RR_takeOperator_174 : decode y_RR_takeOperator.2.1 174 = .ok (.ireturn, 1) := by decide +kernel
theorem d_RR_takeOperator_171 : decode y_RR_takeOperator.2.1 171 = .ok (.invokevirtual 159, 3) := by decide +kernel
theorem d_RR_takeOperator_146 : decode y_RR_takeOperator.2.1 146 = .ok (.invokevirtual 107, 3) := by decide +kernel
theorem d_RR_takeOperator_149 : decode y_RR_takeOperator.2.1 149 = .ok (.goto (-37), 3) := by decide +kernel
def h_RR_takeOperator_36 (G : mG) (d : Nat) (a0 : Nat) (l1 : Int) (l2 : Int) (l3 : Int) (l4 : Int) (M : mM) (Q : Int → mM → Prop) : Prop := mWm G y_RR_takeOperator (d + 1) 36 [vr a0, vi l1, vi l2, vi l3, vi l4] [] M (fun r9 M9 => ∃ x9, r9 = some (vi x9) ∧ Q x9 M9)
def h_RR_takeOperator_112 (G : mG) (d : Nat) (a0 : Nat) (l2 : Int) (M : mM) (Q : Int → mM → Prop) : Prop := mWm G y_RR_takeOperator (d + 1) 112 [vr a0, vd, vi l2, vd, vd] [] M (fun r9 M9 => ∃ x9, r9 = some (vi x9) ∧ Q x9 M9)
theorem k_RR_takeOperator {G : mG} {d : Nat} {a0 : Nat} {l1 : Int} {M : mM} {Q : Int → mM → Prop} (hO : mOk M) (hi_l1 : i32 l1)
    (h : mK M a0 = 4 ∧ mK M (mR M a0 0) = 2 ∧ mK M (mR M (mR M a0 0) 3) = 30 ∧ ((0 : Int) ≤ mI M a0 2 ∧ mI M a0 2 < (mN M (mR M (mR M a0 0) 3) : Int)) ∧ Ci G y_RR_level d [vi (mI M (mR M (mR M a0 0) 3) (Int.toNat (mI M a0 2)))] M (fun x6 M5 => i32 x6 ∧ mOk M5 ∧ (∀ v9 : Int, v9 = (if (x6 = 4) then x6 + 1 else (if x6 < 1 then 1 else x6)) → h_RR_takeOperator_36 G d a0 l1 (mI M (mR M (mR M a0 0) 3) (Int.toNat (mI M a0 2))) x6 v9 M5 Q))) :
    Ci G y_RR_takeOperator (d + 1) [vr a0, vi l1] M Q := by
  refine wm_open (y := y_RR_takeOperator) rfl (Nat.le_of_ble_eq_true rfl) (L := [vr a0, vi l1, vd, vd, vd]) rfl ?_
  obtain ⟨h1, h⟩ := h
  obtain ⟨h2, h⟩ := h
  obtain ⟨h3, h⟩ := h
  obtain ⟨h4, h⟩ := h
  refine wm_aload_n d_RR_takeOperator_0 rfl rfl ?_
  refine gf_RR_40 rfl d_RR_takeOperator_1 h1 ?_
  refine gf_RR_69 rfl d_RR_takeOperator_4 h2 ?_
  refine wm_aload_n d_RR_takeOperator_7 rfl rfl ?_
  refine gf_RR_48 rfl d_RR_takeOperator_8 h1 ?_
  refine wm_iald d_RR_takeOperator_11 h3 h4 ?_
  refine wm_istore_n d_RR_takeOperator_12 rfl (by decide) (L' := [vr a0, vi l1, vi (mI M (mR M (mR M a0 0) 3) (Int.toNat (mI M a0 2))), vd, vd]) rfl ?_
  refine wm_iload_n d_RR_takeOperator_13 rfl rfl ?_
  refine cf_RR_132 rfl d_RR_takeOperator_14 (Nat.le_of_ble_eq_true rfl) (Ci.mono h (fun x6 M5 h => ?_))
  obtain ⟨h7, hOM5, h⟩ := h
  refine wm_istore_n d_RR_takeOperator_17 rfl (by decide) (L' := [vr a0, vi l1, vi (mI M (mR M (mR M a0 0) 3) (Int.toNat (mI M a0 2))), vi x6, vd]) rfl ?_
  refine wm_iload_n d_RR_takeOperator_18 rfl rfl ?_
  refine wm_iconst d_RR_takeOperator_19 ?_
  have hJ : ∀ v9 : Int, v9 = (if (x6 = 4) then x6 + 1 else (if x6 < 1 then 1 else x6)) → mWm G y_RR_takeOperator (d + 1) 34 [vr a0, vi l1, vi (mI M (mR M (mR M a0 0) 3) (Int.toNat (mI M a0 2))), vi x6, vd] [vi v9] M5 (fun r9 M9 => ∃ x9, r9 = some (vi x9) ∧ Q x9 M9) := by
    intro v9 e11
    have h := h v9 e11
    refine wm_istore d_RR_takeOperator_34 (by decide) (L' := [vr a0, vi l1, vi (mI M (mR M (mR M a0 0) 3) (Int.toNat (mI M a0 2))), vi x6, vi v9]) rfl ?_
    exact h
  clear h
  refine wm_icmp_ne (tgt := 29) d_RR_takeOperator_20 rfl h7 ⟨by decide, by decide⟩ (fun c8 => ?_) (fun c8 => ?_)
  · refine wm_iload_n d_RR_takeOperator_29 rfl rfl ?_
    refine wm_iconst d_RR_takeOperator_30 ?_
    refine wm_mmax k4_219 (Nat.le_of_ble_eq_true rfl) h7 ⟨by decide, by decide⟩ d_RR_takeOperator_31 ?_
    exact hJ (if x6 < 1 then 1 else x6) (if_neg c8).symm
  · replace c8 := Classical.not_not.mp c8
    refine wm_iload_n d_RR_takeOperator_23 rfl rfl ?_
    refine wm_iconst d_RR_takeOperator_24 ?_
    refine wm_iadd d_RR_takeOperator_25 ?_
    refine wm_goto (tgt := 34) d_RR_takeOperator_26 rfl ?_
    exact hJ (x6 + 1) (if_pos c8).symm
theorem k_RR_takeOperator_36 {G : mG} {d : Nat} {a0 : Nat} {l1 : Int} {l2 : Int} {l3 : Int} {l4 : Int} {M : mM} {Q : Int → mM → Prop} (hO : mOk M) (hi_l1 : i32 l1) (hi_l2 : i32 l2) (hi_l3 : i32 l3) (hi_l4 : i32 l4)
    (h : mK M a0 = 4 ∧ ((mI M a0 12 ≤ 0) → (((l3 ≤ 0) → ((((l2 = 33) ∧ ((0 < mI M a0 12) ∨ (¬ (l1 = 0)))) → (Ci G y_RR_takeAsk d [vr a0] M (fun x27 M26 => i32 x27 ∧ mOk M26 ∧ (Q x27 M26)))) ∧ (¬ ((l2 = 33) ∧ ((0 < mI M a0 12) ∨ (¬ (l1 = 0)))) → (h_RR_takeOperator_112 G d a0 l2 M Q)))) ∧ (¬ (l3 ≤ 0) → (Ci G y_RR_takeSign d [vr a0, vi l2, vi l3] M (fun x35 M34 => i32 x35 ∧ mOk M34 ∧ (Q x35 M34)))))) ∧ (¬ (mI M a0 12 ≤ 0) → (mK M (mR M a0 8) = 30 ∧ ((0 : Int) ≤ (mI M a0 12) - 1 ∧ (mI M a0 12) - 1 < (mN M (mR M a0 8) : Int)) ∧ Ci G y_RR_level d [vi (mI M (mR M a0 8) (Int.toNat ((mI M a0 12) - 1)))] M (fun x40 M39 => i32 x40 ∧ mOk M39 ∧ (((x40 < l4) → (((l3 ≤ 0) → (((l2 = 33) → mK M39 a0 = 4) ∧ (((l2 = 33) ∧ ((0 < mI M39 a0 12) ∨ (¬ (l1 = 0)))) → (mK M39 a0 = 4 ∧ Ci G y_RR_takeAsk d [vr a0] M39 (fun x58 M57 => i32 x58 ∧ mOk M57 ∧ (Q x58 M57)))) ∧ (¬ ((l2 = 33) ∧ ((0 < mI M39 a0 12) ∨ (¬ (l1 = 0)))) → (h_RR_takeOperator_112 G d a0 l2 M39 Q)))) ∧ (¬ (l3 ≤ 0) → (mK M39 a0 = 4 ∧ Ci G y_RR_takeSign d [vr a0, vi l2, vi l3] M39 (fun x68 M67 => i32 x68 ∧ mOk M67 ∧ (Q x68 M67)))))) ∧ (¬ (x40 < l4) → (mK M39 a0 = 4 ∧ i32 ((mI M39 a0 12) - 1) ∧ ∀ M72, M72 = mUI M39 a0 12 ((mI M39 a0 12) - 1) → Cv G y_RR_group d [vr a0] M72 (fun M74 => mOk M74 ∧ (h_RR_takeOperator_36 G d a0 l1 l2 l3 l4 M74 Q))))))))) :
    h_RR_takeOperator_36 G d a0 l1 l2 l3 l4 M Q := by
  unfold h_RR_takeOperator_36
  obtain ⟨h13, h⟩ := h
  refine wm_aload_n d_RR_takeOperator_36 rfl rfl ?_
  refine gf_RR_87 rfl d_RR_takeOperator_37 h13 ?_
  refine wm_if_le (tgt := 79) d_RR_takeOperator_40 rfl (hO _ _).1 (fun c15 => ?_) (fun c15 => ?_)
  · replace h := h.1 c15
    refine wm_iload_n d_RR_takeOperator_79 rfl rfl ?_
    refine wm_if_le (tgt := 90) d_RR_takeOperator_80 rfl hi_l3 (fun c20 => ?_) (fun c20 => ?_)
    · replace h := h.1 c20
      refine wm_iload_n d_RR_takeOperator_90 rfl rfl ?_
      refine wm_bipush d_RR_takeOperator_91 (by decide) ?_
      have hE0 : ((l2 = 33) ∧ ((0 < mI M a0 12) ∨ (¬ (l1 = 0)))) → mWm G y_RR_takeOperator (d + 1) 107 [vr a0, vi l1, vi l2, vi l3, vi l4] [] M (fun r9 M9 => ∃ x9, r9 = some (vi x9) ∧ Q x9 M9) := by
        intro q25
        have h := h.1 q25
        refine wm_aload_n d_RR_takeOperator_107 rfl rfl ?_
        refine cf_RR_156 rfl d_RR_takeOperator_108 h13 (Nat.le_of_ble_eq_true rfl) (Ci.mono h (fun x27 M26 h => ?_))
        obtain ⟨h28, hOM26, h⟩ := h
        refine wm_ireturn d_RR_takeOperator_111 rfl rfl ?_
        exact ⟨_, rfl, h⟩
      have hE1 : ¬ ((l2 = 33) ∧ ((0 < mI M a0 12) ∨ (¬ (l1 = 0)))) → mWm G y_RR_takeOperator (d + 1) 112 [vr a0, vi l1, vi l2, vi l3, vi l4] [] M (fun r9 M9 => ∃ x9, r9 = some (vi x9) ∧ Q x9 M9) := by
        intro q29
        have h := h.2 q29
        refine wm_less (L' := [vr a0, vd, vi l2, vd, vd]) ⟨Or.inr rfl, Or.inl rfl, Or.inr rfl, Or.inl rfl, Or.inl rfl, trivial⟩ ?_
        exact h
      clear h
      refine wm_icmp_ne (tgt := 112) d_RR_takeOperator_93 rfl hi_l2 ⟨by decide, by decide⟩ (fun c23 => ?_) (fun c23 => ?_)
      · exact hE1 (fun z33 => c23 z33.1)
      · replace c23 := Classical.not_not.mp c23
        refine wm_aload_n d_RR_takeOperator_96 rfl rfl ?_
        refine gf_RR_87 rfl d_RR_takeOperator_97 h13 ?_
        refine wm_if_gt (tgt := 107) d_RR_takeOperator_100 rfl (hO _ _).1 (fun c22 => ?_) (fun c22 => ?_)
        · exact hE0 ⟨c23, (Or.inl c22)⟩
        · refine wm_iload_n d_RR_takeOperator_103 rfl rfl ?_
          refine wm_if_eq (tgt := 112) d_RR_takeOperator_104 rfl hi_l1 (fun c21 => ?_) (fun c21 => ?_)
          · exact hE1 (fun z30 => (fun z31 => Or.elim z31 c22 (fun z32 => z32 c21)) z30.2)
          · exact hE0 ⟨c23, (Or.inr c21)⟩
    · replace h := h.2 c20
      refine wm_aload_n d_RR_takeOperator_83 rfl rfl ?_
      refine wm_iload_n d_RR_takeOperator_84 rfl rfl ?_
      refine wm_iload_n d_RR_takeOperator_85 rfl rfl ?_
      refine cf_RR_153 rfl d_RR_takeOperator_86 h13 (Nat.le_of_ble_eq_true rfl) (Ci.mono h (fun x35 M34 h => ?_))
      obtain ⟨h36, hOM34, h⟩ := h
      refine wm_ireturn d_RR_takeOperator_89 rfl rfl ?_
      exact ⟨_, rfl, h⟩
  · replace h := h.2 c15
    obtain ⟨h37, h⟩ := h
    obtain ⟨h38, h⟩ := h
    refine wm_aload_n d_RR_takeOperator_43 rfl rfl ?_
    refine gf_RR_11 rfl d_RR_takeOperator_44 h13 ?_
    refine wm_aload_n d_RR_takeOperator_47 rfl rfl ?_
    refine gf_RR_87 rfl d_RR_takeOperator_48 h13 ?_
    refine wm_iconst d_RR_takeOperator_51 ?_
    refine wm_isub d_RR_takeOperator_52 ?_
    refine wm_iald d_RR_takeOperator_53 h37 h38 ?_
    refine cf_RR_132 rfl d_RR_takeOperator_54 (Nat.le_of_ble_eq_true rfl) (Ci.mono h (fun x40 M39 h => ?_))
    obtain ⟨h41, hOM39, h⟩ := h
    refine wm_iload d_RR_takeOperator_57 rfl ?_
    refine wm_icmp_lt (tgt := 79) d_RR_takeOperator_59 rfl h41 hi_l4 (fun c43 => ?_) (fun c43 => ?_)
    · replace h := h.1 c43
      refine wm_iload_n d_RR_takeOperator_79 rfl rfl ?_
      refine wm_if_le (tgt := 90) d_RR_takeOperator_80 rfl hi_l3 (fun c49 => ?_) (fun c49 => ?_)
      · replace h := h.1 c49
        refine wm_iload_n d_RR_takeOperator_90 rfl rfl ?_
        refine wm_bipush d_RR_takeOperator_91 (by decide) ?_
        obtain ⟨s54, h⟩ := h
        have hE0 : ((l2 = 33) ∧ ((0 < mI M39 a0 12) ∨ (¬ (l1 = 0)))) → mWm G y_RR_takeOperator (d + 1) 107 [vr a0, vi l1, vi l2, vi l3, vi l4] [] M39 (fun r9 M9 => ∃ x9, r9 = some (vi x9) ∧ Q x9 M9) := by
          intro q55
          have h := h.1 q55
          obtain ⟨h56, h⟩ := h
          refine wm_aload_n d_RR_takeOperator_107 rfl rfl ?_
          refine cf_RR_156 rfl d_RR_takeOperator_108 h56 (Nat.le_of_ble_eq_true rfl) (Ci.mono h (fun x58 M57 h => ?_))
          obtain ⟨h59, hOM57, h⟩ := h
          refine wm_ireturn d_RR_takeOperator_111 rfl rfl ?_
          exact ⟨_, rfl, h⟩
        have hE1 : ¬ ((l2 = 33) ∧ ((0 < mI M39 a0 12) ∨ (¬ (l1 = 0)))) → mWm G y_RR_takeOperator (d + 1) 112 [vr a0, vi l1, vi l2, vi l3, vi l4] [] M39 (fun r9 M9 => ∃ x9, r9 = some (vi x9) ∧ Q x9 M9) := by
          intro q60
          have h := h.2 q60
          refine wm_less (L' := [vr a0, vd, vi l2, vd, vd]) ⟨Or.inr rfl, Or.inl rfl, Or.inr rfl, Or.inl rfl, Or.inl rfl, trivial⟩ ?_
          exact h
        clear h
        have s61 := s54
        refine wm_icmp_ne (tgt := 112) d_RR_takeOperator_93 rfl hi_l2 ⟨by decide, by decide⟩ (fun c53 => ?_) (fun c53 => ?_)
        · exact hE1 (fun z65 => c53 z65.1)
        · replace c53 := Classical.not_not.mp c53
          have s61 := s61 c53
          have h50 := s61
          refine wm_aload_n d_RR_takeOperator_96 rfl rfl ?_
          refine gf_RR_87 rfl d_RR_takeOperator_97 h50 ?_
          refine wm_if_gt (tgt := 107) d_RR_takeOperator_100 rfl (hOM39 _ _).1 (fun c52 => ?_) (fun c52 => ?_)
          · exact hE0 ⟨c53, (Or.inl c52)⟩
          · refine wm_iload_n d_RR_takeOperator_103 rfl rfl ?_
            refine wm_if_eq (tgt := 112) d_RR_takeOperator_104 rfl hi_l1 (fun c51 => ?_) (fun c51 => ?_)
            · exact hE1 (fun z62 => (fun z63 => Or.elim z63 c52 (fun z64 => z64 c51)) z62.2)
            · exact hE0 ⟨c53, (Or.inr c51)⟩
      · replace h := h.2 c49
        obtain ⟨h66, h⟩ := h
        refine wm_aload_n d_RR_takeOperator_83 rfl rfl ?_
        refine wm_iload_n d_RR_takeOperator_84 rfl rfl ?_
        refine wm_iload_n d_RR_takeOperator_85 rfl rfl ?_
        refine cf_RR_153 rfl d_RR_takeOperator_86 h66 (Nat.le_of_ble_eq_true rfl) (Ci.mono h (fun x68 M67 h => ?_))
        obtain ⟨h69, hOM67, h⟩ := h
        refine wm_ireturn d_RR_takeOperator_89 rfl rfl ?_
        exact ⟨_, rfl, h⟩
    · replace h := h.2 c43
      obtain ⟨h70, h⟩ := h
      obtain ⟨h71, h⟩ := h
      obtain ⟨M72, e73⟩ : ∃ M72, M72 = mUI M39 a0 12 ((mI M39 a0 12) - 1) := ⟨_, rfl⟩
      replace h := h M72 e73
      refine wm_aload_n d_RR_takeOperator_62 rfl rfl ?_
      refine wm_dup d_RR_takeOperator_63 rfl ?_
      refine gf_RR_87 rfl d_RR_takeOperator_64 h70 ?_
      refine wm_iconst d_RR_takeOperator_67 ?_
      refine wm_isub d_RR_takeOperator_68 ?_
      have hOM72 : mOk M72 := by rw [e73]; exact mOk_UI hOM39 h71
      refine pf_RR_87 rfl d_RR_takeOperator_69 h70 h71 e73 ?_
      refine wm_aload_n d_RR_takeOperator_72 rfl rfl ?_
      refine cf_RR_107 rfl d_RR_takeOperator_73 (by rw [e73]; exact h70) (Nat.le_of_ble_eq_true rfl) (Cv.mono h (fun M74 h => ?_))
      obtain ⟨hOM74, h⟩ := h
      refine wm_goto (tgt := 36) d_RR_takeOperator_76 rfl ?_
      exact h
theorem k_RR_takeOperator_112 {G : mG} {d : Nat} {a0 : Nat} {l2 : Int} {M : mM} {Q : Int → mM → Prop} (hO : mOk M) (hi_l2 : i32 l2)
    (h : mK M a0 = 4 ∧ (¬ (mI M a0 12 ≤ 0) → (mK M (mR M a0 8) = 30 ∧ ((0 : Int) ≤ (mI M a0 12) - 1 ∧ (mI M a0 12) - 1 < (mN M (mR M a0 8) : Int)))) ∧ (((mI M a0 12 ≤ 0) ∨ (¬ (mI M (mR M a0 8) (Int.toNat ((mI M a0 12) - 1)) = 42))) → (((mI M a0 12 = 0) → (Q 1 M)) ∧ (¬ (mI M a0 12 = 0) → (Ci G y_RR_closeInner d [vr a0, vi l2, vi ((mI M a0 12) - 1)] M (fun x88 M87 => i32 x88 ∧ mOk M87 ∧ (Q x88 M87)))))) ∧ (¬ ((mI M a0 12 ≤ 0) ∨ (¬ (mI M (mR M a0 8) (Int.toNat ((mI M a0 12) - 1)) = 42))) → (i32 ((mI M a0 12) - 1) ∧ ∀ M92, M92 = mUI M a0 12 ((mI M a0 12) - 1) → Cv G y_RR_group d [vr a0] M92 (fun M94 => mOk M94 ∧ (h_RR_takeOperator_112 G d a0 l2 M94 Q))))) :
    h_RR_takeOperator_112 G d a0 l2 M Q := by
  unfold h_RR_takeOperator_112
  obtain ⟨h77, h⟩ := h
  refine wm_aload_n d_RR_takeOperator_112 rfl rfl ?_
  refine gf_RR_87 rfl d_RR_takeOperator_113 h77 ?_
  obtain ⟨s82, h⟩ := h
  have hE0 : ((mI M a0 12 ≤ 0) ∨ (¬ (mI M (mR M a0 8) (Int.toNat ((mI M a0 12) - 1)) = 42))) → mWm G y_RR_takeOperator (d + 1) 152 [vr a0, vd, vi l2, vd, vd] [] M (fun r9 M9 => ∃ x9, r9 = some (vi x9) ∧ Q x9 M9) := by
    intro q83
    have h := h.1 q83
    refine wm_aload_n d_RR_takeOperator_152 rfl rfl ?_
    refine gf_RR_87 rfl d_RR_takeOperator_153 h77 ?_
    refine wm_if_ne (tgt := 163) d_RR_takeOperator_156 rfl (hO _ _).1 (fun c86 => ?_) (fun c86 => ?_)
    · replace h := h.2 c86
      refine wm_aload_n d_RR_takeOperator_163 rfl rfl ?_
      refine wm_iload_n d_RR_takeOperator_164 rfl rfl ?_
      refine wm_aload_n d_RR_takeOperator_165 rfl rfl ?_
      refine gf_RR_87 rfl d_RR_takeOperator_166 h77 ?_
      refine wm_iconst d_RR_takeOperator_169 ?_
      refine wm_isub d_RR_takeOperator_170 ?_
      refine cf_RR_159 rfl d_RR_takeOperator_171 h77 (Nat.le_of_ble_eq_true rfl) (Ci.mono h (fun x88 M87 h => ?_))
      obtain ⟨h89, hOM87, h⟩ := h
      refine wm_ireturn d_RR_takeOperator_174 rfl rfl ?_
      exact ⟨_, rfl, h⟩
    · replace c86 := Classical.not_not.mp c86
      replace h := h.1 c86
      refine wm_iconst d_RR_takeOperator_159 ?_
      refine wm_goto (tgt := 174) d_RR_takeOperator_160 rfl ?_
      refine wm_ireturn d_RR_takeOperator_174 rfl rfl ?_
      exact ⟨_, rfl, h⟩
  have hE1 : ¬ ((mI M a0 12 ≤ 0) ∨ (¬ (mI M (mR M a0 8) (Int.toNat ((mI M a0 12) - 1)) = 42))) → mWm G y_RR_takeOperator (d + 1) 135 [vr a0, vd, vi l2, vd, vd] [] M (fun r9 M9 => ∃ x9, r9 = some (vi x9) ∧ Q x9 M9) := by
    intro q90
    have h := h.2 q90
    obtain ⟨h91, h⟩ := h
    obtain ⟨M92, e93⟩ : ∃ M92, M92 = mUI M a0 12 ((mI M a0 12) - 1) := ⟨_, rfl⟩
    replace h := h M92 e93
    refine wm_aload_n d_RR_takeOperator_135 rfl rfl ?_
    refine wm_dup d_RR_takeOperator_136 rfl ?_
    refine gf_RR_87 rfl d_RR_takeOperator_137 h77 ?_
    refine wm_iconst d_RR_takeOperator_140 ?_
    refine wm_isub d_RR_takeOperator_141 ?_
    have hOM92 : mOk M92 := by rw [e93]; exact mOk_UI hO h91
    refine pf_RR_87 rfl d_RR_takeOperator_142 h77 h91 e93 ?_
    refine wm_aload_n d_RR_takeOperator_145 rfl rfl ?_
    refine cf_RR_107 rfl d_RR_takeOperator_146 (by rw [e93]; exact h77) (Nat.le_of_ble_eq_true rfl) (Cv.mono h (fun M94 h => ?_))
    obtain ⟨hOM94, h⟩ := h
    refine wm_goto (tgt := 112) d_RR_takeOperator_149 rfl ?_
    exact h
  clear h
  have s97 := s82
  refine wm_if_le (tgt := 152) d_RR_takeOperator_116 rfl (hO _ _).1 (fun c81 => ?_) (fun c81 => ?_)
  · exact hE0 (Or.inl c81)
  · have s97 := s97 c81
    obtain ⟨h78, h79⟩ := s97
    refine wm_aload_n d_RR_takeOperator_119 rfl rfl ?_
    refine gf_RR_11 rfl d_RR_takeOperator_120 h77 ?_
    refine wm_aload_n d_RR_takeOperator_123 rfl rfl ?_
    refine gf_RR_87 rfl d_RR_takeOperator_124 h77 ?_
    refine wm_iconst d_RR_takeOperator_127 ?_
    refine wm_isub d_RR_takeOperator_128 ?_
    refine wm_iald d_RR_takeOperator_129 h78 h79 ?_
    refine wm_bipush d_RR_takeOperator_130 (by decide) ?_
    refine wm_icmp_ne (tgt := 152) d_RR_takeOperator_132 rfl (hO _ _).1 ⟨by decide, by decide⟩ (fun c80 => ?_) (fun c80 => ?_)
    · exact hE0 (Or.inr c80)
    · replace c80 := Classical.not_not.mp c80
      exact hE1 (fun z98 => Or.elim z98 c81 (fun z99 => z99 c80))
theorem d_RR_takeSign_0 : decode y_RR_takeSign.2.1 0 = .ok (.iload_n 2, 1) := by decide +kernel
theorem d_RR_takeSign_1 : decode y_RR_takeSign.2.1 1 = .ok (.iconst 4, 1) := by decide +kernel
theorem d_RR_takeSign_2 : decode y_RR_takeSign.2.1 2 = .ok (.if_icmp .ne 30, 3) := by decide +kernel
theorem d_RR_takeSign_5 : decode y_RR_takeSign.2.1 5 = .ok (.aload_n 0, 1) := by decide +kernel
theorem d_RR_takeSign_6 : decode y_RR_takeSign.2.1 6 = .ok (.getfield 87, 3) := by decide +kernel
theorem d_RR_takeSign_9 : decode y_RR_takeSign.2.1 9 = .ok (.ifCond .le 23, 3) := by decide +kernel
theorem d_RR_takeSign_12 : decode y_RR_takeSign.2.1 12 = .ok (.aload_n 0, 1) := by decide +kernel
theorem d_RR_takeSign_13 : decode y_RR_takeSign.2.1 13 = .ok (.getfield 11, 3) := by decide +kernel
theorem d_RR_takeSign_16 : decode y_RR_takeSign.2.1 16 = .ok (.aload_n 0, 1) := by decide +kernel
theorem d_RR_takeSign_17 : decode y_RR_takeSign.2.1 17 = .ok (.getfield 87, 3) := by decide +kernel
theorem d_RR_takeSign_20 : decode y_RR_takeSign.2.1 20 = .ok (.iconst 1, 1) := by decide +kernel
theorem d_RR_takeSign_21 : decode y_RR_takeSign.2.1 21 = .ok (.isub, 1) := by decide +kernel
theorem d_RR_takeSign_22 : decode y_RR_takeSign.2.1 22 = .ok (.iaload, 1) := by decide +kernel
theorem d_RR_takeSign_32 : decode y_RR_takeSign.2.1 32 = .ok (.aload_n 0, 1) := by decide +kernel
theorem d_RR_takeSign_33 : decode y_RR_takeSign.2.1 33 = .ok (.iload_n 1, 1) := by decide +kernel
theorem d_RR_takeSign_34 : decode y_RR_takeSign.2.1 34 = .ok (.aload_n 0, 1) := by decide +kernel
theorem d_RR_takeSign_35 : decode y_RR_takeSign.2.1 35 = .ok (.invokevirtual 83, 3) := by decide +kernel
theorem d_RR_takeSign_38 : decode y_RR_takeSign.2.1 38 = .ok (.iload_n 1, 1) := by decide +kernel
theorem d_RR_takeSign_39 : decode y_RR_takeSign.2.1 39 = .ok (.bipush 30, 2) := by decide +kernel
theorem d_RR_takeSign_41 : decode y_RR_takeSign.2.1 41 = .ok (.if_icmp .eq 9, 3) := by decide +kernel
theorem d_RR_takeSign_50 : decode y_RR_takeSign.2.1 50 = .ok (.aload_n 0, 1) := by decide +kernel
theorem d_RR_takeSign_51 : decode y_RR_takeSign.2.1 51 = .ok (.getfield 44, 3) := by decide +kernel
theorem d_RR_takeSign_54 : decode y_RR_takeSign.2.1 54 = .ok (.iload_n 1, 1) := by decide +kernel
theorem d_RR_takeSign_55 : decode y_RR_takeSign.2.1 55 = .ok (.iconst 0, 1) := by decide +kernel
theorem d_RR_takeSign_44 : decode y_RR_takeSign.2.1 44 = .ok (.iload_n 1, 1) := by decide +kernel
theorem d_RR_takeSign_45 : decode y_RR_takeSign.2.1 45 = .ok (.bipush 31, 2) := by decide +kernel
theorem d_RR_takeSign_47 : decode y_RR_takeSign.2.1 47 = .ok (.if_icmp .ne 15, 3) := by decide +kernel
theorem d_RR_takeSign_62 : decode y_RR_takeSign.2.1 62 = .ok (.iconst (-1), 1) := by decide +kernel
theorem d_RR_takeSign_56 : decode y_RR_takeSign.2.1 56 = .ok (.invokevirtual 135, 3) := by decide +kernel
theorem d_RR_takeSign_59 : decode y_RR_takeSign.2.1 59 = .ok (.goto 4, 3) := by decide +kernel
theorem d_RR_takeSign_63 : decode y_RR_takeSign.2.1 63 = .ok (.invokevirtual 144, 3) := by decide +kernel
theorem d_RR_takeSign_66 : decode y_RR_takeSign.2.1 66 = .ok (.iconst 0, 1) := by decide +kernel
theorem d_RR_takeSign_67 : decode y_RR_takeSign.2.1 67 = .ok (.ireturn, 1) := by decide +kernel
theorem d_RR_takeSign_23 : decode y_RR_takeSign.2.1 23 = .ok (.invokestatic 132, 3) := by decide +kernel
theorem d_RR_takeSign_26 : decode y_RR_takeSign.2.1 26 = .ok (.iconst 4, 1) := by decide +kernel
theorem d_RR_takeSign_27 : decode y_RR_takeSign.2.1 27 = .ok (.if_icmp .ne 5, 3) := by decide +kernel
theorem d_RR_takeSign_30 : decode y_RR_takeSign.2.1 30 = .ok (.iconst 2, 1) := by decide +kernel
theorem d_RR_takeSign_31 : decode y_RR_takeSign.2.1 31 = .ok (.ireturn, 1) := by decide +kernel
theorem k_RR_takeSign {G : mG} {d : Nat} {a0 : Nat} {l1 : Int} {l2 : Int} {M : mM} {Q : Int → mM → Prop} (hO : mOk M) (hi_l1 : i32 l1) (hi_l2 : i32 l2)
    (h : ((l2 = 4) → mK M a0 = 4) ∧ (((¬ (l2 = 4)) ∨ (mI M a0 12 ≤ 0)) → (mK M a0 = 4 ∧ Ci G y_RR_here d [vr a0] M (fun x8 M7 => i32 x8 ∧ mOk M7 ∧ ((((l1 = 30) ∨ (l1 = 31)) → (mK M7 a0 = 4 ∧ mK M7 (mR M7 a0 1) = 6 ∧ Ci G y_Pr_add d [vr (mR M7 a0 1), vi l1, vi 0] M7 (fun x19 M18 => i32 x19 ∧ mOk M18 ∧ (mK M18 a0 = 4 ∧ Cv G y_RR_push d [vr a0, vi l1, vi x8, vi x19] M18 (fun M22 => mOk M22 ∧ (Q 0 M22)))))) ∧ (¬ ((l1 = 30) ∨ (l1 = 31)) → (mK M7 a0 = 4 ∧ Cv G y_RR_push d [vr a0, vi l1, vi x8, vi (-1)] M7 (fun M27 => mOk M27 ∧ (Q 0 M27)))))))) ∧ (¬ ((¬ (l2 = 4)) ∨ (mI M a0 12 ≤ 0)) → (mK M a0 = 4 ∧ mK M (mR M a0 8) = 30 ∧ ((0 : Int) ≤ (mI M a0 12) - 1 ∧ (mI M a0 12) - 1 < (mN M (mR M a0 8) : Int)) ∧ Ci G y_RR_level d [vi (mI M (mR M a0 8) (Int.toNat ((mI M a0 12) - 1)))] M (fun x37 M36 => i32 x37 ∧ mOk M36 ∧ (((x37 = 4) → (Q 2 M36)) ∧ (¬ (x37 = 4) → (mK M36 a0 = 4 ∧ Ci G y_RR_here d [vr a0] M36 (fun x43 M42 => i32 x43 ∧ mOk M42 ∧ ((((l1 = 30) ∨ (l1 = 31)) → (mK M42 a0 = 4 ∧ mK M42 (mR M42 a0 1) = 6 ∧ Ci G y_Pr_add d [vr (mR M42 a0 1), vi l1, vi 0] M42 (fun x54 M53 => i32 x54 ∧ mOk M53 ∧ (mK M53 a0 = 4 ∧ Cv G y_RR_push d [vr a0, vi l1, vi x43, vi x54] M53 (fun M57 => mOk M57 ∧ (Q 0 M57)))))) ∧ (¬ ((l1 = 30) ∨ (l1 = 31)) → (mK M42 a0 = 4 ∧ Cv G y_RR_push d [vr a0, vi l1, vi x43, vi (-1)] M42 (fun M62 => mOk M62 ∧ (Q 0 M62))))))))))))) :
    Ci G y_RR_takeSign (d + 1) [vr a0, vi l1, vi l2] M Q := by
  refine wm_open (y := y_RR_takeSign) rfl (Nat.le_of_ble_eq_true rfl) (L := [vr a0, vi l1, vi l2]) rfl ?_
  refine wm_iload_n d_RR_takeSign_0 rfl rfl ?_
  refine wm_iconst d_RR_takeSign_1 ?_
  obtain ⟨s4, h⟩ := h
  have hE0 : ((¬ (l2 = 4)) ∨ (mI M a0 12 ≤ 0)) → mWm G y_RR_takeSign (d + 1) 32 [vr a0, vi l1, vi l2] [] M (fun r9 M9 => ∃ x9, r9 = some (vi x9) ∧ Q x9 M9) := by
    intro q5
    have h := h.1 q5
    obtain ⟨h6, h⟩ := h
    refine wm_aload_n d_RR_takeSign_32 rfl rfl ?_
    refine wm_iload_n d_RR_takeSign_33 rfl rfl ?_
    refine wm_aload_n d_RR_takeSign_34 rfl rfl ?_
    refine cf_RR_83 rfl d_RR_takeSign_35 h6 (Nat.le_of_ble_eq_true rfl) (Ci.mono h (fun x8 M7 h => ?_))
    obtain ⟨h9, hOM7, h⟩ := h
    refine wm_iload_n d_RR_takeSign_38 rfl rfl ?_
    refine wm_bipush d_RR_takeSign_39 (by decide) ?_
    have hE0 : ((l1 = 30) ∨ (l1 = 31)) → mWm G y_RR_takeSign (d + 1) 50 [vr a0, vi l1, vi l2] [vi x8, vi l1, vr a0] M7 (fun r9 M9 => ∃ x9, r9 = some (vi x9) ∧ Q x9 M9) := by
      intro q15
      have h := h.1 q15
      obtain ⟨h16, h⟩ := h
      obtain ⟨h17, h⟩ := h
      refine wm_aload_n d_RR_takeSign_50 rfl rfl ?_
      refine gf_RR_44 rfl d_RR_takeSign_51 h16 ?_
      refine wm_iload_n d_RR_takeSign_54 rfl rfl ?_
      refine wm_iconst d_RR_takeSign_55 ?_
      refine cf_RR_135 rfl d_RR_takeSign_56 h17 (Nat.le_of_ble_eq_true rfl) (Ci.mono h (fun x19 M18 h => ?_))
      obtain ⟨h20, hOM18, h⟩ := h
      obtain ⟨h21, h⟩ := h
      refine wm_goto (tgt := 63) d_RR_takeSign_59 rfl ?_
      refine cf_RR_144 rfl d_RR_takeSign_63 h21 (Nat.le_of_ble_eq_true rfl) (Cv.mono h (fun M22 h => ?_))
      obtain ⟨hOM22, h⟩ := h
      refine wm_iconst d_RR_takeSign_66 ?_
      refine wm_ireturn d_RR_takeSign_67 rfl rfl ?_
      exact ⟨_, rfl, h⟩
    have hE1 : ¬ ((l1 = 30) ∨ (l1 = 31)) → mWm G y_RR_takeSign (d + 1) 62 [vr a0, vi l1, vi l2] [vi x8, vi l1, vr a0] M7 (fun r9 M9 => ∃ x9, r9 = some (vi x9) ∧ Q x9 M9) := by
      intro q25
      have h := h.2 q25
      obtain ⟨h26, h⟩ := h
      refine wm_iconst d_RR_takeSign_62 ?_
      refine cf_RR_144 rfl d_RR_takeSign_63 h26 (Nat.le_of_ble_eq_true rfl) (Cv.mono h (fun M27 h => ?_))
      obtain ⟨hOM27, h⟩ := h
      refine wm_iconst d_RR_takeSign_66 ?_
      refine wm_ireturn d_RR_takeSign_67 rfl rfl ?_
      exact ⟨_, rfl, h⟩
    clear h
    refine wm_icmp_eq (tgt := 50) d_RR_takeSign_41 rfl hi_l1 ⟨by decide, by decide⟩ (fun c13 => ?_) (fun c13 => ?_)
    · exact hE0 (Or.inl c13)
    · refine wm_iload_n d_RR_takeSign_44 rfl rfl ?_
      refine wm_bipush d_RR_takeSign_45 (by decide) ?_
      refine wm_icmp_ne (tgt := 62) d_RR_takeSign_47 rfl hi_l1 ⟨by decide, by decide⟩ (fun c12 => ?_) (fun c12 => ?_)
      · exact hE1 (fun z30 => Or.elim z30 c13 c12)
      · replace c12 := Classical.not_not.mp c12
        exact hE0 (Or.inr c12)
  have hE1 : ¬ ((¬ (l2 = 4)) ∨ (mI M a0 12 ≤ 0)) → mWm G y_RR_takeSign (d + 1) 12 [vr a0, vi l1, vi l2] [] M (fun r9 M9 => ∃ x9, r9 = some (vi x9) ∧ Q x9 M9) := by
    intro q32
    have h := h.2 q32
    obtain ⟨h33, h⟩ := h
    obtain ⟨h34, h⟩ := h
    obtain ⟨h35, h⟩ := h
    refine wm_aload_n d_RR_takeSign_12 rfl rfl ?_
    refine gf_RR_11 rfl d_RR_takeSign_13 h33 ?_
    refine wm_aload_n d_RR_takeSign_16 rfl rfl ?_
    refine gf_RR_87 rfl d_RR_takeSign_17 h33 ?_
    refine wm_iconst d_RR_takeSign_20 ?_
    refine wm_isub d_RR_takeSign_21 ?_
    refine wm_iald d_RR_takeSign_22 h34 h35 ?_
    refine cf_RR_132 rfl d_RR_takeSign_23 (Nat.le_of_ble_eq_true rfl) (Ci.mono h (fun x37 M36 h => ?_))
    obtain ⟨h38, hOM36, h⟩ := h
    refine wm_iconst d_RR_takeSign_26 ?_
    refine wm_icmp_ne (tgt := 32) d_RR_takeSign_27 rfl h38 ⟨by decide, by decide⟩ (fun c40 => ?_) (fun c40 => ?_)
    · replace h := h.2 c40
      obtain ⟨h41, h⟩ := h
      refine wm_aload_n d_RR_takeSign_32 rfl rfl ?_
      refine wm_iload_n d_RR_takeSign_33 rfl rfl ?_
      refine wm_aload_n d_RR_takeSign_34 rfl rfl ?_
      refine cf_RR_83 rfl d_RR_takeSign_35 h41 (Nat.le_of_ble_eq_true rfl) (Ci.mono h (fun x43 M42 h => ?_))
      obtain ⟨h44, hOM42, h⟩ := h
      refine wm_iload_n d_RR_takeSign_38 rfl rfl ?_
      refine wm_bipush d_RR_takeSign_39 (by decide) ?_
      have hE0 : ((l1 = 30) ∨ (l1 = 31)) → mWm G y_RR_takeSign (d + 1) 50 [vr a0, vi l1, vi l2] [vi x43, vi l1, vr a0] M42 (fun r9 M9 => ∃ x9, r9 = some (vi x9) ∧ Q x9 M9) := by
        intro q50
        have h := h.1 q50
        obtain ⟨h51, h⟩ := h
        obtain ⟨h52, h⟩ := h
        refine wm_aload_n d_RR_takeSign_50 rfl rfl ?_
        refine gf_RR_44 rfl d_RR_takeSign_51 h51 ?_
        refine wm_iload_n d_RR_takeSign_54 rfl rfl ?_
        refine wm_iconst d_RR_takeSign_55 ?_
        refine cf_RR_135 rfl d_RR_takeSign_56 h52 (Nat.le_of_ble_eq_true rfl) (Ci.mono h (fun x54 M53 h => ?_))
        obtain ⟨h55, hOM53, h⟩ := h
        obtain ⟨h56, h⟩ := h
        refine wm_goto (tgt := 63) d_RR_takeSign_59 rfl ?_
        refine cf_RR_144 rfl d_RR_takeSign_63 h56 (Nat.le_of_ble_eq_true rfl) (Cv.mono h (fun M57 h => ?_))
        obtain ⟨hOM57, h⟩ := h
        refine wm_iconst d_RR_takeSign_66 ?_
        refine wm_ireturn d_RR_takeSign_67 rfl rfl ?_
        exact ⟨_, rfl, h⟩
      have hE1 : ¬ ((l1 = 30) ∨ (l1 = 31)) → mWm G y_RR_takeSign (d + 1) 62 [vr a0, vi l1, vi l2] [vi x43, vi l1, vr a0] M42 (fun r9 M9 => ∃ x9, r9 = some (vi x9) ∧ Q x9 M9) := by
        intro q60
        have h := h.2 q60
        obtain ⟨h61, h⟩ := h
        refine wm_iconst d_RR_takeSign_62 ?_
        refine cf_RR_144 rfl d_RR_takeSign_63 h61 (Nat.le_of_ble_eq_true rfl) (Cv.mono h (fun M62 h => ?_))
        obtain ⟨hOM62, h⟩ := h
        refine wm_iconst d_RR_takeSign_66 ?_
        refine wm_ireturn d_RR_takeSign_67 rfl rfl ?_
        exact ⟨_, rfl, h⟩
      clear h
      refine wm_icmp_eq (tgt := 50) d_RR_takeSign_41 rfl hi_l1 ⟨by decide, by decide⟩ (fun c48 => ?_) (fun c48 => ?_)
      · exact hE0 (Or.inl c48)
      · refine wm_iload_n d_RR_takeSign_44 rfl rfl ?_
        refine wm_bipush d_RR_takeSign_45 (by decide) ?_
        refine wm_icmp_ne (tgt := 62) d_RR_takeSign_47 rfl hi_l1 ⟨by decide, by decide⟩ (fun c47 => ?_) (fun c47 => ?_)
        · exact hE1 (fun z65 => Or.elim z65 c48 c47)
        · replace c47 := Classical.not_not.mp c47
          exact hE0 (Or.inr c47)
    · replace c40 := Classical.not_not.mp c40
      replace h := h.1 c40
      refine wm_iconst d_RR_takeSign_30 ?_
      refine wm_ireturn d_RR_takeSign_31 rfl rfl ?_
      exact ⟨_, rfl, h⟩
  clear h
  have s67 := s4
  refine wm_icmp_ne (tgt := 32) d_RR_takeSign_2 rfl hi_l2 ⟨by decide, by decide⟩ (fun c3 => ?_) (fun c3 => ?_)
  · exact hE0 (Or.inl c3)
  · replace c3 := Classical.not_not.mp c3
    have s67 := s67 c3
    have h1 := s67
    refine wm_aload_n d_RR_takeSign_5 rfl rfl ?_
    refine gf_RR_87 rfl d_RR_takeSign_6 h1 ?_
    refine wm_if_le (tgt := 32) d_RR_takeSign_9 rfl (hO _ _).1 (fun c2 => ?_) (fun c2 => ?_)
    · exact hE0 (Or.inr c2)
    · exact hE1 (fun z68 => Or.elim z68 (fun w => w c3) c2)
theorem d_RR_takeAsk_0 : decode y_RR_takeAsk.2.1 0 = .ok (.aload_n 0, 1) := by decide +kernel
theorem d_RR_takeAsk_1 : decode y_RR_takeAsk.2.1 1 = .ok (.getfield 58, 3) := by decide +kernel
theorem d_RR_takeAsk_4 : decode y_RR_takeAsk.2.1 4 = .ok (.bipush 40, 2) := by decide +kernel
theorem d_RR_takeAsk_6 : decode y_RR_takeAsk.2.1 6 = .ok (.if_icmp .ge 13, 3) := by decide +kernel
theorem d_RR_takeAsk_9 : decode y_RR_takeAsk.2.1 9 = .ok (.aload_n 0, 1) := by decide +kernel
theorem d_RR_takeAsk_10 : decode y_RR_takeAsk.2.1 10 = .ok (.getfield 87, 3) := by decide +kernel
theorem d_RR_takeAsk_13 : decode y_RR_takeAsk.2.1 13 = .ok (.sipush 336, 3) := by decide +kernel
theorem d_RR_takeAsk_16 : decode y_RR_takeAsk.2.1 16 = .ok (.if_icmp .lt 5, 3) := by decide +kernel
theorem d_RR_takeAsk_21 : decode y_RR_takeAsk.2.1 21 = .ok (.aload_n 0, 1) := by decide +kernel
theorem d_RR_takeAsk_22 : decode y_RR_takeAsk.2.1 22 = .ok (.dup, 1) := by decide +kernel
theorem d_RR_takeAsk_23 : decode y_RR_takeAsk.2.1 23 = .ok (.getfield 58, 3) := by decide +kernel
theorem d_RR_takeAsk_26 : decode y_RR_takeAsk.2.1 26 = .ok (.iconst 1, 1) := by decide +kernel
theorem d_RR_takeAsk_27 : decode y_RR_takeAsk.2.1 27 = .ok (.iadd, 1) := by decide +kernel
theorem d_RR_takeAsk_28 : decode y_RR_takeAsk.2.1 28 = .ok (.putfield 58, 3) := by decide +kernel
theorem d_RR_takeAsk_31 : decode y_RR_takeAsk.2.1 31 = .ok (.aload_n 0, 1) := by decide +kernel
theorem d_RR_takeAsk_19 : decode y_RR_takeAsk.2.1 19 = .ok (.iconst 2, 1) := by decide +kernel
theorem d_RR_takeAsk_20 : decode y_RR_takeAsk.2.1 20 = .ok (.ireturn, 1) := by decide +kernel
theorem d_RR_takeAsk_32 : decode y_RR_takeAsk.2.1 32 = .ok (.invokevirtual 162, 3) := by decide +kernel
theorem d_RR_takeAsk_35 : decode y_RR_takeAsk.2.1 35 = .ok (.ifCond .eq 7, 3) := by decide +kernel
theorem d_RR_takeAsk_42 : decode y_RR_takeAsk.2.1 42 = .ok (.iconst 1, 1) := by decide +kernel
theorem d_RR_takeAsk_38 : decode y_RR_takeAsk.2.1 38 = .ok (.iconst 0, 1) := by decide +kernel
theorem d_RR_takeAsk_39 : decode y_RR_takeAsk.2.1 39 = .ok (.goto 4, 3) := by decide +kernel
theorem d_RR_takeAsk_43 : decode y_RR_takeAsk.2.1 43 = .ok (.istore_n 1, 1) := by decide +kernel
theorem d_RR_takeAsk_44 : decode y_RR_takeAsk.2.1 44 = .ok (.aload_n 0, 1) := by decide +kernel
theorem d_RR_takeAsk_45 : decode y_RR_takeAsk.2.1 45 = .ok (.bipush 33, 2) := by decide +kernel
theorem d_RR_takeAsk_47 : decode y_RR_takeAsk.2.1 47 = .ok (.aload_n 0, 1) := by decide +kernel
theorem d_RR_takeAsk_48 : decode y_RR_takeAsk.2.1 48 = .ok (.invokevirtual 83, 3) := by decide +kernel
theorem d_RR_takeAsk_51 : decode y_RR_takeAsk.2.1 51 = .ok (.aload_n 0, 1) := by decide +kernel
theorem d_RR_takeAsk_52 : decode y_RR_takeAsk.2.1 52 = .ok (.getfield 44, 3) := by decide +kernel
theorem d_RR_takeAsk_55 : decode y_RR_takeAsk.2.1 55 = .ok (.bipush 33, 2) := by decide +kernel
theorem d_RR_takeAsk_57 : decode y_RR_takeAsk.2.1 57 = .ok (.iconst 0, 1) := by decide +kernel
theorem d_RR_takeAsk_58 : decode y_RR_takeAsk.2.1 58 = .ok (.invokevirtual 135, 3) := by decide +kernel
theorem d_RR_takeAsk_61 : decode y_RR_takeAsk.2.1 61 = .ok (.invokevirtual 144, 3) := by decide +kernel
theorem d_RR_takeAsk_64 : decode y_RR_takeAsk.2.1 64 = .ok (.aload_n 0, 1) := by decide +kernel
theorem d_RR_takeAsk_65 : decode y_RR_takeAsk.2.1 65 = .ok (.getfield 21, 3) := by decide +kernel
theorem d_RR_takeAsk_68 : decode y_RR_takeAsk.2.1 68 = .ok (.aload_n 0, 1) := by decide +kernel
theorem d_RR_takeAsk_69 : decode y_RR_takeAsk.2.1 69 = .ok (.getfield 87, 3) := by decide +kernel
theorem d_RR_takeAsk_72 : decode y_RR_takeAsk.2.1 72 = .ok (.iconst 1, 1) := by decide +kernel
theorem d_RR_takeAsk_73 : decode y_RR_takeAsk.2.1 73 = .ok (.isub, 1) := by decide +kernel
theorem d_RR_takeAsk_74 : decode y_RR_takeAsk.2.1 74 = .ok (.iload_n 1, 1) := by decide +kernel
theorem d_RR_takeAsk_75 : decode y_RR_takeAsk.2.1 75 = .ok (.iastore, 1) := by decide +kernel
theorem d_RR_takeAsk_76 : decode y_RR_takeAsk.2.1 76 = .ok (.iconst 0, 1) := by decide +kernel
theorem d_RR_takeAsk_77 : decode y_RR_takeAsk.2.1 77 = .ok (.ireturn, 1) := by decide +kernel
theorem k_RR_takeAsk {G : mG} {d : Nat} {a0 : Nat} {M : mM} {Q : Int → mM → Prop} (hO : mOk M)
    (h : mK M a0 = 4 ∧ (((40 ≤ mI M a0 5) ∨ (¬ (mI M a0 12 < 336))) → (Q 2 M)) ∧ (¬ ((40 ≤ mI M a0 5) ∨ (¬ (mI M a0 12 < 336))) → (i32 ((mI M a0 5) + 1) ∧ ∀ M8, M8 = mUI M a0 5 ((mI M a0 5) + 1) → Ci G y_RR_popKind d [vr a0] M8 (fun x11 M10 => i32 x11 ∧ mOk M10 ∧ (∀ v14 : Int, v14 = (if (x11 = 0) then 1 else 0) → mK M10 a0 = 4 ∧ Ci G y_RR_here d [vr a0] M10 (fun x21 M20 => i32 x21 ∧ mOk M20 ∧ (mK M20 a0 = 4 ∧ mK M20 (mR M20 a0 1) = 6 ∧ Ci G y_Pr_add d [vr (mR M20 a0 1), vi 33, vi 0] M20 (fun x26 M25 => i32 x26 ∧ mOk M25 ∧ (mK M25 a0 = 4 ∧ Cv G y_RR_push d [vr a0, vi 33, vi x21, vi x26] M25 (fun M29 => mOk M29 ∧ (mK M29 a0 = 4 ∧ mK M29 (mR M29 a0 11) = 30 ∧ ((0 : Int) ≤ (mI M29 a0 12) - 1 ∧ (mI M29 a0 12) - 1 < (mN M29 (mR M29 a0 11) : Int)) ∧ ∀ M35, M35 = mUI M29 (mR M29 a0 11) (Int.toNat ((mI M29 a0 12) - 1)) v14 → Q 0 M35))))))))))) :
    Ci G y_RR_takeAsk (d + 1) [vr a0] M Q := by
  refine wm_open (y := y_RR_takeAsk) rfl (Nat.le_of_ble_eq_true rfl) (L := [vr a0, vd]) rfl ?_
  obtain ⟨h1, h⟩ := h
  refine wm_aload_n d_RR_takeAsk_0 rfl rfl ?_
  refine gf_RR_58 rfl d_RR_takeAsk_1 h1 ?_
  refine wm_bipush d_RR_takeAsk_4 (by decide) ?_
  have hE0 : ((40 ≤ mI M a0 5) ∨ (¬ (mI M a0 12 < 336))) → mWm G y_RR_takeAsk (d + 1) 19 [vr a0, vd] [] M (fun r9 M9 => ∃ x9, r9 = some (vi x9) ∧ Q x9 M9) := by
    intro q5
    have h := h.1 q5
    refine wm_iconst d_RR_takeAsk_19 ?_
    refine wm_ireturn d_RR_takeAsk_20 rfl rfl ?_
    exact ⟨_, rfl, h⟩
  have hE1 : ¬ ((40 ≤ mI M a0 5) ∨ (¬ (mI M a0 12 < 336))) → mWm G y_RR_takeAsk (d + 1) 21 [vr a0, vd] [] M (fun r9 M9 => ∃ x9, r9 = some (vi x9) ∧ Q x9 M9) := by
    intro q6
    have h := h.2 q6
    obtain ⟨h7, h⟩ := h
    obtain ⟨M8, e9⟩ : ∃ M8, M8 = mUI M a0 5 ((mI M a0 5) + 1) := ⟨_, rfl⟩
    replace h := h M8 e9
    refine wm_aload_n d_RR_takeAsk_21 rfl rfl ?_
    refine wm_dup d_RR_takeAsk_22 rfl ?_
    refine gf_RR_58 rfl d_RR_takeAsk_23 h1 ?_
    refine wm_iconst d_RR_takeAsk_26 ?_
    refine wm_iadd d_RR_takeAsk_27 ?_
    have hOM8 : mOk M8 := by rw [e9]; exact mOk_UI hO h7
    refine pf_RR_58 rfl d_RR_takeAsk_28 h1 h7 e9 ?_
    refine wm_aload_n d_RR_takeAsk_31 rfl rfl ?_
    refine cf_RR_162 rfl d_RR_takeAsk_32 (by rw [e9]; exact h1) (Nat.le_of_ble_eq_true rfl) (Ci.mono h (fun x11 M10 h => ?_))
    obtain ⟨h12, hOM10, h⟩ := h
    have hJ : ∀ v14 : Int, v14 = (if (x11 = 0) then 1 else 0) → mWm G y_RR_takeAsk (d + 1) 43 [vr a0, vd] [vi v14] M10 (fun r9 M9 => ∃ x9, r9 = some (vi x9) ∧ Q x9 M9) := by
      intro v14 e16
      have h := h v14 e16
      have h17 : i32 v14 := by rw [e16]; (repeat' split) <;> first | exact ⟨by decide, by decide⟩ | exact ⟨by decide, by decide⟩
      have h18 : (v14 = 0 ∨ v14 = 1) := by rw [e16]; (repeat' split) <;> decide
      obtain ⟨h19, h⟩ := h
      refine wm_istore_n d_RR_takeAsk_43 rfl (by decide) (L' := [vr a0, vi v14]) rfl ?_
      refine wm_aload_n d_RR_takeAsk_44 rfl rfl ?_
      refine wm_bipush d_RR_takeAsk_45 (by decide) ?_
      refine wm_aload_n d_RR_takeAsk_47 rfl rfl ?_
      refine cf_RR_83 rfl d_RR_takeAsk_48 h19 (Nat.le_of_ble_eq_true rfl) (Ci.mono h (fun x21 M20 h => ?_))
      obtain ⟨h22, hOM20, h⟩ := h
      obtain ⟨h23, h⟩ := h
      obtain ⟨h24, h⟩ := h
      refine wm_aload_n d_RR_takeAsk_51 rfl rfl ?_
      refine gf_RR_44 rfl d_RR_takeAsk_52 h23 ?_
      refine wm_bipush d_RR_takeAsk_55 (by decide) ?_
      refine wm_iconst d_RR_takeAsk_57 ?_
      refine cf_RR_135 rfl d_RR_takeAsk_58 h24 (Nat.le_of_ble_eq_true rfl) (Ci.mono h (fun x26 M25 h => ?_))
      obtain ⟨h27, hOM25, h⟩ := h
      obtain ⟨h28, h⟩ := h
      refine cf_RR_144 rfl d_RR_takeAsk_61 h28 (Nat.le_of_ble_eq_true rfl) (Cv.mono h (fun M29 h => ?_))
      obtain ⟨hOM29, h⟩ := h
      obtain ⟨h32, h⟩ := h
      obtain ⟨h33, h⟩ := h
      obtain ⟨h34, h⟩ := h
      obtain ⟨M35, e36⟩ : ∃ M35, M35 = mUI M29 (mR M29 a0 11) (Int.toNat ((mI M29 a0 12) - 1)) v14 := ⟨_, rfl⟩
      replace h := h M35 e36
      refine wm_aload_n d_RR_takeAsk_64 rfl rfl ?_
      refine gf_RR_21 rfl d_RR_takeAsk_65 h32 ?_
      refine wm_aload_n d_RR_takeAsk_68 rfl rfl ?_
      refine gf_RR_87 rfl d_RR_takeAsk_69 h32 ?_
      refine wm_iconst d_RR_takeAsk_72 ?_
      refine wm_isub d_RR_takeAsk_73 ?_
      refine wm_iload_n d_RR_takeAsk_74 rfl rfl ?_
      have hOM35 : mOk M35 := by rw [e36]; exact mOk_UI hOM29 h17
      refine wm_iastE d_RR_takeAsk_75 h33 h34 h17 e36 ?_
      refine wm_iconst d_RR_takeAsk_76 ?_
      refine wm_ireturn d_RR_takeAsk_77 rfl rfl ?_
      exact ⟨_, rfl, h⟩
    clear h
    refine wm_if_eq (tgt := 42) d_RR_takeAsk_35 rfl h12 (fun c13 => ?_) (fun c13 => ?_)
    · refine wm_iconst d_RR_takeAsk_42 ?_
      exact hJ 1 (if_pos c13).symm
    · refine wm_iconst d_RR_takeAsk_38 ?_
      refine wm_goto (tgt := 43) d_RR_takeAsk_39 rfl ?_
      exact hJ 0 (if_neg c13).symm
  clear h
  refine wm_icmp_ge (tgt := 19) d_RR_takeAsk_6 rfl (hO _ _).1 ⟨by decide, by decide⟩ (fun c3 => ?_) (fun c3 => ?_)
  · exact hE0 (Or.inl c3)
  · refine wm_aload_n d_RR_takeAsk_9 rfl rfl ?_
    refine gf_RR_87 rfl d_RR_takeAsk_10 h1 ?_
    refine wm_sipush d_RR_takeAsk_13 (by decide) ?_
    refine wm_icmp_lt (tgt := 21) d_RR_takeAsk_16 rfl (hO _ _).1 ⟨by decide, by decide⟩ (fun c2 => ?_) (fun c2 => ?_)
    · exact hE1 (fun z38 => Or.elim z38 c3 (fun z39 => z39 c2))
    · exact hE0 (Or.inr c2)
theorem d_RR_closeInner_0 : decode y_RR_closeInner.2.1 0 = .ok (.aload_n 0, 1) := by decide +kernel
theorem d_RR_closeInner_1 : decode y_RR_closeInner.2.1 1 = .ok (.getfield 11, 3) := by decide +kernel
theorem d_RR_closeInner_4 : decode y_RR_closeInner.2.1 4 = .ok (.iload_n 2, 1) := by decide +kernel
theorem d_RR_closeInner_5 : decode y_RR_closeInner.2.1 5 = .ok (.iaload, 1) := by decide +kernel
theorem d_RR_closeInner_6 : decode y_RR_closeInner.2.1 6 = .ok (.bipush 33, 2) := by decide +kernel
theorem d_RR_closeInner_8 : decode y_RR_closeInner.2.1 8 = .ok (.if_icmp .ne 7, 3) := by decide +kernel
theorem d_RR_closeInner_11 : decode y_RR_closeInner.2.1 11 = .ok (.iconst 1, 1) := by decide +kernel
theorem d_RR_closeInner_12 : decode y_RR_closeInner.2.1 12 = .ok (.goto 4, 3) := by decide +kernel
theorem d_RR_closeInner_15 : decode y_RR_closeInner.2.1 15 = .ok (.iconst 0, 1) := by decide +kernel
theorem d_RR_closeInner_16 : decode y_RR_closeInner.2.1 16 = .ok (.istore_n 3, 1) := by decide +kernel
theorem d_RR_closeInner_17 : decode y_RR_closeInner.2.1 17 = .ok (.aload_n 0, 1) := by decide +kernel
theorem d_RR_closeInner_18 : decode y_RR_closeInner.2.1 18 = .ok (.getfield 11, 3) := by decide +kernel
theorem d_RR_closeInner_21 : decode y_RR_closeInner.2.1 21 = .ok (.iload_n 2, 1) := by decide +kernel
theorem d_RR_closeInner_22 : decode y_RR_closeInner.2.1 22 = .ok (.iaload, 1) := by decide +kernel
theorem d_RR_closeInner_23 : decode y_RR_closeInner.2.1 23 = .ok (.bipush 15, 2) := by decide +kernel
theorem d_RR_closeInner_25 : decode y_RR_closeInner.2.1 25 = .ok (.if_icmp .eq 14, 3) := by decide +kernel
theorem d_RR_closeInner_39 : decode y_RR_closeInner.2.1 39 = .ok (.iconst 1, 1) := by decide +kernel
theorem d_RR_closeInner_40 : decode y_RR_closeInner.2.1 40 = .ok (.goto 4, 3) := by decide +kernel
theorem d_RR_closeInner_28 : decode y_RR_closeInner.2.1 28 = .ok (.aload_n 0, 1) := by decide +kernel
theorem d_RR_closeInner_29 : decode y_RR_closeInner.2.1 29 = .ok (.getfield 11, 3) := by decide +kernel
theorem d_RR_closeInner_32 : decode y_RR_closeInner.2.1 32 = .ok (.iload_n 2, 1) := by decide +kernel
theorem d_RR_closeInner_33 : decode y_RR_closeInner.2.1 33 = .ok (.iaload, 1) := by decide +kernel
theorem d_RR_closeInner_34 : decode y_RR_closeInner.2.1 34 = .ok (.bipush 16, 2) := by decide +kernel
theorem d_RR_closeInner_36 : decode y_RR_closeInner.2.1 36 = .ok (.if_icmp .ne 7, 3) := by decide +kernel
theorem d_RR_closeInner_43 : decode y_RR_closeInner.2.1 43 = .ok (.iconst 0, 1) := by decide +kernel
theorem d_RR_closeInner_44 : decode y_RR_closeInner.2.1 44 = .ok (.istore 4, 2) := by decide +kernel
theorem d_RR_closeInner_46 : decode y_RR_closeInner.2.1 46 = .ok (.iload_n 3, 1) := by decide +kernel
theorem d_RR_closeInner_47 : decode y_RR_closeInner.2.1 47 = .ok (.ifCond .eq 9, 3) := by decide +kernel
theorem d_RR_closeInner_56 : decode y_RR_closeInner.2.1 56 = .ok (.iload 4, 2) := by decide +kernel
theorem d_RR_closeInner_58 : decode y_RR_closeInner.2.1 58 = .ok (.ifCond .eq 13, 3) := by decide +kernel
theorem d_RR_closeInner_71 : decode y_RR_closeInner.2.1 71 = .ok (.iconst 0, 1) := by decide +kernel
theorem d_RR_closeInner_61 : decode y_RR_closeInner.2.1 61 = .ok (.iload_n 1, 1) := by decide +kernel
theorem d_RR_closeInner_62 : decode y_RR_closeInner.2.1 62 = .ok (.bipush 36, 2) := by decide +kernel
theorem d_RR_closeInner_64 : decode y_RR_closeInner.2.1 64 = .ok (.if_icmp .ne 7, 3) := by decide +kernel
theorem d_RR_closeInner_67 : decode y_RR_closeInner.2.1 67 = .ok (.iconst 1, 1) := by decide +kernel
theorem d_RR_closeInner_68 : decode y_RR_closeInner.2.1 68 = .ok (.goto 4, 3) := by decide +kernel
theorem d_RR_closeInner_50 : decode y_RR_closeInner.2.1 50 = .ok (.iload_n 1, 1) := by decide +kernel
theorem d_RR_closeInner_51 : decode y_RR_closeInner.2.1 51 = .ok (.bipush 34, 2) := by decide +kernel
theorem d_RR_closeInner_53 : decode y_RR_closeInner.2.1 53 = .ok (.if_icmp .eq 14, 3) := by decide +kernel
theorem d_RR_closeInner_72 : decode y_RR_closeInner.2.1 72 = .ok (.istore 5, 2) := by decide +kernel
theorem d_RR_closeInner_74 : decode y_RR_closeInner.2.1 74 = .ok (.iload 5, 2) := by decide +kernel
theorem d_RR_closeInner_76 : decode y_RR_closeInner.2.1 76 = .ok (.ifCond .ne 15, 3) := by decide +kernel
theorem d_RR_closeInner_79 : decode y_RR_closeInner.2.1 79 = .ok (.iload_n 3, 1) := by decide +kernel
theorem d_RR_closeInner_80 : decode y_RR_closeInner.2.1 80 = .ok (.ifCond .ne 9, 3) := by decide +kernel
theorem d_RR_closeInner_83 : decode y_RR_closeInner.2.1 83 = .ok (.iload_n 1, 1) := by decide +kernel
theorem d_RR_closeInner_84 : decode y_RR_closeInner.2.1 84 = .ok (.bipush 38, 2) := by decide +kernel
theorem d_RR_closeInner_86 : decode y_RR_closeInner.2.1 86 = .ok (.if_icmp .eq 5, 3) := by decide +kernel
theorem d_RR_closeInner_91 : decode y_RR_closeInner.2.1 91 = .ok (.iload_n 3, 1) := by decide +kernel
theorem d_RR_closeInner_92 : decode y_RR_closeInner.2.1 92 = .ok (.ifCond .eq 73, 3) := by decide +kernel
theorem d_RR_closeInner_95 : decode y_RR_closeInner.2.1 95 = .ok (.aload_n 0, 1) := by decide +kernel
theorem d_RR_closeInner_96 : decode y_RR_closeInner.2.1 96 = .ok (.getfield 21, 3) := by decide +kernel
theorem d_RR_closeInner_99 : decode y_RR_closeInner.2.1 99 = .ok (.iload_n 2, 1) := by decide +kernel
theorem d_RR_closeInner_100 : decode y_RR_closeInner.2.1 100 = .ok (.dup2, 1) := by decide +kernel
theorem d_RR_closeInner_101 : decode y_RR_closeInner.2.1 101 = .ok (.iaload, 1) := by decide +kernel
theorem d_RR_closeInner_102 : decode y_RR_closeInner.2.1 102 = .ok (.aload_n 0, 1) := by decide +kernel
theorem d_RR_closeInner_103 : decode y_RR_closeInner.2.1 103 = .ok (.invokevirtual 162, 3) := by decide +kernel
theorem d_RR_closeInner_106 : decode y_RR_closeInner.2.1 106 = .ok (.ifCond .eq 7, 3) := by decide +kernel
theorem d_RR_closeInner_113 : decode y_RR_closeInner.2.1 113 = .ok (.iconst 0, 1) := by decide +kernel
theorem d_RR_closeInner_109 : decode y_RR_closeInner.2.1 109 = .ok (.iconst 4, 1) := by decide +kernel
theorem d_RR_closeInner_110 : decode y_RR_closeInner.2.1 110 = .ok (.goto 4, 3) := by decide +kernel
theorem d_RR_closeInner_114 : decode y_RR_closeInner.2.1 114 = .ok (.ior, 1) := by decide +kernel
theorem d_RR_closeInner_115 : decode y_RR_closeInner.2.1 115 = .ok (.iastore, 1) := by decide +kernel
theorem d_RR_closeInner_116 : decode y_RR_closeInner.2.1 116 = .ok (.aload_n 0, 1) := by decide +kernel
theorem d_RR_closeInner_117 : decode y_RR_closeInner.2.1 117 = .ok (.getfield 44, 3) := by decide +kernel
theorem d_RR_closeInner_120 : decode y_RR_closeInner.2.1 120 = .ok (.bipush 42, 2) := by decide +kernel
theorem d_RR_closeInner_122 : decode y_RR_closeInner.2.1 122 = .ok (.iconst 0, 1) := by decide +kernel
theorem d_RR_closeInner_123 : decode y_RR_closeInner.2.1 123 = .ok (.invokevirtual 135, 3) := by decide +kernel
theorem d_RR_closeInner_126 : decode y_RR_closeInner.2.1 126 = .ok (.istore 6, 2) := by decide +kernel
theorem d_RR_closeInner_128 : decode y_RR_closeInner.2.1 128 = .ok (.aload_n 0, 1) := by decide +kernel
theorem d_RR_closeInner_129 : decode y_RR_closeInner.2.1 129 = .ok (.getfield 44, 3) := by decide +kernel
theorem d_RR_closeInner_132 : decode y_RR_closeInner.2.1 132 = .ok (.getfield 165, 3) := by decide +kernel
theorem d_RR_closeInner_135 : decode y_RR_closeInner.2.1 135 = .ok (.aload_n 0, 1) := by decide +kernel
theorem d_RR_closeInner_136 : decode y_RR_closeInner.2.1 136 = .ok (.getfield 18, 3) := by decide +kernel
theorem d_RR_closeInner_139 : decode y_RR_closeInner.2.1 139 = .ok (.iload_n 2, 1) := by decide +kernel
theorem d_RR_closeInner_140 : decode y_RR_closeInner.2.1 140 = .ok (.iaload, 1) := by decide +kernel
theorem d_RR_closeInner_141 : decode y_RR_closeInner.2.1 141 = .ok (.aload_n 0, 1) := by decide +kernel
theorem d_RR_closeInner_142 : decode y_RR_closeInner.2.1 142 = .ok (.getfield 44, 3) := by decide +kernel
theorem d_RR_closeInner_145 : decode y_RR_closeInner.2.1 145 = .ok (.getfield 168, 3) := by decide +kernel
theorem d_RR_closeInner_148 : decode y_RR_closeInner.2.1 148 = .ok (.iastore, 1) := by decide +kernel
theorem d_RR_closeInner_149 : decode y_RR_closeInner.2.1 149 = .ok (.aload_n 0, 1) := by decide +kernel
theorem d_RR_closeInner_150 : decode y_RR_closeInner.2.1 150 = .ok (.getfield 18, 3) := by decide +kernel
theorem d_RR_closeInner_153 : decode y_RR_closeInner.2.1 153 = .ok (.iload_n 2, 1) := by decide +kernel
theorem d_RR_closeInner_154 : decode y_RR_closeInner.2.1 154 = .ok (.iload 6, 2) := by decide +kernel
theorem d_RR_closeInner_156 : decode y_RR_closeInner.2.1 156 = .ok (.iastore, 1) := by decide +kernel
theorem d_RR_closeInner_157 : decode y_RR_closeInner.2.1 157 = .ok (.aload_n 0, 1) := by decide +kernel
theorem d_RR_closeInner_158 : decode y_RR_closeInner.2.1 158 = .ok (.getfield 11, 3) := by decide +kernel
theorem d_RR_closeInner_161 : decode y_RR_closeInner.2.1 161 = .ok (.iload_n 2, 1) := by decide +kernel
theorem d_RR_closeInner_162 : decode y_RR_closeInner.2.1 162 = .ok (.bipush 42, 2) := by decide +kernel
theorem d_RR_closeInner_164 : decode y_RR_closeInner.2.1 164 = .ok (.iastore, 1) := by decide +kernel
theorem d_RR_closeInner_89 : decode y_RR_closeInner.2.1 89 = .ok (.iconst 2, 1) := by decide +kernel
theorem d_RR_closeInner_90 : decode y_RR_closeInner.2.1 90 = .ok (.ireturn, 1) := by decide +kernel
theorem d_RR_closeInner_165 : decode y_RR_closeInner.2.1 165 = .ok (.iload 4, 2) := by decide +kernel
theorem d_RR_closeInner_167 : decode y_RR_closeInner.2.1 167 = .ok (.ifCond .eq 57, 3) := by decide +kernel
theorem d_RR_closeInner_170 : decode y_RR_closeInner.2.1 170 = .ok (.aload_n 0, 1) := by decide +kernel
theorem d_RR_closeInner_171 : decode y_RR_closeInner.2.1 171 = .ok (.getfield 21, 3) := by decide +kernel
theorem d_RR_closeInner_174 : decode y_RR_closeInner.2.1 174 = .ok (.iload_n 2, 1) := by decide +kernel
theorem d_RR_closeInner_175 : decode y_RR_closeInner.2.1 175 = .ok (.iaload, 1) := by decide +kernel
theorem d_RR_closeInner_176 : decode y_RR_closeInner.2.1 176 = .ok (.iconst 2, 1) := by decide +kernel
theorem d_RR_closeInner_177 : decode y_RR_closeInner.2.1 177 = .ok (.iand, 1) := by decide +kernel
theorem d_RR_closeInner_178 : decode y_RR_closeInner.2.1 178 = .ok (.ifCond .eq 23, 3) := by decide +kernel
theorem d_RR_closeInner_181 : decode y_RR_closeInner.2.1 181 = .ok (.aload_n 0, 1) := by decide +kernel
theorem d_RR_closeInner_182 : decode y_RR_closeInner.2.1 182 = .ok (.getfield 44, 3) := by decide +kernel
theorem d_RR_closeInner_185 : decode y_RR_closeInner.2.1 185 = .ok (.aload_n 0, 1) := by decide +kernel
theorem d_RR_closeInner_186 : decode y_RR_closeInner.2.1 186 = .ok (.getfield 11, 3) := by decide +kernel
theorem d_RR_closeInner_189 : decode y_RR_closeInner.2.1 189 = .ok (.iload_n 2, 1) := by decide +kernel
theorem d_RR_closeInner_190 : decode y_RR_closeInner.2.1 190 = .ok (.iaload, 1) := by decide +kernel
theorem d_RR_closeInner_191 : decode y_RR_closeInner.2.1 191 = .ok (.aload_n 0, 1) := by decide +kernel
theorem d_RR_closeInner_192 : decode y_RR_closeInner.2.1 192 = .ok (.getfield 15, 3) := by decide +kernel
theorem d_RR_closeInner_195 : decode y_RR_closeInner.2.1 195 = .ok (.iload_n 2, 1) := by decide +kernel
theorem d_RR_closeInner_196 : decode y_RR_closeInner.2.1 196 = .ok (.iaload, 1) := by decide +kernel
theorem d_RR_closeInner_224 : decode y_RR_closeInner.2.1 224 = .ok (.iload 4, 2) := by decide +kernel
theorem d_RR_closeInner_226 : decode y_RR_closeInner.2.1 226 = .ok (.ifCond .eq 35, 3) := by decide +kernel
theorem d_RR_closeInner_229 : decode y_RR_closeInner.2.1 229 = .ok (.iload 5, 2) := by decide +kernel
theorem d_RR_closeInner_231 : decode y_RR_closeInner.2.1 231 = .ok (.ifCond .ne 30, 3) := by decide +kernel
theorem d_RR_closeInner_234 : decode y_RR_closeInner.2.1 234 = .ok (.aload_n 0, 1) := by decide +kernel
theorem d_RR_closeInner_235 : decode y_RR_closeInner.2.1 235 = .ok (.getfield 21, 3) := by decide +kernel
theorem d_RR_closeInner_238 : decode y_RR_closeInner.2.1 238 = .ok (.iload_n 2, 1) := by decide +kernel
theorem d_RR_closeInner_239 : decode y_RR_closeInner.2.1 239 = .ok (.iaload, 1) := by decide +kernel
theorem d_RR_closeInner_240 : decode y_RR_closeInner.2.1 240 = .ok (.iconst 1, 1) := by decide +kernel
theorem d_RR_closeInner_241 : decode y_RR_closeInner.2.1 241 = .ok (.iand, 1) := by decide +kernel
theorem d_RR_closeInner_242 : decode y_RR_closeInner.2.1 242 = .ok (.ifCond .eq 14, 3) := by decide +kernel
theorem d_RR_closeInner_245 : decode y_RR_closeInner.2.1 245 = .ok (.aload_n 0, 1) := by decide +kernel
theorem d_RR_closeInner_246 : decode y_RR_closeInner.2.1 246 = .ok (.iconst 3, 1) := by decide +kernel
theorem d_RR_closeInner_247 : decode y_RR_closeInner.2.1 247 = .ok (.aload_n 0, 1) := by decide +kernel
theorem d_RR_closeInner_248 : decode y_RR_closeInner.2.1 248 = .ok (.getfield 15, 3) := by decide +kernel
theorem d_RR_closeInner_251 : decode y_RR_closeInner.2.1 251 = .ok (.iload_n 2, 1) := by decide +kernel
theorem d_RR_closeInner_252 : decode y_RR_closeInner.2.1 252 = .ok (.iaload, 1) := by decide +kernel
theorem d_RR_closeInner_261 : decode y_RR_closeInner.2.1 261 = .ok (.iload 5, 2) := by decide +kernel
theorem d_RR_closeInner_263 : decode y_RR_closeInner.2.1 263 = .ok (.ifCond .ne 23, 3) := by decide +kernel
theorem d_RR_closeInner_266 : decode y_RR_closeInner.2.1 266 = .ok (.aload_n 0, 1) := by decide +kernel
theorem d_RR_closeInner_267 : decode y_RR_closeInner.2.1 267 = .ok (.dup, 1) := by decide +kernel
theorem d_RR_closeInner_268 : decode y_RR_closeInner.2.1 268 = .ok (.getfield 87, 3) := by decide +kernel
theorem d_RR_closeInner_271 : decode y_RR_closeInner.2.1 271 = .ok (.iconst 1, 1) := by decide +kernel
theorem d_RR_closeInner_272 : decode y_RR_closeInner.2.1 272 = .ok (.isub, 1) := by decide +kernel
theorem d_RR_closeInner_273 : decode y_RR_closeInner.2.1 273 = .ok (.putfield 87, 3) := by decide +kernel
theorem d_RR_closeInner_276 : decode y_RR_closeInner.2.1 276 = .ok (.aload_n 0, 1) := by decide +kernel
theorem d_RR_closeInner_277 : decode y_RR_closeInner.2.1 277 = .ok (.dup, 1) := by decide +kernel
theorem d_RR_closeInner_278 : decode y_RR_closeInner.2.1 278 = .ok (.getfield 58, 3) := by decide +kernel
theorem d_RR_closeInner_281 : decode y_RR_closeInner.2.1 281 = .ok (.iconst 1, 1) := by decide +kernel
theorem d_RR_closeInner_282 : decode y_RR_closeInner.2.1 282 = .ok (.isub, 1) := by decide +kernel
theorem d_RR_closeInner_283 : decode y_RR_closeInner.2.1 283 = .ok (.putfield 58, 3) := by decide +kernel
theorem d_RR_closeInner_253 : decode y_RR_closeInner.2.1 253 = .ok (.invokevirtual 114, 3) := by decide +kernel
theorem d_RR_closeInner_197 : decode y_RR_closeInner.2.1 197 = .ok (.invokevirtual 135, 3) := by decide +kernel
theorem d_RR_closeInner_200 : decode y_RR_closeInner.2.1 200 = .ok (.pop, 1) := by decide +kernel
theorem d_RR_closeInner_201 : decode y_RR_closeInner.2.1 201 = .ok (.aload_n 0, 1) := by decide +kernel
theorem d_RR_closeInner_202 : decode y_RR_closeInner.2.1 202 = .ok (.getfield 21, 3) := by decide +kernel
theorem d_RR_closeInner_205 : decode y_RR_closeInner.2.1 205 = .ok (.iload_n 2, 1) := by decide +kernel
theorem d_RR_closeInner_206 : decode y_RR_closeInner.2.1 206 = .ok (.dup2, 1) := by decide +kernel
theorem d_RR_closeInner_207 : decode y_RR_closeInner.2.1 207 = .ok (.iaload, 1) := by decide +kernel
theorem d_RR_closeInner_208 : decode y_RR_closeInner.2.1 208 = .ok (.iconst 2, 1) := by decide +kernel
theorem d_RR_closeInner_209 : decode y_RR_closeInner.2.1 209 = .ok (.aload_n 0, 1) := by decide +kernel
theorem d_RR_closeInner_210 : decode y_RR_closeInner.2.1 210 = .ok (.invokevirtual 162, 3) := by decide +kernel
theorem d_RR_closeInner_213 : decode y_RR_closeInner.2.1 213 = .ok (.ifCond .eq 7, 3) := by decide +kernel
theorem d_RR_closeInner_220 : decode y_RR_closeInner.2.1 220 = .ok (.iconst 0, 1) := by decide +kernel
theorem d_RR_closeInner_216 : decode y_RR_closeInner.2.1 216 = .ok (.iconst 1, 1) := by decide +kernel
theorem d_RR_closeInner_217 : decode y_RR_closeInner.2.1 217 = .ok (.goto 4, 3) := by decide +kernel
theorem d_RR_closeInner_221 : decode y_RR_closeInner.2.1 221 = .ok (.ior, 1) := by decide +kernel
theorem d_RR_closeInner_222 : decode y_RR_closeInner.2.1 222 = .ok (.ior, 1) := by decide +kernel
theorem d_RR_closeInner_223 : decode y_RR_closeInner.2.1 223 = .ok (.iastore, 1) := by decide +kernel
theorem d_RR_closeInner_256 : decode y_RR_closeInner.2.1 256 = .ok (.aload_n 0, 1) := by decide +kernel
theorem d_RR_closeInner_257 : decode y_RR_closeInner.2.1 257 = .ok (.iconst 0, 1) := by decide +kernel
theorem d_RR_closeInner_258 : decode y_RR_closeInner.2.1 258 = .ok (.invokevirtual 140, 3) := by decide +kernel
theorem d_RR_closeInner_286 : decode y_RR_closeInner.2.1 286 = .ok (.aload_n 0, 1) := by decide +kernel
theorem d_RR_closeInner_287 : decode y_RR_closeInner.2.1 287 = .ok (.iload 5, 2) := by decide +kernel
theorem d_RR_closeInner_289 : decode y_RR_closeInner.2.1 289 = .ok (.putfield 93, 3) := by decide +kernel
theorem d_RR_closeInner_292 : decode y_RR_closeInner.2.1 292 = .ok (.aload_n 0, 1) := by decide +kernel
theorem d_RR_closeInner_293 : decode y_RR_closeInner.2.1 293 = .ok (.dup, 1) := by decide +kernel
theorem d_RR_closeInner_294 : decode y_RR_closeInner.2.1 294 = .ok (.getfield 48, 3) := by decide +kernel
theorem d_RR_closeInner_297 : decode y_RR_closeInner.2.1 297 = .ok (.iconst 1, 1) := by decide +kernel
theorem d_RR_closeInner_298 : decode y_RR_closeInner.2.1 298 = .ok (.iadd, 1) := by decide +kernel
theorem d_RR_closeInner_299 : decode y_RR_closeInner.2.1 299 = .ok (.putfield 48, 3) := by decide +kernel
theorem d_RR_closeInner_302 : decode y_RR_closeInner.2.1 302 = .ok (.iconst 0, 1) := by decide +kernel
theorem d_RR_closeInner_303 : decode y_RR_closeInner.2.1 303 = .ok (.ireturn, 1) := by decide +kernel
def h_RR_closeInner_165 (G : mG) (d : Nat) (a0 : Nat) (l2 : Int) (l4 : Int) (l5 : Int) (M : mM) (Q : Int → mM → Prop) : Prop := mWm G y_RR_closeInner (d + 1) 165 [vr a0, vd, vi l2, vd, vi l4, vi l5, vd] [] M (fun r9 M9 => ∃ x9, r9 = some (vi x9) ∧ Q x9 M9)
def h_RR_closeInner_201 (G : mG) (d : Nat) (a0 : Nat) (l2 : Int) (l4 : Int) (l5 : Int) (M : mM) (Q : Int → mM → Prop) : Prop := mWm G y_RR_closeInner (d + 1) 201 [vr a0, vd, vi l2, vd, vi l4, vi l5, vd] [] M (fun r9 M9 => ∃ x9, r9 = some (vi x9) ∧ Q x9 M9)
def h_RR_closeInner_256 (G : mG) (d : Nat) (a0 : Nat) (l5 : Int) (M : mM) (Q : Int → mM → Prop) : Prop := mWm G y_RR_closeInner (d + 1) 256 [vr a0, vd, vd, vd, vd, vi l5, vd] [] M (fun r9 M9 => ∃ x9, r9 = some (vi x9) ∧ Q x9 M9)
def h_RR_closeInner_286 (G : mG) (d : Nat) (a0 : Nat) (l5 : Int) (M : mM) (Q : Int → mM → Prop) : Prop := mWm G y_RR_closeInner (d + 1) 286 [vr a0, vd, vd, vd, vd, vi l5, vd] [] M (fun r9 M9 => ∃ x9, r9 = some (vi x9) ∧ Q x9 M9)
theorem k_RR_closeInner {G : mG} {d : Nat} {a0 : Nat} {l1 : Int} {l2 : Int} {M : mM} {Q : Int → mM → Prop} (hO : mOk M) (hi_l1 : i32 l1) (hi_l2 : i32 l2)
    (h : mK M a0 = 4 ∧ mK M (mR M a0 8) = 30 ∧ ((0 : Int) ≤ l2 ∧ l2 < (mN M (mR M a0 8) : Int)) ∧ ∀ v5 : Int, v5 = (if (mI M (mR M a0 8) (Int.toNat l2) = 33) then 1 else 0) → ((0 : Int) ≤ l2 ∧ l2 < (mN M (mR M a0 8) : Int)) ∧ (¬ (mI M (mR M a0 8) (Int.toNat l2) = 15) → ((0 : Int) ≤ l2 ∧ l2 < (mN M (mR M a0 8) : Int))) ∧ ∀ v14 : Int, v14 = (if ((mI M (mR M a0 8) (Int.toNat l2) = 15) ∨ (mI M (mR M a0 8) (Int.toNat l2) = 16)) then 1 else 0) → ∀ v25 : Int, v25 = (if (((v5 = 0) ∧ ((v14 = 0) ∨ (¬ (l1 = 36)))) ∨ ((¬ (v5 = 0)) ∧ ((¬ (l1 = 34)) ∧ ((v14 = 0) ∨ (¬ (l1 = 36)))))) then 0 else 1) → (((¬ (v25 = 0)) ∨ ((v5 = 0) ∧ (l1 = 38))) → (((v5 = 0) → (h_RR_closeInner_165 G d a0 l2 v14 v25 M Q)) ∧ (¬ (v5 = 0) → (mK M (mR M a0 11) = 30 ∧ ((0 : Int) ≤ l2 ∧ l2 < (mN M (mR M a0 11) : Int)) ∧ Ci G y_RR_popKind d [vr a0] M (fun x40 M39 => i32 x40 ∧ mOk M39 ∧ (∀ v43 : Int, v43 = (if (x40 = 0) then 0 else 4) → mK M39 (mR M a0 11) = 30 ∧ ((0 : Int) ≤ l2 ∧ l2 < (mN M39 (mR M a0 11) : Int)) ∧ ∀ M49, M49 = mUI M39 (mR M a0 11) (Int.toNat l2) (orI (mI M (mR M a0 11) (Int.toNat l2)) v43) → mK M49 a0 = 4 ∧ mK M49 (mR M49 a0 1) = 6 ∧ Ci G y_Pr_add d [vr (mR M49 a0 1), vi 42, vi 0] M49 (fun x54 M53 => i32 x54 ∧ mOk M53 ∧ (mK M53 a0 = 4 ∧ mK M53 (mR M53 a0 1) = 6 ∧ mK M53 (mR M53 a0 10) = 30 ∧ ((0 : Int) ≤ l2 ∧ l2 < (mN M53 (mR M53 a0 10) : Int)) ∧ mK M53 (mR M53 (mR M53 a0 1) 1) = 30 ∧ ((0 : Int) ≤ mI M53 (mR M53 a0 10) (Int.toNat l2) ∧ mI M53 (mR M53 a0 10) (Int.toNat l2) < (mN M53 (mR M53 (mR M53 a0 1) 1) : Int)) ∧ ∀ M62, M62 = mUI M53 (mR M53 (mR M53 a0 1) 1) (Int.toNat (mI M53 (mR M53 a0 10) (Int.toNat l2))) (mI M53 (mR M53 a0 1) 2) → mK M62 (mR M62 a0 10) = 30 ∧ ((0 : Int) ≤ l2 ∧ l2 < (mN M62 (mR M62 a0 10) : Int)) ∧ ∀ M66, M66 = mUI M62 (mR M62 a0 10) (Int.toNat l2) x54 → mK M66 (mR M66 a0 8) = 30 ∧ ((0 : Int) ≤ l2 ∧ l2 < (mN M66 (mR M66 a0 8) : Int)) ∧ ∀ M70, M70 = mUI M66 (mR M66 a0 8) (Int.toNat l2) 42 → h_RR_closeInner_165 G d a0 l2 v14 v25 M70 Q)))))))) ∧ (¬ ((¬ (v25 = 0)) ∨ ((v5 = 0) ∧ (l1 = 38))) → (Q 2 M))) :
    Ci G y_RR_closeInner (d + 1) [vr a0, vi l1, vi l2] M Q := by
  refine wm_open (y := y_RR_closeInner) rfl (Nat.le_of_ble_eq_true rfl) (L := [vr a0, vi l1, vi l2, vd, vd, vd, vd]) rfl ?_
  obtain ⟨h1, h⟩ := h
  obtain ⟨h2, h⟩ := h
  obtain ⟨h3, h⟩ := h
  refine wm_aload_n d_RR_closeInner_0 rfl rfl ?_
  refine gf_RR_11 rfl d_RR_closeInner_1 h1 ?_
  refine wm_iload_n d_RR_closeInner_4 rfl rfl ?_
  refine wm_iald d_RR_closeInner_5 h2 h3 ?_
  refine wm_bipush d_RR_closeInner_6 (by decide) ?_
  have hJ : ∀ v5 : Int, v5 = (if (mI M (mR M a0 8) (Int.toNat l2) = 33) then 1 else 0) → mWm G y_RR_closeInner (d + 1) 16 [vr a0, vi l1, vi l2, vd, vd, vd, vd] [vi v5] M (fun r9 M9 => ∃ x9, r9 = some (vi x9) ∧ Q x9 M9) := by
    intro v5 e7
    have h := h v5 e7
    have h8 : i32 v5 := by rw [e7]; (repeat' split) <;> first | exact ⟨by decide, by decide⟩ | exact ⟨by decide, by decide⟩
    have h9 : (v5 = 0 ∨ v5 = 1) := by rw [e7]; (repeat' split) <;> decide
    obtain ⟨h10, h⟩ := h
    refine wm_istore_n d_RR_closeInner_16 rfl (by decide) (L' := [vr a0, vi l1, vi l2, vi v5, vd, vd, vd]) rfl ?_
    refine wm_aload_n d_RR_closeInner_17 rfl rfl ?_
    refine gf_RR_11 rfl d_RR_closeInner_18 h1 ?_
    refine wm_iload_n d_RR_closeInner_21 rfl rfl ?_
    refine wm_iald d_RR_closeInner_22 h2 h10 ?_
    refine wm_bipush d_RR_closeInner_23 (by decide) ?_
    obtain ⟨s15, h⟩ := h
    have hJ : ∀ v14 : Int, v14 = (if ((mI M (mR M a0 8) (Int.toNat l2) = 15) ∨ (mI M (mR M a0 8) (Int.toNat l2) = 16)) then 1 else 0) → mWm G y_RR_closeInner (d + 1) 44 [vr a0, vi l1, vi l2, vi v5, vd, vd, vd] [vi v14] M (fun r9 M9 => ∃ x9, r9 = some (vi x9) ∧ Q x9 M9) := by
      intro v14 e16
      have h := h v14 e16
      have h17 : i32 v14 := by rw [e16]; (repeat' split) <;> first | exact ⟨by decide, by decide⟩ | exact ⟨by decide, by decide⟩
      have h18 : (v14 = 0 ∨ v14 = 1) := by rw [e16]; (repeat' split) <;> decide
      refine wm_istore d_RR_closeInner_44 (by decide) (L' := [vr a0, vi l1, vi l2, vi v5, vi v14, vd, vd]) rfl ?_
      refine wm_iload_n d_RR_closeInner_46 rfl rfl ?_
      have hJ : ∀ v25 : Int, v25 = (if (((v5 = 0) ∧ ((v14 = 0) ∨ (¬ (l1 = 36)))) ∨ ((¬ (v5 = 0)) ∧ ((¬ (l1 = 34)) ∧ ((v14 = 0) ∨ (¬ (l1 = 36)))))) then 0 else 1) → mWm G y_RR_closeInner (d + 1) 72 [vr a0, vi l1, vi l2, vi v5, vi v14, vd, vd] [vi v25] M (fun r9 M9 => ∃ x9, r9 = some (vi x9) ∧ Q x9 M9) := by
        intro v25 e27
        have h := h v25 e27
        have h28 : i32 v25 := by rw [e27]; (repeat' split) <;> first | exact ⟨by decide, by decide⟩ | exact ⟨by decide, by decide⟩
        have h29 : (v25 = 0 ∨ v25 = 1) := by rw [e27]; (repeat' split) <;> decide
        refine wm_istore d_RR_closeInner_72 (by decide) (L' := [vr a0, vi l1, vi l2, vi v5, vi v14, vi v25, vd]) rfl ?_
        refine wm_iload d_RR_closeInner_74 rfl ?_
        have hE0 : ((¬ (v25 = 0)) ∨ ((v5 = 0) ∧ (l1 = 38))) → mWm G y_RR_closeInner (d + 1) 91 [vr a0, vi l1, vi l2, vi v5, vi v14, vi v25, vd] [] M (fun r9 M9 => ∃ x9, r9 = some (vi x9) ∧ Q x9 M9) := by
          intro q34
          have h := h.1 q34
          refine wm_iload_n d_RR_closeInner_91 rfl rfl ?_
          refine wm_if_eq (tgt := 165) d_RR_closeInner_92 rfl h8 (fun c36 => ?_) (fun c36 => ?_)
          · replace h := h.1 c36
            refine wm_less (L' := [vr a0, vd, vi l2, vd, vi v14, vi v25, vd]) ⟨Or.inr rfl, Or.inl rfl, Or.inr rfl, Or.inl rfl, Or.inr rfl, Or.inr rfl, Or.inl rfl, trivial⟩ ?_
            exact h
          · replace h := h.2 c36
            obtain ⟨h37, h⟩ := h
            obtain ⟨h38, h⟩ := h
            refine wm_aload_n d_RR_closeInner_95 rfl rfl ?_
            refine gf_RR_21 rfl d_RR_closeInner_96 h1 ?_
            refine wm_iload_n d_RR_closeInner_99 rfl rfl ?_
            refine wm_dup2 d_RR_closeInner_100 rfl rfl ?_
            refine wm_iald d_RR_closeInner_101 h37 h38 ?_
            refine wm_aload_n d_RR_closeInner_102 rfl rfl ?_
            refine cf_RR_162 rfl d_RR_closeInner_103 h1 (Nat.le_of_ble_eq_true rfl) (Ci.mono h (fun x40 M39 h => ?_))
            obtain ⟨h41, hOM39, h⟩ := h
            have hJ : ∀ v43 : Int, v43 = (if (x40 = 0) then 0 else 4) → mWm G y_RR_closeInner (d + 1) 114 [vr a0, vd, vi l2, vd, vi v14, vi v25, vd] [vi v43, vi (mI M (mR M a0 11) (Int.toNat l2)), vi l2, vr (mR M a0 11)] M39 (fun r9 M9 => ∃ x9, r9 = some (vi x9) ∧ Q x9 M9) := by
              intro v43 e45
              have h := h v43 e45
              have h46 : i32 v43 := by rw [e45]; (repeat' split) <;> first | exact ⟨by decide, by decide⟩ | exact ⟨by decide, by decide⟩
              obtain ⟨h47, h⟩ := h
              obtain ⟨h48, h⟩ := h
              obtain ⟨M49, e50⟩ : ∃ M49, M49 = mUI M39 (mR M a0 11) (Int.toNat l2) (orI (mI M (mR M a0 11) (Int.toNat l2)) v43) := ⟨_, rfl⟩
              replace h := h M49 e50
              obtain ⟨h51, h⟩ := h
              obtain ⟨h52, h⟩ := h
              refine wm_ior d_RR_closeInner_114 ?_
              have hOM49 : mOk M49 := by rw [e50]; exact mOk_UI hOM39 (m_i32 _)
              refine wm_iastE d_RR_closeInner_115 h47 h48 (m_i32 _) e50 ?_
              refine wm_aload_n d_RR_closeInner_116 rfl rfl ?_
              refine gf_RR_44 rfl d_RR_closeInner_117 h51 ?_
              refine wm_bipush d_RR_closeInner_120 (by decide) ?_
              refine wm_iconst d_RR_closeInner_122 ?_
              refine cf_RR_135 rfl d_RR_closeInner_123 h52 (Nat.le_of_ble_eq_true rfl) (Ci.mono h (fun x54 M53 h => ?_))
              obtain ⟨h55, hOM53, h⟩ := h
              obtain ⟨h56, h⟩ := h
              obtain ⟨h57, h⟩ := h
              obtain ⟨h58, h⟩ := h
              obtain ⟨h59, h⟩ := h
              obtain ⟨h60, h⟩ := h
              obtain ⟨h61, h⟩ := h
              obtain ⟨M62, e63⟩ : ∃ M62, M62 = mUI M53 (mR M53 (mR M53 a0 1) 1) (Int.toNat (mI M53 (mR M53 a0 10) (Int.toNat l2))) (mI M53 (mR M53 a0 1) 2) := ⟨_, rfl⟩
              replace h := h M62 e63
              obtain ⟨h64, h⟩ := h
              obtain ⟨h65, h⟩ := h
              obtain ⟨M66, e67⟩ : ∃ M66, M66 = mUI M62 (mR M62 a0 10) (Int.toNat l2) x54 := ⟨_, rfl⟩
              replace h := h M66 e67
              obtain ⟨h68, h⟩ := h
              obtain ⟨h69, h⟩ := h
              obtain ⟨M70, e71⟩ : ∃ M70, M70 = mUI M66 (mR M66 a0 8) (Int.toNat l2) 42 := ⟨_, rfl⟩
              replace h := h M70 e71
              refine wm_istore d_RR_closeInner_126 (by decide) (L' := [vr a0, vd, vi l2, vd, vi v14, vi v25, vi x54]) rfl ?_
              refine wm_aload_n d_RR_closeInner_128 rfl rfl ?_
              refine gf_RR_44 rfl d_RR_closeInner_129 h56 ?_
              refine gf_RR_165 rfl d_RR_closeInner_132 h57 ?_
              refine wm_aload_n d_RR_closeInner_135 rfl rfl ?_
              refine gf_RR_18 rfl d_RR_closeInner_136 h56 ?_
              refine wm_iload_n d_RR_closeInner_139 rfl rfl ?_
              refine wm_iald d_RR_closeInner_140 h58 h59 ?_
              refine wm_aload_n d_RR_closeInner_141 rfl rfl ?_
              refine gf_RR_44 rfl d_RR_closeInner_142 h56 ?_
              refine gf_RR_168 rfl d_RR_closeInner_145 h57 ?_
              have hOM62 : mOk M62 := by rw [e63]; exact mOk_UI hOM53 (hOM53 _ _).1
              refine wm_iastE d_RR_closeInner_148 h60 h61 (hOM53 _ _).1 e63 ?_
              refine wm_aload_n d_RR_closeInner_149 rfl rfl ?_
              refine gf_RR_18 rfl d_RR_closeInner_150 (by rw [e63]; exact h56) ?_
              refine wm_iload_n d_RR_closeInner_153 rfl rfl ?_
              refine wm_iload d_RR_closeInner_154 rfl ?_
              have hOM66 : mOk M66 := by rw [e67]; exact mOk_UI hOM62 h55
              refine wm_iastE d_RR_closeInner_156 h64 h65 h55 e67 ?_
              refine wm_aload_n d_RR_closeInner_157 rfl rfl ?_
              refine gf_RR_11 rfl d_RR_closeInner_158 (by rw [e67, e63]; exact h56) ?_
              refine wm_iload_n d_RR_closeInner_161 rfl rfl ?_
              refine wm_bipush d_RR_closeInner_162 (by decide) ?_
              have hOM70 : mOk M70 := by rw [e71]; exact mOk_UI hOM66 ⟨by decide, by decide⟩
              refine wm_iastE d_RR_closeInner_164 h68 h69 ⟨by decide, by decide⟩ e71 ?_
              refine wm_less (L' := [vr a0, vd, vi l2, vd, vi v14, vi v25, vd]) ⟨Or.inr rfl, Or.inl rfl, Or.inr rfl, Or.inl rfl, Or.inr rfl, Or.inr rfl, Or.inl rfl, trivial⟩ ?_
              exact h
            clear h
            refine wm_if_eq (tgt := 113) d_RR_closeInner_106 rfl h41 (fun c42 => ?_) (fun c42 => ?_)
            · refine wm_iconst d_RR_closeInner_113 ?_
              refine wm_less (L' := [vr a0, vd, vi l2, vd, vi v14, vi v25, vd]) ⟨Or.inr rfl, Or.inl rfl, Or.inr rfl, Or.inl rfl, Or.inr rfl, Or.inr rfl, Or.inl rfl, trivial⟩ ?_
              exact hJ 0 (if_pos c42).symm
            · refine wm_iconst d_RR_closeInner_109 ?_
              refine wm_goto (tgt := 114) d_RR_closeInner_110 rfl ?_
              refine wm_less (L' := [vr a0, vd, vi l2, vd, vi v14, vi v25, vd]) ⟨Or.inr rfl, Or.inl rfl, Or.inr rfl, Or.inl rfl, Or.inr rfl, Or.inr rfl, Or.inl rfl, trivial⟩ ?_
              exact hJ 4 (if_neg c42).symm
        have hE1 : ¬ ((¬ (v25 = 0)) ∨ ((v5 = 0) ∧ (l1 = 38))) → mWm G y_RR_closeInner (d + 1) 89 [vr a0, vi l1, vi l2, vi v5, vi v14, vi v25, vd] [] M (fun r9 M9 => ∃ x9, r9 = some (vi x9) ∧ Q x9 M9) := by
          intro q73
          have h := h.2 q73
          refine wm_iconst d_RR_closeInner_89 ?_
          refine wm_ireturn d_RR_closeInner_90 rfl rfl ?_
          exact ⟨_, rfl, h⟩
        clear h
        refine wm_if_ne (tgt := 91) d_RR_closeInner_76 rfl h28 (fun c32 => ?_) (fun c32 => ?_)
        · exact hE0 (Or.inl c32)
        · replace c32 := Classical.not_not.mp c32
          refine wm_iload_n d_RR_closeInner_79 rfl rfl ?_
          refine wm_if_ne (tgt := 89) d_RR_closeInner_80 rfl h8 (fun c31 => ?_) (fun c31 => ?_)
          · exact hE1 (fun z77 => Or.elim z77 (fun w => w c32) (fun z78 => c31 z78.1))
          · replace c31 := Classical.not_not.mp c31
            refine wm_iload_n d_RR_closeInner_83 rfl rfl ?_
            refine wm_bipush d_RR_closeInner_84 (by decide) ?_
            refine wm_icmp_eq (tgt := 91) d_RR_closeInner_86 rfl hi_l1 ⟨by decide, by decide⟩ (fun c30 => ?_) (fun c30 => ?_)
            · exact hE0 (Or.inr ⟨c31, c30⟩)
            · exact hE1 (fun z74 => Or.elim z74 (fun w => w c32) (fun z75 => c30 z75.2))
      clear h
      refine wm_if_eq (tgt := 56) d_RR_closeInner_47 rfl h8 (fun c19 => ?_) (fun c19 => ?_)
      · refine wm_iload d_RR_closeInner_56 rfl ?_
        refine wm_if_eq (tgt := 71) d_RR_closeInner_58 rfl h17 (fun c20 => ?_) (fun c20 => ?_)
        · refine wm_iconst d_RR_closeInner_71 ?_
          exact hJ 0 (if_pos (Or.inl ⟨c19, (Or.inl c20)⟩)).symm
        · refine wm_iload_n d_RR_closeInner_61 rfl rfl ?_
          refine wm_bipush d_RR_closeInner_62 (by decide) ?_
          refine wm_icmp_ne (tgt := 71) d_RR_closeInner_64 rfl hi_l1 ⟨by decide, by decide⟩ (fun c21 => ?_) (fun c21 => ?_)
          · refine wm_iconst d_RR_closeInner_71 ?_
            exact hJ 0 (if_pos (Or.inl ⟨c19, (Or.inr c21)⟩)).symm
          · replace c21 := Classical.not_not.mp c21
            refine wm_iconst d_RR_closeInner_67 ?_
            refine wm_goto (tgt := 72) d_RR_closeInner_68 rfl ?_
            exact hJ 1 (if_neg (fun z79 => Or.elim z79 (fun w => (fun z80 => Or.elim z80 c20 (fun z81 => z81 c21)) w.2) (fun w => w.1 c19))).symm
      · refine wm_iload_n d_RR_closeInner_50 rfl rfl ?_
        refine wm_bipush d_RR_closeInner_51 (by decide) ?_
        refine wm_icmp_eq (tgt := 67) d_RR_closeInner_53 rfl hi_l1 ⟨by decide, by decide⟩ (fun c22 => ?_) (fun c22 => ?_)
        · refine wm_iconst d_RR_closeInner_67 ?_
          refine wm_goto (tgt := 72) d_RR_closeInner_68 rfl ?_
          exact hJ 1 (if_neg (fun z82 => Or.elim z82 (fun w => c19 w.1) (fun w => (fun z83 => z83.1 c22) w.2))).symm
        · refine wm_iload d_RR_closeInner_56 rfl ?_
          refine wm_if_eq (tgt := 71) d_RR_closeInner_58 rfl h17 (fun c23 => ?_) (fun c23 => ?_)
          · refine wm_iconst d_RR_closeInner_71 ?_
            exact hJ 0 (if_pos (Or.inr ⟨c19, ⟨c22, (Or.inl c23)⟩⟩)).symm
          · refine wm_iload_n d_RR_closeInner_61 rfl rfl ?_
            refine wm_bipush d_RR_closeInner_62 (by decide) ?_
            refine wm_icmp_ne (tgt := 71) d_RR_closeInner_64 rfl hi_l1 ⟨by decide, by decide⟩ (fun c24 => ?_) (fun c24 => ?_)
            · refine wm_iconst d_RR_closeInner_71 ?_
              exact hJ 0 (if_pos (Or.inr ⟨c19, ⟨c22, (Or.inr c24)⟩⟩)).symm
            · replace c24 := Classical.not_not.mp c24
              refine wm_iconst d_RR_closeInner_67 ?_
              refine wm_goto (tgt := 72) d_RR_closeInner_68 rfl ?_
              exact hJ 1 (if_neg (fun z84 => Or.elim z84 (fun w => c19 w.1) (fun w => (fun z85 => (fun z86 => Or.elim z86 c23 (fun z87 => z87 c24)) z85.2) w.2))).symm
    clear h
    have s88 := s15
    refine wm_icmp_eq (tgt := 39) d_RR_closeInner_25 rfl (hO _ _).1 ⟨by decide, by decide⟩ (fun c11 => ?_) (fun c11 => ?_)
    · refine wm_iconst d_RR_closeInner_39 ?_
      refine wm_goto (tgt := 44) d_RR_closeInner_40 rfl ?_
      exact hJ 1 (if_pos (Or.inl c11)).symm
    · have s88 := s88 c11
      have h12 := s88
      refine wm_aload_n d_RR_closeInner_28 rfl rfl ?_
      refine gf_RR_11 rfl d_RR_closeInner_29 h1 ?_
      refine wm_iload_n d_RR_closeInner_32 rfl rfl ?_
      refine wm_iald d_RR_closeInner_33 h2 h12 ?_
      refine wm_bipush d_RR_closeInner_34 (by decide) ?_
      refine wm_icmp_ne (tgt := 43) d_RR_closeInner_36 rfl (hO _ _).1 ⟨by decide, by decide⟩ (fun c13 => ?_) (fun c13 => ?_)
      · refine wm_iconst d_RR_closeInner_43 ?_
        exact hJ 0 (if_neg (fun z89 => Or.elim z89 c11 c13)).symm
      · replace c13 := Classical.not_not.mp c13
        refine wm_iconst d_RR_closeInner_39 ?_
        refine wm_goto (tgt := 44) d_RR_closeInner_40 rfl ?_
        exact hJ 1 (if_pos (Or.inr c13)).symm
  clear h
  refine wm_icmp_ne (tgt := 15) d_RR_closeInner_8 rfl (hO _ _).1 ⟨by decide, by decide⟩ (fun c4 => ?_) (fun c4 => ?_)
  · refine wm_iconst d_RR_closeInner_15 ?_
    exact hJ 0 (if_neg c4).symm
  · replace c4 := Classical.not_not.mp c4
    refine wm_iconst d_RR_closeInner_11 ?_
    refine wm_goto (tgt := 16) d_RR_closeInner_12 rfl ?_
    exact hJ 1 (if_pos c4).symm
theorem k_RR_closeInner_165 {G : mG} {d : Nat} {a0 : Nat} {l2 : Int} {l4 : Int} {l5 : Int} {M : mM} {Q : Int → mM → Prop} (hO : mOk M) (hi_l2 : i32 l2) (hi_l4 : i32 l4) (hi_l5 : i32 l5)
    (h : ((l4 = 0) → ((((l4 = 0) ∨ (¬ (l5 = 0))) → (((l5 = 0) → (mK M a0 = 4 ∧ i32 ((mI M a0 12) - 1) ∧ ∀ M110, M110 = mUI M a0 12 ((mI M a0 12) - 1) → i32 ((mI M110 a0 5) - 1) ∧ ∀ M113, M113 = mUI M110 a0 5 ((mI M110 a0 5) - 1) → h_RR_closeInner_286 G d a0 l5 M113 Q)) ∧ (¬ (l5 = 0) → (h_RR_closeInner_286 G d a0 l5 M Q)))) ∧ (¬ ((l4 = 0) ∨ (¬ (l5 = 0))) → (mK M a0 = 4 ∧ mK M (mR M a0 11) = 30 ∧ ((0 : Int) ≤ l2 ∧ l2 < (mN M (mR M a0 11) : Int)) ∧ ((andI (mI M (mR M a0 11) (Int.toNat l2)) 1 = 0) → (h_RR_closeInner_256 G d a0 l5 M Q)) ∧ (¬ (andI (mI M (mR M a0 11) (Int.toNat l2)) 1 = 0) → (mK M (mR M a0 9) = 30 ∧ ((0 : Int) ≤ l2 ∧ l2 < (mN M (mR M a0 9) : Int)) ∧ Cv G y_RR_note d [vr a0, vi 3, vi (mI M (mR M a0 9) (Int.toNat l2))] M (fun M123 => mOk M123 ∧ (h_RR_closeInner_256 G d a0 l5 M123 Q)))))))) ∧ (¬ (l4 = 0) → (mK M a0 = 4 ∧ mK M (mR M a0 11) = 30 ∧ ((0 : Int) ≤ l2 ∧ l2 < (mN M (mR M a0 11) : Int)) ∧ ((andI (mI M (mR M a0 11) (Int.toNat l2)) 2 = 0) → (h_RR_closeInner_201 G d a0 l2 l4 l5 M Q)) ∧ (¬ (andI (mI M (mR M a0 11) (Int.toNat l2)) 2 = 0) → (mK M (mR M a0 8) = 30 ∧ ((0 : Int) ≤ l2 ∧ l2 < (mN M (mR M a0 8) : Int)) ∧ mK M (mR M a0 9) = 30 ∧ ((0 : Int) ≤ l2 ∧ l2 < (mN M (mR M a0 9) : Int)) ∧ mK M (mR M a0 1) = 6 ∧ Ci G y_Pr_add d [vr (mR M a0 1), vi (mI M (mR M a0 8) (Int.toNat l2)), vi (mI M (mR M a0 9) (Int.toNat l2))] M (fun x139 M138 => i32 x139 ∧ mOk M138 ∧ (h_RR_closeInner_201 G d a0 l2 l4 l5 M138 Q))))))) :
    h_RR_closeInner_165 G d a0 l2 l4 l5 M Q := by
  unfold h_RR_closeInner_165
  refine wm_iload d_RR_closeInner_165 rfl ?_
  refine wm_if_eq (tgt := 224) d_RR_closeInner_167 rfl hi_l4 (fun c97 => ?_) (fun c97 => ?_)
  · replace h := h.1 c97
    refine wm_iload d_RR_closeInner_224 rfl ?_
    have hE0 : ((l4 = 0) ∨ (¬ (l5 = 0))) → mWm G y_RR_closeInner (d + 1) 261 [vr a0, vd, vi l2, vd, vi l4, vi l5, vd] [] M (fun r9 M9 => ∃ x9, r9 = some (vi x9) ∧ Q x9 M9) := by
      intro q105
      have h := h.1 q105
      refine wm_iload d_RR_closeInner_261 rfl ?_
      refine wm_if_ne (tgt := 286) d_RR_closeInner_263 rfl hi_l5 (fun c107 => ?_) (fun c107 => ?_)
      · replace h := h.2 c107
        refine wm_less (L' := [vr a0, vd, vd, vd, vd, vi l5, vd]) ⟨Or.inr rfl, Or.inl rfl, Or.inl rfl, Or.inl rfl, Or.inl rfl, Or.inr rfl, Or.inl rfl, trivial⟩ ?_
        exact h
      · replace c107 := Classical.not_not.mp c107
        replace h := h.1 c107
        obtain ⟨h108, h⟩ := h
        obtain ⟨h109, h⟩ := h
        obtain ⟨M110, e111⟩ : ∃ M110, M110 = mUI M a0 12 ((mI M a0 12) - 1) := ⟨_, rfl⟩
        replace h := h M110 e111
        obtain ⟨h112, h⟩ := h
        obtain ⟨M113, e114⟩ : ∃ M113, M113 = mUI M110 a0 5 ((mI M110 a0 5) - 1) := ⟨_, rfl⟩
        replace h := h M113 e114
        refine wm_aload_n d_RR_closeInner_266 rfl rfl ?_
        refine wm_dup d_RR_closeInner_267 rfl ?_
        refine gf_RR_87 rfl d_RR_closeInner_268 h108 ?_
        refine wm_iconst d_RR_closeInner_271 ?_
        refine wm_isub d_RR_closeInner_272 ?_
        have hOM110 : mOk M110 := by rw [e111]; exact mOk_UI hO h109
        refine pf_RR_87 rfl d_RR_closeInner_273 h108 h109 e111 ?_
        refine wm_aload_n d_RR_closeInner_276 rfl rfl ?_
        refine wm_dup d_RR_closeInner_277 rfl ?_
        refine gf_RR_58 rfl d_RR_closeInner_278 (by rw [e111]; exact h108) ?_
        refine wm_iconst d_RR_closeInner_281 ?_
        refine wm_isub d_RR_closeInner_282 ?_
        have hOM113 : mOk M113 := by rw [e114]; exact mOk_UI hOM110 h112
        refine pf_RR_58 rfl d_RR_closeInner_283 (by rw [e111]; exact h108) h112 e114 ?_
        refine wm_less (L' := [vr a0, vd, vd, vd, vd, vi l5, vd]) ⟨Or.inr rfl, Or.inl rfl, Or.inl rfl, Or.inl rfl, Or.inl rfl, Or.inr rfl, Or.inl rfl, trivial⟩ ?_
        exact h
    have hE1 : ¬ ((l4 = 0) ∨ (¬ (l5 = 0))) → mWm G y_RR_closeInner (d + 1) 234 [vr a0, vd, vi l2, vd, vi l4, vi l5, vd] [] M (fun r9 M9 => ∃ x9, r9 = some (vi x9) ∧ Q x9 M9) := by
      intro q115
      have h := h.2 q115
      obtain ⟨h116, h⟩ := h
      obtain ⟨h117, h⟩ := h
      obtain ⟨h118, h⟩ := h
      refine wm_aload_n d_RR_closeInner_234 rfl rfl ?_
      refine gf_RR_21 rfl d_RR_closeInner_235 h116 ?_
      refine wm_iload_n d_RR_closeInner_238 rfl rfl ?_
      refine wm_iald d_RR_closeInner_239 h117 h118 ?_
      refine wm_iconst d_RR_closeInner_240 ?_
      refine wm_iand d_RR_closeInner_241 ?_
      refine wm_if_eq (tgt := 256) d_RR_closeInner_242 rfl (m_i32 _) (fun c120 => ?_) (fun c120 => ?_)
      · replace h := h.1 c120
        refine wm_less (L' := [vr a0, vd, vd, vd, vd, vi l5, vd]) ⟨Or.inr rfl, Or.inl rfl, Or.inl rfl, Or.inl rfl, Or.inl rfl, Or.inr rfl, Or.inl rfl, trivial⟩ ?_
        exact h
      · replace h := h.2 c120
        obtain ⟨h121, h⟩ := h
        obtain ⟨h122, h⟩ := h
        refine wm_aload_n d_RR_closeInner_245 rfl rfl ?_
        refine wm_iconst d_RR_closeInner_246 ?_
        refine wm_aload_n d_RR_closeInner_247 rfl rfl ?_
        refine gf_RR_15 rfl d_RR_closeInner_248 h116 ?_
        refine wm_iload_n d_RR_closeInner_251 rfl rfl ?_
        refine wm_iald d_RR_closeInner_252 h121 h122 ?_
        refine cf_RR_114 rfl d_RR_closeInner_253 h116 (Nat.le_of_ble_eq_true rfl) (Cv.mono h (fun M123 h => ?_))
        obtain ⟨hOM123, h⟩ := h
        refine wm_less (L' := [vr a0, vd, vd, vd, vd, vi l5, vd]) ⟨Or.inr rfl, Or.inl rfl, Or.inl rfl, Or.inl rfl, Or.inl rfl, Or.inr rfl, Or.inl rfl, trivial⟩ ?_
        exact h
    clear h
    refine wm_if_eq (tgt := 261) d_RR_closeInner_226 rfl hi_l4 (fun c103 => ?_) (fun c103 => ?_)
    · exact hE0 (Or.inl c103)
    · refine wm_iload d_RR_closeInner_229 rfl ?_
      refine wm_if_ne (tgt := 261) d_RR_closeInner_231 rfl hi_l5 (fun c102 => ?_) (fun c102 => ?_)
      · exact hE0 (Or.inr c102)
      · replace c102 := Classical.not_not.mp c102
        exact hE1 (fun z126 => Or.elim z126 c103 (fun z127 => z127 c102))
  · replace h := h.2 c97
    obtain ⟨h128, h⟩ := h
    obtain ⟨h129, h⟩ := h
    obtain ⟨h130, h⟩ := h
    refine wm_aload_n d_RR_closeInner_170 rfl rfl ?_
    refine gf_RR_21 rfl d_RR_closeInner_171 h128 ?_
    refine wm_iload_n d_RR_closeInner_174 rfl rfl ?_
    refine wm_iald d_RR_closeInner_175 h129 h130 ?_
    refine wm_iconst d_RR_closeInner_176 ?_
    refine wm_iand d_RR_closeInner_177 ?_
    refine wm_if_eq (tgt := 201) d_RR_closeInner_178 rfl (m_i32 _) (fun c132 => ?_) (fun c132 => ?_)
    · replace h := h.1 c132
      exact h
    · replace h := h.2 c132
      obtain ⟨h133, h⟩ := h
      obtain ⟨h134, h⟩ := h
      obtain ⟨h135, h⟩ := h
      obtain ⟨h136, h⟩ := h
      obtain ⟨h137, h⟩ := h
      refine wm_aload_n d_RR_closeInner_181 rfl rfl ?_
      refine gf_RR_44 rfl d_RR_closeInner_182 h128 ?_
      refine wm_aload_n d_RR_closeInner_185 rfl rfl ?_
      refine gf_RR_11 rfl d_RR_closeInner_186 h128 ?_
      refine wm_iload_n d_RR_closeInner_189 rfl rfl ?_
      refine wm_iald d_RR_closeInner_190 h133 h134 ?_
      refine wm_aload_n d_RR_closeInner_191 rfl rfl ?_
      refine gf_RR_15 rfl d_RR_closeInner_192 h128 ?_
      refine wm_iload_n d_RR_closeInner_195 rfl rfl ?_
      refine wm_iald d_RR_closeInner_196 h135 h136 ?_
      refine cf_RR_135 rfl d_RR_closeInner_197 h137 (Nat.le_of_ble_eq_true rfl) (Ci.mono h (fun x139 M138 h => ?_))
      obtain ⟨h140, hOM138, h⟩ := h
      refine wm_pop d_RR_closeInner_200 rfl ?_
      exact h
theorem k_RR_closeInner_201 {G : mG} {d : Nat} {a0 : Nat} {l2 : Int} {l4 : Int} {l5 : Int} {M : mM} {Q : Int → mM → Prop} (hO : mOk M) (hi_l2 : i32 l2) (hi_l4 : i32 l4) (hi_l5 : i32 l5)
    (h : mK M a0 = 4 ∧ mK M (mR M a0 11) = 30 ∧ ((0 : Int) ≤ l2 ∧ l2 < (mN M (mR M a0 11) : Int)) ∧ Ci G y_RR_popKind d [vr a0] M (fun x145 M144 => i32 x145 ∧ mOk M144 ∧ (∀ v148 : Int, v148 = (if (x145 = 0) then 0 else 1) → mK M144 (mR M a0 11) = 30 ∧ ((0 : Int) ≤ l2 ∧ l2 < (mN M144 (mR M a0 11) : Int)) ∧ ∀ M155, M155 = mUI M144 (mR M a0 11) (Int.toNat l2) (orI (mI M (mR M a0 11) (Int.toNat l2)) (orI 2 v148)) → (((l4 = 0) ∨ (¬ (l5 = 0))) → (((l5 = 0) → (mK M155 a0 = 4 ∧ i32 ((mI M155 a0 12) - 1) ∧ ∀ M169, M169 = mUI M155 a0 12 ((mI M155 a0 12) - 1) → i32 ((mI M169 a0 5) - 1) ∧ ∀ M172, M172 = mUI M169 a0 5 ((mI M169 a0 5) - 1) → h_RR_closeInner_286 G d a0 l5 M172 Q)) ∧ (¬ (l5 = 0) → (h_RR_closeInner_286 G d a0 l5 M155 Q)))) ∧ (¬ ((l4 = 0) ∨ (¬ (l5 = 0))) → (mK M155 a0 = 4 ∧ mK M155 (mR M155 a0 11) = 30 ∧ ((0 : Int) ≤ l2 ∧ l2 < (mN M155 (mR M155 a0 11) : Int)) ∧ ((andI (mI M155 (mR M155 a0 11) (Int.toNat l2)) 1 = 0) → (h_RR_closeInner_256 G d a0 l5 M155 Q)) ∧ (¬ (andI (mI M155 (mR M155 a0 11) (Int.toNat l2)) 1 = 0) → (mK M155 (mR M155 a0 9) = 30 ∧ ((0 : Int) ≤ l2 ∧ l2 < (mN M155 (mR M155 a0 9) : Int)) ∧ Cv G y_RR_note d [vr a0, vi 3, vi (mI M155 (mR M155 a0 9) (Int.toNat l2))] M155 (fun M182 => mOk M182 ∧ (h_RR_closeInner_256 G d a0 l5 M182 Q))))))))) :
    h_RR_closeInner_201 G d a0 l2 l4 l5 M Q := by
  unfold h_RR_closeInner_201
  obtain ⟨h141, h⟩ := h
  obtain ⟨h142, h⟩ := h
  obtain ⟨h143, h⟩ := h
  refine wm_aload_n d_RR_closeInner_201 rfl rfl ?_
  refine gf_RR_21 rfl d_RR_closeInner_202 h141 ?_
  refine wm_iload_n d_RR_closeInner_205 rfl rfl ?_
  refine wm_dup2 d_RR_closeInner_206 rfl rfl ?_
  refine wm_iald d_RR_closeInner_207 h142 h143 ?_
  refine wm_iconst d_RR_closeInner_208 ?_
  refine wm_aload_n d_RR_closeInner_209 rfl rfl ?_
  refine cf_RR_162 rfl d_RR_closeInner_210 h141 (Nat.le_of_ble_eq_true rfl) (Ci.mono h (fun x145 M144 h => ?_))
  obtain ⟨h146, hOM144, h⟩ := h
  have hJ : ∀ v148 : Int, v148 = (if (x145 = 0) then 0 else 1) → mWm G y_RR_closeInner (d + 1) 221 [vr a0, vd, vi l2, vd, vi l4, vi l5, vd] [vi v148, vi 2, vi (mI M (mR M a0 11) (Int.toNat l2)), vi l2, vr (mR M a0 11)] M144 (fun r9 M9 => ∃ x9, r9 = some (vi x9) ∧ Q x9 M9) := by
    intro v148 e150
    have h := h v148 e150
    have h151 : i32 v148 := by rw [e150]; (repeat' split) <;> first | exact ⟨by decide, by decide⟩ | exact ⟨by decide, by decide⟩
    have h152 : (v148 = 0 ∨ v148 = 1) := by rw [e150]; (repeat' split) <;> decide
    obtain ⟨h153, h⟩ := h
    obtain ⟨h154, h⟩ := h
    obtain ⟨M155, e156⟩ : ∃ M155, M155 = mUI M144 (mR M a0 11) (Int.toNat l2) (orI (mI M (mR M a0 11) (Int.toNat l2)) (orI 2 v148)) := ⟨_, rfl⟩
    replace h := h M155 e156
    refine wm_ior d_RR_closeInner_221 ?_
    refine wm_ior d_RR_closeInner_222 ?_
    have hOM155 : mOk M155 := by rw [e156]; exact mOk_UI hOM144 (m_i32 _)
    refine wm_iastE d_RR_closeInner_223 h153 h154 (m_i32 _) e156 ?_
    refine wm_iload d_RR_closeInner_224 rfl ?_
    have hE0 : ((l4 = 0) ∨ (¬ (l5 = 0))) → mWm G y_RR_closeInner (d + 1) 261 [vr a0, vd, vi l2, vd, vi l4, vi l5, vd] [] M155 (fun r9 M9 => ∃ x9, r9 = some (vi x9) ∧ Q x9 M9) := by
      intro q164
      have h := h.1 q164
      refine wm_iload d_RR_closeInner_261 rfl ?_
      refine wm_if_ne (tgt := 286) d_RR_closeInner_263 rfl hi_l5 (fun c166 => ?_) (fun c166 => ?_)
      · replace h := h.2 c166
        refine wm_less (L' := [vr a0, vd, vd, vd, vd, vi l5, vd]) ⟨Or.inr rfl, Or.inl rfl, Or.inl rfl, Or.inl rfl, Or.inl rfl, Or.inr rfl, Or.inl rfl, trivial⟩ ?_
        exact h
      · replace c166 := Classical.not_not.mp c166
        replace h := h.1 c166
        obtain ⟨h167, h⟩ := h
        obtain ⟨h168, h⟩ := h
        obtain ⟨M169, e170⟩ : ∃ M169, M169 = mUI M155 a0 12 ((mI M155 a0 12) - 1) := ⟨_, rfl⟩
        replace h := h M169 e170
        obtain ⟨h171, h⟩ := h
        obtain ⟨M172, e173⟩ : ∃ M172, M172 = mUI M169 a0 5 ((mI M169 a0 5) - 1) := ⟨_, rfl⟩
        replace h := h M172 e173
        refine wm_aload_n d_RR_closeInner_266 rfl rfl ?_
        refine wm_dup d_RR_closeInner_267 rfl ?_
        refine gf_RR_87 rfl d_RR_closeInner_268 h167 ?_
        refine wm_iconst d_RR_closeInner_271 ?_
        refine wm_isub d_RR_closeInner_272 ?_
        have hOM169 : mOk M169 := by rw [e170]; exact mOk_UI hOM155 h168
        refine pf_RR_87 rfl d_RR_closeInner_273 h167 h168 e170 ?_
        refine wm_aload_n d_RR_closeInner_276 rfl rfl ?_
        refine wm_dup d_RR_closeInner_277 rfl ?_
        refine gf_RR_58 rfl d_RR_closeInner_278 (by rw [e170]; exact h167) ?_
        refine wm_iconst d_RR_closeInner_281 ?_
        refine wm_isub d_RR_closeInner_282 ?_
        have hOM172 : mOk M172 := by rw [e173]; exact mOk_UI hOM169 h171
        refine pf_RR_58 rfl d_RR_closeInner_283 (by rw [e170]; exact h167) h171 e173 ?_
        refine wm_less (L' := [vr a0, vd, vd, vd, vd, vi l5, vd]) ⟨Or.inr rfl, Or.inl rfl, Or.inl rfl, Or.inl rfl, Or.inl rfl, Or.inr rfl, Or.inl rfl, trivial⟩ ?_
        exact h
    have hE1 : ¬ ((l4 = 0) ∨ (¬ (l5 = 0))) → mWm G y_RR_closeInner (d + 1) 234 [vr a0, vd, vi l2, vd, vi l4, vi l5, vd] [] M155 (fun r9 M9 => ∃ x9, r9 = some (vi x9) ∧ Q x9 M9) := by
      intro q174
      have h := h.2 q174
      obtain ⟨h175, h⟩ := h
      obtain ⟨h176, h⟩ := h
      obtain ⟨h177, h⟩ := h
      refine wm_aload_n d_RR_closeInner_234 rfl rfl ?_
      refine gf_RR_21 rfl d_RR_closeInner_235 h175 ?_
      refine wm_iload_n d_RR_closeInner_238 rfl rfl ?_
      refine wm_iald d_RR_closeInner_239 h176 h177 ?_
      refine wm_iconst d_RR_closeInner_240 ?_
      refine wm_iand d_RR_closeInner_241 ?_
      refine wm_if_eq (tgt := 256) d_RR_closeInner_242 rfl (m_i32 _) (fun c179 => ?_) (fun c179 => ?_)
      · replace h := h.1 c179
        refine wm_less (L' := [vr a0, vd, vd, vd, vd, vi l5, vd]) ⟨Or.inr rfl, Or.inl rfl, Or.inl rfl, Or.inl rfl, Or.inl rfl, Or.inr rfl, Or.inl rfl, trivial⟩ ?_
        exact h
      · replace h := h.2 c179
        obtain ⟨h180, h⟩ := h
        obtain ⟨h181, h⟩ := h
        refine wm_aload_n d_RR_closeInner_245 rfl rfl ?_
        refine wm_iconst d_RR_closeInner_246 ?_
        refine wm_aload_n d_RR_closeInner_247 rfl rfl ?_
        refine gf_RR_15 rfl d_RR_closeInner_248 h175 ?_
        refine wm_iload_n d_RR_closeInner_251 rfl rfl ?_
        refine wm_iald d_RR_closeInner_252 h180 h181 ?_
        refine cf_RR_114 rfl d_RR_closeInner_253 h175 (Nat.le_of_ble_eq_true rfl) (Cv.mono h (fun M182 h => ?_))
        obtain ⟨hOM182, h⟩ := h
        refine wm_less (L' := [vr a0, vd, vd, vd, vd, vi l5, vd]) ⟨Or.inr rfl, Or.inl rfl, Or.inl rfl, Or.inl rfl, Or.inl rfl, Or.inr rfl, Or.inl rfl, trivial⟩ ?_
        exact h
    clear h
    refine wm_if_eq (tgt := 261) d_RR_closeInner_226 rfl hi_l4 (fun c162 => ?_) (fun c162 => ?_)
    · exact hE0 (Or.inl c162)
    · refine wm_iload d_RR_closeInner_229 rfl ?_
      refine wm_if_ne (tgt := 261) d_RR_closeInner_231 rfl hi_l5 (fun c161 => ?_) (fun c161 => ?_)
      · exact hE0 (Or.inr c161)
      · replace c161 := Classical.not_not.mp c161
        exact hE1 (fun z185 => Or.elim z185 c162 (fun z186 => z186 c161))
  clear h
  refine wm_if_eq (tgt := 220) d_RR_closeInner_213 rfl h146 (fun c147 => ?_) (fun c147 => ?_)
  · refine wm_iconst d_RR_closeInner_220 ?_
    exact hJ 0 (if_pos c147).symm
  · refine wm_iconst d_RR_closeInner_216 ?_
    refine wm_goto (tgt := 221) d_RR_closeInner_217 rfl ?_
    exact hJ 1 (if_neg c147).symm
theorem k_RR_closeInner_256 {G : mG} {d : Nat} {a0 : Nat} {l5 : Int} {M : mM} {Q : Int → mM → Prop} (hO : mOk M) (hi_l5 : i32 l5)
    (h : mK M a0 = 4 ∧ Cv G y_RR_pushKind d [vr a0, vi 0] M (fun M189 => mOk M189 ∧ (((l5 = 0) → (mK M189 a0 = 4 ∧ i32 ((mI M189 a0 12) - 1) ∧ ∀ M196, M196 = mUI M189 a0 12 ((mI M189 a0 12) - 1) → i32 ((mI M196 a0 5) - 1) ∧ ∀ M199, M199 = mUI M196 a0 5 ((mI M196 a0 5) - 1) → h_RR_closeInner_286 G d a0 l5 M199 Q)) ∧ (¬ (l5 = 0) → (h_RR_closeInner_286 G d a0 l5 M189 Q))))) :
    h_RR_closeInner_256 G d a0 l5 M Q := by
  unfold h_RR_closeInner_256
  obtain ⟨h188, h⟩ := h
  refine wm_aload_n d_RR_closeInner_256 rfl rfl ?_
  refine wm_iconst d_RR_closeInner_257 ?_
  refine cf_RR_140 rfl d_RR_closeInner_258 h188 (Nat.le_of_ble_eq_true rfl) (Cv.mono h (fun M189 h => ?_))
  obtain ⟨hOM189, h⟩ := h
  refine wm_iload d_RR_closeInner_261 rfl ?_
  refine wm_if_ne (tgt := 286) d_RR_closeInner_263 rfl hi_l5 (fun c193 => ?_) (fun c193 => ?_)
  · replace h := h.2 c193
    exact h
  · replace c193 := Classical.not_not.mp c193
    replace h := h.1 c193
    obtain ⟨h194, h⟩ := h
    obtain ⟨h195, h⟩ := h
    obtain ⟨M196, e197⟩ : ∃ M196, M196 = mUI M189 a0 12 ((mI M189 a0 12) - 1) := ⟨_, rfl⟩
    replace h := h M196 e197
    obtain ⟨h198, h⟩ := h
    obtain ⟨M199, e200⟩ : ∃ M199, M199 = mUI M196 a0 5 ((mI M196 a0 5) - 1) := ⟨_, rfl⟩
    replace h := h M199 e200
    refine wm_aload_n d_RR_closeInner_266 rfl rfl ?_
    refine wm_dup d_RR_closeInner_267 rfl ?_
    refine gf_RR_87 rfl d_RR_closeInner_268 h194 ?_
    refine wm_iconst d_RR_closeInner_271 ?_
    refine wm_isub d_RR_closeInner_272 ?_
    have hOM196 : mOk M196 := by rw [e197]; exact mOk_UI hOM189 h195
    refine pf_RR_87 rfl d_RR_closeInner_273 h194 h195 e197 ?_
    refine wm_aload_n d_RR_closeInner_276 rfl rfl ?_
    refine wm_dup d_RR_closeInner_277 rfl ?_
    refine gf_RR_58 rfl d_RR_closeInner_278 (by rw [e197]; exact h194) ?_
    refine wm_iconst d_RR_closeInner_281 ?_
    refine wm_isub d_RR_closeInner_282 ?_
    have hOM199 : mOk M199 := by rw [e200]; exact mOk_UI hOM196 h198
    refine pf_RR_58 rfl d_RR_closeInner_283 (by rw [e197]; exact h194) h198 e200 ?_
    exact h
theorem k_RR_closeInner_286 {G : mG} {d : Nat} {a0 : Nat} {l5 : Int} {M : mM} {Q : Int → mM → Prop} (hO : mOk M) (hi_l5 : i32 l5)
    (h : mK M a0 = 4 ∧ (l5 = 0 ∨ l5 = 1) ∧ ∀ M203, M203 = mUI M a0 7 l5 → i32 ((mI M203 a0 2) + 1) ∧ ∀ M206, M206 = mUI M203 a0 2 ((mI M203 a0 2) + 1) → Q 0 M206) :
    h_RR_closeInner_286 G d a0 l5 M Q := by
  unfold h_RR_closeInner_286
  obtain ⟨h201, h⟩ := h
  obtain ⟨h202, h⟩ := h
  obtain ⟨M203, e204⟩ : ∃ M203, M203 = mUI M a0 7 l5 := ⟨_, rfl⟩
  replace h := h M203 e204
  obtain ⟨h205, h⟩ := h
  obtain ⟨M206, e207⟩ : ∃ M206, M206 = mUI M203 a0 2 ((mI M203 a0 2) + 1) := ⟨_, rfl⟩
  replace h := h M206 e207
  refine wm_aload_n d_RR_closeInner_286 rfl rfl ?_
  refine wm_iload d_RR_closeInner_287 rfl ?_
  have hOM203 : mOk M203 := by rw [e204]; exact mOk_UI hO (m_b32 h202)
  refine pf_RR_93 rfl d_RR_closeInner_289 h201 h202 e204 ?_
  refine wm_aload_n d_RR_closeInner_292 rfl rfl ?_
  refine wm_dup d_RR_closeInner_293 rfl ?_
  refine gf_RR_48 rfl d_RR_closeInner_294 (by rw [e204]; exact h201) ?_
  refine wm_iconst d_RR_closeInner_297 ?_
  refine wm_iadd d_RR_closeInner_298 ?_
  have hOM206 : mOk M206 := by rw [e207]; exact mOk_UI hOM203 h205
  refine pf_RR_48 rfl d_RR_closeInner_299 (by rw [e204]; exact h201) h205 e207 ?_
  refine wm_iconst d_RR_closeInner_302 ?_
  refine wm_ireturn d_RR_closeInner_303 rfl rfl ?_
  exact ⟨_, rfl, h⟩
theorem d_RR_group_0 : decode y_RR_group.2.1 0 = .ok (.aload_n 0, 1) := by decide +kernel
theorem d_RR_group_1 : decode y_RR_group.2.1 1 = .ok (.getfield 11, 3) := by decide +kernel
theorem d_RR_group_4 : decode y_RR_group.2.1 4 = .ok (.aload_n 0, 1) := by decide +kernel
theorem d_RR_group_5 : decode y_RR_group.2.1 5 = .ok (.getfield 87, 3) := by decide +kernel
theorem d_RR_group_8 : decode y_RR_group.2.1 8 = .ok (.iaload, 1) := by decide +kernel
theorem d_RR_group_9 : decode y_RR_group.2.1 9 = .ok (.istore_n 1, 1) := by decide +kernel
theorem d_RR_group_10 : decode y_RR_group.2.1 10 = .ok (.aload_n 0, 1) := by decide +kernel
theorem d_RR_group_11 : decode y_RR_group.2.1 11 = .ok (.invokevirtual 162, 3) := by decide +kernel
theorem d_RR_group_14 : decode y_RR_group.2.1 14 = .ok (.istore_n 2, 1) := by decide +kernel
theorem d_RR_group_15 : decode y_RR_group.2.1 15 = .ok (.iload_n 1, 1) := by decide +kernel
theorem d_RR_group_16 : decode y_RR_group.2.1 16 = .ok (.invokestatic 132, 3) := by decide +kernel
theorem d_RR_group_19 : decode y_RR_group.2.1 19 = .ok (.iconst 4, 1) := by decide +kernel
theorem d_RR_group_20 : decode y_RR_group.2.1 20 = .ok (.if_icmp .gt 7, 3) := by decide +kernel
theorem d_RR_group_27 : decode y_RR_group.2.1 27 = .ok (.iconst 0, 1) := by decide +kernel
theorem d_RR_group_23 : decode y_RR_group.2.1 23 = .ok (.iconst 1, 1) := by decide +kernel
theorem d_RR_group_24 : decode y_RR_group.2.1 24 = .ok (.goto 4, 3) := by decide +kernel
theorem d_RR_group_28 : decode y_RR_group.2.1 28 = .ok (.istore_n 3, 1) := by decide +kernel
theorem d_RR_group_29 : decode y_RR_group.2.1 29 = .ok (.iload_n 1, 1) := by decide +kernel
theorem d_RR_group_30 : decode y_RR_group.2.1 30 = .ok (.tableswitch 204 19 42 #[186, 204, 204, 204, 204, 186, 204, 204, 204, 204, 204, 165, 165, 204, 204, 204, 204, 204, 204, 204, 204, 110, 126, 132], 110) := by decide +kernel
theorem d_RR_group_216 : decode y_RR_group.2.1 216 = .ok (.aload_n 0, 1) := by decide +kernel
theorem d_RR_group_217 : decode y_RR_group.2.1 217 = .ok (.invokevirtual 162, 3) := by decide +kernel
theorem d_RR_group_220 : decode y_RR_group.2.1 220 = .ok (.iload_n 2, 1) := by decide +kernel
theorem d_RR_group_221 : decode y_RR_group.2.1 221 = .ok (.if_icmp .ne 7, 3) := by decide +kernel
theorem d_RR_group_224 : decode y_RR_group.2.1 224 = .ok (.iconst 1, 1) := by decide +kernel
theorem d_RR_group_225 : decode y_RR_group.2.1 225 = .ok (.goto 4, 3) := by decide +kernel
theorem d_RR_group_228 : decode y_RR_group.2.1 228 = .ok (.iconst 0, 1) := by decide +kernel
theorem d_RR_group_229 : decode y_RR_group.2.1 229 = .ok (.istore 4, 2) := by decide +kernel
theorem d_RR_group_231 : decode y_RR_group.2.1 231 = .ok (.goto 21, 3) := by decide +kernel
theorem d_RR_group_195 : decode y_RR_group.2.1 195 = .ok (.aload_n 0, 1) := by decide +kernel
theorem d_RR_group_196 : decode y_RR_group.2.1 196 = .ok (.invokevirtual 162, 3) := by decide +kernel
theorem d_RR_group_199 : decode y_RR_group.2.1 199 = .ok (.ifCond .eq 11, 3) := by decide +kernel
theorem d_RR_group_210 : decode y_RR_group.2.1 210 = .ok (.iconst 0, 1) := by decide +kernel
theorem d_RR_group_202 : decode y_RR_group.2.1 202 = .ok (.iload_n 2, 1) := by decide +kernel
theorem d_RR_group_203 : decode y_RR_group.2.1 203 = .ok (.ifCond .eq 7, 3) := by decide +kernel
theorem d_RR_group_206 : decode y_RR_group.2.1 206 = .ok (.iconst 1, 1) := by decide +kernel
theorem d_RR_group_207 : decode y_RR_group.2.1 207 = .ok (.goto 4, 3) := by decide +kernel
theorem d_RR_group_211 : decode y_RR_group.2.1 211 = .ok (.istore 4, 2) := by decide +kernel
theorem d_RR_group_213 : decode y_RR_group.2.1 213 = .ok (.goto 39, 3) := by decide +kernel
theorem d_RR_group_140 : decode y_RR_group.2.1 140 = .ok (.iload_n 2, 1) := by decide +kernel
theorem d_RR_group_141 : decode y_RR_group.2.1 141 = .ok (.ifCond .ne 7, 3) := by decide +kernel
theorem d_RR_group_144 : decode y_RR_group.2.1 144 = .ok (.iconst 1, 1) := by decide +kernel
theorem d_RR_group_145 : decode y_RR_group.2.1 145 = .ok (.goto 4, 3) := by decide +kernel
theorem d_RR_group_148 : decode y_RR_group.2.1 148 = .ok (.iconst 0, 1) := by decide +kernel
theorem d_RR_group_149 : decode y_RR_group.2.1 149 = .ok (.istore 4, 2) := by decide +kernel
theorem d_RR_group_151 : decode y_RR_group.2.1 151 = .ok (.iconst 0, 1) := by decide +kernel
theorem d_RR_group_152 : decode y_RR_group.2.1 152 = .ok (.istore_n 3, 1) := by decide +kernel
theorem d_RR_group_153 : decode y_RR_group.2.1 153 = .ok (.goto 99, 3) := by decide +kernel
theorem d_RR_group_156 : decode y_RR_group.2.1 156 = .ok (.iload_n 2, 1) := by decide +kernel
theorem d_RR_group_157 : decode y_RR_group.2.1 157 = .ok (.istore 4, 2) := by decide +kernel
theorem d_RR_group_159 : decode y_RR_group.2.1 159 = .ok (.goto 93, 3) := by decide +kernel
theorem d_RR_group_162 : decode y_RR_group.2.1 162 = .ok (.aload_n 0, 1) := by decide +kernel
theorem d_RR_group_163 : decode y_RR_group.2.1 163 = .ok (.getfield 21, 3) := by decide +kernel
theorem d_RR_group_166 : decode y_RR_group.2.1 166 = .ok (.aload_n 0, 1) := by decide +kernel
theorem d_RR_group_167 : decode y_RR_group.2.1 167 = .ok (.getfield 87, 3) := by decide +kernel
theorem d_RR_group_170 : decode y_RR_group.2.1 170 = .ok (.iaload, 1) := by decide +kernel
theorem d_RR_group_171 : decode y_RR_group.2.1 171 = .ok (.iload_n 2, 1) := by decide +kernel
theorem d_RR_group_172 : decode y_RR_group.2.1 172 = .ok (.ifCond .eq 7, 3) := by decide +kernel
theorem d_RR_group_179 : decode y_RR_group.2.1 179 = .ok (.iconst 0, 1) := by decide +kernel
theorem d_RR_group_175 : decode y_RR_group.2.1 175 = .ok (.iconst 4, 1) := by decide +kernel
theorem d_RR_group_176 : decode y_RR_group.2.1 176 = .ok (.goto 4, 3) := by decide +kernel
theorem d_RR_group_180 : decode y_RR_group.2.1 180 = .ok (.if_icmp .ne 7, 3) := by decide +kernel
theorem d_RR_group_183 : decode y_RR_group.2.1 183 = .ok (.iconst 1, 1) := by decide +kernel
theorem d_RR_group_184 : decode y_RR_group.2.1 184 = .ok (.goto 4, 3) := by decide +kernel
theorem d_RR_group_187 : decode y_RR_group.2.1 187 = .ok (.iconst 0, 1) := by decide +kernel
theorem d_RR_group_188 : decode y_RR_group.2.1 188 = .ok (.istore 4, 2) := by decide +kernel
theorem d_RR_group_190 : decode y_RR_group.2.1 190 = .ok (.iload_n 2, 1) := by decide +kernel
theorem d_RR_group_191 : decode y_RR_group.2.1 191 = .ok (.istore_n 3, 1) := by decide +kernel
theorem d_RR_group_192 : decode y_RR_group.2.1 192 = .ok (.goto 60, 3) := by decide +kernel
theorem d_RR_group_234 : decode y_RR_group.2.1 234 = .ok (.aload_n 0, 1) := by decide +kernel
theorem d_RR_group_235 : decode y_RR_group.2.1 235 = .ok (.invokevirtual 162, 3) := by decide +kernel
theorem d_RR_group_238 : decode y_RR_group.2.1 238 = .ok (.ifCond .ne 11, 3) := by decide +kernel
theorem d_RR_group_241 : decode y_RR_group.2.1 241 = .ok (.iload_n 2, 1) := by decide +kernel
theorem d_RR_group_242 : decode y_RR_group.2.1 242 = .ok (.ifCond .ne 7, 3) := by decide +kernel
theorem d_RR_group_245 : decode y_RR_group.2.1 245 = .ok (.iconst 1, 1) := by decide +kernel
theorem d_RR_group_246 : decode y_RR_group.2.1 246 = .ok (.goto 4, 3) := by decide +kernel
theorem d_RR_group_249 : decode y_RR_group.2.1 249 = .ok (.iconst 0, 1) := by decide +kernel
theorem d_RR_group_250 : decode y_RR_group.2.1 250 = .ok (.istore 4, 2) := by decide +kernel
theorem d_RR_group_252 : decode y_RR_group.2.1 252 = .ok (.iload 4, 2) := by decide +kernel
theorem d_RR_group_254 : decode y_RR_group.2.1 254 = .ok (.ifCond .ne 17, 3) := by decide +kernel
theorem d_RR_group_257 : decode y_RR_group.2.1 257 = .ok (.aload_n 0, 1) := by decide +kernel
theorem d_RR_group_258 : decode y_RR_group.2.1 258 = .ok (.iconst 3, 1) := by decide +kernel
theorem d_RR_group_259 : decode y_RR_group.2.1 259 = .ok (.aload_n 0, 1) := by decide +kernel
theorem d_RR_group_260 : decode y_RR_group.2.1 260 = .ok (.getfield 15, 3) := by decide +kernel
theorem d_RR_group_263 : decode y_RR_group.2.1 263 = .ok (.aload_n 0, 1) := by decide +kernel
theorem d_RR_group_264 : decode y_RR_group.2.1 264 = .ok (.getfield 87, 3) := by decide +kernel
theorem d_RR_group_267 : decode y_RR_group.2.1 267 = .ok (.iaload, 1) := by decide +kernel
theorem d_RR_group_268 : decode y_RR_group.2.1 268 = .ok (.invokevirtual 114, 3) := by decide +kernel
theorem d_RR_group_271 : decode y_RR_group.2.1 271 = .ok (.aload_n 0, 1) := by decide +kernel
theorem d_RR_group_272 : decode y_RR_group.2.1 272 = .ok (.iload_n 3, 1) := by decide +kernel
theorem d_RR_group_273 : decode y_RR_group.2.1 273 = .ok (.invokevirtual 140, 3) := by decide +kernel
theorem d_RR_group_276 : decode y_RR_group.2.1 276 = .ok (.iload_n 1, 1) := by decide +kernel
theorem d_RR_group_277 : decode y_RR_group.2.1 277 = .ok (.bipush 40, 2) := by decide +kernel
theorem d_RR_group_279 : decode y_RR_group.2.1 279 = .ok (.if_icmp .eq 15, 3) := by decide +kernel
theorem d_RR_group_294 : decode y_RR_group.2.1 294 = .ok (.aload_n 0, 1) := by decide +kernel
theorem d_RR_group_295 : decode y_RR_group.2.1 295 = .ok (.dup, 1) := by decide +kernel
theorem d_RR_group_296 : decode y_RR_group.2.1 296 = .ok (.getfield 58, 3) := by decide +kernel
theorem d_RR_group_299 : decode y_RR_group.2.1 299 = .ok (.iconst 1, 1) := by decide +kernel
theorem d_RR_group_300 : decode y_RR_group.2.1 300 = .ok (.isub, 1) := by decide +kernel
theorem d_RR_group_301 : decode y_RR_group.2.1 301 = .ok (.putfield 58, 3) := by decide +kernel
theorem d_RR_group_282 : decode y_RR_group.2.1 282 = .ok (.iload_n 1, 1) := by decide +kernel
theorem d_RR_group_283 : decode y_RR_group.2.1 283 = .ok (.bipush 41, 2) := by decide +kernel
theorem d_RR_group_285 : decode y_RR_group.2.1 285 = .ok (.if_icmp .eq 9, 3) := by decide +kernel
theorem d_RR_group_288 : decode y_RR_group.2.1 288 = .ok (.iload_n 1, 1) := by decide +kernel
theorem d_RR_group_289 : decode y_RR_group.2.1 289 = .ok (.bipush 42, 2) := by decide +kernel
theorem d_RR_group_291 : decode y_RR_group.2.1 291 = .ok (.if_icmp .ne 13, 3) := by decide +kernel
theorem d_RR_group_304 : decode y_RR_group.2.1 304 = .ok (.aload_n 0, 1) := by decide +kernel
theorem d_RR_group_305 : decode y_RR_group.2.1 305 = .ok (.getfield 18, 3) := by decide +kernel
theorem d_RR_group_308 : decode y_RR_group.2.1 308 = .ok (.aload_n 0, 1) := by decide +kernel
theorem d_RR_group_309 : decode y_RR_group.2.1 309 = .ok (.getfield 87, 3) := by decide +kernel
theorem d_RR_group_312 : decode y_RR_group.2.1 312 = .ok (.iaload, 1) := by decide +kernel
theorem d_RR_group_313 : decode y_RR_group.2.1 313 = .ok (.iconst (-1), 1) := by decide +kernel
theorem d_RR_group_314 : decode y_RR_group.2.1 314 = .ok (.if_icmp .eq 30, 3) := by decide +kernel
theorem d_RR_group_344 : decode y_RR_group.2.1 344 = .ok (.aload_n 0, 1) := by decide +kernel
theorem d_RR_group_345 : decode y_RR_group.2.1 345 = .ok (.getfield 44, 3) := by decide +kernel
theorem d_RR_group_348 : decode y_RR_group.2.1 348 = .ok (.iload_n 1, 1) := by decide +kernel
theorem d_RR_group_349 : decode y_RR_group.2.1 349 = .ok (.aload_n 0, 1) := by decide +kernel
theorem d_RR_group_350 : decode y_RR_group.2.1 350 = .ok (.getfield 15, 3) := by decide +kernel
theorem d_RR_group_353 : decode y_RR_group.2.1 353 = .ok (.aload_n 0, 1) := by decide +kernel
theorem d_RR_group_354 : decode y_RR_group.2.1 354 = .ok (.getfield 87, 3) := by decide +kernel
theorem d_RR_group_357 : decode y_RR_group.2.1 357 = .ok (.iaload, 1) := by decide +kernel
theorem d_RR_group_317 : decode y_RR_group.2.1 317 = .ok (.aload_n 0, 1) := by decide +kernel
theorem d_RR_group_318 : decode y_RR_group.2.1 318 = .ok (.getfield 44, 3) := by decide +kernel
theorem d_RR_group_321 : decode y_RR_group.2.1 321 = .ok (.getfield 165, 3) := by decide +kernel
theorem d_RR_group_324 : decode y_RR_group.2.1 324 = .ok (.aload_n 0, 1) := by decide +kernel
theorem d_RR_group_325 : decode y_RR_group.2.1 325 = .ok (.getfield 18, 3) := by decide +kernel
theorem d_RR_group_328 : decode y_RR_group.2.1 328 = .ok (.aload_n 0, 1) := by decide +kernel
theorem d_RR_group_329 : decode y_RR_group.2.1 329 = .ok (.getfield 87, 3) := by decide +kernel
theorem d_RR_group_332 : decode y_RR_group.2.1 332 = .ok (.iaload, 1) := by decide +kernel
theorem d_RR_group_333 : decode y_RR_group.2.1 333 = .ok (.aload_n 0, 1) := by decide +kernel
theorem d_RR_group_334 : decode y_RR_group.2.1 334 = .ok (.getfield 44, 3) := by decide +kernel
theorem d_RR_group_337 : decode y_RR_group.2.1 337 = .ok (.getfield 168, 3) := by decide +kernel
theorem d_RR_group_340 : decode y_RR_group.2.1 340 = .ok (.iastore, 1) := by decide +kernel
theorem d_RR_group_341 : decode y_RR_group.2.1 341 = .ok (.goto 21, 3) := by decide +kernel
theorem d_RR_group_358 : decode y_RR_group.2.1 358 = .ok (.invokevirtual 135, 3) := by decide +kernel
theorem d_RR_group_361 : decode y_RR_group.2.1 361 = .ok (.pop, 1) := by decide +kernel
theorem d_RR_group_362 : decode y_RR_group.2.1 362 = .ok (.return_, 1) := by decide +kernel
def h_RR_group_252 (G : mG) (d : Nat) (a0 : Nat) (l1 : Int) (l3 : Int) (l4 : Int) (M : mM) (Q : mM → Prop) : Prop := mWm G y_RR_group (d + 1) 252 [vr a0, vi l1, vd, vi l3, vi l4] [] M (fun r9 M9 => r9 = none ∧ Q M9)
def h_RR_group_271 (G : mG) (d : Nat) (a0 : Nat) (l1 : Int) (l3 : Int) (M : mM) (Q : mM → Prop) : Prop := mWm G y_RR_group (d + 1) 271 [vr a0, vi l1, vd, vi l3, vd] [] M (fun r9 M9 => r9 = none ∧ Q M9)
def h_RR_group_362 (G : mG) (d : Nat) (M : mM) (Q : mM → Prop) : Prop := mWm G y_RR_group (d + 1) 362 [vd, vd, vd, vd, vd] [] M (fun r9 M9 => r9 = none ∧ Q M9)
theorem k_RR_group {G : mG} {d : Nat} {a0 : Nat} {M : mM} {Q : mM → Prop} (hO : mOk M)
    (h : mK M a0 = 4 ∧ mK M (mR M a0 8) = 30 ∧ ((0 : Int) ≤ mI M a0 12 ∧ mI M a0 12 < (mN M (mR M a0 8) : Int)) ∧ Ci G y_RR_popKind d [vr a0] M (fun x5 M4 => i32 x5 ∧ mOk M4 ∧ (Ci G y_RR_level d [vi (mI M (mR M a0 8) (Int.toNat (mI M a0 12)))] M4 (fun x8 M7 => i32 x8 ∧ mOk M7 ∧ (∀ v11 : Int, v11 = (if (4 < x8) then 0 else 1) → ((mI M (mR M a0 8) (Int.toNat (mI M a0 12)) = 19 ∨ mI M (mR M a0 8) (Int.toNat (mI M a0 12)) = 24) → (mK M7 a0 = 4 ∧ Ci G y_RR_popKind d [vr a0] M7 (fun x21 M20 => i32 x21 ∧ mOk M20 ∧ (∀ v24 : Int, v24 = (if (x21 = x5) then 1 else 0) → h_RR_group_252 G d a0 (mI M (mR M a0 8) (Int.toNat (mI M a0 12))) v11 v24 M20 Q)))) ∧ (¬ (mI M (mR M a0 8) (Int.toNat (mI M a0 12)) = 19 ∨ mI M (mR M a0 8) (Int.toNat (mI M a0 12)) = 24) → (((mI M (mR M a0 8) (Int.toNat (mI M a0 12)) = 30 ∨ mI M (mR M a0 8) (Int.toNat (mI M a0 12)) = 31) → (mK M7 a0 = 4 ∧ Ci G y_RR_popKind d [vr a0] M7 (fun x34 M33 => i32 x34 ∧ mOk M33 ∧ (∀ v38 : Int, v38 = (if ((x34 = 0) ∨ (x5 = 0)) then 0 else 1) → h_RR_group_252 G d a0 (mI M (mR M a0 8) (Int.toNat (mI M a0 12))) v11 v38 M33 Q)))) ∧ (¬ (mI M (mR M a0 8) (Int.toNat (mI M a0 12)) = 30 ∨ mI M (mR M a0 8) (Int.toNat (mI M a0 12)) = 31) → (((mI M (mR M a0 8) (Int.toNat (mI M a0 12)) = 40) → (∀ v48 : Int, v48 = (if (x5 = 0) then 1 else 0) → h_RR_group_252 G d a0 (mI M (mR M a0 8) (Int.toNat (mI M a0 12))) 0 v48 M7 Q)) ∧ (¬ (mI M (mR M a0 8) (Int.toNat (mI M a0 12)) = 40) → (((mI M (mR M a0 8) (Int.toNat (mI M a0 12)) = 41) → (h_RR_group_252 G d a0 (mI M (mR M a0 8) (Int.toNat (mI M a0 12))) v11 x5 M7 Q)) ∧ (¬ (mI M (mR M a0 8) (Int.toNat (mI M a0 12)) = 41) → (((mI M (mR M a0 8) (Int.toNat (mI M a0 12)) = 42) → (mK M7 a0 = 4 ∧ mK M7 (mR M7 a0 11) = 30 ∧ ((0 : Int) ≤ mI M7 a0 12 ∧ mI M7 a0 12 < (mN M7 (mR M7 a0 11) : Int)) ∧ ∀ v62 : Int, v62 = (if (x5 = 0) then 0 else 4) → ∀ v67 : Int, v67 = (if (mI M7 (mR M7 a0 11) (Int.toNat (mI M7 a0 12)) = v62) then 1 else 0) → h_RR_group_252 G d a0 (mI M (mR M a0 8) (Int.toNat (mI M a0 12))) x5 v67 M7 Q)) ∧ (¬ (mI M (mR M a0 8) (Int.toNat (mI M a0 12)) = 42) → (mK M7 a0 = 4 ∧ Ci G y_RR_popKind d [vr a0] M7 (fun x76 M75 => i32 x76 ∧ mOk M75 ∧ (∀ v80 : Int, v80 = (if ((x76 = 0) ∧ (x5 = 0)) then 1 else 0) → h_RR_group_252 G d a0 (mI M (mR M a0 8) (Int.toNat (mI M a0 12))) v11 v80 M75 Q))))))))))))))))) :
    Cv G y_RR_group (d + 1) [vr a0] M Q := by
  refine wm_open (y := y_RR_group) rfl (Nat.le_of_ble_eq_true rfl) (L := [vr a0, vd, vd, vd, vd]) rfl ?_
  obtain ⟨h1, h⟩ := h
  obtain ⟨h2, h⟩ := h
  obtain ⟨h3, h⟩ := h
  refine wm_aload_n d_RR_group_0 rfl rfl ?_
  refine gf_RR_11 rfl d_RR_group_1 h1 ?_
  refine wm_aload_n d_RR_group_4 rfl rfl ?_
  refine gf_RR_87 rfl d_RR_group_5 h1 ?_
  refine wm_iald d_RR_group_8 h2 h3 ?_
  refine wm_istore_n d_RR_group_9 rfl (by decide) (L' := [vr a0, vi (mI M (mR M a0 8) (Int.toNat (mI M a0 12))), vd, vd, vd]) rfl ?_
  refine wm_aload_n d_RR_group_10 rfl rfl ?_
  refine cf_RR_162 rfl d_RR_group_11 h1 (Nat.le_of_ble_eq_true rfl) (Ci.mono h (fun x5 M4 h => ?_))
  obtain ⟨h6, hOM4, h⟩ := h
  refine wm_istore_n d_RR_group_14 rfl (by decide) (L' := [vr a0, vi (mI M (mR M a0 8) (Int.toNat (mI M a0 12))), vi x5, vd, vd]) rfl ?_
  refine wm_iload_n d_RR_group_15 rfl rfl ?_
  refine cf_RR_132 rfl d_RR_group_16 (Nat.le_of_ble_eq_true rfl) (Ci.mono h (fun x8 M7 h => ?_))
  obtain ⟨h9, hOM7, h⟩ := h
  refine wm_iconst d_RR_group_19 ?_
  have hJ : ∀ v11 : Int, v11 = (if (4 < x8) then 0 else 1) → mWm G y_RR_group (d + 1) 28 [vr a0, vi (mI M (mR M a0 8) (Int.toNat (mI M a0 12))), vi x5, vd, vd] [vi v11] M7 (fun r9 M9 => r9 = none ∧ Q M9) := by
    intro v11 e13
    have h := h v11 e13
    have h14 : i32 v11 := by rw [e13]; (repeat' split) <;> first | exact ⟨by decide, by decide⟩ | exact ⟨by decide, by decide⟩
    have h15 : (v11 = 0 ∨ v11 = 1) := by rw [e13]; (repeat' split) <;> decide
    refine wm_istore_n d_RR_group_28 rfl (by decide) (L' := [vr a0, vi (mI M (mR M a0 8) (Int.toNat (mI M a0 12))), vi x5, vi v11, vd]) rfl ?_
    refine wm_iload_n d_RR_group_29 rfl rfl ?_
    by_cases c18 : mI M (mR M a0 8) (Int.toNat (mI M a0 12)) = 19 ∨ mI M (mR M a0 8) (Int.toNat (mI M a0 12)) = 24
    · replace h := h.1 c18
      refine wm_tableIn (tgt := 216) (off := 186) d_RR_group_30 (hO _ _).1 (by omega) (by omega) (by rcases c18 with q9 | q9 <;> (rw [q9]; rfl)) rfl ?_
      obtain ⟨h19, h⟩ := h
      refine wm_aload_n d_RR_group_216 rfl rfl ?_
      refine cf_RR_162 rfl d_RR_group_217 h19 (Nat.le_of_ble_eq_true rfl) (Ci.mono h (fun x21 M20 h => ?_))
      obtain ⟨h22, hOM20, h⟩ := h
      refine wm_iload_n d_RR_group_220 rfl rfl ?_
      have hJ : ∀ v24 : Int, v24 = (if (x21 = x5) then 1 else 0) → mWm G y_RR_group (d + 1) 229 [vr a0, vi (mI M (mR M a0 8) (Int.toNat (mI M a0 12))), vd, vi v11, vd] [vi v24] M20 (fun r9 M9 => r9 = none ∧ Q M9) := by
        intro v24 e26
        have h := h v24 e26
        have h27 : i32 v24 := by rw [e26]; (repeat' split) <;> first | exact ⟨by decide, by decide⟩ | exact ⟨by decide, by decide⟩
        have h28 : (v24 = 0 ∨ v24 = 1) := by rw [e26]; (repeat' split) <;> decide
        refine wm_istore d_RR_group_229 (by decide) (L' := [vr a0, vi (mI M (mR M a0 8) (Int.toNat (mI M a0 12))), vd, vi v11, vi v24]) rfl ?_
        refine wm_goto (tgt := 252) d_RR_group_231 rfl ?_
        exact h
      clear h
      refine wm_icmp_ne (tgt := 228) d_RR_group_221 rfl h22 h6 (fun c23 => ?_) (fun c23 => ?_)
      · refine wm_iconst d_RR_group_228 ?_
        refine wm_less (L' := [vr a0, vi (mI M (mR M a0 8) (Int.toNat (mI M a0 12))), vd, vi v11, vd]) ⟨Or.inr rfl, Or.inr rfl, Or.inl rfl, Or.inr rfl, Or.inl rfl, trivial⟩ ?_
        exact hJ 0 (if_neg c23).symm
      · replace c23 := Classical.not_not.mp c23
        refine wm_iconst d_RR_group_224 ?_
        refine wm_goto (tgt := 229) d_RR_group_225 rfl ?_
        refine wm_less (L' := [vr a0, vi (mI M (mR M a0 8) (Int.toNat (mI M a0 12))), vd, vi v11, vd]) ⟨Or.inr rfl, Or.inr rfl, Or.inl rfl, Or.inr rfl, Or.inl rfl, trivial⟩ ?_
        exact hJ 1 (if_pos c23).symm
    · replace h := h.2 c18
      by_cases c31 : mI M (mR M a0 8) (Int.toNat (mI M a0 12)) = 30 ∨ mI M (mR M a0 8) (Int.toNat (mI M a0 12)) = 31
      · replace h := h.1 c31
        refine wm_tableIn (tgt := 195) (off := 165) d_RR_group_30 (hO _ _).1 (by omega) (by omega) (by rcases c31 with q9 | q9 <;> (rw [q9]; rfl)) rfl ?_
        obtain ⟨h32, h⟩ := h
        refine wm_aload_n d_RR_group_195 rfl rfl ?_
        refine cf_RR_162 rfl d_RR_group_196 h32 (Nat.le_of_ble_eq_true rfl) (Ci.mono h (fun x34 M33 h => ?_))
        obtain ⟨h35, hOM33, h⟩ := h
        have hJ : ∀ v38 : Int, v38 = (if ((x34 = 0) ∨ (x5 = 0)) then 0 else 1) → mWm G y_RR_group (d + 1) 211 [vr a0, vi (mI M (mR M a0 8) (Int.toNat (mI M a0 12))), vd, vi v11, vd] [vi v38] M33 (fun r9 M9 => r9 = none ∧ Q M9) := by
          intro v38 e40
          have h := h v38 e40
          have h41 : i32 v38 := by rw [e40]; (repeat' split) <;> first | exact ⟨by decide, by decide⟩ | exact ⟨by decide, by decide⟩
          have h42 : (v38 = 0 ∨ v38 = 1) := by rw [e40]; (repeat' split) <;> decide
          refine wm_istore d_RR_group_211 (by decide) (L' := [vr a0, vi (mI M (mR M a0 8) (Int.toNat (mI M a0 12))), vd, vi v11, vi v38]) rfl ?_
          refine wm_goto (tgt := 252) d_RR_group_213 rfl ?_
          exact h
        clear h
        refine wm_if_eq (tgt := 210) d_RR_group_199 rfl h35 (fun c36 => ?_) (fun c36 => ?_)
        · refine wm_iconst d_RR_group_210 ?_
          refine wm_less (L' := [vr a0, vi (mI M (mR M a0 8) (Int.toNat (mI M a0 12))), vd, vi v11, vd]) ⟨Or.inr rfl, Or.inr rfl, Or.inl rfl, Or.inr rfl, Or.inl rfl, trivial⟩ ?_
          exact hJ 0 (if_pos (Or.inl c36)).symm
        · refine wm_iload_n d_RR_group_202 rfl rfl ?_
          refine wm_if_eq (tgt := 210) d_RR_group_203 rfl h6 (fun c37 => ?_) (fun c37 => ?_)
          · refine wm_iconst d_RR_group_210 ?_
            refine wm_less (L' := [vr a0, vi (mI M (mR M a0 8) (Int.toNat (mI M a0 12))), vd, vi v11, vd]) ⟨Or.inr rfl, Or.inr rfl, Or.inl rfl, Or.inr rfl, Or.inl rfl, trivial⟩ ?_
            exact hJ 0 (if_pos (Or.inr c37)).symm
          · refine wm_iconst d_RR_group_206 ?_
            refine wm_goto (tgt := 211) d_RR_group_207 rfl ?_
            refine wm_less (L' := [vr a0, vi (mI M (mR M a0 8) (Int.toNat (mI M a0 12))), vd, vi v11, vd]) ⟨Or.inr rfl, Or.inr rfl, Or.inl rfl, Or.inr rfl, Or.inl rfl, trivial⟩ ?_
            exact hJ 1 (if_neg (fun z43 => Or.elim z43 c36 c37)).symm
      · replace h := h.2 c31
        by_cases c46 : mI M (mR M a0 8) (Int.toNat (mI M a0 12)) = 40
        · replace h := h.1 c46
          refine wm_tableIn (tgt := 140) (off := 110) d_RR_group_30 (hO _ _).1 (by omega) (by omega) (by rw [c46]; rfl) rfl ?_
          refine wm_iload_n d_RR_group_140 rfl rfl ?_
          have hJ : ∀ v48 : Int, v48 = (if (x5 = 0) then 1 else 0) → mWm G y_RR_group (d + 1) 149 [vr a0, vi (mI M (mR M a0 8) (Int.toNat (mI M a0 12))), vd, vd, vd] [vi v48] M7 (fun r9 M9 => r9 = none ∧ Q M9) := by
            intro v48 e50
            have h := h v48 e50
            have h51 : i32 v48 := by rw [e50]; (repeat' split) <;> first | exact ⟨by decide, by decide⟩ | exact ⟨by decide, by decide⟩
            have h52 : (v48 = 0 ∨ v48 = 1) := by rw [e50]; (repeat' split) <;> decide
            refine wm_istore d_RR_group_149 (by decide) (L' := [vr a0, vi (mI M (mR M a0 8) (Int.toNat (mI M a0 12))), vd, vd, vi v48]) rfl ?_
            refine wm_iconst d_RR_group_151 ?_
            refine wm_istore_n d_RR_group_152 rfl (by decide) (L' := [vr a0, vi (mI M (mR M a0 8) (Int.toNat (mI M a0 12))), vd, vi 0, vi v48]) rfl ?_
            refine wm_goto (tgt := 252) d_RR_group_153 rfl ?_
            exact h
          clear h
          refine wm_if_ne (tgt := 148) d_RR_group_141 rfl h6 (fun c47 => ?_) (fun c47 => ?_)
          · refine wm_iconst d_RR_group_148 ?_
            refine wm_less (L' := [vr a0, vi (mI M (mR M a0 8) (Int.toNat (mI M a0 12))), vd, vd, vd]) ⟨Or.inr rfl, Or.inr rfl, Or.inl rfl, Or.inl rfl, Or.inl rfl, trivial⟩ ?_
            exact hJ 0 (if_neg c47).symm
          · replace c47 := Classical.not_not.mp c47
            refine wm_iconst d_RR_group_144 ?_
            refine wm_goto (tgt := 149) d_RR_group_145 rfl ?_
            refine wm_less (L' := [vr a0, vi (mI M (mR M a0 8) (Int.toNat (mI M a0 12))), vd, vd, vd]) ⟨Or.inr rfl, Or.inr rfl, Or.inl rfl, Or.inl rfl, Or.inl rfl, trivial⟩ ?_
            exact hJ 1 (if_pos c47).symm
        · replace h := h.2 c46
          by_cases c55 : mI M (mR M a0 8) (Int.toNat (mI M a0 12)) = 41
          · replace h := h.1 c55
            refine wm_tableIn (tgt := 156) (off := 126) d_RR_group_30 (hO _ _).1 (by omega) (by omega) (by rw [c55]; rfl) rfl ?_
            refine wm_iload_n d_RR_group_156 rfl rfl ?_
            refine wm_istore d_RR_group_157 (by decide) (L' := [vr a0, vi (mI M (mR M a0 8) (Int.toNat (mI M a0 12))), vi x5, vi v11, vi x5]) rfl ?_
            refine wm_goto (tgt := 252) d_RR_group_159 rfl ?_
            refine wm_less (L' := [vr a0, vi (mI M (mR M a0 8) (Int.toNat (mI M a0 12))), vd, vi v11, vi x5]) ⟨Or.inr rfl, Or.inr rfl, Or.inl rfl, Or.inr rfl, Or.inr rfl, trivial⟩ ?_
            exact h
          · replace h := h.2 c55
            by_cases c57 : mI M (mR M a0 8) (Int.toNat (mI M a0 12)) = 42
            · replace h := h.1 c57
              refine wm_tableIn (tgt := 162) (off := 132) d_RR_group_30 (hO _ _).1 (by omega) (by omega) (by rw [c57]; rfl) rfl ?_
              obtain ⟨h58, h⟩ := h
              obtain ⟨h59, h⟩ := h
              obtain ⟨h60, h⟩ := h
              refine wm_aload_n d_RR_group_162 rfl rfl ?_
              refine gf_RR_21 rfl d_RR_group_163 h58 ?_
              refine wm_aload_n d_RR_group_166 rfl rfl ?_
              refine gf_RR_87 rfl d_RR_group_167 h58 ?_
              refine wm_iald d_RR_group_170 h59 h60 ?_
              refine wm_iload_n d_RR_group_171 rfl rfl ?_
              have hJ : ∀ v62 : Int, v62 = (if (x5 = 0) then 0 else 4) → mWm G y_RR_group (d + 1) 180 [vr a0, vi (mI M (mR M a0 8) (Int.toNat (mI M a0 12))), vi x5, vd, vd] [vi v62, vi (mI M7 (mR M7 a0 11) (Int.toNat (mI M7 a0 12)))] M7 (fun r9 M9 => r9 = none ∧ Q M9) := by
                intro v62 e64
                have h := h v62 e64
                have h65 : i32 v62 := by rw [e64]; (repeat' split) <;> first | exact ⟨by decide, by decide⟩ | exact ⟨by decide, by decide⟩
                have hJ : ∀ v67 : Int, v67 = (if (mI M7 (mR M7 a0 11) (Int.toNat (mI M7 a0 12)) = v62) then 1 else 0) → mWm G y_RR_group (d + 1) 188 [vr a0, vi (mI M (mR M a0 8) (Int.toNat (mI M a0 12))), vi x5, vd, vd] [vi v67] M7 (fun r9 M9 => r9 = none ∧ Q M9) := by
                  intro v67 e69
                  have h := h v67 e69
                  have h70 : i32 v67 := by rw [e69]; (repeat' split) <;> first | exact ⟨by decide, by decide⟩ | exact ⟨by decide, by decide⟩
                  have h71 : (v67 = 0 ∨ v67 = 1) := by rw [e69]; (repeat' split) <;> decide
                  refine wm_istore d_RR_group_188 (by decide) (L' := [vr a0, vi (mI M (mR M a0 8) (Int.toNat (mI M a0 12))), vi x5, vd, vi v67]) rfl ?_
                  refine wm_iload_n d_RR_group_190 rfl rfl ?_
                  refine wm_istore_n d_RR_group_191 rfl (by decide) (L' := [vr a0, vi (mI M (mR M a0 8) (Int.toNat (mI M a0 12))), vi x5, vi x5, vi v67]) rfl ?_
                  refine wm_goto (tgt := 252) d_RR_group_192 rfl ?_
                  refine wm_less (L' := [vr a0, vi (mI M (mR M a0 8) (Int.toNat (mI M a0 12))), vd, vi x5, vi v67]) ⟨Or.inr rfl, Or.inr rfl, Or.inl rfl, Or.inr rfl, Or.inr rfl, trivial⟩ ?_
                  exact h
                clear h
                refine wm_icmp_ne (tgt := 187) d_RR_group_180 rfl (hOM7 _ _).1 h65 (fun c66 => ?_) (fun c66 => ?_)
                · refine wm_iconst d_RR_group_187 ?_
                  exact hJ 0 (if_neg c66).symm
                · replace c66 := Classical.not_not.mp c66
                  refine wm_iconst d_RR_group_183 ?_
                  refine wm_goto (tgt := 188) d_RR_group_184 rfl ?_
                  exact hJ 1 (if_pos c66).symm
              clear h
              refine wm_if_eq (tgt := 179) d_RR_group_172 rfl h6 (fun c61 => ?_) (fun c61 => ?_)
              · refine wm_iconst d_RR_group_179 ?_
                refine wm_less (L' := [vr a0, vi (mI M (mR M a0 8) (Int.toNat (mI M a0 12))), vi x5, vd, vd]) ⟨Or.inr rfl, Or.inr rfl, Or.inr rfl, Or.inl rfl, Or.inl rfl, trivial⟩ ?_
                exact hJ 0 (if_pos c61).symm
              · refine wm_iconst d_RR_group_175 ?_
                refine wm_goto (tgt := 180) d_RR_group_176 rfl ?_
                refine wm_less (L' := [vr a0, vi (mI M (mR M a0 8) (Int.toNat (mI M a0 12))), vi x5, vd, vd]) ⟨Or.inr rfl, Or.inr rfl, Or.inr rfl, Or.inl rfl, Or.inl rfl, trivial⟩ ?_
                exact hJ 4 (if_neg c61).symm
            · replace h := h.2 c57
              refine wm_tableD (tgt := 234) (off := 204) d_RR_group_30 (hO _ _).1 (if q8 : 19 ≤ mI M (mR M a0 8) (Int.toNat (mI M a0 12)) ∧ mI M (mR M a0 8) (Int.toNat (mI M a0 12)) ≤ 42 then Or.inr ⟨q8.1, q8.2, by
      have q9 : mI M (mR M a0 8) (Int.toNat (mI M a0 12)) = 20 ∨ mI M (mR M a0 8) (Int.toNat (mI M a0 12)) = 21 ∨ mI M (mR M a0 8) (Int.toNat (mI M a0 12)) = 22 ∨ mI M (mR M a0 8) (Int.toNat (mI M a0 12)) = 23 ∨ mI M (mR M a0 8) (Int.toNat (mI M a0 12)) = 25 ∨ mI M (mR M a0 8) (Int.toNat (mI M a0 12)) = 26 ∨ mI M (mR M a0 8) (Int.toNat (mI M a0 12)) = 27 ∨ mI M (mR M a0 8) (Int.toNat (mI M a0 12)) = 28 ∨ mI M (mR M a0 8) (Int.toNat (mI M a0 12)) = 29 ∨ mI M (mR M a0 8) (Int.toNat (mI M a0 12)) = 32 ∨ mI M (mR M a0 8) (Int.toNat (mI M a0 12)) = 33 ∨ mI M (mR M a0 8) (Int.toNat (mI M a0 12)) = 34 ∨ mI M (mR M a0 8) (Int.toNat (mI M a0 12)) = 35 ∨ mI M (mR M a0 8) (Int.toNat (mI M a0 12)) = 36 ∨ mI M (mR M a0 8) (Int.toNat (mI M a0 12)) = 37 ∨ mI M (mR M a0 8) (Int.toNat (mI M a0 12)) = 38 ∨ mI M (mR M a0 8) (Int.toNat (mI M a0 12)) = 39 := by omega
      rcases q9 with q9 | q9 | q9 | q9 | q9 | q9 | q9 | q9 | q9 | q9 | q9 | q9 | q9 | q9 | q9 | q9 | q9 <;> (rw [q9]; rfl)⟩ else Or.inl (by omega)) rfl ?_
              obtain ⟨h74, h⟩ := h
              refine wm_aload_n d_RR_group_234 rfl rfl ?_
              refine cf_RR_162 rfl d_RR_group_235 h74 (Nat.le_of_ble_eq_true rfl) (Ci.mono h (fun x76 M75 h => ?_))
              obtain ⟨h77, hOM75, h⟩ := h
              have hJ : ∀ v80 : Int, v80 = (if ((x76 = 0) ∧ (x5 = 0)) then 1 else 0) → mWm G y_RR_group (d + 1) 250 [vr a0, vi (mI M (mR M a0 8) (Int.toNat (mI M a0 12))), vd, vi v11, vd] [vi v80] M75 (fun r9 M9 => r9 = none ∧ Q M9) := by
                intro v80 e82
                have h := h v80 e82
                have h83 : i32 v80 := by rw [e82]; (repeat' split) <;> first | exact ⟨by decide, by decide⟩ | exact ⟨by decide, by decide⟩
                have h84 : (v80 = 0 ∨ v80 = 1) := by rw [e82]; (repeat' split) <;> decide
                refine wm_istore d_RR_group_250 (by decide) (L' := [vr a0, vi (mI M (mR M a0 8) (Int.toNat (mI M a0 12))), vd, vi v11, vi v80]) rfl ?_
                exact h
              clear h
              refine wm_if_ne (tgt := 249) d_RR_group_238 rfl h77 (fun c78 => ?_) (fun c78 => ?_)
              · refine wm_iconst d_RR_group_249 ?_
                refine wm_less (L' := [vr a0, vi (mI M (mR M a0 8) (Int.toNat (mI M a0 12))), vd, vi v11, vd]) ⟨Or.inr rfl, Or.inr rfl, Or.inl rfl, Or.inr rfl, Or.inl rfl, trivial⟩ ?_
                exact hJ 0 (if_neg (fun z87 => c78 z87.1)).symm
              · replace c78 := Classical.not_not.mp c78
                refine wm_iload_n d_RR_group_241 rfl rfl ?_
                refine wm_if_ne (tgt := 249) d_RR_group_242 rfl h6 (fun c79 => ?_) (fun c79 => ?_)
                · refine wm_iconst d_RR_group_249 ?_
                  refine wm_less (L' := [vr a0, vi (mI M (mR M a0 8) (Int.toNat (mI M a0 12))), vd, vi v11, vd]) ⟨Or.inr rfl, Or.inr rfl, Or.inl rfl, Or.inr rfl, Or.inl rfl, trivial⟩ ?_
                  exact hJ 0 (if_neg (fun z85 => c79 z85.2)).symm
                · replace c79 := Classical.not_not.mp c79
                  refine wm_iconst d_RR_group_245 ?_
                  refine wm_goto (tgt := 250) d_RR_group_246 rfl ?_
                  refine wm_less (L' := [vr a0, vi (mI M (mR M a0 8) (Int.toNat (mI M a0 12))), vd, vi v11, vd]) ⟨Or.inr rfl, Or.inr rfl, Or.inl rfl, Or.inr rfl, Or.inl rfl, trivial⟩ ?_
                  exact hJ 1 (if_pos ⟨c78, c79⟩).symm
  clear h
  refine wm_icmp_gt (tgt := 27) d_RR_group_20 rfl h9 ⟨by decide, by decide⟩ (fun c10 => ?_) (fun c10 => ?_)
  · refine wm_iconst d_RR_group_27 ?_
    exact hJ 0 (if_pos c10).symm
  · refine wm_iconst d_RR_group_23 ?_
    refine wm_goto (tgt := 28) d_RR_group_24 rfl ?_
    exact hJ 1 (if_neg c10).symm
theorem k_RR_group_252 {G : mG} {d : Nat} {a0 : Nat} {l1 : Int} {l3 : Int} {l4 : Int} {M : mM} {Q : mM → Prop} (hO : mOk M) (hi_l1 : i32 l1) (hi_l3 : i32 l3) (hi_l4 : i32 l4)
    (h : ((l4 = 0) → (mK M a0 = 4 ∧ mK M (mR M a0 9) = 30 ∧ ((0 : Int) ≤ mI M a0 12 ∧ mI M a0 12 < (mN M (mR M a0 9) : Int)) ∧ Cv G y_RR_note d [vr a0, vi 3, vi (mI M (mR M a0 9) (Int.toNat (mI M a0 12)))] M (fun M94 => mOk M94 ∧ (h_RR_group_271 G d a0 l1 l3 M94 Q)))) ∧ (¬ (l4 = 0) → (h_RR_group_271 G d a0 l1 l3 M Q))) :
    h_RR_group_252 G d a0 l1 l3 l4 M Q := by
  unfold h_RR_group_252
  refine wm_iload d_RR_group_252 rfl ?_
  refine wm_if_ne (tgt := 271) d_RR_group_254 rfl hi_l4 (fun c90 => ?_) (fun c90 => ?_)
  · replace h := h.2 c90
    refine wm_less (L' := [vr a0, vi l1, vd, vi l3, vd]) ⟨Or.inr rfl, Or.inr rfl, Or.inl rfl, Or.inr rfl, Or.inl rfl, trivial⟩ ?_
    exact h
  · replace c90 := Classical.not_not.mp c90
    replace h := h.1 c90
    obtain ⟨h91, h⟩ := h
    obtain ⟨h92, h⟩ := h
    obtain ⟨h93, h⟩ := h
    refine wm_aload_n d_RR_group_257 rfl rfl ?_
    refine wm_iconst d_RR_group_258 ?_
    refine wm_aload_n d_RR_group_259 rfl rfl ?_
    refine gf_RR_15 rfl d_RR_group_260 h91 ?_
    refine wm_aload_n d_RR_group_263 rfl rfl ?_
    refine gf_RR_87 rfl d_RR_group_264 h91 ?_
    refine wm_iald d_RR_group_267 h92 h93 ?_
    refine cf_RR_114 rfl d_RR_group_268 h91 (Nat.le_of_ble_eq_true rfl) (Cv.mono h (fun M94 h => ?_))
    obtain ⟨hOM94, h⟩ := h
    refine wm_less (L' := [vr a0, vi l1, vd, vi l3, vd]) ⟨Or.inr rfl, Or.inr rfl, Or.inl rfl, Or.inr rfl, Or.inl rfl, trivial⟩ ?_
    exact h
theorem k_RR_group_271 {G : mG} {d : Nat} {a0 : Nat} {l1 : Int} {l3 : Int} {M : mM} {Q : mM → Prop} (hO : mOk M) (hi_l1 : i32 l1) (hi_l3 : i32 l3)
    (h : mK M a0 = 4 ∧ Cv G y_RR_pushKind d [vr a0, vi l3] M (fun M98 => mOk M98 ∧ ((((l1 = 40) → (mK M98 a0 = 4 ∧ i32 ((mI M98 a0 5) - 1))) ∧ (¬ (l1 = 40) → (((l1 = 41) → (mK M98 a0 = 4 ∧ i32 ((mI M98 a0 5) - 1))) ∧ (¬ (l1 = 41) → ((l1 = 42) → (mK M98 a0 = 4 ∧ i32 ((mI M98 a0 5) - 1))))))) ∧ ∀ M110 : mM, M110 = (if ((l1 = 40) ∨ ((l1 = 41) ∨ (l1 = 42))) then (mUI M98 a0 5 ((mI M98 a0 5) - 1)) else M98) → mOk M110 ∧ mK M110 a0 = 4 ∧ mK M110 (mR M110 a0 10) = 30 ∧ ((0 : Int) ≤ mI M110 a0 12 ∧ mI M110 a0 12 < (mN M110 (mR M110 a0 10) : Int)) ∧ ((mI M110 (mR M110 a0 10) (Int.toNat (mI M110 a0 12)) = (-1)) → (mK M110 (mR M110 a0 9) = 30 ∧ ((0 : Int) ≤ mI M110 a0 12 ∧ mI M110 a0 12 < (mN M110 (mR M110 a0 9) : Int)) ∧ mK M110 (mR M110 a0 1) = 6 ∧ Ci G y_Pr_add d [vr (mR M110 a0 1), vi l1, vi (mI M110 (mR M110 a0 9) (Int.toNat (mI M110 a0 12)))] M110 (fun x127 M126 => i32 x127 ∧ mOk M126 ∧ (h_RR_group_362 G d  M126 Q)))) ∧ (¬ (mI M110 (mR M110 a0 10) (Int.toNat (mI M110 a0 12)) = (-1)) → (mK M110 (mR M110 a0 1) = 6 ∧ ((0 : Int) ≤ mI M110 a0 12 ∧ mI M110 a0 12 < (mN M110 (mR M110 a0 10) : Int)) ∧ mK M110 (mR M110 (mR M110 a0 1) 1) = 30 ∧ ((0 : Int) ≤ mI M110 (mR M110 a0 10) (Int.toNat (mI M110 a0 12)) ∧ mI M110 (mR M110 a0 10) (Int.toNat (mI M110 a0 12)) < (mN M110 (mR M110 (mR M110 a0 1) 1) : Int)) ∧ ∀ M133, M133 = mUI M110 (mR M110 (mR M110 a0 1) 1) (Int.toNat (mI M110 (mR M110 a0 10) (Int.toNat (mI M110 a0 12)))) (mI M110 (mR M110 a0 1) 2) → h_RR_group_362 G d  M133 Q))))) :
    h_RR_group_271 G d a0 l1 l3 M Q := by
  unfold h_RR_group_271
  obtain ⟨h97, h⟩ := h
  refine wm_aload_n d_RR_group_271 rfl rfl ?_
  refine wm_iload_n d_RR_group_272 rfl rfl ?_
  refine cf_RR_140 rfl d_RR_group_273 h97 (Nat.le_of_ble_eq_true rfl) (Cv.mono h (fun M98 h => ?_))
  obtain ⟨hOM98, h⟩ := h
  refine wm_iload_n d_RR_group_276 rfl rfl ?_
  refine wm_bipush d_RR_group_277 (by decide) ?_
  obtain ⟨s111, h⟩ := h
  have hJ : ∀ M110 : mM, M110 = (if ((l1 = 40) ∨ ((l1 = 41) ∨ (l1 = 42))) then (mUI M98 a0 5 ((mI M98 a0 5) - 1)) else M98) → mWm G y_RR_group (d + 1) 304 [vr a0, vi l1, vd, vd, vd] [] M110 (fun r9 M9 => r9 = none ∧ Q M9) := by
    intro M110 e112
    have h := h M110 e112
    have h113 : mK M110 = mK M98 := by rw [e112]; (repeat' split) <;> rfl
    obtain ⟨hOM110, h⟩ := h
    obtain ⟨h114, h⟩ := h
    obtain ⟨h115, h⟩ := h
    obtain ⟨h116, h⟩ := h
    refine wm_aload_n d_RR_group_304 rfl rfl ?_
    refine gf_RR_18 rfl d_RR_group_305 h114 ?_
    refine wm_aload_n d_RR_group_308 rfl rfl ?_
    refine gf_RR_87 rfl d_RR_group_309 h114 ?_
    refine wm_iald d_RR_group_312 h115 h116 ?_
    refine wm_iconst d_RR_group_313 ?_
    refine wm_icmp_eq (tgt := 344) d_RR_group_314 rfl (hOM110 _ _).1 ⟨by decide, by decide⟩ (fun c122 => ?_) (fun c122 => ?_)
    · replace h := h.1 c122
      obtain ⟨h123, h⟩ := h
      obtain ⟨h124, h⟩ := h
      obtain ⟨h125, h⟩ := h
      refine wm_aload_n d_RR_group_344 rfl rfl ?_
      refine gf_RR_44 rfl d_RR_group_345 h114 ?_
      refine wm_iload_n d_RR_group_348 rfl rfl ?_
      refine wm_aload_n d_RR_group_349 rfl rfl ?_
      refine gf_RR_15 rfl d_RR_group_350 h114 ?_
      refine wm_aload_n d_RR_group_353 rfl rfl ?_
      refine gf_RR_87 rfl d_RR_group_354 h114 ?_
      refine wm_iald d_RR_group_357 h123 h124 ?_
      refine cf_RR_135 rfl d_RR_group_358 h125 (Nat.le_of_ble_eq_true rfl) (Ci.mono h (fun x127 M126 h => ?_))
      obtain ⟨h128, hOM126, h⟩ := h
      refine wm_pop d_RR_group_361 rfl ?_
      refine wm_less (L' := [vd, vd, vd, vd, vd]) ⟨Or.inl rfl, Or.inl rfl, Or.inl rfl, Or.inl rfl, Or.inl rfl, trivial⟩ ?_
      exact h
    · replace h := h.2 c122
      obtain ⟨h129, h⟩ := h
      obtain ⟨h130, h⟩ := h
      obtain ⟨h131, h⟩ := h
      obtain ⟨h132, h⟩ := h
      obtain ⟨M133, e134⟩ : ∃ M133, M133 = mUI M110 (mR M110 (mR M110 a0 1) 1) (Int.toNat (mI M110 (mR M110 a0 10) (Int.toNat (mI M110 a0 12)))) (mI M110 (mR M110 a0 1) 2) := ⟨_, rfl⟩
      replace h := h M133 e134
      refine wm_aload_n d_RR_group_317 rfl rfl ?_
      refine gf_RR_44 rfl d_RR_group_318 h114 ?_
      refine gf_RR_165 rfl d_RR_group_321 h129 ?_
      refine wm_aload_n d_RR_group_324 rfl rfl ?_
      refine gf_RR_18 rfl d_RR_group_325 h114 ?_
      refine wm_aload_n d_RR_group_328 rfl rfl ?_
      refine gf_RR_87 rfl d_RR_group_329 h114 ?_
      refine wm_iald d_RR_group_332 h115 h130 ?_
      refine wm_aload_n d_RR_group_333 rfl rfl ?_
      refine gf_RR_44 rfl d_RR_group_334 h114 ?_
      refine gf_RR_168 rfl d_RR_group_337 h129 ?_
      have hOM133 : mOk M133 := by rw [e134]; exact mOk_UI hOM110 (hOM110 _ _).1
      refine wm_iastE d_RR_group_340 h131 h132 (hOM110 _ _).1 e134 ?_
      refine wm_goto (tgt := 362) d_RR_group_341 rfl ?_
      refine wm_less (L' := [vd, vd, vd, vd, vd]) ⟨Or.inl rfl, Or.inl rfl, Or.inl rfl, Or.inl rfl, Or.inl rfl, trivial⟩ ?_
      exact h
  clear h
  obtain ⟨s135, s136⟩ := s111
  refine wm_icmp_eq (tgt := 294) d_RR_group_279 rfl hi_l1 ⟨by decide, by decide⟩ (fun c101 => ?_) (fun c101 => ?_)
  · have s135 := s135 c101
    obtain ⟨h102, h103⟩ := s135
    refine wm_aload_n d_RR_group_294 rfl rfl ?_
    refine wm_dup d_RR_group_295 rfl ?_
    refine gf_RR_58 rfl d_RR_group_296 h102 ?_
    refine wm_iconst d_RR_group_299 ?_
    refine wm_isub d_RR_group_300 ?_
    refine pf_RR_58 rfl d_RR_group_301 h102 h103 rfl ?_
    refine wm_less (L' := [vr a0, vi l1, vd, vd, vd]) ⟨Or.inr rfl, Or.inr rfl, Or.inl rfl, Or.inl rfl, Or.inl rfl, trivial⟩ ?_
    exact hJ (mUI M98 a0 5 ((mI M98 a0 5) - 1)) (if_pos (Or.inl c101)).symm
  · have s136 := s136 c101
    obtain ⟨s137, s138⟩ := s136
    refine wm_iload_n d_RR_group_282 rfl rfl ?_
    refine wm_bipush d_RR_group_283 (by decide) ?_
    refine wm_icmp_eq (tgt := 294) d_RR_group_285 rfl hi_l1 ⟨by decide, by decide⟩ (fun c104 => ?_) (fun c104 => ?_)
    · have s137 := s137 c104
      obtain ⟨h105, h106⟩ := s137
      refine wm_aload_n d_RR_group_294 rfl rfl ?_
      refine wm_dup d_RR_group_295 rfl ?_
      refine gf_RR_58 rfl d_RR_group_296 h105 ?_
      refine wm_iconst d_RR_group_299 ?_
      refine wm_isub d_RR_group_300 ?_
      refine pf_RR_58 rfl d_RR_group_301 h105 h106 rfl ?_
      refine wm_less (L' := [vr a0, vi l1, vd, vd, vd]) ⟨Or.inr rfl, Or.inr rfl, Or.inl rfl, Or.inl rfl, Or.inl rfl, trivial⟩ ?_
      exact hJ (mUI M98 a0 5 ((mI M98 a0 5) - 1)) (if_pos (Or.inr (Or.inl c104))).symm
    · have s138 := s138 c104
      have s139 := s138
      refine wm_iload_n d_RR_group_288 rfl rfl ?_
      refine wm_bipush d_RR_group_289 (by decide) ?_
      refine wm_icmp_ne (tgt := 304) d_RR_group_291 rfl hi_l1 ⟨by decide, by decide⟩ (fun c107 => ?_) (fun c107 => ?_)
      · refine wm_less (L' := [vr a0, vi l1, vd, vd, vd]) ⟨Or.inr rfl, Or.inr rfl, Or.inl rfl, Or.inl rfl, Or.inl rfl, trivial⟩ ?_
        exact hJ M98 (if_neg (fun z140 => Or.elim z140 c101 (fun z141 => Or.elim z141 c104 c107))).symm
      · replace c107 := Classical.not_not.mp c107
        have s139 := s139 c107
        obtain ⟨h108, h109⟩ := s139
        refine wm_aload_n d_RR_group_294 rfl rfl ?_
        refine wm_dup d_RR_group_295 rfl ?_
        refine gf_RR_58 rfl d_RR_group_296 h108 ?_
        refine wm_iconst d_RR_group_299 ?_
        refine wm_isub d_RR_group_300 ?_
        refine pf_RR_58 rfl d_RR_group_301 h108 h109 rfl ?_
        refine wm_less (L' := [vr a0, vi l1, vd, vd, vd]) ⟨Or.inr rfl, Or.inr rfl, Or.inl rfl, Or.inl rfl, Or.inl rfl, trivial⟩ ?_
        exact hJ (mUI M98 a0 5 ((mI M98 a0 5) - 1)) (if_pos (Or.inr (Or.inr c107))).symm
theorem k_RR_group_362 {G : mG} {d : Nat} {M : mM} {Q : mM → Prop} (hO : mOk M)
    (h : Q M) :
    h_RR_group_362 G d  M Q := by
  unfold h_RR_group_362
  refine wm_return d_RR_group_362 rfl ?_
  exact ⟨rfl, h⟩
