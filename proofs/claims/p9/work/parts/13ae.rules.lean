theorem d_MM_loosest_0 : decode y_MM_loosest.2.1 0 = .ok (.iconst (-1), 1) := by decide +kernel
theorem d_MM_loosest_1 : decode y_MM_loosest.2.1 1 = .ok (.istore_n 3, 1) := by decide +kernel
theorem d_MM_loosest_2 : decode y_MM_loosest.2.1 2 = .ok (.iconst 0, 1) := by decide +kernel
theorem d_MM_loosest_3 : decode y_MM_loosest.2.1 3 = .ok (.istore 4, 2) := by decide +kernel
theorem d_MM_loosest_5 : decode y_MM_loosest.2.1 5 = .ok (.iconst 0, 1) := by decide +kernel
theorem d_MM_loosest_6 : decode y_MM_loosest.2.1 6 = .ok (.istore 5, 2) := by decide +kernel
theorem d_MM_loosest_8 : decode y_MM_loosest.2.1 8 = .ok (.iload_n 1, 1) := by decide +kernel
theorem d_MM_loosest_9 : decode y_MM_loosest.2.1 9 = .ok (.istore 6, 2) := by decide +kernel
theorem d_MM_loosest_11 : decode y_MM_loosest.2.1 11 = .ok (.iload 6, 2) := by decide +kernel
theorem d_MM_loosest_13 : decode y_MM_loosest.2.1 13 = .ok (.iload_n 2, 1) := by decide +kernel
theorem d_MM_loosest_14 : decode y_MM_loosest.2.1 14 = .ok (.if_icmp .ge 104, 3) := by decide +kernel
theorem d_MM_loosest_118 : decode y_MM_loosest.2.1 118 = .ok (.aload_n 0, 1) := by decide +kernel
theorem d_MM_loosest_119 : decode y_MM_loosest.2.1 119 = .ok (.iload_n 1, 1) := by decide +kernel
theorem d_MM_loosest_17 : decode y_MM_loosest.2.1 17 = .ok (.aload_n 0, 1) := by decide +kernel
theorem d_MM_loosest_18 : decode y_MM_loosest.2.1 18 = .ok (.iload 6, 2) := by decide +kernel
theorem d_MM_loosest_120 : decode y_MM_loosest.2.1 120 = .ok (.invokevirtual 302, 3) := by decide +kernel
theorem d_MM_loosest_123 : decode y_MM_loosest.2.1 123 = .ok (.bipush 31, 2) := by decide +kernel
theorem d_MM_loosest_125 : decode y_MM_loosest.2.1 125 = .ok (.if_icmp .ne 13, 3) := by decide +kernel
theorem d_MM_loosest_128 : decode y_MM_loosest.2.1 128 = .ok (.iload 4, 2) := by decide +kernel
theorem d_MM_loosest_130 : decode y_MM_loosest.2.1 130 = .ok (.iconst 4, 1) := by decide +kernel
theorem d_MM_loosest_131 : decode y_MM_loosest.2.1 131 = .ok (.if_icmp .ge 7, 3) := by decide +kernel
theorem d_MM_loosest_138 : decode y_MM_loosest.2.1 138 = .ok (.iload_n 3, 1) := by decide +kernel
theorem d_MM_loosest_134 : decode y_MM_loosest.2.1 134 = .ok (.iconst (-1), 1) := by decide +kernel
theorem d_MM_loosest_135 : decode y_MM_loosest.2.1 135 = .ok (.goto 4, 3) := by decide +kernel
theorem d_MM_loosest_139 : decode y_MM_loosest.2.1 139 = .ok (.ireturn, 1) := by decide +kernel
theorem d_MM_loosest_20 : decode y_MM_loosest.2.1 20 = .ok (.invokevirtual 302, 3) := by decide +kernel
theorem d_MM_loosest_23 : decode y_MM_loosest.2.1 23 = .ok (.bipush 37, 2) := by decide +kernel
theorem d_MM_loosest_25 : decode y_MM_loosest.2.1 25 = .ok (.if_icmp .ne 10, 3) := by decide +kernel
theorem d_MM_loosest_28 : decode y_MM_loosest.2.1 28 = .ok (.iload 5, 2) := by decide +kernel
theorem d_MM_loosest_30 : decode y_MM_loosest.2.1 30 = .ok (.iconst 1, 1) := by decide +kernel
theorem d_MM_loosest_31 : decode y_MM_loosest.2.1 31 = .ok (.isub, 1) := by decide +kernel
theorem d_MM_loosest_32 : decode y_MM_loosest.2.1 32 = .ok (.goto 5, 3) := by decide +kernel
theorem d_MM_loosest_35 : decode y_MM_loosest.2.1 35 = .ok (.iload 5, 2) := by decide +kernel
theorem d_MM_loosest_37 : decode y_MM_loosest.2.1 37 = .ok (.istore 5, 2) := by decide +kernel
theorem d_MM_loosest_39 : decode y_MM_loosest.2.1 39 = .ok (.iload 5, 2) := by decide +kernel
theorem d_MM_loosest_41 : decode y_MM_loosest.2.1 41 = .ok (.ifCond .ne 13, 3) := by decide +kernel
theorem d_MM_loosest_44 : decode y_MM_loosest.2.1 44 = .ok (.aload_n 0, 1) := by decide +kernel
theorem d_MM_loosest_45 : decode y_MM_loosest.2.1 45 = .ok (.iload 6, 2) := by decide +kernel
theorem d_MM_loosest_47 : decode y_MM_loosest.2.1 47 = .ok (.iload_n 1, 1) := by decide +kernel
theorem d_MM_loosest_54 : decode y_MM_loosest.2.1 54 = .ok (.iconst 0, 1) := by decide +kernel
theorem d_MM_loosest_48 : decode y_MM_loosest.2.1 48 = .ok (.invokevirtual 307, 3) := by decide +kernel
theorem d_MM_loosest_51 : decode y_MM_loosest.2.1 51 = .ok (.goto 4, 3) := by decide +kernel
theorem d_MM_loosest_55 : decode y_MM_loosest.2.1 55 = .ok (.istore 7, 2) := by decide +kernel
theorem d_MM_loosest_57 : decode y_MM_loosest.2.1 57 = .ok (.iload 7, 2) := by decide +kernel
theorem d_MM_loosest_59 : decode y_MM_loosest.2.1 59 = .ok (.iload 4, 2) := by decide +kernel
theorem d_MM_loosest_61 : decode y_MM_loosest.2.1 61 = .ok (.if_icmp .gt 22, 3) := by decide +kernel
theorem d_MM_loosest_83 : decode y_MM_loosest.2.1 83 = .ok (.iload 7, 2) := by decide +kernel
theorem d_MM_loosest_85 : decode y_MM_loosest.2.1 85 = .ok (.istore 4, 2) := by decide +kernel
theorem d_MM_loosest_87 : decode y_MM_loosest.2.1 87 = .ok (.iload 6, 2) := by decide +kernel
theorem d_MM_loosest_89 : decode y_MM_loosest.2.1 89 = .ok (.istore_n 3, 1) := by decide +kernel
theorem d_MM_loosest_64 : decode y_MM_loosest.2.1 64 = .ok (.iload 7, 2) := by decide +kernel
theorem d_MM_loosest_66 : decode y_MM_loosest.2.1 66 = .ok (.ifCond .le 24, 3) := by decide +kernel
theorem d_MM_loosest_69 : decode y_MM_loosest.2.1 69 = .ok (.iload 7, 2) := by decide +kernel
theorem d_MM_loosest_71 : decode y_MM_loosest.2.1 71 = .ok (.iload 4, 2) := by decide +kernel
theorem d_MM_loosest_73 : decode y_MM_loosest.2.1 73 = .ok (.if_icmp .ne 17, 3) := by decide +kernel
theorem d_MM_loosest_76 : decode y_MM_loosest.2.1 76 = .ok (.iload 7, 2) := by decide +kernel
theorem d_MM_loosest_78 : decode y_MM_loosest.2.1 78 = .ok (.bipush 6, 2) := by decide +kernel
theorem d_MM_loosest_80 : decode y_MM_loosest.2.1 80 = .ok (.if_icmp .ge 10, 3) := by decide +kernel
theorem d_MM_loosest_90 : decode y_MM_loosest.2.1 90 = .ok (.aload_n 0, 1) := by decide +kernel
theorem d_MM_loosest_91 : decode y_MM_loosest.2.1 91 = .ok (.iload 6, 2) := by decide +kernel
theorem d_MM_loosest_93 : decode y_MM_loosest.2.1 93 = .ok (.invokevirtual 302, 3) := by decide +kernel
theorem d_MM_loosest_96 : decode y_MM_loosest.2.1 96 = .ok (.bipush 36, 2) := by decide +kernel
theorem d_MM_loosest_98 : decode y_MM_loosest.2.1 98 = .ok (.if_icmp .ne 10, 3) := by decide +kernel
theorem d_MM_loosest_101 : decode y_MM_loosest.2.1 101 = .ok (.iload 5, 2) := by decide +kernel
theorem d_MM_loosest_103 : decode y_MM_loosest.2.1 103 = .ok (.iconst 1, 1) := by decide +kernel
theorem d_MM_loosest_104 : decode y_MM_loosest.2.1 104 = .ok (.iadd, 1) := by decide +kernel
theorem d_MM_loosest_105 : decode y_MM_loosest.2.1 105 = .ok (.goto 5, 3) := by decide +kernel
theorem d_MM_loosest_108 : decode y_MM_loosest.2.1 108 = .ok (.iload 5, 2) := by decide +kernel
theorem d_MM_loosest_110 : decode y_MM_loosest.2.1 110 = .ok (.istore 5, 2) := by decide +kernel
theorem d_MM_loosest_112 : decode y_MM_loosest.2.1 112 = .ok (.iinc 6 1, 3) := by decide +kernel
theorem d_MM_loosest_115 : decode y_MM_loosest.2.1 115 = .ok (.goto (-104), 3) := by decide +kernel
def h_MM_loosest_11 (G : mG) (d : Nat) (a0 : Nat) (l1 : Int) (l2 : Int) (l3 : Int) (l4 : Int) (l5 : Int) (l6 : Int) (M : mM) (Q : Int → mM → Prop) : Prop := mWm G y_MM_loosest (d + 1) 11 [vr a0, vi l1, vi l2, vi l3, vi l4, vi l5, vi l6, vd] [] M (fun r9 M9 => ∃ x9, r9 = some (vi x9) ∧ Q x9 M9)
def h_MM_loosest_55 (G : mG) (d : Nat) (a0 : Nat) (l1 : Int) (l2 : Int) (l3 : Int) (l4 : Int) (l5 : Int) (l6 : Int) (k0 : Int) (M : mM) (Q : Int → mM → Prop) : Prop := mWm G y_MM_loosest (d + 1) 55 [vr a0, vi l1, vi l2, vi l3, vi l4, vi l5, vi l6, vd] [vi k0] M (fun r9 M9 => ∃ x9, r9 = some (vi x9) ∧ Q x9 M9)
theorem k_MM_loosest {G : mG} {d : Nat} {a0 : Nat} {l1 : Int} {l2 : Int} {M : mM} {Q : Int → mM → Prop} (hO : mOk M) (hi_l1 : i32 l1) (hi_l2 : i32 l2)
    (h : h_MM_loosest_11 G d a0 l1 l2 (-1) 0 0 l1 M Q) :
    Ci G y_MM_loosest (d + 1) [vr a0, vi l1, vi l2] M Q := by
  refine wm_open (y := y_MM_loosest) rfl (Nat.le_of_ble_eq_true rfl) (L := [vr a0, vi l1, vi l2, vd, vd, vd, vd, vd]) rfl ?_
  refine wm_iconst d_MM_loosest_0 ?_
  refine wm_istore_n d_MM_loosest_1 rfl (by decide) (L' := [vr a0, vi l1, vi l2, vi (-1), vd, vd, vd, vd]) rfl ?_
  refine wm_iconst d_MM_loosest_2 ?_
  refine wm_istore d_MM_loosest_3 (by decide) (L' := [vr a0, vi l1, vi l2, vi (-1), vi 0, vd, vd, vd]) rfl ?_
  refine wm_iconst d_MM_loosest_5 ?_
  refine wm_istore d_MM_loosest_6 (by decide) (L' := [vr a0, vi l1, vi l2, vi (-1), vi 0, vi 0, vd, vd]) rfl ?_
  refine wm_iload_n d_MM_loosest_8 rfl rfl ?_
  refine wm_istore d_MM_loosest_9 (by decide) (L' := [vr a0, vi l1, vi l2, vi (-1), vi 0, vi 0, vi l1, vd]) rfl ?_
  exact h
theorem k_MM_loosest_11 {G : mG} {d : Nat} {a0 : Nat} {l1 : Int} {l2 : Int} {l3 : Int} {l4 : Int} {l5 : Int} {l6 : Int} {M : mM} {Q : Int → mM → Prop} (hO : mOk M) (hi_l1 : i32 l1) (hi_l2 : i32 l2) (hi_l3 : i32 l3) (hi_l4 : i32 l4) (hi_l5 : i32 l5) (hi_l6 : i32 l6)
    (h : ((l2 ≤ l6) → (mK M a0 = 14 ∧ Ci G y_MM_word1 d [vr a0, vi l1] M (fun x5 M4 => i32 x5 ∧ mOk M4 ∧ (∀ v9 : Int, v9 = (if ((¬ (x5 = 31)) ∨ (4 ≤ l4)) then l3 else (-1)) → Q v9 M4)))) ∧ (¬ (l2 ≤ l6) → (mK M a0 = 14 ∧ Ci G y_MM_word1 d [vr a0, vi l6] M (fun x17 M16 => i32 x17 ∧ mOk M16 ∧ (∀ v20 : Int, v20 = (if (x17 = 37) then l5 - 1 else l5) → i32 v20 ∧ ((v20 = 0) → (mK M16 a0 = 14 ∧ Ci G y_MM_looseness d [vr a0, vi l6, vi l1] M16 (fun x29 M28 => i32 x29 ∧ mOk M28 ∧ (h_MM_loosest_55 G d a0 l1 l2 l3 l4 v20 l6 x29 M28 Q)))) ∧ (¬ (v20 = 0) → (h_MM_loosest_55 G d a0 l1 l2 l3 l4 v20 l6 0 M16 Q))))))) :
    h_MM_loosest_11 G d a0 l1 l2 l3 l4 l5 l6 M Q := by
  unfold h_MM_loosest_11
  refine wm_iload d_MM_loosest_11 rfl ?_
  refine wm_iload_n d_MM_loosest_13 rfl rfl ?_
  refine wm_icmp_ge (tgt := 118) d_MM_loosest_14 rfl hi_l6 hi_l2 (fun c2 => ?_) (fun c2 => ?_)
  · replace h := h.1 c2
    obtain ⟨h3, h⟩ := h
    refine wm_aload_n d_MM_loosest_118 rfl rfl ?_
    refine wm_iload_n d_MM_loosest_119 rfl rfl ?_
    refine cf_MM_302 rfl d_MM_loosest_120 h3 (Nat.le_of_ble_eq_true rfl) (Ci.mono h (fun x5 M4 h => ?_))
    obtain ⟨h6, hOM4, h⟩ := h
    refine wm_bipush d_MM_loosest_123 (by decide) ?_
    have hJ : ∀ v9 : Int, v9 = (if ((¬ (x5 = 31)) ∨ (4 ≤ l4)) then l3 else (-1)) → mWm G y_MM_loosest (d + 1) 139 [vd, vd, vd, vd, vd, vd, vd, vd] [vi v9] M4 (fun r9 M9 => ∃ x9, r9 = some (vi x9) ∧ Q x9 M9) := by
      intro v9 e11
      have h := h v9 e11
      have h12 : i32 v9 := by rw [e11]; (repeat' split) <;> first | exact hi_l3 | exact ⟨by decide, by decide⟩
      refine wm_ireturn d_MM_loosest_139 rfl rfl ?_
      exact ⟨_, rfl, h⟩
    clear h
    refine wm_icmp_ne (tgt := 138) d_MM_loosest_125 rfl h6 ⟨by decide, by decide⟩ (fun c7 => ?_) (fun c7 => ?_)
    · refine wm_iload_n d_MM_loosest_138 rfl rfl ?_
      refine wm_less (L' := [vd, vd, vd, vd, vd, vd, vd, vd]) ⟨Or.inl rfl, Or.inl rfl, Or.inl rfl, Or.inl rfl, Or.inl rfl, Or.inl rfl, Or.inl rfl, Or.inl rfl, trivial⟩ ?_
      exact hJ l3 (if_pos (Or.inl c7)).symm
    · replace c7 := Classical.not_not.mp c7
      refine wm_iload d_MM_loosest_128 rfl ?_
      refine wm_iconst d_MM_loosest_130 ?_
      refine wm_icmp_ge (tgt := 138) d_MM_loosest_131 rfl hi_l4 ⟨by decide, by decide⟩ (fun c8 => ?_) (fun c8 => ?_)
      · refine wm_iload_n d_MM_loosest_138 rfl rfl ?_
        refine wm_less (L' := [vd, vd, vd, vd, vd, vd, vd, vd]) ⟨Or.inl rfl, Or.inl rfl, Or.inl rfl, Or.inl rfl, Or.inl rfl, Or.inl rfl, Or.inl rfl, Or.inl rfl, trivial⟩ ?_
        exact hJ l3 (if_pos (Or.inr c8)).symm
      · refine wm_iconst d_MM_loosest_134 ?_
        refine wm_goto (tgt := 139) d_MM_loosest_135 rfl ?_
        refine wm_less (L' := [vd, vd, vd, vd, vd, vd, vd, vd]) ⟨Or.inl rfl, Or.inl rfl, Or.inl rfl, Or.inl rfl, Or.inl rfl, Or.inl rfl, Or.inl rfl, Or.inl rfl, trivial⟩ ?_
        exact hJ (-1) (if_neg (fun z13 => Or.elim z13 (fun w => w c7) c8)).symm
  · replace h := h.2 c2
    obtain ⟨h15, h⟩ := h
    refine wm_aload_n d_MM_loosest_17 rfl rfl ?_
    refine wm_iload d_MM_loosest_18 rfl ?_
    refine cf_MM_302 rfl d_MM_loosest_20 h15 (Nat.le_of_ble_eq_true rfl) (Ci.mono h (fun x17 M16 h => ?_))
    obtain ⟨h18, hOM16, h⟩ := h
    refine wm_bipush d_MM_loosest_23 (by decide) ?_
    have hJ : ∀ v20 : Int, v20 = (if (x17 = 37) then l5 - 1 else l5) → mWm G y_MM_loosest (d + 1) 37 [vr a0, vi l1, vi l2, vi l3, vi l4, vd, vi l6, vd] [vi v20] M16 (fun r9 M9 => ∃ x9, r9 = some (vi x9) ∧ Q x9 M9) := by
      intro v20 e22
      have h := h v20 e22
      obtain ⟨h25, h⟩ := h
      refine wm_istore d_MM_loosest_37 (by decide) (L' := [vr a0, vi l1, vi l2, vi l3, vi l4, vi v20, vi l6, vd]) rfl ?_
      refine wm_iload d_MM_loosest_39 rfl ?_
      refine wm_if_ne (tgt := 54) d_MM_loosest_41 rfl h25 (fun c26 => ?_) (fun c26 => ?_)
      · replace h := h.2 c26
        refine wm_iconst d_MM_loosest_54 ?_
        exact h
      · replace c26 := Classical.not_not.mp c26
        replace h := h.1 c26
        obtain ⟨h27, h⟩ := h
        refine wm_aload_n d_MM_loosest_44 rfl rfl ?_
        refine wm_iload d_MM_loosest_45 rfl ?_
        refine wm_iload_n d_MM_loosest_47 rfl rfl ?_
        refine cf_MM_307 rfl d_MM_loosest_48 h27 (Nat.le_of_ble_eq_true rfl) (Ci.mono h (fun x29 M28 h => ?_))
        obtain ⟨h30, hOM28, h⟩ := h
        refine wm_goto (tgt := 55) d_MM_loosest_51 rfl ?_
        exact h
    clear h
    refine wm_icmp_ne (tgt := 35) d_MM_loosest_25 rfl h18 ⟨by decide, by decide⟩ (fun c19 => ?_) (fun c19 => ?_)
    · refine wm_iload d_MM_loosest_35 rfl ?_
      refine wm_less (L' := [vr a0, vi l1, vi l2, vi l3, vi l4, vd, vi l6, vd]) ⟨Or.inr rfl, Or.inr rfl, Or.inr rfl, Or.inr rfl, Or.inr rfl, Or.inl rfl, Or.inr rfl, Or.inl rfl, trivial⟩ ?_
      exact hJ l5 (if_neg c19).symm
    · replace c19 := Classical.not_not.mp c19
      refine wm_iload d_MM_loosest_28 rfl ?_
      refine wm_iconst d_MM_loosest_30 ?_
      refine wm_isub d_MM_loosest_31 ?_
      refine wm_goto (tgt := 37) d_MM_loosest_32 rfl ?_
      refine wm_less (L' := [vr a0, vi l1, vi l2, vi l3, vi l4, vd, vi l6, vd]) ⟨Or.inr rfl, Or.inr rfl, Or.inr rfl, Or.inr rfl, Or.inr rfl, Or.inl rfl, Or.inr rfl, Or.inl rfl, trivial⟩ ?_
      exact hJ (l5 - 1) (if_pos c19).symm
theorem k_MM_loosest_55 {G : mG} {d : Nat} {a0 : Nat} {l1 : Int} {l2 : Int} {l3 : Int} {l4 : Int} {l5 : Int} {l6 : Int} {k0 : Int} {M : mM} {Q : Int → mM → Prop} (hO : mOk M) (hi_l1 : i32 l1) (hi_l2 : i32 l2) (hi_l3 : i32 l3) (hi_l4 : i32 l4) (hi_l5 : i32 l5) (hi_l6 : i32 l6) (hi_k0 : i32 k0)
    (h : ∀ v36 : Int, v36 = (if ((l4 < k0) ∨ ((¬ (k0 ≤ 0)) ∧ ((k0 = l4) ∧ (¬ (6 ≤ k0))))) then l6 else l3) → ∀ v37 : Int, v37 = (if ((l4 < k0) ∨ ((¬ (k0 ≤ 0)) ∧ ((k0 = l4) ∧ (¬ (6 ≤ k0))))) then k0 else l4) → mK M a0 = 14 ∧ Ci G y_MM_word1 d [vr a0, vi l6] M (fun x45 M44 => i32 x45 ∧ mOk M44 ∧ (∀ v48 : Int, v48 = (if (x45 = 36) then l5 + 1 else l5) → h_MM_loosest_11 G d a0 l1 l2 v36 v37 v48 (l6 + 1) M44 Q))) :
    h_MM_loosest_55 G d a0 l1 l2 l3 l4 l5 l6 k0 M Q := by
  unfold h_MM_loosest_55
  refine wm_istore d_MM_loosest_55 (by decide) (L' := [vr a0, vi l1, vi l2, vi l3, vi l4, vi l5, vi l6, vi k0]) rfl ?_
  refine wm_iload d_MM_loosest_57 rfl ?_
  refine wm_iload d_MM_loosest_59 rfl ?_
  have hJ : ∀ v36 : Int, v36 = (if ((l4 < k0) ∨ ((¬ (k0 ≤ 0)) ∧ ((k0 = l4) ∧ (¬ (6 ≤ k0))))) then l6 else l3) → ∀ v37 : Int, v37 = (if ((l4 < k0) ∨ ((¬ (k0 ≤ 0)) ∧ ((k0 = l4) ∧ (¬ (6 ≤ k0))))) then k0 else l4) → mWm G y_MM_loosest (d + 1) 90 [vr a0, vi l1, vi l2, vi v36, vi v37, vi l5, vi l6, vd] [] M (fun r9 M9 => ∃ x9, r9 = some (vi x9) ∧ Q x9 M9) := by
    intro v36 e39
    intro v37 e40
    have h := h v36 e39 v37 e40
    have h41 : i32 v36 := by rw [e39]; (repeat' split) <;> first | exact hi_l6 | exact hi_l3
    have h42 : i32 v37 := by rw [e40]; (repeat' split) <;> first | exact hi_k0 | exact hi_l4
    obtain ⟨h43, h⟩ := h
    refine wm_aload_n d_MM_loosest_90 rfl rfl ?_
    refine wm_iload d_MM_loosest_91 rfl ?_
    refine cf_MM_302 rfl d_MM_loosest_93 h43 (Nat.le_of_ble_eq_true rfl) (Ci.mono h (fun x45 M44 h => ?_))
    obtain ⟨h46, hOM44, h⟩ := h
    refine wm_bipush d_MM_loosest_96 (by decide) ?_
    have hJ : ∀ v48 : Int, v48 = (if (x45 = 36) then l5 + 1 else l5) → mWm G y_MM_loosest (d + 1) 110 [vr a0, vi l1, vi l2, vi v36, vi v37, vd, vi l6, vd] [vi v48] M44 (fun r9 M9 => ∃ x9, r9 = some (vi x9) ∧ Q x9 M9) := by
      intro v48 e50
      have h := h v48 e50
      refine wm_istore d_MM_loosest_110 (by decide) (L' := [vr a0, vi l1, vi l2, vi v36, vi v37, vi v48, vi l6, vd]) rfl ?_
      refine wm_iinc d_MM_loosest_112 (by decide) rfl (L' := [vr a0, vi l1, vi l2, vi v36, vi v37, vi v48, vi (l6 + 1), vd]) rfl ?_
      refine wm_goto (tgt := 11) d_MM_loosest_115 rfl ?_
      exact h
    clear h
    refine wm_icmp_ne (tgt := 108) d_MM_loosest_98 rfl h46 ⟨by decide, by decide⟩ (fun c47 => ?_) (fun c47 => ?_)
    · refine wm_iload d_MM_loosest_108 rfl ?_
      refine wm_less (L' := [vr a0, vi l1, vi l2, vi v36, vi v37, vd, vi l6, vd]) ⟨Or.inr rfl, Or.inr rfl, Or.inr rfl, Or.inr rfl, Or.inr rfl, Or.inl rfl, Or.inr rfl, Or.inl rfl, trivial⟩ ?_
      exact hJ l5 (if_neg c47).symm
    · replace c47 := Classical.not_not.mp c47
      refine wm_iload d_MM_loosest_101 rfl ?_
      refine wm_iconst d_MM_loosest_103 ?_
      refine wm_iadd d_MM_loosest_104 ?_
      refine wm_goto (tgt := 110) d_MM_loosest_105 rfl ?_
      refine wm_less (L' := [vr a0, vi l1, vi l2, vi v36, vi v37, vd, vi l6, vd]) ⟨Or.inr rfl, Or.inr rfl, Or.inr rfl, Or.inr rfl, Or.inr rfl, Or.inl rfl, Or.inr rfl, Or.inl rfl, trivial⟩ ?_
      exact hJ (l5 + 1) (if_pos c47).symm
  clear h
  refine wm_icmp_gt (tgt := 83) d_MM_loosest_61 rfl hi_k0 hi_l4 (fun c32 => ?_) (fun c32 => ?_)
  · refine wm_iload d_MM_loosest_83 rfl ?_
    refine wm_istore d_MM_loosest_85 (by decide) (L' := [vr a0, vi l1, vi l2, vi l3, vi k0, vi l5, vi l6, vi k0]) rfl ?_
    refine wm_iload d_MM_loosest_87 rfl ?_
    refine wm_istore_n d_MM_loosest_89 rfl (by decide) (L' := [vr a0, vi l1, vi l2, vi l6, vi k0, vi l5, vi l6, vi k0]) rfl ?_
    refine wm_less (L' := [vr a0, vi l1, vi l2, vi l6, vi k0, vi l5, vi l6, vd]) ⟨Or.inr rfl, Or.inr rfl, Or.inr rfl, Or.inr rfl, Or.inr rfl, Or.inr rfl, Or.inr rfl, Or.inl rfl, trivial⟩ ?_
    exact hJ l6 (if_pos (Or.inl c32)).symm k0 (if_pos (Or.inl c32)).symm
  · refine wm_iload d_MM_loosest_64 rfl ?_
    refine wm_if_le (tgt := 90) d_MM_loosest_66 rfl hi_k0 (fun c33 => ?_) (fun c33 => ?_)
    · refine wm_less (L' := [vr a0, vi l1, vi l2, vi l3, vi l4, vi l5, vi l6, vd]) ⟨Or.inr rfl, Or.inr rfl, Or.inr rfl, Or.inr rfl, Or.inr rfl, Or.inr rfl, Or.inr rfl, Or.inl rfl, trivial⟩ ?_
      exact hJ l3 (if_neg (fun z52 => Or.elim z52 c32 (fun z53 => z53.1 c33))).symm l4 (if_neg (fun z54 => Or.elim z54 c32 (fun z55 => z55.1 c33))).symm
    · refine wm_iload d_MM_loosest_69 rfl ?_
      refine wm_iload d_MM_loosest_71 rfl ?_
      refine wm_icmp_ne (tgt := 90) d_MM_loosest_73 rfl hi_k0 hi_l4 (fun c34 => ?_) (fun c34 => ?_)
      · refine wm_less (L' := [vr a0, vi l1, vi l2, vi l3, vi l4, vi l5, vi l6, vd]) ⟨Or.inr rfl, Or.inr rfl, Or.inr rfl, Or.inr rfl, Or.inr rfl, Or.inr rfl, Or.inr rfl, Or.inl rfl, trivial⟩ ?_
        exact hJ l3 (if_neg (fun z64 => Or.elim z64 c32 (fun z65 => (fun z66 => c34 z66.1) z65.2))).symm l4 (if_neg (fun z67 => Or.elim z67 c32 (fun z68 => (fun z69 => c34 z69.1) z68.2))).symm
      · replace c34 := Classical.not_not.mp c34
        refine wm_iload d_MM_loosest_76 rfl ?_
        refine wm_bipush d_MM_loosest_78 (by decide) ?_
        refine wm_icmp_ge (tgt := 90) d_MM_loosest_80 rfl hi_k0 ⟨by decide, by decide⟩ (fun c35 => ?_) (fun c35 => ?_)
        · refine wm_less (L' := [vr a0, vi l1, vi l2, vi l3, vi l4, vi l5, vi l6, vd]) ⟨Or.inr rfl, Or.inr rfl, Or.inr rfl, Or.inr rfl, Or.inr rfl, Or.inr rfl, Or.inr rfl, Or.inl rfl, trivial⟩ ?_
          exact hJ l3 (if_neg (fun z56 => Or.elim z56 c32 (fun z57 => (fun z58 => (fun z59 => z59 c35) z58.2) z57.2))).symm l4 (if_neg (fun z60 => Or.elim z60 c32 (fun z61 => (fun z62 => (fun z63 => z63 c35) z62.2) z61.2))).symm
        · refine wm_iload d_MM_loosest_83 rfl ?_
          refine wm_istore d_MM_loosest_85 (by decide) (L' := [vr a0, vi l1, vi l2, vi l3, vi k0, vi l5, vi l6, vi k0]) rfl ?_
          refine wm_iload d_MM_loosest_87 rfl ?_
          refine wm_istore_n d_MM_loosest_89 rfl (by decide) (L' := [vr a0, vi l1, vi l2, vi l6, vi k0, vi l5, vi l6, vi k0]) rfl ?_
          refine wm_less (L' := [vr a0, vi l1, vi l2, vi l6, vi k0, vi l5, vi l6, vd]) ⟨Or.inr rfl, Or.inr rfl, Or.inr rfl, Or.inr rfl, Or.inr rfl, Or.inr rfl, Or.inr rfl, Or.inl rfl, trivial⟩ ?_
          exact hJ l6 (if_pos (Or.inr ⟨c33, ⟨c34, c35⟩⟩)).symm k0 (if_pos (Or.inr ⟨c33, ⟨c34, c35⟩⟩)).symm
theorem d_MM_colonOf_0 : decode y_MM_colonOf.2.1 0 = .ok (.iconst 0, 1) := by decide +kernel
theorem d_MM_colonOf_1 : decode y_MM_colonOf.2.1 1 = .ok (.istore_n 3, 1) := by decide +kernel
theorem d_MM_colonOf_2 : decode y_MM_colonOf.2.1 2 = .ok (.iconst 0, 1) := by decide +kernel
theorem d_MM_colonOf_3 : decode y_MM_colonOf.2.1 3 = .ok (.istore 4, 2) := by decide +kernel
theorem d_MM_colonOf_5 : decode y_MM_colonOf.2.1 5 = .ok (.iload_n 1, 1) := by decide +kernel
theorem d_MM_colonOf_6 : decode y_MM_colonOf.2.1 6 = .ok (.istore 5, 2) := by decide +kernel
theorem d_MM_colonOf_8 : decode y_MM_colonOf.2.1 8 = .ok (.iconst 0, 1) := by decide +kernel
theorem d_MM_colonOf_9 : decode y_MM_colonOf.2.1 9 = .ok (.istore 6, 2) := by decide +kernel
theorem d_MM_colonOf_11 : decode y_MM_colonOf.2.1 11 = .ok (.iload 6, 2) := by decide +kernel
theorem d_MM_colonOf_13 : decode y_MM_colonOf.2.1 13 = .ok (.ifCond .ne 109, 3) := by decide +kernel
theorem d_MM_colonOf_16 : decode y_MM_colonOf.2.1 16 = .ok (.iinc 5 1, 3) := by decide +kernel
theorem d_MM_colonOf_19 : decode y_MM_colonOf.2.1 19 = .ok (.aload_n 0, 1) := by decide +kernel
theorem d_MM_colonOf_20 : decode y_MM_colonOf.2.1 20 = .ok (.iload 5, 2) := by decide +kernel
theorem d_MM_colonOf_122 : decode y_MM_colonOf.2.1 122 = .ok (.iload 5, 2) := by decide +kernel
theorem d_MM_colonOf_124 : decode y_MM_colonOf.2.1 124 = .ok (.ireturn, 1) := by decide +kernel
theorem d_MM_colonOf_22 : decode y_MM_colonOf.2.1 22 = .ok (.invokevirtual 302, 3) := by decide +kernel
theorem d_MM_colonOf_25 : decode y_MM_colonOf.2.1 25 = .ok (.istore 7, 2) := by decide +kernel
theorem d_MM_colonOf_27 : decode y_MM_colonOf.2.1 27 = .ok (.iload 7, 2) := by decide +kernel
theorem d_MM_colonOf_29 : decode y_MM_colonOf.2.1 29 = .ok (.bipush 36, 2) := by decide +kernel
theorem d_MM_colonOf_31 : decode y_MM_colonOf.2.1 31 = .ok (.if_icmp .ne 10, 3) := by decide +kernel
theorem d_MM_colonOf_34 : decode y_MM_colonOf.2.1 34 = .ok (.iload 4, 2) := by decide +kernel
theorem d_MM_colonOf_36 : decode y_MM_colonOf.2.1 36 = .ok (.iconst 1, 1) := by decide +kernel
theorem d_MM_colonOf_37 : decode y_MM_colonOf.2.1 37 = .ok (.iadd, 1) := by decide +kernel
theorem d_MM_colonOf_38 : decode y_MM_colonOf.2.1 38 = .ok (.goto 19, 3) := by decide +kernel
theorem d_MM_colonOf_41 : decode y_MM_colonOf.2.1 41 = .ok (.iload 7, 2) := by decide +kernel
theorem d_MM_colonOf_43 : decode y_MM_colonOf.2.1 43 = .ok (.bipush 37, 2) := by decide +kernel
theorem d_MM_colonOf_45 : decode y_MM_colonOf.2.1 45 = .ok (.if_icmp .ne 10, 3) := by decide +kernel
theorem d_MM_colonOf_48 : decode y_MM_colonOf.2.1 48 = .ok (.iload 4, 2) := by decide +kernel
theorem d_MM_colonOf_50 : decode y_MM_colonOf.2.1 50 = .ok (.iconst 1, 1) := by decide +kernel
theorem d_MM_colonOf_51 : decode y_MM_colonOf.2.1 51 = .ok (.isub, 1) := by decide +kernel
theorem d_MM_colonOf_52 : decode y_MM_colonOf.2.1 52 = .ok (.goto 5, 3) := by decide +kernel
theorem d_MM_colonOf_55 : decode y_MM_colonOf.2.1 55 = .ok (.iload 4, 2) := by decide +kernel
theorem d_MM_colonOf_57 : decode y_MM_colonOf.2.1 57 = .ok (.istore 4, 2) := by decide +kernel
theorem d_MM_colonOf_59 : decode y_MM_colonOf.2.1 59 = .ok (.iload 7, 2) := by decide +kernel
theorem d_MM_colonOf_61 : decode y_MM_colonOf.2.1 61 = .ok (.bipush 33, 2) := by decide +kernel
theorem d_MM_colonOf_63 : decode y_MM_colonOf.2.1 63 = .ok (.if_icmp .ne 16, 3) := by decide +kernel
theorem d_MM_colonOf_66 : decode y_MM_colonOf.2.1 66 = .ok (.iload 4, 2) := by decide +kernel
theorem d_MM_colonOf_68 : decode y_MM_colonOf.2.1 68 = .ok (.ifCond .ne 11, 3) := by decide +kernel
theorem d_MM_colonOf_71 : decode y_MM_colonOf.2.1 71 = .ok (.iload_n 3, 1) := by decide +kernel
theorem d_MM_colonOf_72 : decode y_MM_colonOf.2.1 72 = .ok (.ifCond .ne 7, 3) := by decide +kernel
theorem d_MM_colonOf_75 : decode y_MM_colonOf.2.1 75 = .ok (.iconst 1, 1) := by decide +kernel
theorem d_MM_colonOf_76 : decode y_MM_colonOf.2.1 76 = .ok (.goto 4, 3) := by decide +kernel
theorem d_MM_colonOf_79 : decode y_MM_colonOf.2.1 79 = .ok (.iconst 0, 1) := by decide +kernel
theorem d_MM_colonOf_80 : decode y_MM_colonOf.2.1 80 = .ok (.istore 6, 2) := by decide +kernel
theorem d_MM_colonOf_82 : decode y_MM_colonOf.2.1 82 = .ok (.iload 4, 2) := by decide +kernel
theorem d_MM_colonOf_84 : decode y_MM_colonOf.2.1 84 = .ok (.ifCond .le 7, 3) := by decide +kernel
theorem d_MM_colonOf_91 : decode y_MM_colonOf.2.1 91 = .ok (.iload 7, 2) := by decide +kernel
theorem d_MM_colonOf_93 : decode y_MM_colonOf.2.1 93 = .ok (.bipush 32, 2) := by decide +kernel
theorem d_MM_colonOf_95 : decode y_MM_colonOf.2.1 95 = .ok (.if_icmp .ne 9, 3) := by decide +kernel
theorem d_MM_colonOf_98 : decode y_MM_colonOf.2.1 98 = .ok (.iload_n 3, 1) := by decide +kernel
theorem d_MM_colonOf_99 : decode y_MM_colonOf.2.1 99 = .ok (.iconst 1, 1) := by decide +kernel
theorem d_MM_colonOf_100 : decode y_MM_colonOf.2.1 100 = .ok (.iadd, 1) := by decide +kernel
theorem d_MM_colonOf_101 : decode y_MM_colonOf.2.1 101 = .ok (.goto 17, 3) := by decide +kernel
theorem d_MM_colonOf_104 : decode y_MM_colonOf.2.1 104 = .ok (.iload 7, 2) := by decide +kernel
theorem d_MM_colonOf_106 : decode y_MM_colonOf.2.1 106 = .ok (.bipush 33, 2) := by decide +kernel
theorem d_MM_colonOf_108 : decode y_MM_colonOf.2.1 108 = .ok (.if_icmp .ne 9, 3) := by decide +kernel
theorem d_MM_colonOf_111 : decode y_MM_colonOf.2.1 111 = .ok (.iload_n 3, 1) := by decide +kernel
theorem d_MM_colonOf_112 : decode y_MM_colonOf.2.1 112 = .ok (.iconst 1, 1) := by decide +kernel
theorem d_MM_colonOf_113 : decode y_MM_colonOf.2.1 113 = .ok (.isub, 1) := by decide +kernel
theorem d_MM_colonOf_114 : decode y_MM_colonOf.2.1 114 = .ok (.goto 4, 3) := by decide +kernel
theorem d_MM_colonOf_117 : decode y_MM_colonOf.2.1 117 = .ok (.iload_n 3, 1) := by decide +kernel
theorem d_MM_colonOf_87 : decode y_MM_colonOf.2.1 87 = .ok (.iload_n 3, 1) := by decide +kernel
theorem d_MM_colonOf_88 : decode y_MM_colonOf.2.1 88 = .ok (.goto 30, 3) := by decide +kernel
theorem d_MM_colonOf_118 : decode y_MM_colonOf.2.1 118 = .ok (.istore_n 3, 1) := by decide +kernel
theorem d_MM_colonOf_119 : decode y_MM_colonOf.2.1 119 = .ok (.goto (-108), 3) := by decide +kernel
def h_MM_colonOf_11 (G : mG) (d : Nat) (a0 : Nat) (l3 : Int) (l4 : Int) (l5 : Int) (l6 : Int) (M : mM) (Q : Int → mM → Prop) : Prop := mWm G y_MM_colonOf (d + 1) 11 [vr a0, vd, vd, vi l3, vi l4, vi l5, vi l6, vd] [] M (fun r9 M9 => ∃ x9, r9 = some (vi x9) ∧ Q x9 M9)
theorem k_MM_colonOf {G : mG} {d : Nat} {a0 : Nat} {l1 : Int} {l2 : Int} {M : mM} {Q : Int → mM → Prop} (hO : mOk M) (hi_l1 : i32 l1) (hi_l2 : i32 l2)
    (h : h_MM_colonOf_11 G d a0 0 0 l1 0 M Q) :
    Ci G y_MM_colonOf (d + 1) [vr a0, vi l1, vi l2] M Q := by
  refine wm_open (y := y_MM_colonOf) rfl (Nat.le_of_ble_eq_true rfl) (L := [vr a0, vi l1, vi l2, vd, vd, vd, vd, vd]) rfl ?_
  refine wm_iconst d_MM_colonOf_0 ?_
  refine wm_istore_n d_MM_colonOf_1 rfl (by decide) (L' := [vr a0, vi l1, vi l2, vi 0, vd, vd, vd, vd]) rfl ?_
  refine wm_iconst d_MM_colonOf_2 ?_
  refine wm_istore d_MM_colonOf_3 (by decide) (L' := [vr a0, vi l1, vi l2, vi 0, vi 0, vd, vd, vd]) rfl ?_
  refine wm_iload_n d_MM_colonOf_5 rfl rfl ?_
  refine wm_istore d_MM_colonOf_6 (by decide) (L' := [vr a0, vi l1, vi l2, vi 0, vi 0, vi l1, vd, vd]) rfl ?_
  refine wm_iconst d_MM_colonOf_8 ?_
  refine wm_istore d_MM_colonOf_9 (by decide) (L' := [vr a0, vi l1, vi l2, vi 0, vi 0, vi l1, vi 0, vd]) rfl ?_
  refine wm_less (L' := [vr a0, vd, vd, vi 0, vi 0, vi l1, vi 0, vd]) ⟨Or.inr rfl, Or.inl rfl, Or.inl rfl, Or.inr rfl, Or.inr rfl, Or.inr rfl, Or.inr rfl, Or.inl rfl, trivial⟩ ?_
  exact h
theorem k_MM_colonOf_11 {G : mG} {d : Nat} {a0 : Nat} {l3 : Int} {l4 : Int} {l5 : Int} {l6 : Int} {M : mM} {Q : Int → mM → Prop} (hO : mOk M) (hi_l3 : i32 l3) (hi_l4 : i32 l4) (hi_l5 : i32 l5) (hi_l6 : i32 l6)
    (h : ((l6 = 0) → (mK M a0 = 14 ∧ Ci G y_MM_word1 d [vr a0, vi (l5 + 1)] M (fun x5 M4 => i32 x5 ∧ mOk M4 ∧ (∀ v9 : Int, v9 = (if x5 = 36 then l4 + 1 else (if x5 = 37 then l4 - 1 else l4)) → ((x5 = 33) → i32 v9) ∧ ∀ v16 : Int, v16 = (if ((x5 = 33) ∧ ((v9 = 0) ∧ (l3 = 0))) then 1 else 0) → i32 v9 ∧ ∀ v25 : Int, v25 = (if v9 ≤ 0 then (if x5 = 32 then l3 + 1 else (if x5 = 33 then l3 - 1 else l3)) else l3) → h_MM_colonOf_11 G d a0 v25 v9 (l5 + 1) v16 M4 Q)))) ∧ (¬ (l6 = 0) → (Q l5 M))) :
    h_MM_colonOf_11 G d a0 l3 l4 l5 l6 M Q := by
  unfold h_MM_colonOf_11
  refine wm_iload d_MM_colonOf_11 rfl ?_
  refine wm_if_ne (tgt := 122) d_MM_colonOf_13 rfl hi_l6 (fun c2 => ?_) (fun c2 => ?_)
  · replace h := h.2 c2
    refine wm_iload d_MM_colonOf_122 rfl ?_
    refine wm_ireturn d_MM_colonOf_124 rfl rfl ?_
    exact ⟨_, rfl, h⟩
  · replace c2 := Classical.not_not.mp c2
    replace h := h.1 c2
    obtain ⟨h3, h⟩ := h
    refine wm_iinc d_MM_colonOf_16 (by decide) rfl (L' := [vr a0, vd, vd, vi l3, vi l4, vi (l5 + 1), vi l6, vd]) rfl ?_
    refine wm_aload_n d_MM_colonOf_19 rfl rfl ?_
    refine wm_iload d_MM_colonOf_20 rfl ?_
    refine cf_MM_302 rfl d_MM_colonOf_22 h3 (Nat.le_of_ble_eq_true rfl) (Ci.mono h (fun x5 M4 h => ?_))
    obtain ⟨h6, hOM4, h⟩ := h
    refine wm_istore d_MM_colonOf_25 (by decide) (L' := [vr a0, vd, vd, vi l3, vi l4, vi (l5 + 1), vi l6, vi x5]) rfl ?_
    refine wm_iload d_MM_colonOf_27 rfl ?_
    refine wm_bipush d_MM_colonOf_29 (by decide) ?_
    have hJ : ∀ v9 : Int, v9 = (if x5 = 36 then l4 + 1 else (if x5 = 37 then l4 - 1 else l4)) → mWm G y_MM_colonOf (d + 1) 57 [vr a0, vd, vd, vi l3, vd, vi (l5 + 1), vd, vi x5] [vi v9] M4 (fun r9 M9 => ∃ x9, r9 = some (vi x9) ∧ Q x9 M9) := by
      intro v9 e11
      have h := h v9 e11
      refine wm_istore d_MM_colonOf_57 (by decide) (L' := [vr a0, vd, vd, vi l3, vi v9, vi (l5 + 1), vd, vi x5]) rfl ?_
      refine wm_iload d_MM_colonOf_59 rfl ?_
      refine wm_bipush d_MM_colonOf_61 (by decide) ?_
      obtain ⟨s17, h⟩ := h
      have hJ : ∀ v16 : Int, v16 = (if ((x5 = 33) ∧ ((v9 = 0) ∧ (l3 = 0))) then 1 else 0) → mWm G y_MM_colonOf (d + 1) 80 [vr a0, vd, vd, vi l3, vi v9, vi (l5 + 1), vd, vi x5] [vi v16] M4 (fun r9 M9 => ∃ x9, r9 = some (vi x9) ∧ Q x9 M9) := by
        intro v16 e18
        have h := h v16 e18
        have h19 : i32 v16 := by rw [e18]; (repeat' split) <;> first | exact ⟨by decide, by decide⟩ | exact ⟨by decide, by decide⟩
        have h20 : (v16 = 0 ∨ v16 = 1) := by rw [e18]; (repeat' split) <;> decide
        obtain ⟨h21, h⟩ := h
        refine wm_istore d_MM_colonOf_80 (by decide) (L' := [vr a0, vd, vd, vi l3, vi v9, vi (l5 + 1), vi v16, vi x5]) rfl ?_
        refine wm_iload d_MM_colonOf_82 rfl ?_
        have hJ : ∀ v25 : Int, v25 = (if v9 ≤ 0 then (if x5 = 32 then l3 + 1 else (if x5 = 33 then l3 - 1 else l3)) else l3) → mWm G y_MM_colonOf (d + 1) 118 [vr a0, vd, vd, vd, vi v9, vi (l5 + 1), vi v16, vd] [vi v25] M4 (fun r9 M9 => ∃ x9, r9 = some (vi x9) ∧ Q x9 M9) := by
          intro v25 e27
          have h := h v25 e27
          refine wm_istore_n d_MM_colonOf_118 rfl (by decide) (L' := [vr a0, vd, vd, vi v25, vi v9, vi (l5 + 1), vi v16, vd]) rfl ?_
          refine wm_goto (tgt := 11) d_MM_colonOf_119 rfl ?_
          exact h
        clear h
        refine wm_if_le (tgt := 91) d_MM_colonOf_84 rfl h21 (fun c22 => ?_) (fun c22 => ?_)
        · refine wm_iload d_MM_colonOf_91 rfl ?_
          refine wm_bipush d_MM_colonOf_93 (by decide) ?_
          refine wm_icmp_ne (tgt := 104) d_MM_colonOf_95 rfl h6 ⟨by decide, by decide⟩ (fun c23 => ?_) (fun c23 => ?_)
          · refine wm_iload d_MM_colonOf_104 rfl ?_
            refine wm_bipush d_MM_colonOf_106 (by decide) ?_
            refine wm_icmp_ne (tgt := 117) d_MM_colonOf_108 rfl h6 ⟨by decide, by decide⟩ (fun c24 => ?_) (fun c24 => ?_)
            · refine wm_iload_n d_MM_colonOf_117 rfl rfl ?_
              refine wm_less (L' := [vr a0, vd, vd, vd, vi v9, vi (l5 + 1), vi v16, vd]) ⟨Or.inr rfl, Or.inl rfl, Or.inl rfl, Or.inl rfl, Or.inr rfl, Or.inr rfl, Or.inr rfl, Or.inl rfl, trivial⟩ ?_
              exact hJ l3 (by rw [if_pos c22, if_neg c23, if_neg c24])
            · replace c24 := Classical.not_not.mp c24
              refine wm_iload_n d_MM_colonOf_111 rfl rfl ?_
              refine wm_iconst d_MM_colonOf_112 ?_
              refine wm_isub d_MM_colonOf_113 ?_
              refine wm_goto (tgt := 118) d_MM_colonOf_114 rfl ?_
              refine wm_less (L' := [vr a0, vd, vd, vd, vi v9, vi (l5 + 1), vi v16, vd]) ⟨Or.inr rfl, Or.inl rfl, Or.inl rfl, Or.inl rfl, Or.inr rfl, Or.inr rfl, Or.inr rfl, Or.inl rfl, trivial⟩ ?_
              exact hJ (l3 - 1) (by rw [if_pos c22, if_neg c23, if_pos c24])
          · replace c23 := Classical.not_not.mp c23
            refine wm_iload_n d_MM_colonOf_98 rfl rfl ?_
            refine wm_iconst d_MM_colonOf_99 ?_
            refine wm_iadd d_MM_colonOf_100 ?_
            refine wm_goto (tgt := 118) d_MM_colonOf_101 rfl ?_
            refine wm_less (L' := [vr a0, vd, vd, vd, vi v9, vi (l5 + 1), vi v16, vd]) ⟨Or.inr rfl, Or.inl rfl, Or.inl rfl, Or.inl rfl, Or.inr rfl, Or.inr rfl, Or.inr rfl, Or.inl rfl, trivial⟩ ?_
            exact hJ (l3 + 1) (by rw [if_pos c22, if_pos c23])
        · refine wm_iload_n d_MM_colonOf_87 rfl rfl ?_
          refine wm_goto (tgt := 118) d_MM_colonOf_88 rfl ?_
          refine wm_less (L' := [vr a0, vd, vd, vd, vi v9, vi (l5 + 1), vi v16, vd]) ⟨Or.inr rfl, Or.inl rfl, Or.inl rfl, Or.inl rfl, Or.inr rfl, Or.inr rfl, Or.inr rfl, Or.inl rfl, trivial⟩ ?_
          exact hJ l3 (by rw [if_neg c22])
      clear h
      have s28 := s17
      refine wm_icmp_ne (tgt := 79) d_MM_colonOf_63 rfl h6 ⟨by decide, by decide⟩ (fun c12 => ?_) (fun c12 => ?_)
      · refine wm_iconst d_MM_colonOf_79 ?_
        exact hJ 0 (if_neg (fun z34 => c12 z34.1)).symm
      · replace c12 := Classical.not_not.mp c12
        have s28 := s28 c12
        have h13 := s28
        refine wm_iload d_MM_colonOf_66 rfl ?_
        refine wm_if_ne (tgt := 79) d_MM_colonOf_68 rfl h13 (fun c14 => ?_) (fun c14 => ?_)
        · refine wm_iconst d_MM_colonOf_79 ?_
          exact hJ 0 (if_neg (fun z32 => (fun z33 => c14 z33.1) z32.2)).symm
        · replace c14 := Classical.not_not.mp c14
          refine wm_iload_n d_MM_colonOf_71 rfl rfl ?_
          refine wm_if_ne (tgt := 79) d_MM_colonOf_72 rfl hi_l3 (fun c15 => ?_) (fun c15 => ?_)
          · refine wm_iconst d_MM_colonOf_79 ?_
            exact hJ 0 (if_neg (fun z29 => (fun z30 => c15 z30.2) z29.2)).symm
          · replace c15 := Classical.not_not.mp c15
            refine wm_iconst d_MM_colonOf_75 ?_
            refine wm_goto (tgt := 80) d_MM_colonOf_76 rfl ?_
            exact hJ 1 (if_pos ⟨c12, ⟨c14, c15⟩⟩).symm
    clear h
    refine wm_icmp_ne (tgt := 41) d_MM_colonOf_31 rfl h6 ⟨by decide, by decide⟩ (fun c7 => ?_) (fun c7 => ?_)
    · refine wm_iload d_MM_colonOf_41 rfl ?_
      refine wm_bipush d_MM_colonOf_43 (by decide) ?_
      refine wm_icmp_ne (tgt := 55) d_MM_colonOf_45 rfl h6 ⟨by decide, by decide⟩ (fun c8 => ?_) (fun c8 => ?_)
      · refine wm_iload d_MM_colonOf_55 rfl ?_
        refine wm_less (L' := [vr a0, vd, vd, vi l3, vd, vi (l5 + 1), vd, vi x5]) ⟨Or.inr rfl, Or.inl rfl, Or.inl rfl, Or.inr rfl, Or.inl rfl, Or.inr rfl, Or.inl rfl, Or.inr rfl, trivial⟩ ?_
        exact hJ l4 (by rw [if_neg c7, if_neg c8])
      · replace c8 := Classical.not_not.mp c8
        refine wm_iload d_MM_colonOf_48 rfl ?_
        refine wm_iconst d_MM_colonOf_50 ?_
        refine wm_isub d_MM_colonOf_51 ?_
        refine wm_goto (tgt := 57) d_MM_colonOf_52 rfl ?_
        refine wm_less (L' := [vr a0, vd, vd, vi l3, vd, vi (l5 + 1), vd, vi x5]) ⟨Or.inr rfl, Or.inl rfl, Or.inl rfl, Or.inr rfl, Or.inl rfl, Or.inr rfl, Or.inl rfl, Or.inr rfl, trivial⟩ ?_
        exact hJ (l4 - 1) (by rw [if_neg c7, if_pos c8])
    · replace c7 := Classical.not_not.mp c7
      refine wm_iload d_MM_colonOf_34 rfl ?_
      refine wm_iconst d_MM_colonOf_36 ?_
      refine wm_iadd d_MM_colonOf_37 ?_
      refine wm_goto (tgt := 57) d_MM_colonOf_38 rfl ?_
      refine wm_less (L' := [vr a0, vd, vd, vi l3, vd, vi (l5 + 1), vd, vi x5]) ⟨Or.inr rfl, Or.inl rfl, Or.inl rfl, Or.inr rfl, Or.inl rfl, Or.inr rfl, Or.inl rfl, Or.inr rfl, trivial⟩ ?_
      exact hJ (l4 + 1) (by rw [if_pos c7])
theorem d_MM_part_0 : decode y_MM_part.2.1 0 = .ok (.aload_n 0, 1) := by decide +kernel
theorem d_MM_part_1 : decode y_MM_part.2.1 1 = .ok (.iload_n 2, 1) := by decide +kernel
theorem d_MM_part_2 : decode y_MM_part.2.1 2 = .ok (.iload_n 3, 1) := by decide +kernel
theorem d_MM_part_3 : decode y_MM_part.2.1 3 = .ok (.invokevirtual 310, 3) := by decide +kernel
theorem d_MM_part_6 : decode y_MM_part.2.1 6 = .ok (.istore 4, 2) := by decide +kernel
theorem d_MM_part_8 : decode y_MM_part.2.1 8 = .ok (.iload 4, 2) := by decide +kernel
theorem d_MM_part_10 : decode y_MM_part.2.1 10 = .ok (.ifCond .lt 99, 3) := by decide +kernel
theorem d_MM_part_109 : decode y_MM_part.2.1 109 = .ok (.aload_n 0, 1) := by decide +kernel
theorem d_MM_part_110 : decode y_MM_part.2.1 110 = .ok (.iload_n 2, 1) := by decide +kernel
theorem d_MM_part_13 : decode y_MM_part.2.1 13 = .ok (.aload_n 0, 1) := by decide +kernel
theorem d_MM_part_14 : decode y_MM_part.2.1 14 = .ok (.aload_n 0, 1) := by decide +kernel
theorem d_MM_part_15 : decode y_MM_part.2.1 15 = .ok (.iload 4, 2) := by decide +kernel
theorem d_MM_part_111 : decode y_MM_part.2.1 111 = .ok (.invokevirtual 302, 3) := by decide +kernel
theorem d_MM_part_114 : decode y_MM_part.2.1 114 = .ok (.istore 5, 2) := by decide +kernel
theorem d_MM_part_116 : decode y_MM_part.2.1 116 = .ok (.iload 5, 2) := by decide +kernel
theorem d_MM_part_118 : decode y_MM_part.2.1 118 = .ok (.bipush 36, 2) := by decide +kernel
theorem d_MM_part_120 : decode y_MM_part.2.1 120 = .ok (.if_icmp .ne 15, 3) := by decide +kernel
theorem d_MM_part_123 : decode y_MM_part.2.1 123 = .ok (.aload_n 0, 1) := by decide +kernel
theorem d_MM_part_124 : decode y_MM_part.2.1 124 = .ok (.iload_n 1, 1) := by decide +kernel
theorem d_MM_part_125 : decode y_MM_part.2.1 125 = .ok (.iload_n 2, 1) := by decide +kernel
theorem d_MM_part_126 : decode y_MM_part.2.1 126 = .ok (.iconst 1, 1) := by decide +kernel
theorem d_MM_part_127 : decode y_MM_part.2.1 127 = .ok (.iadd, 1) := by decide +kernel
theorem d_MM_part_128 : decode y_MM_part.2.1 128 = .ok (.iload_n 3, 1) := by decide +kernel
theorem d_MM_part_129 : decode y_MM_part.2.1 129 = .ok (.iconst 1, 1) := by decide +kernel
theorem d_MM_part_130 : decode y_MM_part.2.1 130 = .ok (.isub, 1) := by decide +kernel
theorem d_MM_part_135 : decode y_MM_part.2.1 135 = .ok (.aload_n 0, 1) := by decide +kernel
theorem d_MM_part_136 : decode y_MM_part.2.1 136 = .ok (.iload 5, 2) := by decide +kernel
theorem d_MM_part_138 : decode y_MM_part.2.1 138 = .ok (.bipush 25, 2) := by decide +kernel
theorem d_MM_part_131 : decode y_MM_part.2.1 131 = .ok (.invokevirtual 296, 3) := by decide +kernel
theorem d_MM_part_134 : decode y_MM_part.2.1 134 = .ok (.return_, 1) := by decide +kernel
theorem d_MM_part_140 : decode y_MM_part.2.1 140 = .ok (.if_icmp .ne 8, 3) := by decide +kernel
theorem d_MM_part_143 : decode y_MM_part.2.1 143 = .ok (.bipush 45, 2) := by decide +kernel
theorem d_MM_part_145 : decode y_MM_part.2.1 145 = .ok (.goto 5, 3) := by decide +kernel
theorem d_MM_part_148 : decode y_MM_part.2.1 148 = .ok (.iload 5, 2) := by decide +kernel
theorem d_MM_part_150 : decode y_MM_part.2.1 150 = .ok (.iload_n 2, 1) := by decide +kernel
theorem d_MM_part_151 : decode y_MM_part.2.1 151 = .ok (.iload_n 2, 1) := by decide +kernel
theorem d_MM_part_152 : decode y_MM_part.2.1 152 = .ok (.invokevirtual 313, 3) := by decide +kernel
theorem d_MM_part_155 : decode y_MM_part.2.1 155 = .ok (.istore 6, 2) := by decide +kernel
theorem d_MM_part_157 : decode y_MM_part.2.1 157 = .ok (.aload_n 0, 1) := by decide +kernel
theorem d_MM_part_158 : decode y_MM_part.2.1 158 = .ok (.iload_n 1, 1) := by decide +kernel
theorem d_MM_part_159 : decode y_MM_part.2.1 159 = .ok (.iload 6, 2) := by decide +kernel
theorem d_MM_part_161 : decode y_MM_part.2.1 161 = .ok (.invokevirtual 317, 3) := by decide +kernel
theorem d_MM_part_164 : decode y_MM_part.2.1 164 = .ok (.iload 5, 2) := by decide +kernel
theorem d_MM_part_166 : decode y_MM_part.2.1 166 = .ok (.bipush 25, 2) := by decide +kernel
theorem d_MM_part_168 : decode y_MM_part.2.1 168 = .ok (.if_icmp .eq 10, 3) := by decide +kernel
theorem d_MM_part_171 : decode y_MM_part.2.1 171 = .ok (.iload 5, 2) := by decide +kernel
theorem d_MM_part_173 : decode y_MM_part.2.1 173 = .ok (.bipush 31, 2) := by decide +kernel
theorem d_MM_part_175 : decode y_MM_part.2.1 175 = .ok (.if_icmp .ne 16, 3) := by decide +kernel
theorem d_MM_part_191 : decode y_MM_part.2.1 191 = .ok (.iload 5, 2) := by decide +kernel
theorem d_MM_part_193 : decode y_MM_part.2.1 193 = .ok (.iconst 2, 1) := by decide +kernel
theorem d_MM_part_194 : decode y_MM_part.2.1 194 = .ok (.if_icmp .ne 24, 3) := by decide +kernel
theorem d_MM_part_197 : decode y_MM_part.2.1 197 = .ok (.aload_n 0, 1) := by decide +kernel
theorem d_MM_part_198 : decode y_MM_part.2.1 198 = .ok (.getfield 38, 3) := by decide +kernel
theorem d_MM_part_201 : decode y_MM_part.2.1 201 = .ok (.getfield 284, 3) := by decide +kernel
theorem d_MM_part_204 : decode y_MM_part.2.1 204 = .ok (.getfield 293, 3) := by decide +kernel
theorem d_MM_part_207 : decode y_MM_part.2.1 207 = .ok (.iload 6, 2) := by decide +kernel
theorem d_MM_part_209 : decode y_MM_part.2.1 209 = .ok (.aload_n 0, 1) := by decide +kernel
theorem d_MM_part_210 : decode y_MM_part.2.1 210 = .ok (.iload_n 2, 1) := by decide +kernel
theorem d_MM_part_218 : decode y_MM_part.2.1 218 = .ok (.iload 5, 2) := by decide +kernel
theorem d_MM_part_220 : decode y_MM_part.2.1 220 = .ok (.iconst 1, 1) := by decide +kernel
theorem d_MM_part_221 : decode y_MM_part.2.1 221 = .ok (.if_icmp .ne 20, 3) := by decide +kernel
theorem d_MM_part_224 : decode y_MM_part.2.1 224 = .ok (.aload_n 0, 1) := by decide +kernel
theorem d_MM_part_225 : decode y_MM_part.2.1 225 = .ok (.getfield 38, 3) := by decide +kernel
theorem d_MM_part_228 : decode y_MM_part.2.1 228 = .ok (.getfield 284, 3) := by decide +kernel
theorem d_MM_part_231 : decode y_MM_part.2.1 231 = .ok (.getfield 293, 3) := by decide +kernel
theorem d_MM_part_234 : decode y_MM_part.2.1 234 = .ok (.iload 6, 2) := by decide +kernel
theorem d_MM_part_236 : decode y_MM_part.2.1 236 = .ok (.iload_n 2, 1) := by decide +kernel
theorem d_MM_part_237 : decode y_MM_part.2.1 237 = .ok (.iastore, 1) := by decide +kernel
theorem d_MM_part_238 : decode y_MM_part.2.1 238 = .ok (.goto 29, 3) := by decide +kernel
theorem d_MM_part_241 : decode y_MM_part.2.1 241 = .ok (.iload 5, 2) := by decide +kernel
theorem d_MM_part_243 : decode y_MM_part.2.1 243 = .ok (.bipush 14, 2) := by decide +kernel
theorem d_MM_part_245 : decode y_MM_part.2.1 245 = .ok (.if_icmp .eq 10, 3) := by decide +kernel
theorem d_MM_part_248 : decode y_MM_part.2.1 248 = .ok (.iload 5, 2) := by decide +kernel
theorem d_MM_part_250 : decode y_MM_part.2.1 250 = .ok (.bipush 15, 2) := by decide +kernel
theorem d_MM_part_252 : decode y_MM_part.2.1 252 = .ok (.if_icmp .ne 15, 3) := by decide +kernel
theorem d_MM_part_178 : decode y_MM_part.2.1 178 = .ok (.aload_n 0, 1) := by decide +kernel
theorem d_MM_part_179 : decode y_MM_part.2.1 179 = .ok (.iload 6, 2) := by decide +kernel
theorem d_MM_part_181 : decode y_MM_part.2.1 181 = .ok (.iload_n 2, 1) := by decide +kernel
theorem d_MM_part_182 : decode y_MM_part.2.1 182 = .ok (.iconst 1, 1) := by decide +kernel
theorem d_MM_part_183 : decode y_MM_part.2.1 183 = .ok (.iadd, 1) := by decide +kernel
theorem d_MM_part_184 : decode y_MM_part.2.1 184 = .ok (.iload_n 3, 1) := by decide +kernel
theorem d_MM_part_185 : decode y_MM_part.2.1 185 = .ok (.invokevirtual 296, 3) := by decide +kernel
theorem d_MM_part_188 : decode y_MM_part.2.1 188 = .ok (.goto 79, 3) := by decide +kernel
theorem d_MM_part_211 : decode y_MM_part.2.1 211 = .ok (.invokevirtual 324, 3) := by decide +kernel
theorem d_MM_part_214 : decode y_MM_part.2.1 214 = .ok (.iastore, 1) := by decide +kernel
theorem d_MM_part_215 : decode y_MM_part.2.1 215 = .ok (.goto 52, 3) := by decide +kernel
theorem d_MM_part_255 : decode y_MM_part.2.1 255 = .ok (.aload_n 0, 1) := by decide +kernel
theorem d_MM_part_256 : decode y_MM_part.2.1 256 = .ok (.iload 6, 2) := by decide +kernel
theorem d_MM_part_258 : decode y_MM_part.2.1 258 = .ok (.iload_n 2, 1) := by decide +kernel
theorem d_MM_part_259 : decode y_MM_part.2.1 259 = .ok (.iconst 2, 1) := by decide +kernel
theorem d_MM_part_260 : decode y_MM_part.2.1 260 = .ok (.iadd, 1) := by decide +kernel
theorem d_MM_part_261 : decode y_MM_part.2.1 261 = .ok (.iload_n 3, 1) := by decide +kernel
theorem d_MM_part_262 : decode y_MM_part.2.1 262 = .ok (.iconst 1, 1) := by decide +kernel
theorem d_MM_part_263 : decode y_MM_part.2.1 263 = .ok (.isub, 1) := by decide +kernel
theorem d_MM_part_264 : decode y_MM_part.2.1 264 = .ok (.invokevirtual 327, 3) := by decide +kernel
theorem d_MM_part_17 : decode y_MM_part.2.1 17 = .ok (.invokevirtual 302, 3) := by decide +kernel
theorem d_MM_part_20 : decode y_MM_part.2.1 20 = .ok (.iload 4, 2) := by decide +kernel
theorem d_MM_part_22 : decode y_MM_part.2.1 22 = .ok (.iload_n 2, 1) := by decide +kernel
theorem d_MM_part_23 : decode y_MM_part.2.1 23 = .ok (.invokevirtual 313, 3) := by decide +kernel
theorem d_MM_part_26 : decode y_MM_part.2.1 26 = .ok (.istore 5, 2) := by decide +kernel
theorem d_MM_part_28 : decode y_MM_part.2.1 28 = .ok (.aload_n 0, 1) := by decide +kernel
theorem d_MM_part_29 : decode y_MM_part.2.1 29 = .ok (.iload_n 1, 1) := by decide +kernel
theorem d_MM_part_30 : decode y_MM_part.2.1 30 = .ok (.iload 5, 2) := by decide +kernel
theorem d_MM_part_32 : decode y_MM_part.2.1 32 = .ok (.invokevirtual 317, 3) := by decide +kernel
theorem d_MM_part_35 : decode y_MM_part.2.1 35 = .ok (.aload_n 0, 1) := by decide +kernel
theorem d_MM_part_36 : decode y_MM_part.2.1 36 = .ok (.iload 4, 2) := by decide +kernel
theorem d_MM_part_38 : decode y_MM_part.2.1 38 = .ok (.invokevirtual 302, 3) := by decide +kernel
theorem d_MM_part_41 : decode y_MM_part.2.1 41 = .ok (.bipush 32, 2) := by decide +kernel
theorem d_MM_part_43 : decode y_MM_part.2.1 43 = .ok (.if_icmp .eq 24, 3) := by decide +kernel
theorem d_MM_part_67 : decode y_MM_part.2.1 67 = .ok (.aload_n 0, 1) := by decide +kernel
theorem d_MM_part_68 : decode y_MM_part.2.1 68 = .ok (.iload 4, 2) := by decide +kernel
theorem d_MM_part_70 : decode y_MM_part.2.1 70 = .ok (.iload_n 3, 1) := by decide +kernel
theorem d_MM_part_46 : decode y_MM_part.2.1 46 = .ok (.aload_n 0, 1) := by decide +kernel
theorem d_MM_part_47 : decode y_MM_part.2.1 47 = .ok (.iload 5, 2) := by decide +kernel
theorem d_MM_part_49 : decode y_MM_part.2.1 49 = .ok (.iload 4, 2) := by decide +kernel
theorem d_MM_part_51 : decode y_MM_part.2.1 51 = .ok (.iconst 1, 1) := by decide +kernel
theorem d_MM_part_52 : decode y_MM_part.2.1 52 = .ok (.iadd, 1) := by decide +kernel
theorem d_MM_part_53 : decode y_MM_part.2.1 53 = .ok (.iload_n 3, 1) := by decide +kernel
theorem d_MM_part_71 : decode y_MM_part.2.1 71 = .ok (.invokevirtual 321, 3) := by decide +kernel
theorem d_MM_part_74 : decode y_MM_part.2.1 74 = .ok (.istore 6, 2) := by decide +kernel
theorem d_MM_part_76 : decode y_MM_part.2.1 76 = .ok (.aload_n 0, 1) := by decide +kernel
theorem d_MM_part_77 : decode y_MM_part.2.1 77 = .ok (.iload 5, 2) := by decide +kernel
theorem d_MM_part_79 : decode y_MM_part.2.1 79 = .ok (.iload 6, 2) := by decide +kernel
theorem d_MM_part_81 : decode y_MM_part.2.1 81 = .ok (.iconst 1, 1) := by decide +kernel
theorem d_MM_part_82 : decode y_MM_part.2.1 82 = .ok (.iadd, 1) := by decide +kernel
theorem d_MM_part_83 : decode y_MM_part.2.1 83 = .ok (.iload_n 3, 1) := by decide +kernel
theorem d_MM_part_84 : decode y_MM_part.2.1 84 = .ok (.invokevirtual 296, 3) := by decide +kernel
theorem d_MM_part_87 : decode y_MM_part.2.1 87 = .ok (.aload_n 0, 1) := by decide +kernel
theorem d_MM_part_88 : decode y_MM_part.2.1 88 = .ok (.iload 5, 2) := by decide +kernel
theorem d_MM_part_90 : decode y_MM_part.2.1 90 = .ok (.iload 4, 2) := by decide +kernel
theorem d_MM_part_92 : decode y_MM_part.2.1 92 = .ok (.iconst 1, 1) := by decide +kernel
theorem d_MM_part_93 : decode y_MM_part.2.1 93 = .ok (.iadd, 1) := by decide +kernel
theorem d_MM_part_94 : decode y_MM_part.2.1 94 = .ok (.iload 6, 2) := by decide +kernel
theorem d_MM_part_96 : decode y_MM_part.2.1 96 = .ok (.invokevirtual 296, 3) := by decide +kernel
theorem d_MM_part_99 : decode y_MM_part.2.1 99 = .ok (.aload_n 0, 1) := by decide +kernel
theorem d_MM_part_100 : decode y_MM_part.2.1 100 = .ok (.iload 5, 2) := by decide +kernel
theorem d_MM_part_102 : decode y_MM_part.2.1 102 = .ok (.iload_n 2, 1) := by decide +kernel
theorem d_MM_part_103 : decode y_MM_part.2.1 103 = .ok (.iload 4, 2) := by decide +kernel
theorem d_MM_part_105 : decode y_MM_part.2.1 105 = .ok (.invokevirtual 296, 3) := by decide +kernel
theorem d_MM_part_108 : decode y_MM_part.2.1 108 = .ok (.return_, 1) := by decide +kernel
theorem d_MM_part_54 : decode y_MM_part.2.1 54 = .ok (.invokevirtual 296, 3) := by decide +kernel
theorem d_MM_part_57 : decode y_MM_part.2.1 57 = .ok (.aload_n 0, 1) := by decide +kernel
theorem d_MM_part_58 : decode y_MM_part.2.1 58 = .ok (.iload 5, 2) := by decide +kernel
theorem d_MM_part_60 : decode y_MM_part.2.1 60 = .ok (.iload_n 2, 1) := by decide +kernel
theorem d_MM_part_61 : decode y_MM_part.2.1 61 = .ok (.iload 4, 2) := by decide +kernel
theorem d_MM_part_63 : decode y_MM_part.2.1 63 = .ok (.invokevirtual 296, 3) := by decide +kernel
theorem d_MM_part_66 : decode y_MM_part.2.1 66 = .ok (.return_, 1) := by decide +kernel
theorem d_MM_part_267 : decode y_MM_part.2.1 267 = .ok (.return_, 1) := by decide +kernel
def h_MM_part_267 (G : mG) (d : Nat) (M : mM) (Q : mM → Prop) : Prop := mWm G y_MM_part (d + 1) 267 [vd, vd, vd, vd, vd, vd, vd] [] M (fun r9 M9 => r9 = none ∧ Q M9)
theorem k_MM_part {G : mG} {d : Nat} {a0 : Nat} {l1 : Int} {l2 : Int} {l3 : Int} {M : mM} {Q : mM → Prop} (hO : mOk M) (hi_l1 : i32 l1) (hi_l2 : i32 l2) (hi_l3 : i32 l3)
    (h : mK M a0 = 14 ∧ Ci G y_MM_loosest d [vr a0, vi l2, vi l3] M (fun x3 M2 => i32 x3 ∧ mOk M2 ∧ (((x3 < 0) → (mK M2 a0 = 14 ∧ Ci G y_MM_word1 d [vr a0, vi l2] M2 (fun x9 M8 => i32 x9 ∧ mOk M8 ∧ (((x9 = 36) → (mK M8 a0 = 14 ∧ Cv G y_MM_job d [vr a0, vi l1, vi (l2 + 1), vi (l3 - 1)] M8 (fun M14 => mOk M14 ∧ (Q M14)))) ∧ (¬ (x9 = 36) → (∀ v18 : Int, v18 = (if (x9 = 25) then 45 else x9) → mK M8 a0 = 14 ∧ Ci G y_MM_node d [vr a0, vi v18, vi l2, vi l2] M8 (fun x24 M23 => i32 x24 ∧ mOk M23 ∧ (mK M23 a0 = 14 ∧ Cv G y_MM_join d [vr a0, vi l1, vi x24] M23 (fun M27 => mOk M27 ∧ ((((x9 = 25) ∨ (x9 = 31)) → (mK M27 a0 = 14 ∧ Cv G y_MM_job d [vr a0, vi x24, vi (l2 + 1), vi l3] M27 (fun M44 => mOk M44 ∧ (h_MM_part_267 G d  M44 Q)))) ∧ (¬ ((x9 = 25) ∨ (x9 = 31)) → (((x9 = 2) → (mK M27 a0 = 14 ∧ mK M27 (mR M27 a0 10) = 16 ∧ mK M27 (mR M27 (mR M27 a0 10) 3) = 15 ∧ Ci G y_MM_numberOf d [vr a0, vi l2] M27 (fun x62 M61 => i32 x62 ∧ mOk M61 ∧ (mK M61 (mR M27 (mR M27 (mR M27 a0 10) 3) 0) = 30 ∧ ((0 : Int) ≤ x24 ∧ x24 < (mN M61 (mR M27 (mR M27 (mR M27 a0 10) 3) 0) : Int)) ∧ ∀ M66, M66 = mUI M61 (mR M27 (mR M27 (mR M27 a0 10) 3) 0) (Int.toNat x24) x62 → h_MM_part_267 G d  M66 Q)))) ∧ (¬ (x9 = 2) → (((x9 = 1) → (mK M27 a0 = 14 ∧ mK M27 (mR M27 a0 10) = 16 ∧ mK M27 (mR M27 (mR M27 a0 10) 3) = 15 ∧ mK M27 (mR M27 (mR M27 (mR M27 a0 10) 3) 0) = 30 ∧ ((0 : Int) ≤ x24 ∧ x24 < (mN M27 (mR M27 (mR M27 (mR M27 a0 10) 3) 0) : Int)) ∧ ∀ M82, M82 = mUI M27 (mR M27 (mR M27 (mR M27 a0 10) 3) 0) (Int.toNat x24) l2 → h_MM_part_267 G d  M82 Q)) ∧ (¬ (x9 = 1) → ((((x9 = 14) ∨ (x9 = 15)) → (mK M27 a0 = 14 ∧ Cv G y_MM_list d [vr a0, vi x24, vi (l2 + 2), vi (l3 - 1)] M27 (fun M89 => mOk M89 ∧ (h_MM_part_267 G d  M89 Q)))) ∧ (¬ ((x9 = 14) ∨ (x9 = 15)) → (h_MM_part_267 G d  M27 Q)))))))))))))))))) ∧ (¬ (x3 < 0) → (mK M2 a0 = 14 ∧ Ci G y_MM_word1 d [vr a0, vi x3] M2 (fun x100 M99 => i32 x100 ∧ mOk M99 ∧ (mK M99 a0 = 14 ∧ Ci G y_MM_node d [vr a0, vi x100, vi x3, vi l2] M99 (fun x104 M103 => i32 x104 ∧ mOk M103 ∧ (mK M103 a0 = 14 ∧ Cv G y_MM_join d [vr a0, vi l1, vi x104] M103 (fun M107 => mOk M107 ∧ (mK M107 a0 = 14 ∧ Ci G y_MM_word1 d [vr a0, vi x3] M107 (fun x112 M111 => i32 x112 ∧ mOk M111 ∧ (((x112 = 32) → (mK M111 a0 = 14 ∧ Ci G y_MM_colonOf d [vr a0, vi x3, vi l3] M111 (fun x118 M117 => i32 x118 ∧ mOk M117 ∧ (mK M117 a0 = 14 ∧ Cv G y_MM_job d [vr a0, vi x104, vi (x118 + 1), vi l3] M117 (fun M121 => mOk M121 ∧ (mK M121 a0 = 14 ∧ Cv G y_MM_job d [vr a0, vi x104, vi (x3 + 1), vi x118] M121 (fun M125 => mOk M125 ∧ (mK M125 a0 = 14 ∧ Cv G y_MM_job d [vr a0, vi x104, vi l2, vi x3] M125 (fun M129 => mOk M129 ∧ (Q M129)))))))))) ∧ (¬ (x112 = 32) → (mK M111 a0 = 14 ∧ Cv G y_MM_job d [vr a0, vi x104, vi (x3 + 1), vi l3] M111 (fun M133 => mOk M133 ∧ (mK M133 a0 = 14 ∧ Cv G y_MM_job d [vr a0, vi x104, vi l2, vi x3] M133 (fun M137 => mOk M137 ∧ (Q M137))))))))))))))))))) :
    Cv G y_MM_part (d + 1) [vr a0, vi l1, vi l2, vi l3] M Q := by
  refine wm_open (y := y_MM_part) rfl (Nat.le_of_ble_eq_true rfl) (L := [vr a0, vi l1, vi l2, vi l3, vd, vd, vd]) rfl ?_
  obtain ⟨h1, h⟩ := h
  refine wm_aload_n d_MM_part_0 rfl rfl ?_
  refine wm_iload_n d_MM_part_1 rfl rfl ?_
  refine wm_iload_n d_MM_part_2 rfl rfl ?_
  refine cf_MM_310 rfl d_MM_part_3 h1 (Nat.le_of_ble_eq_true rfl) (Ci.mono h (fun x3 M2 h => ?_))
  obtain ⟨h4, hOM2, h⟩ := h
  refine wm_istore d_MM_part_6 (by decide) (L' := [vr a0, vi l1, vi l2, vi l3, vi x3, vd, vd]) rfl ?_
  refine wm_iload d_MM_part_8 rfl ?_
  refine wm_if_lt (tgt := 109) d_MM_part_10 rfl h4 (fun c6 => ?_) (fun c6 => ?_)
  · replace h := h.1 c6
    obtain ⟨h7, h⟩ := h
    refine wm_aload_n d_MM_part_109 rfl rfl ?_
    refine wm_iload_n d_MM_part_110 rfl rfl ?_
    refine cf_MM_302 rfl d_MM_part_111 h7 (Nat.le_of_ble_eq_true rfl) (Ci.mono h (fun x9 M8 h => ?_))
    obtain ⟨h10, hOM8, h⟩ := h
    refine wm_istore d_MM_part_114 (by decide) (L' := [vr a0, vi l1, vi l2, vi l3, vi x3, vi x9, vd]) rfl ?_
    refine wm_iload d_MM_part_116 rfl ?_
    refine wm_bipush d_MM_part_118 (by decide) ?_
    refine wm_icmp_ne (tgt := 135) d_MM_part_120 rfl h10 ⟨by decide, by decide⟩ (fun c12 => ?_) (fun c12 => ?_)
    · replace h := h.2 c12
      refine wm_aload_n d_MM_part_135 rfl rfl ?_
      refine wm_iload d_MM_part_136 rfl ?_
      refine wm_bipush d_MM_part_138 (by decide) ?_
      have hJ : ∀ v18 : Int, v18 = (if (x9 = 25) then 45 else x9) → mWm G y_MM_part (d + 1) 150 [vr a0, vi l1, vi l2, vi l3, vd, vi x9, vd] [vi v18, vr a0] M8 (fun r9 M9 => r9 = none ∧ Q M9) := by
        intro v18 e20
        have h := h v18 e20
        have h21 : i32 v18 := by rw [e20]; (repeat' split) <;> first | exact ⟨by decide, by decide⟩ | exact h10
        obtain ⟨h22, h⟩ := h
        refine wm_iload_n d_MM_part_150 rfl rfl ?_
        refine wm_iload_n d_MM_part_151 rfl rfl ?_
        refine cf_MM_313 rfl d_MM_part_152 h22 (Nat.le_of_ble_eq_true rfl) (Ci.mono h (fun x24 M23 h => ?_))
        obtain ⟨h25, hOM23, h⟩ := h
        obtain ⟨h26, h⟩ := h
        refine wm_istore d_MM_part_155 (by decide) (L' := [vr a0, vi l1, vi l2, vi l3, vd, vi x9, vi x24]) rfl ?_
        refine wm_aload_n d_MM_part_157 rfl rfl ?_
        refine wm_iload_n d_MM_part_158 rfl rfl ?_
        refine wm_iload d_MM_part_159 rfl ?_
        refine cf_MM_317 rfl d_MM_part_161 h26 (Nat.le_of_ble_eq_true rfl) (Cv.mono h (fun M27 h => ?_))
        obtain ⟨hOM27, h⟩ := h
        refine wm_iload d_MM_part_164 rfl ?_
        refine wm_bipush d_MM_part_166 (by decide) ?_
        have hE0 : ((x9 = 25) ∨ (x9 = 31)) → mWm G y_MM_part (d + 1) 178 [vr a0, vi l1, vi l2, vi l3, vd, vi x9, vi x24] [] M27 (fun r9 M9 => r9 = none ∧ Q M9) := by
          intro q42
          have h := h.1 q42
          obtain ⟨h43, h⟩ := h
          refine wm_aload_n d_MM_part_178 rfl rfl ?_
          refine wm_iload d_MM_part_179 rfl ?_
          refine wm_iload_n d_MM_part_181 rfl rfl ?_
          refine wm_iconst d_MM_part_182 ?_
          refine wm_iadd d_MM_part_183 ?_
          refine wm_iload_n d_MM_part_184 rfl rfl ?_
          refine cf_MM_296 rfl d_MM_part_185 h43 (Nat.le_of_ble_eq_true rfl) (Cv.mono h (fun M44 h => ?_))
          obtain ⟨hOM44, h⟩ := h
          refine wm_goto (tgt := 267) d_MM_part_188 rfl ?_
          refine wm_less (L' := [vd, vd, vd, vd, vd, vd, vd]) ⟨Or.inl rfl, Or.inl rfl, Or.inl rfl, Or.inl rfl, Or.inl rfl, Or.inl rfl, Or.inl rfl, trivial⟩ ?_
          exact h
        have hE1 : ¬ ((x9 = 25) ∨ (x9 = 31)) → mWm G y_MM_part (d + 1) 191 [vr a0, vi l1, vi l2, vi l3, vd, vi x9, vi x24] [] M27 (fun r9 M9 => r9 = none ∧ Q M9) := by
          intro q47
          have h := h.2 q47
          refine wm_iload d_MM_part_191 rfl ?_
          refine wm_iconst d_MM_part_193 ?_
          refine wm_icmp_ne (tgt := 218) d_MM_part_194 rfl h10 ⟨by decide, by decide⟩ (fun c57 => ?_) (fun c57 => ?_)
          · replace h := h.2 c57
            refine wm_iload d_MM_part_218 rfl ?_
            refine wm_iconst d_MM_part_220 ?_
            refine wm_icmp_ne (tgt := 241) d_MM_part_221 rfl h10 ⟨by decide, by decide⟩ (fun c76 => ?_) (fun c76 => ?_)
            · replace h := h.2 c76
              refine wm_iload d_MM_part_241 rfl ?_
              refine wm_bipush d_MM_part_243 (by decide) ?_
              have hE0 : ((x9 = 14) ∨ (x9 = 15)) → mWm G y_MM_part (d + 1) 255 [vr a0, vi l1, vi l2, vi l3, vd, vi x9, vi x24] [] M27 (fun r9 M9 => r9 = none ∧ Q M9) := by
                intro q87
                have h := h.1 q87
                obtain ⟨h88, h⟩ := h
                refine wm_aload_n d_MM_part_255 rfl rfl ?_
                refine wm_iload d_MM_part_256 rfl ?_
                refine wm_iload_n d_MM_part_258 rfl rfl ?_
                refine wm_iconst d_MM_part_259 ?_
                refine wm_iadd d_MM_part_260 ?_
                refine wm_iload_n d_MM_part_261 rfl rfl ?_
                refine wm_iconst d_MM_part_262 ?_
                refine wm_isub d_MM_part_263 ?_
                refine cf_MM_327 rfl d_MM_part_264 h88 (Nat.le_of_ble_eq_true rfl) (Cv.mono h (fun M89 h => ?_))
                obtain ⟨hOM89, h⟩ := h
                refine wm_less (L' := [vd, vd, vd, vd, vd, vd, vd]) ⟨Or.inl rfl, Or.inl rfl, Or.inl rfl, Or.inl rfl, Or.inl rfl, Or.inl rfl, Or.inl rfl, trivial⟩ ?_
                exact h
              have hE1 : ¬ ((x9 = 14) ∨ (x9 = 15)) → mWm G y_MM_part (d + 1) 267 [vr a0, vi l1, vi l2, vi l3, vd, vi x9, vi x24] [] M27 (fun r9 M9 => r9 = none ∧ Q M9) := by
                intro q92
                have h := h.2 q92
                refine wm_less (L' := [vd, vd, vd, vd, vd, vd, vd]) ⟨Or.inl rfl, Or.inl rfl, Or.inl rfl, Or.inl rfl, Or.inl rfl, Or.inl rfl, Or.inl rfl, trivial⟩ ?_
                exact h
              clear h
              refine wm_icmp_eq (tgt := 255) d_MM_part_245 rfl h10 ⟨by decide, by decide⟩ (fun c85 => ?_) (fun c85 => ?_)
              · exact hE0 (Or.inl c85)
              · refine wm_iload d_MM_part_248 rfl ?_
                refine wm_bipush d_MM_part_250 (by decide) ?_
                refine wm_icmp_ne (tgt := 267) d_MM_part_252 rfl h10 ⟨by decide, by decide⟩ (fun c84 => ?_) (fun c84 => ?_)
                · exact hE1 (fun z93 => Or.elim z93 c85 c84)
                · replace c84 := Classical.not_not.mp c84
                  exact hE0 (Or.inr c84)
            · replace c76 := Classical.not_not.mp c76
              replace h := h.1 c76
              obtain ⟨h77, h⟩ := h
              obtain ⟨h78, h⟩ := h
              obtain ⟨h79, h⟩ := h
              obtain ⟨h80, h⟩ := h
              obtain ⟨h81, h⟩ := h
              obtain ⟨M82, e83⟩ : ∃ M82, M82 = mUI M27 (mR M27 (mR M27 (mR M27 a0 10) 3) 0) (Int.toNat x24) l2 := ⟨_, rfl⟩
              replace h := h M82 e83
              refine wm_aload_n d_MM_part_224 rfl rfl ?_
              refine gf_MM_38 rfl d_MM_part_225 h77 ?_
              refine gf_MM_284 rfl d_MM_part_228 h78 ?_
              refine gf_MM_293 rfl d_MM_part_231 h79 ?_
              refine wm_iload d_MM_part_234 rfl ?_
              refine wm_iload_n d_MM_part_236 rfl rfl ?_
              have hOM82 : mOk M82 := by rw [e83]; exact mOk_UI hOM27 hi_l2
              refine wm_iastE d_MM_part_237 h80 h81 hi_l2 e83 ?_
              refine wm_goto (tgt := 267) d_MM_part_238 rfl ?_
              refine wm_less (L' := [vd, vd, vd, vd, vd, vd, vd]) ⟨Or.inl rfl, Or.inl rfl, Or.inl rfl, Or.inl rfl, Or.inl rfl, Or.inl rfl, Or.inl rfl, trivial⟩ ?_
              exact h
          · replace c57 := Classical.not_not.mp c57
            replace h := h.1 c57
            obtain ⟨h58, h⟩ := h
            obtain ⟨h59, h⟩ := h
            obtain ⟨h60, h⟩ := h
            refine wm_aload_n d_MM_part_197 rfl rfl ?_
            refine gf_MM_38 rfl d_MM_part_198 h58 ?_
            refine gf_MM_284 rfl d_MM_part_201 h59 ?_
            refine gf_MM_293 rfl d_MM_part_204 h60 ?_
            refine wm_iload d_MM_part_207 rfl ?_
            refine wm_aload_n d_MM_part_209 rfl rfl ?_
            refine wm_iload_n d_MM_part_210 rfl rfl ?_
            refine cf_MM_324 rfl d_MM_part_211 h58 (Nat.le_of_ble_eq_true rfl) (Ci.mono h (fun x62 M61 h => ?_))
            obtain ⟨h63, hOM61, h⟩ := h
            obtain ⟨h64, h⟩ := h
            obtain ⟨h65, h⟩ := h
            obtain ⟨M66, e67⟩ : ∃ M66, M66 = mUI M61 (mR M27 (mR M27 (mR M27 a0 10) 3) 0) (Int.toNat x24) x62 := ⟨_, rfl⟩
            replace h := h M66 e67
            have hOM66 : mOk M66 := by rw [e67]; exact mOk_UI hOM61 h63
            refine wm_iastE d_MM_part_214 h64 h65 h63 e67 ?_
            refine wm_goto (tgt := 267) d_MM_part_215 rfl ?_
            refine wm_less (L' := [vd, vd, vd, vd, vd, vd, vd]) ⟨Or.inl rfl, Or.inl rfl, Or.inl rfl, Or.inl rfl, Or.inl rfl, Or.inl rfl, Or.inl rfl, trivial⟩ ?_
            exact h
        clear h
        refine wm_icmp_eq (tgt := 178) d_MM_part_168 rfl h10 ⟨by decide, by decide⟩ (fun c40 => ?_) (fun c40 => ?_)
        · exact hE0 (Or.inl c40)
        · refine wm_iload d_MM_part_171 rfl ?_
          refine wm_bipush d_MM_part_173 (by decide) ?_
          refine wm_icmp_ne (tgt := 191) d_MM_part_175 rfl h10 ⟨by decide, by decide⟩ (fun c39 => ?_) (fun c39 => ?_)
          · exact hE1 (fun z95 => Or.elim z95 c40 c39)
          · replace c39 := Classical.not_not.mp c39
            exact hE0 (Or.inr c39)
      clear h
      refine wm_icmp_ne (tgt := 148) d_MM_part_140 rfl h10 ⟨by decide, by decide⟩ (fun c17 => ?_) (fun c17 => ?_)
      · refine wm_iload d_MM_part_148 rfl ?_
        refine wm_less (L' := [vr a0, vi l1, vi l2, vi l3, vd, vi x9, vd]) ⟨Or.inr rfl, Or.inr rfl, Or.inr rfl, Or.inr rfl, Or.inl rfl, Or.inr rfl, Or.inl rfl, trivial⟩ ?_
        exact hJ x9 (if_neg c17).symm
      · replace c17 := Classical.not_not.mp c17
        refine wm_bipush d_MM_part_143 (by decide) ?_
        refine wm_goto (tgt := 150) d_MM_part_145 rfl ?_
        refine wm_less (L' := [vr a0, vi l1, vi l2, vi l3, vd, vi x9, vd]) ⟨Or.inr rfl, Or.inr rfl, Or.inr rfl, Or.inr rfl, Or.inl rfl, Or.inr rfl, Or.inl rfl, trivial⟩ ?_
        exact hJ 45 (if_pos c17).symm
    · replace c12 := Classical.not_not.mp c12
      replace h := h.1 c12
      obtain ⟨h13, h⟩ := h
      refine wm_aload_n d_MM_part_123 rfl rfl ?_
      refine wm_iload_n d_MM_part_124 rfl rfl ?_
      refine wm_iload_n d_MM_part_125 rfl rfl ?_
      refine wm_iconst d_MM_part_126 ?_
      refine wm_iadd d_MM_part_127 ?_
      refine wm_iload_n d_MM_part_128 rfl rfl ?_
      refine wm_iconst d_MM_part_129 ?_
      refine wm_isub d_MM_part_130 ?_
      refine cf_MM_296 rfl d_MM_part_131 h13 (Nat.le_of_ble_eq_true rfl) (Cv.mono h (fun M14 h => ?_))
      obtain ⟨hOM14, h⟩ := h
      refine wm_return d_MM_part_134 rfl ?_
      exact ⟨rfl, h⟩
  · replace h := h.2 c6
    obtain ⟨h98, h⟩ := h
    refine wm_aload_n d_MM_part_13 rfl rfl ?_
    refine wm_aload_n d_MM_part_14 rfl rfl ?_
    refine wm_iload d_MM_part_15 rfl ?_
    refine cf_MM_302 rfl d_MM_part_17 h98 (Nat.le_of_ble_eq_true rfl) (Ci.mono h (fun x100 M99 h => ?_))
    obtain ⟨h101, hOM99, h⟩ := h
    obtain ⟨h102, h⟩ := h
    refine wm_iload d_MM_part_20 rfl ?_
    refine wm_iload_n d_MM_part_22 rfl rfl ?_
    refine cf_MM_313 rfl d_MM_part_23 h102 (Nat.le_of_ble_eq_true rfl) (Ci.mono h (fun x104 M103 h => ?_))
    obtain ⟨h105, hOM103, h⟩ := h
    obtain ⟨h106, h⟩ := h
    refine wm_istore d_MM_part_26 (by decide) (L' := [vr a0, vi l1, vi l2, vi l3, vi x3, vi x104, vd]) rfl ?_
    refine wm_aload_n d_MM_part_28 rfl rfl ?_
    refine wm_iload_n d_MM_part_29 rfl rfl ?_
    refine wm_iload d_MM_part_30 rfl ?_
    refine cf_MM_317 rfl d_MM_part_32 h106 (Nat.le_of_ble_eq_true rfl) (Cv.mono h (fun M107 h => ?_))
    obtain ⟨hOM107, h⟩ := h
    obtain ⟨h110, h⟩ := h
    refine wm_aload_n d_MM_part_35 rfl rfl ?_
    refine wm_iload d_MM_part_36 rfl ?_
    refine cf_MM_302 rfl d_MM_part_38 h110 (Nat.le_of_ble_eq_true rfl) (Ci.mono h (fun x112 M111 h => ?_))
    obtain ⟨h113, hOM111, h⟩ := h
    refine wm_bipush d_MM_part_41 (by decide) ?_
    refine wm_icmp_eq (tgt := 67) d_MM_part_43 rfl h113 ⟨by decide, by decide⟩ (fun c115 => ?_) (fun c115 => ?_)
    · replace h := h.1 c115
      obtain ⟨h116, h⟩ := h
      refine wm_aload_n d_MM_part_67 rfl rfl ?_
      refine wm_iload d_MM_part_68 rfl ?_
      refine wm_iload_n d_MM_part_70 rfl rfl ?_
      refine cf_MM_321 rfl d_MM_part_71 h116 (Nat.le_of_ble_eq_true rfl) (Ci.mono h (fun x118 M117 h => ?_))
      obtain ⟨h119, hOM117, h⟩ := h
      obtain ⟨h120, h⟩ := h
      refine wm_istore d_MM_part_74 (by decide) (L' := [vr a0, vi l1, vi l2, vi l3, vi x3, vi x104, vi x118]) rfl ?_
      refine wm_aload_n d_MM_part_76 rfl rfl ?_
      refine wm_iload d_MM_part_77 rfl ?_
      refine wm_iload d_MM_part_79 rfl ?_
      refine wm_iconst d_MM_part_81 ?_
      refine wm_iadd d_MM_part_82 ?_
      refine wm_iload_n d_MM_part_83 rfl rfl ?_
      refine cf_MM_296 rfl d_MM_part_84 h120 (Nat.le_of_ble_eq_true rfl) (Cv.mono h (fun M121 h => ?_))
      obtain ⟨hOM121, h⟩ := h
      obtain ⟨h124, h⟩ := h
      refine wm_aload_n d_MM_part_87 rfl rfl ?_
      refine wm_iload d_MM_part_88 rfl ?_
      refine wm_iload d_MM_part_90 rfl ?_
      refine wm_iconst d_MM_part_92 ?_
      refine wm_iadd d_MM_part_93 ?_
      refine wm_iload d_MM_part_94 rfl ?_
      refine cf_MM_296 rfl d_MM_part_96 h124 (Nat.le_of_ble_eq_true rfl) (Cv.mono h (fun M125 h => ?_))
      obtain ⟨hOM125, h⟩ := h
      obtain ⟨h128, h⟩ := h
      refine wm_aload_n d_MM_part_99 rfl rfl ?_
      refine wm_iload d_MM_part_100 rfl ?_
      refine wm_iload_n d_MM_part_102 rfl rfl ?_
      refine wm_iload d_MM_part_103 rfl ?_
      refine cf_MM_296 rfl d_MM_part_105 h128 (Nat.le_of_ble_eq_true rfl) (Cv.mono h (fun M129 h => ?_))
      obtain ⟨hOM129, h⟩ := h
      refine wm_return d_MM_part_108 rfl ?_
      exact ⟨rfl, h⟩
    · replace h := h.2 c115
      obtain ⟨h132, h⟩ := h
      refine wm_aload_n d_MM_part_46 rfl rfl ?_
      refine wm_iload d_MM_part_47 rfl ?_
      refine wm_iload d_MM_part_49 rfl ?_
      refine wm_iconst d_MM_part_51 ?_
      refine wm_iadd d_MM_part_52 ?_
      refine wm_iload_n d_MM_part_53 rfl rfl ?_
      refine cf_MM_296 rfl d_MM_part_54 h132 (Nat.le_of_ble_eq_true rfl) (Cv.mono h (fun M133 h => ?_))
      obtain ⟨hOM133, h⟩ := h
      obtain ⟨h136, h⟩ := h
      refine wm_aload_n d_MM_part_57 rfl rfl ?_
      refine wm_iload d_MM_part_58 rfl ?_
      refine wm_iload_n d_MM_part_60 rfl rfl ?_
      refine wm_iload d_MM_part_61 rfl ?_
      refine cf_MM_296 rfl d_MM_part_63 h136 (Nat.le_of_ble_eq_true rfl) (Cv.mono h (fun M137 h => ?_))
      obtain ⟨hOM137, h⟩ := h
      refine wm_return d_MM_part_66 rfl ?_
      exact ⟨rfl, h⟩
theorem k_MM_part_267 {G : mG} {d : Nat} {M : mM} {Q : mM → Prop} (hO : mOk M)
    (h : Q M) :
    h_MM_part_267 G d  M Q := by
  unfold h_MM_part_267
  refine wm_return d_MM_part_267 rfl ?_
  exact ⟨rfl, h⟩
theorem d_MM_list_0 : decode y_MM_list.2.1 0 = .ok (.iload_n 3, 1) := by decide +kernel
theorem d_MM_list_1 : decode y_MM_list.2.1 1 = .ok (.istore 4, 2) := by decide +kernel
theorem d_MM_list_3 : decode y_MM_list.2.1 3 = .ok (.iconst 0, 1) := by decide +kernel
theorem d_MM_list_4 : decode y_MM_list.2.1 4 = .ok (.istore 5, 2) := by decide +kernel
theorem d_MM_list_6 : decode y_MM_list.2.1 6 = .ok (.iload_n 3, 1) := by decide +kernel
theorem d_MM_list_7 : decode y_MM_list.2.1 7 = .ok (.iconst 1, 1) := by decide +kernel
theorem d_MM_list_8 : decode y_MM_list.2.1 8 = .ok (.isub, 1) := by decide +kernel
theorem d_MM_list_9 : decode y_MM_list.2.1 9 = .ok (.istore 6, 2) := by decide +kernel
theorem d_MM_list_11 : decode y_MM_list.2.1 11 = .ok (.iload 6, 2) := by decide +kernel
theorem d_MM_list_13 : decode y_MM_list.2.1 13 = .ok (.iload_n 2, 1) := by decide +kernel
theorem d_MM_list_14 : decode y_MM_list.2.1 14 = .ok (.iconst 1, 1) := by decide +kernel
theorem d_MM_list_15 : decode y_MM_list.2.1 15 = .ok (.isub, 1) := by decide +kernel
theorem d_MM_list_16 : decode y_MM_list.2.1 16 = .ok (.if_icmp .lt 87, 3) := by decide +kernel
theorem d_MM_list_103 : decode y_MM_list.2.1 103 = .ok (.return_, 1) := by decide +kernel
theorem d_MM_list_19 : decode y_MM_list.2.1 19 = .ok (.iload 6, 2) := by decide +kernel
theorem d_MM_list_21 : decode y_MM_list.2.1 21 = .ok (.iload_n 2, 1) := by decide +kernel
theorem d_MM_list_22 : decode y_MM_list.2.1 22 = .ok (.if_icmp .ge 8, 3) := by decide +kernel
theorem d_MM_list_30 : decode y_MM_list.2.1 30 = .ok (.aload_n 0, 1) := by decide +kernel
theorem d_MM_list_31 : decode y_MM_list.2.1 31 = .ok (.iload 6, 2) := by decide +kernel
theorem d_MM_list_25 : decode y_MM_list.2.1 25 = .ok (.bipush 35, 2) := by decide +kernel
theorem d_MM_list_27 : decode y_MM_list.2.1 27 = .ok (.goto 9, 3) := by decide +kernel
theorem d_MM_list_33 : decode y_MM_list.2.1 33 = .ok (.invokevirtual 302, 3) := by decide +kernel
theorem d_MM_list_36 : decode y_MM_list.2.1 36 = .ok (.istore 7, 2) := by decide +kernel
theorem d_MM_list_38 : decode y_MM_list.2.1 38 = .ok (.iload 7, 2) := by decide +kernel
theorem d_MM_list_40 : decode y_MM_list.2.1 40 = .ok (.bipush 37, 2) := by decide +kernel
theorem d_MM_list_42 : decode y_MM_list.2.1 42 = .ok (.if_icmp .ne 10, 3) := by decide +kernel
theorem d_MM_list_45 : decode y_MM_list.2.1 45 = .ok (.iload 5, 2) := by decide +kernel
theorem d_MM_list_47 : decode y_MM_list.2.1 47 = .ok (.iconst 1, 1) := by decide +kernel
theorem d_MM_list_48 : decode y_MM_list.2.1 48 = .ok (.iadd, 1) := by decide +kernel
theorem d_MM_list_49 : decode y_MM_list.2.1 49 = .ok (.goto 19, 3) := by decide +kernel
theorem d_MM_list_52 : decode y_MM_list.2.1 52 = .ok (.iload 7, 2) := by decide +kernel
theorem d_MM_list_54 : decode y_MM_list.2.1 54 = .ok (.bipush 36, 2) := by decide +kernel
theorem d_MM_list_56 : decode y_MM_list.2.1 56 = .ok (.if_icmp .ne 10, 3) := by decide +kernel
theorem d_MM_list_59 : decode y_MM_list.2.1 59 = .ok (.iload 5, 2) := by decide +kernel
theorem d_MM_list_61 : decode y_MM_list.2.1 61 = .ok (.iconst 1, 1) := by decide +kernel
theorem d_MM_list_62 : decode y_MM_list.2.1 62 = .ok (.isub, 1) := by decide +kernel
theorem d_MM_list_63 : decode y_MM_list.2.1 63 = .ok (.goto 5, 3) := by decide +kernel
theorem d_MM_list_66 : decode y_MM_list.2.1 66 = .ok (.iload 5, 2) := by decide +kernel
theorem d_MM_list_68 : decode y_MM_list.2.1 68 = .ok (.istore 5, 2) := by decide +kernel
theorem d_MM_list_70 : decode y_MM_list.2.1 70 = .ok (.iload 5, 2) := by decide +kernel
theorem d_MM_list_72 : decode y_MM_list.2.1 72 = .ok (.ifCond .ne 25, 3) := by decide +kernel
theorem d_MM_list_75 : decode y_MM_list.2.1 75 = .ok (.iload 7, 2) := by decide +kernel
theorem d_MM_list_77 : decode y_MM_list.2.1 77 = .ok (.bipush 35, 2) := by decide +kernel
theorem d_MM_list_79 : decode y_MM_list.2.1 79 = .ok (.if_icmp .ne 18, 3) := by decide +kernel
theorem d_MM_list_82 : decode y_MM_list.2.1 82 = .ok (.aload_n 0, 1) := by decide +kernel
theorem d_MM_list_83 : decode y_MM_list.2.1 83 = .ok (.iload_n 1, 1) := by decide +kernel
theorem d_MM_list_84 : decode y_MM_list.2.1 84 = .ok (.iload 6, 2) := by decide +kernel
theorem d_MM_list_86 : decode y_MM_list.2.1 86 = .ok (.iconst 1, 1) := by decide +kernel
theorem d_MM_list_87 : decode y_MM_list.2.1 87 = .ok (.iadd, 1) := by decide +kernel
theorem d_MM_list_88 : decode y_MM_list.2.1 88 = .ok (.iload 4, 2) := by decide +kernel
theorem d_MM_list_90 : decode y_MM_list.2.1 90 = .ok (.invokevirtual 296, 3) := by decide +kernel
theorem d_MM_list_93 : decode y_MM_list.2.1 93 = .ok (.iload 6, 2) := by decide +kernel
theorem d_MM_list_95 : decode y_MM_list.2.1 95 = .ok (.istore 4, 2) := by decide +kernel
theorem d_MM_list_97 : decode y_MM_list.2.1 97 = .ok (.iinc 6 (-1), 3) := by decide +kernel
theorem d_MM_list_100 : decode y_MM_list.2.1 100 = .ok (.goto (-89), 3) := by decide +kernel
def h_MM_list_11 (G : mG) (d : Nat) (a0 : Nat) (l1 : Int) (l2 : Int) (l4 : Int) (l5 : Int) (l6 : Int) (M : mM) (Q : mM → Prop) : Prop := mWm G y_MM_list (d + 1) 11 [vr a0, vi l1, vi l2, vd, vi l4, vi l5, vi l6, vd] [] M (fun r9 M9 => r9 = none ∧ Q M9)
def h_MM_list_36 (G : mG) (d : Nat) (a0 : Nat) (l1 : Int) (l2 : Int) (l4 : Int) (l5 : Int) (l6 : Int) (k0 : Int) (M : mM) (Q : mM → Prop) : Prop := mWm G y_MM_list (d + 1) 36 [vr a0, vi l1, vi l2, vd, vi l4, vi l5, vi l6, vd] [vi k0] M (fun r9 M9 => r9 = none ∧ Q M9)
theorem k_MM_list {G : mG} {d : Nat} {a0 : Nat} {l1 : Int} {l2 : Int} {l3 : Int} {M : mM} {Q : mM → Prop} (hO : mOk M) (hi_l1 : i32 l1) (hi_l2 : i32 l2) (hi_l3 : i32 l3)
    (h : h_MM_list_11 G d a0 l1 l2 l3 0 (l3 - 1) M Q) :
    Cv G y_MM_list (d + 1) [vr a0, vi l1, vi l2, vi l3] M Q := by
  refine wm_open (y := y_MM_list) rfl (Nat.le_of_ble_eq_true rfl) (L := [vr a0, vi l1, vi l2, vi l3, vd, vd, vd, vd]) rfl ?_
  refine wm_iload_n d_MM_list_0 rfl rfl ?_
  refine wm_istore d_MM_list_1 (by decide) (L' := [vr a0, vi l1, vi l2, vi l3, vi l3, vd, vd, vd]) rfl ?_
  refine wm_iconst d_MM_list_3 ?_
  refine wm_istore d_MM_list_4 (by decide) (L' := [vr a0, vi l1, vi l2, vi l3, vi l3, vi 0, vd, vd]) rfl ?_
  refine wm_iload_n d_MM_list_6 rfl rfl ?_
  refine wm_iconst d_MM_list_7 ?_
  refine wm_isub d_MM_list_8 ?_
  refine wm_istore d_MM_list_9 (by decide) (L' := [vr a0, vi l1, vi l2, vi l3, vi l3, vi 0, vi (l3 - 1), vd]) rfl ?_
  refine wm_less (L' := [vr a0, vi l1, vi l2, vd, vi l3, vi 0, vi (l3 - 1), vd]) ⟨Or.inr rfl, Or.inr rfl, Or.inr rfl, Or.inl rfl, Or.inr rfl, Or.inr rfl, Or.inr rfl, Or.inl rfl, trivial⟩ ?_
  exact h
theorem k_MM_list_11 {G : mG} {d : Nat} {a0 : Nat} {l1 : Int} {l2 : Int} {l4 : Int} {l5 : Int} {l6 : Int} {M : mM} {Q : mM → Prop} (hO : mOk M) (hi_l1 : i32 l1) (hi_l2 : i32 l2) (hi_l4 : i32 l4) (hi_l5 : i32 l5) (hi_l6 : i32 l6)
    (h : i32 (l2 - 1) ∧ ((l6 < l2 - 1) → (Q M)) ∧ (¬ (l6 < l2 - 1) → (((l2 ≤ l6) → (mK M a0 = 14 ∧ Ci G y_MM_word1 d [vr a0, vi l6] M (fun x10 M9 => i32 x10 ∧ mOk M9 ∧ (h_MM_list_36 G d a0 l1 l2 l4 l5 l6 x10 M9 Q)))) ∧ (¬ (l2 ≤ l6) → (h_MM_list_36 G d a0 l1 l2 l4 l5 l6 35 M Q))))) :
    h_MM_list_11 G d a0 l1 l2 l4 l5 l6 M Q := by
  unfold h_MM_list_11
  obtain ⟨h4, h⟩ := h
  refine wm_iload d_MM_list_11 rfl ?_
  refine wm_iload_n d_MM_list_13 rfl rfl ?_
  refine wm_iconst d_MM_list_14 ?_
  refine wm_isub d_MM_list_15 ?_
  refine wm_icmp_lt (tgt := 103) d_MM_list_16 rfl hi_l6 h4 (fun c5 => ?_) (fun c5 => ?_)
  · replace h := h.1 c5
    refine wm_return d_MM_list_103 rfl ?_
    exact ⟨rfl, h⟩
  · replace h := h.2 c5
    refine wm_iload d_MM_list_19 rfl ?_
    refine wm_iload_n d_MM_list_21 rfl rfl ?_
    refine wm_icmp_ge (tgt := 30) d_MM_list_22 rfl hi_l6 hi_l2 (fun c7 => ?_) (fun c7 => ?_)
    · replace h := h.1 c7
      obtain ⟨h8, h⟩ := h
      refine wm_aload_n d_MM_list_30 rfl rfl ?_
      refine wm_iload d_MM_list_31 rfl ?_
      refine cf_MM_302 rfl d_MM_list_33 h8 (Nat.le_of_ble_eq_true rfl) (Ci.mono h (fun x10 M9 h => ?_))
      obtain ⟨h11, hOM9, h⟩ := h
      exact h
    · replace h := h.2 c7
      refine wm_bipush d_MM_list_25 (by decide) ?_
      refine wm_goto (tgt := 36) d_MM_list_27 rfl ?_
      exact h
theorem k_MM_list_36 {G : mG} {d : Nat} {a0 : Nat} {l1 : Int} {l2 : Int} {l4 : Int} {l5 : Int} {l6 : Int} {k0 : Int} {M : mM} {Q : mM → Prop} (hO : mOk M) (hi_l1 : i32 l1) (hi_l2 : i32 l2) (hi_l4 : i32 l4) (hi_l5 : i32 l5) (hi_l6 : i32 l6) (hi_k0 : i32 k0)
    (h : ∀ v14 : Int, v14 = (if k0 = 37 then l5 + 1 else (if k0 = 36 then l5 - 1 else l5)) → i32 v14 ∧ (((v14 = 0) ∧ (k0 = 35)) → (mK M a0 = 14 ∧ Cv G y_MM_job d [vr a0, vi l1, vi (l6 + 1), vi l4] M (fun M26 => mOk M26 ∧ (h_MM_list_11 G d a0 l1 l2 l6 v14 (l6 + (-1)) M26 Q)))) ∧ (¬ ((v14 = 0) ∧ (k0 = 35)) → (h_MM_list_11 G d a0 l1 l2 l4 v14 (l6 + (-1)) M Q))) :
    h_MM_list_36 G d a0 l1 l2 l4 l5 l6 k0 M Q := by
  unfold h_MM_list_36
  refine wm_istore d_MM_list_36 (by decide) (L' := [vr a0, vi l1, vi l2, vd, vi l4, vi l5, vi l6, vi k0]) rfl ?_
  refine wm_iload d_MM_list_38 rfl ?_
  refine wm_bipush d_MM_list_40 (by decide) ?_
  have hJ : ∀ v14 : Int, v14 = (if k0 = 37 then l5 + 1 else (if k0 = 36 then l5 - 1 else l5)) → mWm G y_MM_list (d + 1) 68 [vr a0, vi l1, vi l2, vd, vi l4, vd, vi l6, vi k0] [vi v14] M (fun r9 M9 => r9 = none ∧ Q M9) := by
    intro v14 e16
    have h := h v14 e16
    obtain ⟨h20, h⟩ := h
    refine wm_istore d_MM_list_68 (by decide) (L' := [vr a0, vi l1, vi l2, vd, vi l4, vi v14, vi l6, vi k0]) rfl ?_
    refine wm_iload d_MM_list_70 rfl ?_
    have hE0 : ((v14 = 0) ∧ (k0 = 35)) → mWm G y_MM_list (d + 1) 82 [vr a0, vi l1, vi l2, vd, vi l4, vi v14, vi l6, vi k0] [] M (fun r9 M9 => r9 = none ∧ Q M9) := by
      intro q24
      have h := h.1 q24
      obtain ⟨h25, h⟩ := h
      refine wm_aload_n d_MM_list_82 rfl rfl ?_
      refine wm_iload_n d_MM_list_83 rfl rfl ?_
      refine wm_iload d_MM_list_84 rfl ?_
      refine wm_iconst d_MM_list_86 ?_
      refine wm_iadd d_MM_list_87 ?_
      refine wm_iload d_MM_list_88 rfl ?_
      refine cf_MM_296 rfl d_MM_list_90 h25 (Nat.le_of_ble_eq_true rfl) (Cv.mono h (fun M26 h => ?_))
      obtain ⟨hOM26, h⟩ := h
      refine wm_iload d_MM_list_93 rfl ?_
      refine wm_istore d_MM_list_95 (by decide) (L' := [vr a0, vi l1, vi l2, vd, vi l6, vi v14, vi l6, vi k0]) rfl ?_
      refine wm_iinc d_MM_list_97 (by decide) rfl (L' := [vr a0, vi l1, vi l2, vd, vi l6, vi v14, vi (l6 + (-1)), vi k0]) rfl ?_
      refine wm_goto (tgt := 11) d_MM_list_100 rfl ?_
      refine wm_less (L' := [vr a0, vi l1, vi l2, vd, vi l6, vi v14, vi (l6 + (-1)), vd]) ⟨Or.inr rfl, Or.inr rfl, Or.inr rfl, Or.inl rfl, Or.inr rfl, Or.inr rfl, Or.inr rfl, Or.inl rfl, trivial⟩ ?_
      exact h
    have hE1 : ¬ ((v14 = 0) ∧ (k0 = 35)) → mWm G y_MM_list (d + 1) 97 [vr a0, vi l1, vi l2, vd, vi l4, vi v14, vi l6, vi k0] [] M (fun r9 M9 => r9 = none ∧ Q M9) := by
      intro q29
      have h := h.2 q29
      refine wm_iinc d_MM_list_97 (by decide) rfl (L' := [vr a0, vi l1, vi l2, vd, vi l4, vi v14, vi (l6 + (-1)), vi k0]) rfl ?_
      refine wm_goto (tgt := 11) d_MM_list_100 rfl ?_
      refine wm_less (L' := [vr a0, vi l1, vi l2, vd, vi l4, vi v14, vi (l6 + (-1)), vd]) ⟨Or.inr rfl, Or.inr rfl, Or.inr rfl, Or.inl rfl, Or.inr rfl, Or.inr rfl, Or.inr rfl, Or.inl rfl, trivial⟩ ?_
      exact h
    clear h
    refine wm_if_ne (tgt := 97) d_MM_list_72 rfl h20 (fun c22 => ?_) (fun c22 => ?_)
    · exact hE1 (fun z32 => c22 z32.1)
    · replace c22 := Classical.not_not.mp c22
      refine wm_iload d_MM_list_75 rfl ?_
      refine wm_bipush d_MM_list_77 (by decide) ?_
      refine wm_icmp_ne (tgt := 97) d_MM_list_79 rfl hi_k0 ⟨by decide, by decide⟩ (fun c21 => ?_) (fun c21 => ?_)
      · exact hE1 (fun z30 => c21 z30.2)
      · replace c21 := Classical.not_not.mp c21
        exact hE0 ⟨c22, c21⟩
  clear h
  refine wm_icmp_ne (tgt := 52) d_MM_list_42 rfl hi_k0 ⟨by decide, by decide⟩ (fun c12 => ?_) (fun c12 => ?_)
  · refine wm_iload d_MM_list_52 rfl ?_
    refine wm_bipush d_MM_list_54 (by decide) ?_
    refine wm_icmp_ne (tgt := 66) d_MM_list_56 rfl hi_k0 ⟨by decide, by decide⟩ (fun c13 => ?_) (fun c13 => ?_)
    · refine wm_iload d_MM_list_66 rfl ?_
      refine wm_less (L' := [vr a0, vi l1, vi l2, vd, vi l4, vd, vi l6, vi k0]) ⟨Or.inr rfl, Or.inr rfl, Or.inr rfl, Or.inl rfl, Or.inr rfl, Or.inl rfl, Or.inr rfl, Or.inr rfl, trivial⟩ ?_
      exact hJ l5 (by rw [if_neg c12, if_neg c13])
    · replace c13 := Classical.not_not.mp c13
      refine wm_iload d_MM_list_59 rfl ?_
      refine wm_iconst d_MM_list_61 ?_
      refine wm_isub d_MM_list_62 ?_
      refine wm_goto (tgt := 68) d_MM_list_63 rfl ?_
      refine wm_less (L' := [vr a0, vi l1, vi l2, vd, vi l4, vd, vi l6, vi k0]) ⟨Or.inr rfl, Or.inr rfl, Or.inr rfl, Or.inl rfl, Or.inr rfl, Or.inl rfl, Or.inr rfl, Or.inr rfl, trivial⟩ ?_
      exact hJ (l5 - 1) (by rw [if_neg c12, if_pos c13])
  · replace c12 := Classical.not_not.mp c12
    refine wm_iload d_MM_list_45 rfl ?_
    refine wm_iconst d_MM_list_47 ?_
    refine wm_iadd d_MM_list_48 ?_
    refine wm_goto (tgt := 68) d_MM_list_49 rfl ?_
    refine wm_less (L' := [vr a0, vi l1, vi l2, vd, vi l4, vd, vi l6, vi k0]) ⟨Or.inr rfl, Or.inr rfl, Or.inr rfl, Or.inl rfl, Or.inr rfl, Or.inl rfl, Or.inr rfl, Or.inr rfl, trivial⟩ ?_
    exact hJ (l5 + 1) (by rw [if_pos c12])
theorem d_MM_numberOf_0 : decode y_MM_numberOf.2.1 0 = .ok (.iconst 0, 1) := by decide +kernel
theorem d_MM_numberOf_1 : decode y_MM_numberOf.2.1 1 = .ok (.istore_n 2, 1) := by decide +kernel
theorem d_MM_numberOf_2 : decode y_MM_numberOf.2.1 2 = .ok (.aload_n 0, 1) := by decide +kernel
theorem d_MM_numberOf_3 : decode y_MM_numberOf.2.1 3 = .ok (.iload_n 1, 1) := by decide +kernel
theorem d_MM_numberOf_4 : decode y_MM_numberOf.2.1 4 = .ok (.invokevirtual 279, 3) := by decide +kernel
theorem d_MM_numberOf_7 : decode y_MM_numberOf.2.1 7 = .ok (.istore_n 3, 1) := by decide +kernel
theorem d_MM_numberOf_8 : decode y_MM_numberOf.2.1 8 = .ok (.iload_n 3, 1) := by decide +kernel
theorem d_MM_numberOf_9 : decode y_MM_numberOf.2.1 9 = .ok (.aload_n 0, 1) := by decide +kernel
theorem d_MM_numberOf_10 : decode y_MM_numberOf.2.1 10 = .ok (.getfield 25, 3) := by decide +kernel
theorem d_MM_numberOf_13 : decode y_MM_numberOf.2.1 13 = .ok (.iload_n 1, 1) := by decide +kernel
theorem d_MM_numberOf_14 : decode y_MM_numberOf.2.1 14 = .ok (.invokevirtual 155, 3) := by decide +kernel
theorem d_MM_numberOf_17 : decode y_MM_numberOf.2.1 17 = .ok (.if_icmp .ge 26, 3) := by decide +kernel
theorem d_MM_numberOf_43 : decode y_MM_numberOf.2.1 43 = .ok (.iload_n 2, 1) := by decide +kernel
theorem d_MM_numberOf_44 : decode y_MM_numberOf.2.1 44 = .ok (.ireturn, 1) := by decide +kernel
theorem d_MM_numberOf_20 : decode y_MM_numberOf.2.1 20 = .ok (.bipush 10, 2) := by decide +kernel
theorem d_MM_numberOf_22 : decode y_MM_numberOf.2.1 22 = .ok (.iload_n 2, 1) := by decide +kernel
theorem d_MM_numberOf_23 : decode y_MM_numberOf.2.1 23 = .ok (.imul, 1) := by decide +kernel
theorem d_MM_numberOf_24 : decode y_MM_numberOf.2.1 24 = .ok (.aload_n 0, 1) := by decide +kernel
theorem d_MM_numberOf_25 : decode y_MM_numberOf.2.1 25 = .ok (.getfield 16, 3) := by decide +kernel
theorem d_MM_numberOf_28 : decode y_MM_numberOf.2.1 28 = .ok (.iload_n 3, 1) := by decide +kernel
theorem d_MM_numberOf_29 : decode y_MM_numberOf.2.1 29 = .ok (.invokevirtual 155, 3) := by decide +kernel
theorem d_MM_numberOf_32 : decode y_MM_numberOf.2.1 32 = .ok (.iadd, 1) := by decide +kernel
theorem d_MM_numberOf_33 : decode y_MM_numberOf.2.1 33 = .ok (.bipush 48, 2) := by decide +kernel
theorem d_MM_numberOf_35 : decode y_MM_numberOf.2.1 35 = .ok (.isub, 1) := by decide +kernel
theorem d_MM_numberOf_36 : decode y_MM_numberOf.2.1 36 = .ok (.istore_n 2, 1) := by decide +kernel
theorem d_MM_numberOf_37 : decode y_MM_numberOf.2.1 37 = .ok (.iinc 3 1, 3) := by decide +kernel
theorem d_MM_numberOf_40 : decode y_MM_numberOf.2.1 40 = .ok (.goto (-32), 3) := by decide +kernel
def h_MM_numberOf_8 (G : mG) (d : Nat) (a0 : Nat) (l1 : Int) (l2 : Int) (l3 : Int) (M : mM) (Q : Int → mM → Prop) : Prop := mWm G y_MM_numberOf (d + 1) 8 [vr a0, vi l1, vi l2, vi l3] [] M (fun r9 M9 => ∃ x9, r9 = some (vi x9) ∧ Q x9 M9)
theorem k_MM_numberOf {G : mG} {d : Nat} {a0 : Nat} {l1 : Int} {M : mM} {Q : Int → mM → Prop} (hO : mOk M) (hi_l1 : i32 l1)
    (h : mK M a0 = 14 ∧ Ci G y_MM_place0 d [vr a0, vi l1] M (fun x3 M2 => i32 x3 ∧ mOk M2 ∧ (h_MM_numberOf_8 G d a0 l1 0 x3 M2 Q))) :
    Ci G y_MM_numberOf (d + 1) [vr a0, vi l1] M Q := by
  refine wm_open (y := y_MM_numberOf) rfl (Nat.le_of_ble_eq_true rfl) (L := [vr a0, vi l1, vd, vd]) rfl ?_
  obtain ⟨h1, h⟩ := h
  refine wm_iconst d_MM_numberOf_0 ?_
  refine wm_istore_n d_MM_numberOf_1 rfl (by decide) (L' := [vr a0, vi l1, vi 0, vd]) rfl ?_
  refine wm_aload_n d_MM_numberOf_2 rfl rfl ?_
  refine wm_iload_n d_MM_numberOf_3 rfl rfl ?_
  refine cf_MM_279 rfl d_MM_numberOf_4 h1 (Nat.le_of_ble_eq_true rfl) (Ci.mono h (fun x3 M2 h => ?_))
  obtain ⟨h4, hOM2, h⟩ := h
  refine wm_istore_n d_MM_numberOf_7 rfl (by decide) (L' := [vr a0, vi l1, vi 0, vi x3]) rfl ?_
  exact h
theorem k_MM_numberOf_8 {G : mG} {d : Nat} {a0 : Nat} {l1 : Int} {l2 : Int} {l3 : Int} {M : mM} {Q : Int → mM → Prop} (hO : mOk M) (hi_l1 : i32 l1) (hi_l2 : i32 l2) (hi_l3 : i32 l3)
    (h : mK M a0 = 14 ∧ mK M (mR M a0 5) = 15 ∧ Ci G y_MN_at d [vr (mR M a0 5), vi l1] M (fun x8 M7 => i32 x8 ∧ mOk M7 ∧ (((x8 ≤ l3) → (Q l2 M7)) ∧ (¬ (x8 ≤ l3) → (mK M7 a0 = 14 ∧ mK M7 (mR M7 a0 2) = 15 ∧ Ci G y_MN_at d [vr (mR M7 a0 2), vi l3] M7 (fun x15 M14 => i32 x15 ∧ mOk M14 ∧ (h_MM_numberOf_8 G d a0 l1 (((10 * l2) + x15) - 48) (l3 + 1) M14 Q))))))) :
    h_MM_numberOf_8 G d a0 l1 l2 l3 M Q := by
  unfold h_MM_numberOf_8
  obtain ⟨h5, h⟩ := h
  obtain ⟨h6, h⟩ := h
  refine wm_iload_n d_MM_numberOf_8 rfl rfl ?_
  refine wm_aload_n d_MM_numberOf_9 rfl rfl ?_
  refine gf_MM_25 rfl d_MM_numberOf_10 h5 ?_
  refine wm_iload_n d_MM_numberOf_13 rfl rfl ?_
  refine cf_MM_155 rfl d_MM_numberOf_14 h6 (Nat.le_of_ble_eq_true rfl) (Ci.mono h (fun x8 M7 h => ?_))
  obtain ⟨h9, hOM7, h⟩ := h
  refine wm_icmp_ge (tgt := 43) d_MM_numberOf_17 rfl hi_l3 h9 (fun c11 => ?_) (fun c11 => ?_)
  · replace h := h.1 c11
    refine wm_iload_n d_MM_numberOf_43 rfl rfl ?_
    refine wm_ireturn d_MM_numberOf_44 rfl rfl ?_
    exact ⟨_, rfl, h⟩
  · replace h := h.2 c11
    obtain ⟨h12, h⟩ := h
    obtain ⟨h13, h⟩ := h
    refine wm_bipush d_MM_numberOf_20 (by decide) ?_
    refine wm_iload_n d_MM_numberOf_22 rfl rfl ?_
    refine wm_imul d_MM_numberOf_23 ?_
    refine wm_aload_n d_MM_numberOf_24 rfl rfl ?_
    refine gf_MM_16 rfl d_MM_numberOf_25 h12 ?_
    refine wm_iload_n d_MM_numberOf_28 rfl rfl ?_
    refine cf_MM_155 rfl d_MM_numberOf_29 h13 (Nat.le_of_ble_eq_true rfl) (Ci.mono h (fun x15 M14 h => ?_))
    obtain ⟨h16, hOM14, h⟩ := h
    refine wm_iadd d_MM_numberOf_32 ?_
    refine wm_bipush d_MM_numberOf_33 (by decide) ?_
    refine wm_isub d_MM_numberOf_35 ?_
    refine wm_istore_n d_MM_numberOf_36 rfl (by decide) (L' := [vr a0, vi l1, vi (((10 * l2) + x15) - 48), vi l3]) rfl ?_
    refine wm_iinc d_MM_numberOf_37 (by decide) rfl (L' := [vr a0, vi l1, vi (((10 * l2) + x15) - 48), vi (l3 + 1)]) rfl ?_
    refine wm_goto (tgt := 8) d_MM_numberOf_40 rfl ?_
    exact h
theorem d_MM_sameWord_0 : decode y_MM_sameWord.2.1 0 = .ok (.aload_n 0, 1) := by decide +kernel
theorem d_MM_sameWord_1 : decode y_MM_sameWord.2.1 1 = .ok (.getfield 25, 3) := by decide +kernel
theorem d_MM_sameWord_4 : decode y_MM_sameWord.2.1 4 = .ok (.iload_n 1, 1) := by decide +kernel
theorem d_MM_sameWord_5 : decode y_MM_sameWord.2.1 5 = .ok (.invokevirtual 155, 3) := by decide +kernel
theorem d_MM_sameWord_8 : decode y_MM_sameWord.2.1 8 = .ok (.aload_n 0, 1) := by decide +kernel
theorem d_MM_sameWord_9 : decode y_MM_sameWord.2.1 9 = .ok (.iload_n 1, 1) := by decide +kernel
theorem d_MM_sameWord_10 : decode y_MM_sameWord.2.1 10 = .ok (.invokevirtual 279, 3) := by decide +kernel
theorem d_MM_sameWord_13 : decode y_MM_sameWord.2.1 13 = .ok (.isub, 1) := by decide +kernel
theorem d_MM_sameWord_14 : decode y_MM_sameWord.2.1 14 = .ok (.istore_n 3, 1) := by decide +kernel
theorem d_MM_sameWord_15 : decode y_MM_sameWord.2.1 15 = .ok (.aload_n 0, 1) := by decide +kernel
theorem d_MM_sameWord_16 : decode y_MM_sameWord.2.1 16 = .ok (.getfield 25, 3) := by decide +kernel
theorem d_MM_sameWord_19 : decode y_MM_sameWord.2.1 19 = .ok (.iload_n 2, 1) := by decide +kernel
theorem d_MM_sameWord_20 : decode y_MM_sameWord.2.1 20 = .ok (.invokevirtual 155, 3) := by decide +kernel
theorem d_MM_sameWord_23 : decode y_MM_sameWord.2.1 23 = .ok (.aload_n 0, 1) := by decide +kernel
theorem d_MM_sameWord_24 : decode y_MM_sameWord.2.1 24 = .ok (.iload_n 2, 1) := by decide +kernel
theorem d_MM_sameWord_25 : decode y_MM_sameWord.2.1 25 = .ok (.invokevirtual 279, 3) := by decide +kernel
theorem d_MM_sameWord_28 : decode y_MM_sameWord.2.1 28 = .ok (.isub, 1) := by decide +kernel
theorem d_MM_sameWord_29 : decode y_MM_sameWord.2.1 29 = .ok (.iload_n 3, 1) := by decide +kernel
theorem d_MM_sameWord_30 : decode y_MM_sameWord.2.1 30 = .ok (.if_icmp .ne 7, 3) := by decide +kernel
theorem d_MM_sameWord_33 : decode y_MM_sameWord.2.1 33 = .ok (.iconst 1, 1) := by decide +kernel
theorem d_MM_sameWord_34 : decode y_MM_sameWord.2.1 34 = .ok (.goto 4, 3) := by decide +kernel
theorem d_MM_sameWord_37 : decode y_MM_sameWord.2.1 37 = .ok (.iconst 0, 1) := by decide +kernel
theorem d_MM_sameWord_38 : decode y_MM_sameWord.2.1 38 = .ok (.istore 4, 2) := by decide +kernel
theorem d_MM_sameWord_40 : decode y_MM_sameWord.2.1 40 = .ok (.iconst 0, 1) := by decide +kernel
theorem d_MM_sameWord_41 : decode y_MM_sameWord.2.1 41 = .ok (.istore 5, 2) := by decide +kernel
theorem d_MM_sameWord_43 : decode y_MM_sameWord.2.1 43 = .ok (.iload 5, 2) := by decide +kernel
theorem d_MM_sameWord_45 : decode y_MM_sameWord.2.1 45 = .ok (.iload_n 3, 1) := by decide +kernel
theorem d_MM_sameWord_46 : decode y_MM_sameWord.2.1 46 = .ok (.if_icmp .ge 54, 3) := by decide +kernel
theorem d_MM_sameWord_49 : decode y_MM_sameWord.2.1 49 = .ok (.iload 4, 2) := by decide +kernel
theorem d_MM_sameWord_51 : decode y_MM_sameWord.2.1 51 = .ok (.ifCond .eq 49, 3) := by decide +kernel
theorem d_MM_sameWord_54 : decode y_MM_sameWord.2.1 54 = .ok (.aload_n 0, 1) := by decide +kernel
theorem d_MM_sameWord_55 : decode y_MM_sameWord.2.1 55 = .ok (.getfield 16, 3) := by decide +kernel
theorem d_MM_sameWord_58 : decode y_MM_sameWord.2.1 58 = .ok (.aload_n 0, 1) := by decide +kernel
theorem d_MM_sameWord_59 : decode y_MM_sameWord.2.1 59 = .ok (.iload_n 1, 1) := by decide +kernel
theorem d_MM_sameWord_100 : decode y_MM_sameWord.2.1 100 = .ok (.iload 4, 2) := by decide +kernel
theorem d_MM_sameWord_102 : decode y_MM_sameWord.2.1 102 = .ok (.ireturn, 1) := by decide +kernel
theorem d_MM_sameWord_60 : decode y_MM_sameWord.2.1 60 = .ok (.invokevirtual 279, 3) := by decide +kernel
theorem d_MM_sameWord_63 : decode y_MM_sameWord.2.1 63 = .ok (.iload 5, 2) := by decide +kernel
theorem d_MM_sameWord_65 : decode y_MM_sameWord.2.1 65 = .ok (.iadd, 1) := by decide +kernel
theorem d_MM_sameWord_66 : decode y_MM_sameWord.2.1 66 = .ok (.invokevirtual 155, 3) := by decide +kernel
theorem d_MM_sameWord_69 : decode y_MM_sameWord.2.1 69 = .ok (.aload_n 0, 1) := by decide +kernel
theorem d_MM_sameWord_70 : decode y_MM_sameWord.2.1 70 = .ok (.getfield 16, 3) := by decide +kernel
theorem d_MM_sameWord_73 : decode y_MM_sameWord.2.1 73 = .ok (.aload_n 0, 1) := by decide +kernel
theorem d_MM_sameWord_74 : decode y_MM_sameWord.2.1 74 = .ok (.iload_n 2, 1) := by decide +kernel
theorem d_MM_sameWord_75 : decode y_MM_sameWord.2.1 75 = .ok (.invokevirtual 279, 3) := by decide +kernel
theorem d_MM_sameWord_78 : decode y_MM_sameWord.2.1 78 = .ok (.iload 5, 2) := by decide +kernel
theorem d_MM_sameWord_80 : decode y_MM_sameWord.2.1 80 = .ok (.iadd, 1) := by decide +kernel
theorem d_MM_sameWord_81 : decode y_MM_sameWord.2.1 81 = .ok (.invokevirtual 155, 3) := by decide +kernel
theorem d_MM_sameWord_84 : decode y_MM_sameWord.2.1 84 = .ok (.if_icmp .ne 7, 3) := by decide +kernel
theorem d_MM_sameWord_87 : decode y_MM_sameWord.2.1 87 = .ok (.iconst 1, 1) := by decide +kernel
theorem d_MM_sameWord_88 : decode y_MM_sameWord.2.1 88 = .ok (.goto 4, 3) := by decide +kernel
theorem d_MM_sameWord_91 : decode y_MM_sameWord.2.1 91 = .ok (.iconst 0, 1) := by decide +kernel
theorem d_MM_sameWord_92 : decode y_MM_sameWord.2.1 92 = .ok (.istore 4, 2) := by decide +kernel
theorem d_MM_sameWord_94 : decode y_MM_sameWord.2.1 94 = .ok (.iinc 5 1, 3) := by decide +kernel
theorem d_MM_sameWord_97 : decode y_MM_sameWord.2.1 97 = .ok (.goto (-54), 3) := by decide +kernel
def h_MM_sameWord_43 (G : mG) (d : Nat) (a0 : Nat) (l1 : Int) (l2 : Int) (l3 : Int) (l4 : Int) (l5 : Int) (M : mM) (Q : Int → mM → Prop) : Prop := mWm G y_MM_sameWord (d + 1) 43 [vr a0, vi l1, vi l2, vi l3, vi l4, vi l5] [] M (fun r9 M9 => ∃ x9, r9 = some (vi x9) ∧ Q x9 M9)
theorem k_MM_sameWord {G : mG} {d : Nat} {a0 : Nat} {l1 : Int} {l2 : Int} {M : mM} {Q : Int → mM → Prop} (hO : mOk M) (hi_l1 : i32 l1) (hi_l2 : i32 l2)
    (h : mK M a0 = 14 ∧ mK M (mR M a0 5) = 15 ∧ Ci G y_MN_at d [vr (mR M a0 5), vi l1] M (fun x4 M3 => i32 x4 ∧ mOk M3 ∧ (mK M3 a0 = 14 ∧ Ci G y_MM_place0 d [vr a0, vi l1] M3 (fun x8 M7 => i32 x8 ∧ mOk M7 ∧ (mK M7 a0 = 14 ∧ mK M7 (mR M7 a0 5) = 15 ∧ Ci G y_MN_at d [vr (mR M7 a0 5), vi l2] M7 (fun x13 M12 => i32 x13 ∧ mOk M12 ∧ (mK M12 a0 = 14 ∧ Ci G y_MM_place0 d [vr a0, vi l2] M12 (fun x17 M16 => i32 x17 ∧ mOk M16 ∧ (i32 (x13 - x17) ∧ i32 (x4 - x8) ∧ ∀ v22 : Int, v22 = (if (x13 - x17 = x4 - x8) then 1 else 0) → h_MM_sameWord_43 G d a0 l1 l2 (x4 - x8) v22 0 M16 Q))))))))) :
    Ci G y_MM_sameWord (d + 1) [vr a0, vi l1, vi l2] M Q := by
  refine wm_open (y := y_MM_sameWord) rfl (Nat.le_of_ble_eq_true rfl) (L := [vr a0, vi l1, vi l2, vd, vd, vd]) rfl ?_
  obtain ⟨h1, h⟩ := h
  obtain ⟨h2, h⟩ := h
  refine wm_aload_n d_MM_sameWord_0 rfl rfl ?_
  refine gf_MM_25 rfl d_MM_sameWord_1 h1 ?_
  refine wm_iload_n d_MM_sameWord_4 rfl rfl ?_
  refine cf_MM_155 rfl d_MM_sameWord_5 h2 (Nat.le_of_ble_eq_true rfl) (Ci.mono h (fun x4 M3 h => ?_))
  obtain ⟨h5, hOM3, h⟩ := h
  obtain ⟨h6, h⟩ := h
  refine wm_aload_n d_MM_sameWord_8 rfl rfl ?_
  refine wm_iload_n d_MM_sameWord_9 rfl rfl ?_
  refine cf_MM_279 rfl d_MM_sameWord_10 h6 (Nat.le_of_ble_eq_true rfl) (Ci.mono h (fun x8 M7 h => ?_))
  obtain ⟨h9, hOM7, h⟩ := h
  obtain ⟨h10, h⟩ := h
  obtain ⟨h11, h⟩ := h
  refine wm_isub d_MM_sameWord_13 ?_
  refine wm_istore_n d_MM_sameWord_14 rfl (by decide) (L' := [vr a0, vi l1, vi l2, vi (x4 - x8), vd, vd]) rfl ?_
  refine wm_aload_n d_MM_sameWord_15 rfl rfl ?_
  refine gf_MM_25 rfl d_MM_sameWord_16 h10 ?_
  refine wm_iload_n d_MM_sameWord_19 rfl rfl ?_
  refine cf_MM_155 rfl d_MM_sameWord_20 h11 (Nat.le_of_ble_eq_true rfl) (Ci.mono h (fun x13 M12 h => ?_))
  obtain ⟨h14, hOM12, h⟩ := h
  obtain ⟨h15, h⟩ := h
  refine wm_aload_n d_MM_sameWord_23 rfl rfl ?_
  refine wm_iload_n d_MM_sameWord_24 rfl rfl ?_
  refine cf_MM_279 rfl d_MM_sameWord_25 h15 (Nat.le_of_ble_eq_true rfl) (Ci.mono h (fun x17 M16 h => ?_))
  obtain ⟨h18, hOM16, h⟩ := h
  obtain ⟨h19, h⟩ := h
  obtain ⟨h20, h⟩ := h
  refine wm_isub d_MM_sameWord_28 ?_
  refine wm_iload_n d_MM_sameWord_29 rfl rfl ?_
  have hJ : ∀ v22 : Int, v22 = (if (x13 - x17 = x4 - x8) then 1 else 0) → mWm G y_MM_sameWord (d + 1) 38 [vr a0, vi l1, vi l2, vi (x4 - x8), vd, vd] [vi v22] M16 (fun r9 M9 => ∃ x9, r9 = some (vi x9) ∧ Q x9 M9) := by
    intro v22 e24
    have h := h v22 e24
    have h25 : i32 v22 := by rw [e24]; (repeat' split) <;> first | exact ⟨by decide, by decide⟩ | exact ⟨by decide, by decide⟩
    have h26 : (v22 = 0 ∨ v22 = 1) := by rw [e24]; (repeat' split) <;> decide
    refine wm_istore d_MM_sameWord_38 (by decide) (L' := [vr a0, vi l1, vi l2, vi (x4 - x8), vi v22, vd]) rfl ?_
    refine wm_iconst d_MM_sameWord_40 ?_
    refine wm_istore d_MM_sameWord_41 (by decide) (L' := [vr a0, vi l1, vi l2, vi (x4 - x8), vi v22, vi 0]) rfl ?_
    exact h
  clear h
  refine wm_icmp_ne (tgt := 37) d_MM_sameWord_30 rfl h19 h20 (fun c21 => ?_) (fun c21 => ?_)
  · refine wm_iconst d_MM_sameWord_37 ?_
    exact hJ 0 (if_neg c21).symm
  · replace c21 := Classical.not_not.mp c21
    refine wm_iconst d_MM_sameWord_33 ?_
    refine wm_goto (tgt := 38) d_MM_sameWord_34 rfl ?_
    exact hJ 1 (if_pos c21).symm
theorem k_MM_sameWord_43 {G : mG} {d : Nat} {a0 : Nat} {l1 : Int} {l2 : Int} {l3 : Int} {l4 : Int} {l5 : Int} {M : mM} {Q : Int → mM → Prop} (hO : mOk M) (hi_l1 : i32 l1) (hi_l2 : i32 l2) (hi_l3 : i32 l3) (hi_l4 : i32 l4) (hi_l5 : i32 l5)
    (h : (((l3 ≤ l5) ∨ (l4 = 0)) → ((l4 = 0 ∨ l4 = 1) ∧ Q l4 M)) ∧ (¬ ((l3 ≤ l5) ∨ (l4 = 0)) → (mK M a0 = 14 ∧ Ci G y_MM_place0 d [vr a0, vi l1] M (fun x36 M35 => i32 x36 ∧ mOk M35 ∧ (mK M35 (mR M a0 2) = 15 ∧ Ci G y_MN_at d [vr (mR M a0 2), vi (x36 + l5)] M35 (fun x40 M39 => i32 x40 ∧ mOk M39 ∧ (mK M39 a0 = 14 ∧ Ci G y_MM_place0 d [vr a0, vi l2] M39 (fun x44 M43 => i32 x44 ∧ mOk M43 ∧ (mK M43 (mR M39 a0 2) = 15 ∧ Ci G y_MN_at d [vr (mR M39 a0 2), vi (x44 + l5)] M43 (fun x48 M47 => i32 x48 ∧ mOk M47 ∧ (∀ v51 : Int, v51 = (if (x40 = x48) then 1 else 0) → h_MM_sameWord_43 G d a0 l1 l2 l3 v51 (l5 + 1) M47 Q))))))))))) :
    h_MM_sameWord_43 G d a0 l1 l2 l3 l4 l5 M Q := by
  unfold h_MM_sameWord_43
  refine wm_iload d_MM_sameWord_43 rfl ?_
  refine wm_iload_n d_MM_sameWord_45 rfl rfl ?_
  have hE0 : ((l3 ≤ l5) ∨ (l4 = 0)) → mWm G y_MM_sameWord (d + 1) 100 [vr a0, vi l1, vi l2, vi l3, vi l4, vi l5] [] M (fun r9 M9 => ∃ x9, r9 = some (vi x9) ∧ Q x9 M9) := by
    intro q31
    have h := h.1 q31
    obtain ⟨h32, h⟩ := h
    refine wm_iload d_MM_sameWord_100 rfl ?_
    refine wm_ireturn d_MM_sameWord_102 rfl (m_nb h32) ?_
    exact ⟨_, rfl, h⟩
  have hE1 : ¬ ((l3 ≤ l5) ∨ (l4 = 0)) → mWm G y_MM_sameWord (d + 1) 54 [vr a0, vi l1, vi l2, vi l3, vi l4, vi l5] [] M (fun r9 M9 => ∃ x9, r9 = some (vi x9) ∧ Q x9 M9) := by
    intro q33
    have h := h.2 q33
    obtain ⟨h34, h⟩ := h
    refine wm_aload_n d_MM_sameWord_54 rfl rfl ?_
    refine gf_MM_16 rfl d_MM_sameWord_55 h34 ?_
    refine wm_aload_n d_MM_sameWord_58 rfl rfl ?_
    refine wm_iload_n d_MM_sameWord_59 rfl rfl ?_
    refine cf_MM_279 rfl d_MM_sameWord_60 h34 (Nat.le_of_ble_eq_true rfl) (Ci.mono h (fun x36 M35 h => ?_))
    obtain ⟨h37, hOM35, h⟩ := h
    obtain ⟨h38, h⟩ := h
    refine wm_iload d_MM_sameWord_63 rfl ?_
    refine wm_iadd d_MM_sameWord_65 ?_
    refine cf_MM_155 rfl d_MM_sameWord_66 h38 (Nat.le_of_ble_eq_true rfl) (Ci.mono h (fun x40 M39 h => ?_))
    obtain ⟨h41, hOM39, h⟩ := h
    obtain ⟨h42, h⟩ := h
    refine wm_aload_n d_MM_sameWord_69 rfl rfl ?_
    refine gf_MM_16 rfl d_MM_sameWord_70 h42 ?_
    refine wm_aload_n d_MM_sameWord_73 rfl rfl ?_
    refine wm_iload_n d_MM_sameWord_74 rfl rfl ?_
    refine cf_MM_279 rfl d_MM_sameWord_75 h42 (Nat.le_of_ble_eq_true rfl) (Ci.mono h (fun x44 M43 h => ?_))
    obtain ⟨h45, hOM43, h⟩ := h
    obtain ⟨h46, h⟩ := h
    refine wm_iload d_MM_sameWord_78 rfl ?_
    refine wm_iadd d_MM_sameWord_80 ?_
    refine cf_MM_155 rfl d_MM_sameWord_81 h46 (Nat.le_of_ble_eq_true rfl) (Ci.mono h (fun x48 M47 h => ?_))
    obtain ⟨h49, hOM47, h⟩ := h
    have hJ : ∀ v51 : Int, v51 = (if (x40 = x48) then 1 else 0) → mWm G y_MM_sameWord (d + 1) 92 [vr a0, vi l1, vi l2, vi l3, vd, vi l5] [vi v51] M47 (fun r9 M9 => ∃ x9, r9 = some (vi x9) ∧ Q x9 M9) := by
      intro v51 e53
      have h := h v51 e53
      have h54 : i32 v51 := by rw [e53]; (repeat' split) <;> first | exact ⟨by decide, by decide⟩ | exact ⟨by decide, by decide⟩
      have h55 : (v51 = 0 ∨ v51 = 1) := by rw [e53]; (repeat' split) <;> decide
      refine wm_istore d_MM_sameWord_92 (by decide) (L' := [vr a0, vi l1, vi l2, vi l3, vi v51, vi l5]) rfl ?_
      refine wm_iinc d_MM_sameWord_94 (by decide) rfl (L' := [vr a0, vi l1, vi l2, vi l3, vi v51, vi (l5 + 1)]) rfl ?_
      refine wm_goto (tgt := 43) d_MM_sameWord_97 rfl ?_
      exact h
    clear h
    refine wm_icmp_ne (tgt := 91) d_MM_sameWord_84 rfl h41 h49 (fun c50 => ?_) (fun c50 => ?_)
    · refine wm_iconst d_MM_sameWord_91 ?_
      refine wm_less (L' := [vr a0, vi l1, vi l2, vi l3, vd, vi l5]) ⟨Or.inr rfl, Or.inr rfl, Or.inr rfl, Or.inr rfl, Or.inl rfl, Or.inr rfl, trivial⟩ ?_
      exact hJ 0 (if_neg c50).symm
    · replace c50 := Classical.not_not.mp c50
      refine wm_iconst d_MM_sameWord_87 ?_
      refine wm_goto (tgt := 92) d_MM_sameWord_88 rfl ?_
      refine wm_less (L' := [vr a0, vi l1, vi l2, vi l3, vd, vi l5]) ⟨Or.inr rfl, Or.inr rfl, Or.inr rfl, Or.inr rfl, Or.inl rfl, Or.inr rfl, trivial⟩ ?_
      exact hJ 1 (if_pos c50).symm
  clear h
  refine wm_icmp_ge (tgt := 100) d_MM_sameWord_46 rfl hi_l5 hi_l3 (fun c29 => ?_) (fun c29 => ?_)
  · exact hE0 (Or.inl c29)
  · refine wm_iload d_MM_sameWord_49 rfl ?_
    refine wm_if_eq (tgt := 100) d_MM_sameWord_51 rfl hi_l4 (fun c28 => ?_) (fun c28 => ?_)
    · exact hE0 (Or.inr c28)
    · exact hE1 (fun z57 => Or.elim z57 c29 c28)
theorem d_MM_find_0 : decode y_MM_find.2.1 0 = .ok (.iconst (-1), 1) := by decide +kernel
theorem d_MM_find_1 : decode y_MM_find.2.1 1 = .ok (.istore_n 2, 1) := by decide +kernel
theorem d_MM_find_2 : decode y_MM_find.2.1 2 = .ok (.iconst 0, 1) := by decide +kernel
theorem d_MM_find_3 : decode y_MM_find.2.1 3 = .ok (.istore_n 3, 1) := by decide +kernel
theorem d_MM_find_4 : decode y_MM_find.2.1 4 = .ok (.iload_n 3, 1) := by decide +kernel
theorem d_MM_find_5 : decode y_MM_find.2.1 5 = .ok (.aload_n 0, 1) := by decide +kernel
theorem d_MM_find_6 : decode y_MM_find.2.1 6 = .ok (.getfield 45, 3) := by decide +kernel
theorem d_MM_find_9 : decode y_MM_find.2.1 9 = .ok (.getfield 145, 3) := by decide +kernel
theorem d_MM_find_12 : decode y_MM_find.2.1 12 = .ok (.if_icmp .ge 31, 3) := by decide +kernel
theorem d_MM_find_43 : decode y_MM_find.2.1 43 = .ok (.iload_n 2, 1) := by decide +kernel
theorem d_MM_find_44 : decode y_MM_find.2.1 44 = .ok (.ireturn, 1) := by decide +kernel
theorem d_MM_find_15 : decode y_MM_find.2.1 15 = .ok (.aload_n 0, 1) := by decide +kernel
theorem d_MM_find_16 : decode y_MM_find.2.1 16 = .ok (.aload_n 0, 1) := by decide +kernel
theorem d_MM_find_17 : decode y_MM_find.2.1 17 = .ok (.getfield 45, 3) := by decide +kernel
theorem d_MM_find_20 : decode y_MM_find.2.1 20 = .ok (.iload_n 3, 1) := by decide +kernel
theorem d_MM_find_21 : decode y_MM_find.2.1 21 = .ok (.invokevirtual 155, 3) := by decide +kernel
theorem d_MM_find_24 : decode y_MM_find.2.1 24 = .ok (.iload_n 1, 1) := by decide +kernel
theorem d_MM_find_25 : decode y_MM_find.2.1 25 = .ok (.invokevirtual 330, 3) := by decide +kernel
theorem d_MM_find_28 : decode y_MM_find.2.1 28 = .ok (.ifCond .eq 7, 3) := by decide +kernel
theorem d_MM_find_35 : decode y_MM_find.2.1 35 = .ok (.iload_n 2, 1) := by decide +kernel
theorem d_MM_find_31 : decode y_MM_find.2.1 31 = .ok (.iload_n 3, 1) := by decide +kernel
theorem d_MM_find_32 : decode y_MM_find.2.1 32 = .ok (.goto 4, 3) := by decide +kernel
theorem d_MM_find_36 : decode y_MM_find.2.1 36 = .ok (.istore_n 2, 1) := by decide +kernel
theorem d_MM_find_37 : decode y_MM_find.2.1 37 = .ok (.iinc 3 1, 3) := by decide +kernel
theorem d_MM_find_40 : decode y_MM_find.2.1 40 = .ok (.goto (-36), 3) := by decide +kernel
def h_MM_find_4 (G : mG) (d : Nat) (a0 : Nat) (l1 : Int) (l2 : Int) (l3 : Int) (M : mM) (Q : Int → mM → Prop) : Prop := mWm G y_MM_find (d + 1) 4 [vr a0, vi l1, vi l2, vi l3] [] M (fun r9 M9 => ∃ x9, r9 = some (vi x9) ∧ Q x9 M9)
theorem k_MM_find {G : mG} {d : Nat} {a0 : Nat} {l1 : Int} {M : mM} {Q : Int → mM → Prop} (hO : mOk M) (hi_l1 : i32 l1)
    (h : h_MM_find_4 G d a0 l1 (-1) 0 M Q) :
    Ci G y_MM_find (d + 1) [vr a0, vi l1] M Q := by
  refine wm_open (y := y_MM_find) rfl (Nat.le_of_ble_eq_true rfl) (L := [vr a0, vi l1, vd, vd]) rfl ?_
  refine wm_iconst d_MM_find_0 ?_
  refine wm_istore_n d_MM_find_1 rfl (by decide) (L' := [vr a0, vi l1, vi (-1), vd]) rfl ?_
  refine wm_iconst d_MM_find_2 ?_
  refine wm_istore_n d_MM_find_3 rfl (by decide) (L' := [vr a0, vi l1, vi (-1), vi 0]) rfl ?_
  exact h
theorem k_MM_find_4 {G : mG} {d : Nat} {a0 : Nat} {l1 : Int} {l2 : Int} {l3 : Int} {M : mM} {Q : Int → mM → Prop} (hO : mOk M) (hi_l1 : i32 l1) (hi_l2 : i32 l2) (hi_l3 : i32 l3)
    (h : mK M a0 = 14 ∧ mK M (mR M a0 13) = 15 ∧ ((mI M (mR M a0 13) 1 ≤ l3) → (Q l2 M)) ∧ (¬ (mI M (mR M a0 13) 1 ≤ l3) → (Ci G y_MN_at d [vr (mR M a0 13), vi l3] M (fun x6 M5 => i32 x6 ∧ mOk M5 ∧ (mK M5 a0 = 14 ∧ Ci G y_MM_sameWord d [vr a0, vi x6, vi l1] M5 (fun x10 M9 => i32 x10 ∧ mOk M9 ∧ (∀ v13 : Int, v13 = (if (x10 = 0) then l2 else l3) → h_MM_find_4 G d a0 l1 v13 (l3 + 1) M9 Q))))))) :
    h_MM_find_4 G d a0 l1 l2 l3 M Q := by
  unfold h_MM_find_4
  obtain ⟨h1, h⟩ := h
  obtain ⟨h2, h⟩ := h
  refine wm_iload_n d_MM_find_4 rfl rfl ?_
  refine wm_aload_n d_MM_find_5 rfl rfl ?_
  refine gf_MM_45 rfl d_MM_find_6 h1 ?_
  refine gf_MM_145 rfl d_MM_find_9 h2 ?_
  refine wm_icmp_ge (tgt := 43) d_MM_find_12 rfl hi_l3 (hO _ _).1 (fun c4 => ?_) (fun c4 => ?_)
  · replace h := h.1 c4
    refine wm_iload_n d_MM_find_43 rfl rfl ?_
    refine wm_ireturn d_MM_find_44 rfl rfl ?_
    exact ⟨_, rfl, h⟩
  · replace h := h.2 c4
    refine wm_aload_n d_MM_find_15 rfl rfl ?_
    refine wm_aload_n d_MM_find_16 rfl rfl ?_
    refine gf_MM_45 rfl d_MM_find_17 h1 ?_
    refine wm_iload_n d_MM_find_20 rfl rfl ?_
    refine cf_MM_155 rfl d_MM_find_21 h2 (Nat.le_of_ble_eq_true rfl) (Ci.mono h (fun x6 M5 h => ?_))
    obtain ⟨h7, hOM5, h⟩ := h
    obtain ⟨h8, h⟩ := h
    refine wm_iload_n d_MM_find_24 rfl rfl ?_
    refine cf_MM_330 rfl d_MM_find_25 h8 (Nat.le_of_ble_eq_true rfl) (Ci.mono h (fun x10 M9 h => ?_))
    obtain ⟨h11, hOM9, h⟩ := h
    have hJ : ∀ v13 : Int, v13 = (if (x10 = 0) then l2 else l3) → mWm G y_MM_find (d + 1) 36 [vr a0, vi l1, vd, vi l3] [vi v13] M9 (fun r9 M9 => ∃ x9, r9 = some (vi x9) ∧ Q x9 M9) := by
      intro v13 e15
      have h := h v13 e15
      have h16 : i32 v13 := by rw [e15]; (repeat' split) <;> first | exact hi_l2 | exact hi_l3
      refine wm_istore_n d_MM_find_36 rfl (by decide) (L' := [vr a0, vi l1, vi v13, vi l3]) rfl ?_
      refine wm_iinc d_MM_find_37 (by decide) rfl (L' := [vr a0, vi l1, vi v13, vi (l3 + 1)]) rfl ?_
      refine wm_goto (tgt := 4) d_MM_find_40 rfl ?_
      exact h
    clear h
    refine wm_if_eq (tgt := 35) d_MM_find_28 rfl h11 (fun c12 => ?_) (fun c12 => ?_)
    · refine wm_iload_n d_MM_find_35 rfl rfl ?_
      refine wm_less (L' := [vr a0, vi l1, vd, vi l3]) ⟨Or.inr rfl, Or.inr rfl, Or.inl rfl, Or.inr rfl, trivial⟩ ?_
      exact hJ l2 (if_pos c12).symm
    · refine wm_iload_n d_MM_find_31 rfl rfl ?_
      refine wm_goto (tgt := 36) d_MM_find_32 rfl ?_
      refine wm_less (L' := [vr a0, vi l1, vd, vi l3]) ⟨Or.inr rfl, Or.inr rfl, Or.inl rfl, Or.inr rfl, trivial⟩ ?_
      exact hJ l3 (if_neg c12).symm
theorem d_MM_know_0 : decode y_MM_know.2.1 0 = .ok (.aload_n 0, 1) := by decide +kernel
theorem d_MM_know_1 : decode y_MM_know.2.1 1 = .ok (.getfield 45, 3) := by decide +kernel
theorem d_MM_know_4 : decode y_MM_know.2.1 4 = .ok (.iload_n 1, 1) := by decide +kernel
theorem d_MM_know_5 : decode y_MM_know.2.1 5 = .ok (.invokevirtual 152, 3) := by decide +kernel
theorem d_MM_know_8 : decode y_MM_know.2.1 8 = .ok (.aload_n 0, 1) := by decide +kernel
theorem d_MM_know_9 : decode y_MM_know.2.1 9 = .ok (.getfield 48, 3) := by decide +kernel
theorem d_MM_know_12 : decode y_MM_know.2.1 12 = .ok (.iload_n 2, 1) := by decide +kernel
theorem d_MM_know_13 : decode y_MM_know.2.1 13 = .ok (.invokevirtual 152, 3) := by decide +kernel
theorem d_MM_know_16 : decode y_MM_know.2.1 16 = .ok (.aload_n 0, 1) := by decide +kernel
theorem d_MM_know_17 : decode y_MM_know.2.1 17 = .ok (.getfield 51, 3) := by decide +kernel
theorem d_MM_know_20 : decode y_MM_know.2.1 20 = .ok (.iload_n 3, 1) := by decide +kernel
theorem d_MM_know_21 : decode y_MM_know.2.1 21 = .ok (.invokevirtual 152, 3) := by decide +kernel
theorem d_MM_know_24 : decode y_MM_know.2.1 24 = .ok (.return_, 1) := by decide +kernel
theorem k_MM_know {G : mG} {d : Nat} {a0 : Nat} {l1 : Int} {l2 : Int} {l3 : Int} {M : mM} {Q : mM → Prop} (hO : mOk M) (hi_l1 : i32 l1) (hi_l2 : i32 l2) (hi_l3 : i32 l3)
    (h : mK M a0 = 14 ∧ mK M (mR M a0 13) = 15 ∧ Cv G y_MN_add d [vr (mR M a0 13), vi l1] M (fun M3 => mOk M3 ∧ (mK M3 a0 = 14 ∧ mK M3 (mR M3 a0 14) = 15 ∧ Cv G y_MN_add d [vr (mR M3 a0 14), vi l2] M3 (fun M8 => mOk M8 ∧ (mK M8 a0 = 14 ∧ mK M8 (mR M8 a0 15) = 15 ∧ Cv G y_MN_add d [vr (mR M8 a0 15), vi l3] M8 (fun M13 => mOk M13 ∧ (Q M13))))))) :
    Cv G y_MM_know (d + 1) [vr a0, vi l1, vi l2, vi l3] M Q := by
  refine wm_open (y := y_MM_know) rfl (Nat.le_of_ble_eq_true rfl) (L := [vr a0, vi l1, vi l2, vi l3]) rfl ?_
  obtain ⟨h1, h⟩ := h
  obtain ⟨h2, h⟩ := h
  refine wm_aload_n d_MM_know_0 rfl rfl ?_
  refine gf_MM_45 rfl d_MM_know_1 h1 ?_
  refine wm_iload_n d_MM_know_4 rfl rfl ?_
  refine cf_MM_152 rfl d_MM_know_5 h2 (Nat.le_of_ble_eq_true rfl) (Cv.mono h (fun M3 h => ?_))
  obtain ⟨hOM3, h⟩ := h
  obtain ⟨h6, h⟩ := h
  obtain ⟨h7, h⟩ := h
  refine wm_aload_n d_MM_know_8 rfl rfl ?_
  refine gf_MM_48 rfl d_MM_know_9 h6 ?_
  refine wm_iload_n d_MM_know_12 rfl rfl ?_
  refine cf_MM_152 rfl d_MM_know_13 h7 (Nat.le_of_ble_eq_true rfl) (Cv.mono h (fun M8 h => ?_))
  obtain ⟨hOM8, h⟩ := h
  obtain ⟨h11, h⟩ := h
  obtain ⟨h12, h⟩ := h
  refine wm_aload_n d_MM_know_16 rfl rfl ?_
  refine gf_MM_51 rfl d_MM_know_17 h11 ?_
  refine wm_iload_n d_MM_know_20 rfl rfl ?_
  refine cf_MM_152 rfl d_MM_know_21 h12 (Nat.le_of_ble_eq_true rfl) (Cv.mono h (fun M13 h => ?_))
  obtain ⟨hOM13, h⟩ := h
  refine wm_return d_MM_know_24 rfl ?_
  exact ⟨rfl, h⟩
theorem d_MM_look_0 : decode y_MM_look.2.1 0 = .ok (.aload_n 0, 1) := by decide +kernel
theorem d_MM_look_1 : decode y_MM_look.2.1 1 = .ok (.getfield 60, 3) := by decide +kernel
theorem d_MM_look_4 : decode y_MM_look.2.1 4 = .ok (.iconst 0, 1) := by decide +kernel
theorem d_MM_look_5 : decode y_MM_look.2.1 5 = .ok (.putfield 145, 3) := by decide +kernel
theorem d_MM_look_8 : decode y_MM_look.2.1 8 = .ok (.aload_n 0, 1) := by decide +kernel
theorem d_MM_look_9 : decode y_MM_look.2.1 9 = .ok (.getfield 57, 3) := by decide +kernel
theorem d_MM_look_12 : decode y_MM_look.2.1 12 = .ok (.iconst 0, 1) := by decide +kernel
theorem d_MM_look_13 : decode y_MM_look.2.1 13 = .ok (.putfield 145, 3) := by decide +kernel
theorem d_MM_look_16 : decode y_MM_look.2.1 16 = .ok (.aload_n 0, 1) := by decide +kernel
theorem d_MM_look_17 : decode y_MM_look.2.1 17 = .ok (.getfield 60, 3) := by decide +kernel
theorem d_MM_look_20 : decode y_MM_look.2.1 20 = .ok (.iload_n 1, 1) := by decide +kernel
theorem d_MM_look_21 : decode y_MM_look.2.1 21 = .ok (.invokevirtual 152, 3) := by decide +kernel
theorem d_MM_look_24 : decode y_MM_look.2.1 24 = .ok (.aload_n 0, 1) := by decide +kernel
theorem d_MM_look_25 : decode y_MM_look.2.1 25 = .ok (.getfield 60, 3) := by decide +kernel
theorem d_MM_look_28 : decode y_MM_look.2.1 28 = .ok (.iconst 0, 1) := by decide +kernel
theorem d_MM_look_29 : decode y_MM_look.2.1 29 = .ok (.invokevirtual 152, 3) := by decide +kernel
theorem d_MM_look_32 : decode y_MM_look.2.1 32 = .ok (.aload_n 0, 1) := by decide +kernel
theorem d_MM_look_33 : decode y_MM_look.2.1 33 = .ok (.getfield 60, 3) := by decide +kernel
theorem d_MM_look_36 : decode y_MM_look.2.1 36 = .ok (.getfield 145, 3) := by decide +kernel
theorem d_MM_look_39 : decode y_MM_look.2.1 39 = .ok (.ifCond .le 135, 3) := by decide +kernel
theorem d_MM_look_42 : decode y_MM_look.2.1 42 = .ok (.aload_n 0, 1) := by decide +kernel
theorem d_MM_look_43 : decode y_MM_look.2.1 43 = .ok (.getfield 267, 3) := by decide +kernel
theorem d_MM_look_46 : decode y_MM_look.2.1 46 = .ok (.ifCond .ne 128, 3) := by decide +kernel
theorem d_MM_look_49 : decode y_MM_look.2.1 49 = .ok (.aload_n 0, 1) := by decide +kernel
theorem d_MM_look_50 : decode y_MM_look.2.1 50 = .ok (.getfield 60, 3) := by decide +kernel
theorem d_MM_look_174 : decode y_MM_look.2.1 174 = .ok (.aload_n 0, 1) := by decide +kernel
theorem d_MM_look_175 : decode y_MM_look.2.1 175 = .ok (.getfield 267, 3) := by decide +kernel
theorem d_MM_look_178 : decode y_MM_look.2.1 178 = .ok (.ifCond .ne 18, 3) := by decide +kernel
theorem d_MM_look_181 : decode y_MM_look.2.1 181 = .ok (.aload_n 0, 1) := by decide +kernel
theorem d_MM_look_182 : decode y_MM_look.2.1 182 = .ok (.getfield 57, 3) := by decide +kernel
theorem d_MM_look_185 : decode y_MM_look.2.1 185 = .ok (.invokevirtual 341, 3) := by decide +kernel
theorem d_MM_look_188 : decode y_MM_look.2.1 188 = .ok (.iconst 1, 1) := by decide +kernel
theorem d_MM_look_189 : decode y_MM_look.2.1 189 = .ok (.if_icmp .ne 7, 3) := by decide +kernel
theorem d_MM_look_192 : decode y_MM_look.2.1 192 = .ok (.iconst 1, 1) := by decide +kernel
theorem d_MM_look_193 : decode y_MM_look.2.1 193 = .ok (.goto 4, 3) := by decide +kernel
theorem d_MM_look_196 : decode y_MM_look.2.1 196 = .ok (.iconst 0, 1) := by decide +kernel
theorem d_MM_look_197 : decode y_MM_look.2.1 197 = .ok (.ireturn, 1) := by decide +kernel
theorem d_MM_look_53 : decode y_MM_look.2.1 53 = .ok (.invokevirtual 232, 3) := by decide +kernel
theorem d_MM_look_56 : decode y_MM_look.2.1 56 = .ok (.istore_n 3, 1) := by decide +kernel
theorem d_MM_look_57 : decode y_MM_look.2.1 57 = .ok (.aload_n 0, 1) := by decide +kernel
theorem d_MM_look_58 : decode y_MM_look.2.1 58 = .ok (.getfield 60, 3) := by decide +kernel
theorem d_MM_look_61 : decode y_MM_look.2.1 61 = .ok (.invokevirtual 232, 3) := by decide +kernel
theorem d_MM_look_64 : decode y_MM_look.2.1 64 = .ok (.istore 4, 2) := by decide +kernel
theorem d_MM_look_66 : decode y_MM_look.2.1 66 = .ok (.aload_n 0, 1) := by decide +kernel
theorem d_MM_look_67 : decode y_MM_look.2.1 67 = .ok (.getfield 38, 3) := by decide +kernel
theorem d_MM_look_70 : decode y_MM_look.2.1 70 = .ok (.getfield 287, 3) := by decide +kernel
theorem d_MM_look_73 : decode y_MM_look.2.1 73 = .ok (.iload 4, 2) := by decide +kernel
theorem d_MM_look_75 : decode y_MM_look.2.1 75 = .ok (.invokevirtual 155, 3) := by decide +kernel
theorem d_MM_look_78 : decode y_MM_look.2.1 78 = .ok (.istore 5, 2) := by decide +kernel
theorem d_MM_look_80 : decode y_MM_look.2.1 80 = .ok (.iload_n 3, 1) := by decide +kernel
theorem d_MM_look_81 : decode y_MM_look.2.1 81 = .ok (.iconst 1, 1) := by decide +kernel
theorem d_MM_look_82 : decode y_MM_look.2.1 82 = .ok (.if_icmp .eq 8, 3) := by decide +kernel
theorem d_MM_look_85 : decode y_MM_look.2.1 85 = .ok (.iload 5, 2) := by decide +kernel
theorem d_MM_look_87 : decode y_MM_look.2.1 87 = .ok (.ifCond .ge 13, 3) := by decide +kernel
theorem d_MM_look_100 : decode y_MM_look.2.1 100 = .ok (.aload_n 0, 1) := by decide +kernel
theorem d_MM_look_101 : decode y_MM_look.2.1 101 = .ok (.getfield 60, 3) := by decide +kernel
theorem d_MM_look_104 : decode y_MM_look.2.1 104 = .ok (.iload 4, 2) := by decide +kernel
theorem d_MM_look_90 : decode y_MM_look.2.1 90 = .ok (.aload_n 0, 1) := by decide +kernel
theorem d_MM_look_91 : decode y_MM_look.2.1 91 = .ok (.iload 4, 2) := by decide +kernel
theorem d_MM_look_93 : decode y_MM_look.2.1 93 = .ok (.iload_n 2, 1) := by decide +kernel
theorem d_MM_look_94 : decode y_MM_look.2.1 94 = .ok (.invokevirtual 334, 3) := by decide +kernel
theorem d_MM_look_97 : decode y_MM_look.2.1 97 = .ok (.goto 74, 3) := by decide +kernel
theorem d_MM_look_171 : decode y_MM_look.2.1 171 = .ok (.goto (-139), 3) := by decide +kernel
theorem d_MM_look_106 : decode y_MM_look.2.1 106 = .ok (.invokevirtual 152, 3) := by decide +kernel
theorem d_MM_look_109 : decode y_MM_look.2.1 109 = .ok (.aload_n 0, 1) := by decide +kernel
theorem d_MM_look_110 : decode y_MM_look.2.1 110 = .ok (.getfield 60, 3) := by decide +kernel
theorem d_MM_look_113 : decode y_MM_look.2.1 113 = .ok (.iconst 1, 1) := by decide +kernel
theorem d_MM_look_114 : decode y_MM_look.2.1 114 = .ok (.invokevirtual 152, 3) := by decide +kernel
theorem d_MM_look_117 : decode y_MM_look.2.1 117 = .ok (.aload_n 0, 1) := by decide +kernel
theorem d_MM_look_118 : decode y_MM_look.2.1 118 = .ok (.getfield 60, 3) := by decide +kernel
theorem d_MM_look_121 : decode y_MM_look.2.1 121 = .ok (.getfield 145, 3) := by decide +kernel
theorem d_MM_look_124 : decode y_MM_look.2.1 124 = .ok (.istore 6, 2) := by decide +kernel
theorem d_MM_look_126 : decode y_MM_look.2.1 126 = .ok (.iload 5, 2) := by decide +kernel
theorem d_MM_look_128 : decode y_MM_look.2.1 128 = .ok (.ifCond .lt 37, 3) := by decide +kernel
theorem d_MM_look_165 : decode y_MM_look.2.1 165 = .ok (.aload_n 0, 1) := by decide +kernel
theorem d_MM_look_166 : decode y_MM_look.2.1 166 = .ok (.iload 6, 2) := by decide +kernel
theorem d_MM_look_131 : decode y_MM_look.2.1 131 = .ok (.aload_n 0, 1) := by decide +kernel
theorem d_MM_look_132 : decode y_MM_look.2.1 132 = .ok (.getfield 60, 3) := by decide +kernel
theorem d_MM_look_135 : decode y_MM_look.2.1 135 = .ok (.iload 5, 2) := by decide +kernel
theorem d_MM_look_168 : decode y_MM_look.2.1 168 = .ok (.invokevirtual 338, 3) := by decide +kernel
theorem d_MM_look_137 : decode y_MM_look.2.1 137 = .ok (.invokevirtual 152, 3) := by decide +kernel
theorem d_MM_look_140 : decode y_MM_look.2.1 140 = .ok (.aload_n 0, 1) := by decide +kernel
theorem d_MM_look_141 : decode y_MM_look.2.1 141 = .ok (.getfield 60, 3) := by decide +kernel
theorem d_MM_look_144 : decode y_MM_look.2.1 144 = .ok (.iconst 0, 1) := by decide +kernel
theorem d_MM_look_145 : decode y_MM_look.2.1 145 = .ok (.invokevirtual 152, 3) := by decide +kernel
theorem d_MM_look_148 : decode y_MM_look.2.1 148 = .ok (.aload_n 0, 1) := by decide +kernel
theorem d_MM_look_149 : decode y_MM_look.2.1 149 = .ok (.getfield 38, 3) := by decide +kernel
theorem d_MM_look_152 : decode y_MM_look.2.1 152 = .ok (.getfield 290, 3) := by decide +kernel
theorem d_MM_look_155 : decode y_MM_look.2.1 155 = .ok (.iload 5, 2) := by decide +kernel
theorem d_MM_look_157 : decode y_MM_look.2.1 157 = .ok (.invokevirtual 155, 3) := by decide +kernel
theorem d_MM_look_160 : decode y_MM_look.2.1 160 = .ok (.istore 5, 2) := by decide +kernel
theorem d_MM_look_162 : decode y_MM_look.2.1 162 = .ok (.goto (-36), 3) := by decide +kernel
def h_MM_look_32 (G : mG) (d : Nat) (a0 : Nat) (l2 : Int) (M : mM) (Q : Int → mM → Prop) : Prop := mWm G y_MM_look (d + 1) 32 [vr a0, vd, vi l2, vd, vd, vd, vd] [] M (fun r9 M9 => ∃ x9, r9 = some (vi x9) ∧ Q x9 M9)
def h_MM_look_126 (G : mG) (d : Nat) (a0 : Nat) (l2 : Int) (l5 : Int) (l6 : Int) (M : mM) (Q : Int → mM → Prop) : Prop := mWm G y_MM_look (d + 1) 126 [vr a0, vd, vi l2, vd, vd, vi l5, vi l6] [] M (fun r9 M9 => ∃ x9, r9 = some (vi x9) ∧ Q x9 M9)
theorem k_MM_look {G : mG} {d : Nat} {a0 : Nat} {l1 : Int} {l2 : Int} {M : mM} {Q : Int → mM → Prop} (hO : mOk M) (hi_l1 : i32 l1) (hi_l2 : i32 l2)
    (h : mK M a0 = 14 ∧ mK M (mR M a0 20) = 15 ∧ ∀ M3, M3 = mUI M (mR M a0 20) 1 0 → mK M3 (mR M3 a0 19) = 15 ∧ ∀ M6, M6 = mUI M3 (mR M3 a0 19) 1 0 → mK M6 (mR M6 a0 20) = 15 ∧ Cv G y_MN_add d [vr (mR M6 a0 20), vi l1] M6 (fun M9 => mOk M9 ∧ (mK M9 a0 = 14 ∧ mK M9 (mR M9 a0 20) = 15 ∧ Cv G y_MN_add d [vr (mR M9 a0 20), vi 0] M9 (fun M14 => mOk M14 ∧ (h_MM_look_32 G d a0 l2 M14 Q))))) :
    Ci G y_MM_look (d + 1) [vr a0, vi l1, vi l2] M Q := by
  refine wm_open (y := y_MM_look) rfl (Nat.le_of_ble_eq_true rfl) (L := [vr a0, vi l1, vi l2, vd, vd, vd, vd]) rfl ?_
  obtain ⟨h1, h⟩ := h
  obtain ⟨h2, h⟩ := h
  obtain ⟨M3, e4⟩ : ∃ M3, M3 = mUI M (mR M a0 20) 1 0 := ⟨_, rfl⟩
  replace h := h M3 e4
  obtain ⟨h5, h⟩ := h
  obtain ⟨M6, e7⟩ : ∃ M6, M6 = mUI M3 (mR M3 a0 19) 1 0 := ⟨_, rfl⟩
  replace h := h M6 e7
  obtain ⟨h8, h⟩ := h
  refine wm_aload_n d_MM_look_0 rfl rfl ?_
  refine gf_MM_60 rfl d_MM_look_1 h1 ?_
  refine wm_iconst d_MM_look_4 ?_
  have hOM3 : mOk M3 := by rw [e4]; exact mOk_UI hO ⟨by decide, by decide⟩
  refine pf_MM_145 rfl d_MM_look_5 h2 ⟨by decide, by decide⟩ e4 ?_
  refine wm_aload_n d_MM_look_8 rfl rfl ?_
  refine gf_MM_57 rfl d_MM_look_9 (by rw [e4]; exact h1) ?_
  refine wm_iconst d_MM_look_12 ?_
  have hOM6 : mOk M6 := by rw [e7]; exact mOk_UI hOM3 ⟨by decide, by decide⟩
  refine pf_MM_145 rfl d_MM_look_13 h5 ⟨by decide, by decide⟩ e7 ?_
  refine wm_aload_n d_MM_look_16 rfl rfl ?_
  refine gf_MM_60 rfl d_MM_look_17 (by rw [e7, e4]; exact h1) ?_
  refine wm_iload_n d_MM_look_20 rfl rfl ?_
  refine cf_MM_152 rfl d_MM_look_21 h8 (Nat.le_of_ble_eq_true rfl) (Cv.mono h (fun M9 h => ?_))
  obtain ⟨hOM9, h⟩ := h
  obtain ⟨h12, h⟩ := h
  obtain ⟨h13, h⟩ := h
  refine wm_aload_n d_MM_look_24 rfl rfl ?_
  refine gf_MM_60 rfl d_MM_look_25 h12 ?_
  refine wm_iconst d_MM_look_28 ?_
  refine cf_MM_152 rfl d_MM_look_29 h13 (Nat.le_of_ble_eq_true rfl) (Cv.mono h (fun M14 h => ?_))
  obtain ⟨hOM14, h⟩ := h
  refine wm_less (L' := [vr a0, vd, vi l2, vd, vd, vd, vd]) ⟨Or.inr rfl, Or.inl rfl, Or.inr rfl, Or.inl rfl, Or.inl rfl, Or.inl rfl, Or.inl rfl, trivial⟩ ?_
  exact h
theorem k_MM_look_32 {G : mG} {d : Nat} {a0 : Nat} {l2 : Int} {M : mM} {Q : Int → mM → Prop} (hO : mOk M) (hi_l2 : i32 l2)
    (h : mK M a0 = 14 ∧ mK M (mR M a0 20) = 15 ∧ (((mI M (mR M a0 20) 1 ≤ 0) ∨ (¬ (mI M a0 16 = 0))) → (((mI M a0 16 = 0) → (mK M (mR M a0 19) = 15 ∧ Ci G y_MN_last d [vr (mR M a0 19)] M (fun x28 M27 => i32 x28 ∧ mOk M27 ∧ (∀ v31 : Int, v31 = (if (x28 = 1) then 1 else 0) → Q v31 M27)))) ∧ (¬ (mI M a0 16 = 0) → (Q 0 M)))) ∧ (¬ ((mI M (mR M a0 20) 1 ≤ 0) ∨ (¬ (mI M a0 16 = 0))) → (Ci G y_MN_take d [vr (mR M a0 20)] M (fun x39 M38 => i32 x39 ∧ mOk M38 ∧ (mK M38 a0 = 14 ∧ mK M38 (mR M38 a0 20) = 15 ∧ Ci G y_MN_take d [vr (mR M38 a0 20)] M38 (fun x44 M43 => i32 x44 ∧ mOk M43 ∧ (mK M43 a0 = 14 ∧ mK M43 (mR M43 a0 10) = 16 ∧ mK M43 (mR M43 (mR M43 a0 10) 4) = 15 ∧ Ci G y_MN_at d [vr (mR M43 (mR M43 a0 10) 4), vi x44] M43 (fun x50 M49 => i32 x50 ∧ mOk M49 ∧ ((((x39 = 1) ∨ (¬ (0 ≤ x50))) → (mK M49 a0 = 14 ∧ Cv G y_MM_lookAt d [vr a0, vi x44, vi l2] M49 (fun M57 => mOk M57 ∧ (h_MM_look_32 G d a0 l2 M57 Q)))) ∧ (¬ ((x39 = 1) ∨ (¬ (0 ≤ x50))) → (mK M49 a0 = 14 ∧ mK M49 (mR M49 a0 20) = 15 ∧ Cv G y_MN_add d [vr (mR M49 a0 20), vi x44] M49 (fun M63 => mOk M63 ∧ (mK M63 a0 = 14 ∧ mK M63 (mR M63 a0 20) = 15 ∧ Cv G y_MN_add d [vr (mR M63 a0 20), vi 1] M63 (fun M68 => mOk M68 ∧ (mK M68 a0 = 14 ∧ mK M68 (mR M68 a0 20) = 15 ∧ h_MM_look_126 G d a0 l2 x50 (mI M68 (mR M68 a0 20) 1) M68 Q))))))))))))))) :
    h_MM_look_32 G d a0 l2 M Q := by
  unfold h_MM_look_32
  obtain ⟨h17, h⟩ := h
  obtain ⟨h18, h⟩ := h
  refine wm_aload_n d_MM_look_32 rfl rfl ?_
  refine gf_MM_60 rfl d_MM_look_33 h17 ?_
  refine gf_MM_145 rfl d_MM_look_36 h18 ?_
  have hE0 : ((mI M (mR M a0 20) 1 ≤ 0) ∨ (¬ (mI M a0 16 = 0))) → mWm G y_MM_look (d + 1) 174 [vr a0, vd, vi l2, vd, vd, vd, vd] [] M (fun r9 M9 => ∃ x9, r9 = some (vi x9) ∧ Q x9 M9) := by
    intro q22
    have h := h.1 q22
    refine wm_aload_n d_MM_look_174 rfl rfl ?_
    refine gf_MM_267 rfl d_MM_look_175 h17 ?_
    refine wm_if_ne (tgt := 196) d_MM_look_178 rfl (hO _ _).1 (fun c25 => ?_) (fun c25 => ?_)
    · replace h := h.2 c25
      refine wm_iconst d_MM_look_196 ?_
      refine wm_ireturn d_MM_look_197 rfl (m_nb (by decide)) ?_
      exact ⟨_, rfl, h⟩
    · replace c25 := Classical.not_not.mp c25
      replace h := h.1 c25
      obtain ⟨h26, h⟩ := h
      refine wm_aload_n d_MM_look_181 rfl rfl ?_
      refine gf_MM_57 rfl d_MM_look_182 h17 ?_
      refine cf_MM_341 rfl d_MM_look_185 h26 (Nat.le_of_ble_eq_true rfl) (Ci.mono h (fun x28 M27 h => ?_))
      obtain ⟨h29, hOM27, h⟩ := h
      refine wm_iconst d_MM_look_188 ?_
      have hJ : ∀ v31 : Int, v31 = (if (x28 = 1) then 1 else 0) → mWm G y_MM_look (d + 1) 197 [vd, vd, vd, vd, vd, vd, vd] [vi v31] M27 (fun r9 M9 => ∃ x9, r9 = some (vi x9) ∧ Q x9 M9) := by
        intro v31 e33
        have h := h v31 e33
        have h34 : i32 v31 := by rw [e33]; (repeat' split) <;> first | exact ⟨by decide, by decide⟩ | exact ⟨by decide, by decide⟩
        have h35 : (v31 = 0 ∨ v31 = 1) := by rw [e33]; (repeat' split) <;> decide
        refine wm_ireturn d_MM_look_197 rfl (m_nb h35) ?_
        exact ⟨_, rfl, h⟩
      clear h
      refine wm_icmp_ne (tgt := 196) d_MM_look_189 rfl h29 ⟨by decide, by decide⟩ (fun c30 => ?_) (fun c30 => ?_)
      · refine wm_iconst d_MM_look_196 ?_
        refine wm_less (L' := [vd, vd, vd, vd, vd, vd, vd]) ⟨Or.inl rfl, Or.inl rfl, Or.inl rfl, Or.inl rfl, Or.inl rfl, Or.inl rfl, Or.inl rfl, trivial⟩ ?_
        exact hJ 0 (if_neg c30).symm
      · replace c30 := Classical.not_not.mp c30
        refine wm_iconst d_MM_look_192 ?_
        refine wm_goto (tgt := 197) d_MM_look_193 rfl ?_
        refine wm_less (L' := [vd, vd, vd, vd, vd, vd, vd]) ⟨Or.inl rfl, Or.inl rfl, Or.inl rfl, Or.inl rfl, Or.inl rfl, Or.inl rfl, Or.inl rfl, trivial⟩ ?_
        exact hJ 1 (if_pos c30).symm
  have hE1 : ¬ ((mI M (mR M a0 20) 1 ≤ 0) ∨ (¬ (mI M a0 16 = 0))) → mWm G y_MM_look (d + 1) 49 [vr a0, vd, vi l2, vd, vd, vd, vd] [] M (fun r9 M9 => ∃ x9, r9 = some (vi x9) ∧ Q x9 M9) := by
    intro q37
    have h := h.2 q37
    refine wm_aload_n d_MM_look_49 rfl rfl ?_
    refine gf_MM_60 rfl d_MM_look_50 h17 ?_
    refine cf_MM_232 rfl d_MM_look_53 h18 (Nat.le_of_ble_eq_true rfl) (Ci.mono h (fun x39 M38 h => ?_))
    obtain ⟨h40, hOM38, h⟩ := h
    obtain ⟨h41, h⟩ := h
    obtain ⟨h42, h⟩ := h
    refine wm_istore_n d_MM_look_56 rfl (by decide) (L' := [vr a0, vd, vi l2, vi x39, vd, vd, vd]) rfl ?_
    refine wm_aload_n d_MM_look_57 rfl rfl ?_
    refine gf_MM_60 rfl d_MM_look_58 h41 ?_
    refine cf_MM_232 rfl d_MM_look_61 h42 (Nat.le_of_ble_eq_true rfl) (Ci.mono h (fun x44 M43 h => ?_))
    obtain ⟨h45, hOM43, h⟩ := h
    obtain ⟨h46, h⟩ := h
    obtain ⟨h47, h⟩ := h
    obtain ⟨h48, h⟩ := h
    refine wm_istore d_MM_look_64 (by decide) (L' := [vr a0, vd, vi l2, vi x39, vi x44, vd, vd]) rfl ?_
    refine wm_aload_n d_MM_look_66 rfl rfl ?_
    refine gf_MM_38 rfl d_MM_look_67 h46 ?_
    refine gf_MM_287 rfl d_MM_look_70 h47 ?_
    refine wm_iload d_MM_look_73 rfl ?_
    refine cf_MM_155 rfl d_MM_look_75 h48 (Nat.le_of_ble_eq_true rfl) (Ci.mono h (fun x50 M49 h => ?_))
    obtain ⟨h51, hOM49, h⟩ := h
    refine wm_istore d_MM_look_78 (by decide) (L' := [vr a0, vd, vi l2, vi x39, vi x44, vi x50, vd]) rfl ?_
    refine wm_iload_n d_MM_look_80 rfl rfl ?_
    refine wm_iconst d_MM_look_81 ?_
    have hE0 : ((x39 = 1) ∨ (¬ (0 ≤ x50))) → mWm G y_MM_look (d + 1) 90 [vr a0, vd, vi l2, vi x39, vi x44, vi x50, vd] [] M49 (fun r9 M9 => ∃ x9, r9 = some (vi x9) ∧ Q x9 M9) := by
      intro q55
      have h := h.1 q55
      obtain ⟨h56, h⟩ := h
      refine wm_aload_n d_MM_look_90 rfl rfl ?_
      refine wm_iload d_MM_look_91 rfl ?_
      refine wm_iload_n d_MM_look_93 rfl rfl ?_
      refine cf_MM_334 rfl d_MM_look_94 h56 (Nat.le_of_ble_eq_true rfl) (Cv.mono h (fun M57 h => ?_))
      obtain ⟨hOM57, h⟩ := h
      refine wm_goto (tgt := 171) d_MM_look_97 rfl ?_
      refine wm_goto (tgt := 32) d_MM_look_171 rfl ?_
      refine wm_less (L' := [vr a0, vd, vi l2, vd, vd, vd, vd]) ⟨Or.inr rfl, Or.inl rfl, Or.inr rfl, Or.inl rfl, Or.inl rfl, Or.inl rfl, Or.inl rfl, trivial⟩ ?_
      exact h
    have hE1 : ¬ ((x39 = 1) ∨ (¬ (0 ≤ x50))) → mWm G y_MM_look (d + 1) 100 [vr a0, vd, vi l2, vi x39, vi x44, vi x50, vd] [] M49 (fun r9 M9 => ∃ x9, r9 = some (vi x9) ∧ Q x9 M9) := by
      intro q60
      have h := h.2 q60
      obtain ⟨h61, h⟩ := h
      obtain ⟨h62, h⟩ := h
      refine wm_aload_n d_MM_look_100 rfl rfl ?_
      refine gf_MM_60 rfl d_MM_look_101 h61 ?_
      refine wm_iload d_MM_look_104 rfl ?_
      refine cf_MM_152 rfl d_MM_look_106 h62 (Nat.le_of_ble_eq_true rfl) (Cv.mono h (fun M63 h => ?_))
      obtain ⟨hOM63, h⟩ := h
      obtain ⟨h66, h⟩ := h
      obtain ⟨h67, h⟩ := h
      refine wm_aload_n d_MM_look_109 rfl rfl ?_
      refine gf_MM_60 rfl d_MM_look_110 h66 ?_
      refine wm_iconst d_MM_look_113 ?_
      refine cf_MM_152 rfl d_MM_look_114 h67 (Nat.le_of_ble_eq_true rfl) (Cv.mono h (fun M68 h => ?_))
      obtain ⟨hOM68, h⟩ := h
      obtain ⟨h71, h⟩ := h
      obtain ⟨h72, h⟩ := h
      refine wm_aload_n d_MM_look_117 rfl rfl ?_
      refine gf_MM_60 rfl d_MM_look_118 h71 ?_
      refine gf_MM_145 rfl d_MM_look_121 h72 ?_
      refine wm_istore d_MM_look_124 (by decide) (L' := [vr a0, vd, vi l2, vi x39, vi x44, vi x50, vi (mI M68 (mR M68 a0 20) 1)]) rfl ?_
      refine wm_less (L' := [vr a0, vd, vi l2, vd, vd, vi x50, vi (mI M68 (mR M68 a0 20) 1)]) ⟨Or.inr rfl, Or.inl rfl, Or.inr rfl, Or.inl rfl, Or.inl rfl, Or.inr rfl, Or.inr rfl, trivial⟩ ?_
      exact h
    clear h
    refine wm_icmp_eq (tgt := 90) d_MM_look_82 rfl h40 ⟨by decide, by decide⟩ (fun c53 => ?_) (fun c53 => ?_)
    · exact hE0 (Or.inl c53)
    · refine wm_iload d_MM_look_85 rfl ?_
      refine wm_if_ge (tgt := 100) d_MM_look_87 rfl h51 (fun c52 => ?_) (fun c52 => ?_)
      · exact hE1 (fun z73 => Or.elim z73 c53 (fun z74 => z74 c52))
      · exact hE0 (Or.inr c52)
  clear h
  refine wm_if_le (tgt := 174) d_MM_look_39 rfl (hO _ _).1 (fun c20 => ?_) (fun c20 => ?_)
  · exact hE0 (Or.inl c20)
  · refine wm_aload_n d_MM_look_42 rfl rfl ?_
    refine gf_MM_267 rfl d_MM_look_43 h17 ?_
    refine wm_if_ne (tgt := 174) d_MM_look_46 rfl (hO _ _).1 (fun c19 => ?_) (fun c19 => ?_)
    · exact hE0 (Or.inr c19)
    · replace c19 := Classical.not_not.mp c19
      exact hE1 (fun z75 => Or.elim z75 c20 (fun z76 => z76 c19))
theorem k_MM_look_126 {G : mG} {d : Nat} {a0 : Nat} {l2 : Int} {l5 : Int} {l6 : Int} {M : mM} {Q : Int → mM → Prop} (hO : mOk M) (hi_l2 : i32 l2) (hi_l5 : i32 l5) (hi_l6 : i32 l6)
    (h : ((l5 < 0) → (mK M a0 = 14 ∧ Cv G y_MM_turn d [vr a0, vi l6] M (fun M80 => mOk M80 ∧ (h_MM_look_32 G d a0 l2 M80 Q)))) ∧ (¬ (l5 < 0) → (mK M a0 = 14 ∧ mK M (mR M a0 20) = 15 ∧ Cv G y_MN_add d [vr (mR M a0 20), vi l5] M (fun M85 => mOk M85 ∧ (mK M85 a0 = 14 ∧ mK M85 (mR M85 a0 20) = 15 ∧ Cv G y_MN_add d [vr (mR M85 a0 20), vi 0] M85 (fun M90 => mOk M90 ∧ (mK M90 a0 = 14 ∧ mK M90 (mR M90 a0 10) = 16 ∧ mK M90 (mR M90 (mR M90 a0 10) 5) = 15 ∧ Ci G y_MN_at d [vr (mR M90 (mR M90 a0 10) 5), vi l5] M90 (fun x97 M96 => i32 x97 ∧ mOk M96 ∧ (h_MM_look_126 G d a0 l2 x97 l6 M96 Q))))))))) :
    h_MM_look_126 G d a0 l2 l5 l6 M Q := by
  unfold h_MM_look_126
  refine wm_iload d_MM_look_126 rfl ?_
  refine wm_if_lt (tgt := 165) d_MM_look_128 rfl hi_l5 (fun c78 => ?_) (fun c78 => ?_)
  · replace h := h.1 c78
    obtain ⟨h79, h⟩ := h
    refine wm_aload_n d_MM_look_165 rfl rfl ?_
    refine wm_iload d_MM_look_166 rfl ?_
    refine cf_MM_338 rfl d_MM_look_168 h79 (Nat.le_of_ble_eq_true rfl) (Cv.mono h (fun M80 h => ?_))
    obtain ⟨hOM80, h⟩ := h
    refine wm_goto (tgt := 32) d_MM_look_171 rfl ?_
    refine wm_less (L' := [vr a0, vd, vi l2, vd, vd, vd, vd]) ⟨Or.inr rfl, Or.inl rfl, Or.inr rfl, Or.inl rfl, Or.inl rfl, Or.inl rfl, Or.inl rfl, trivial⟩ ?_
    exact h
  · replace h := h.2 c78
    obtain ⟨h83, h⟩ := h
    obtain ⟨h84, h⟩ := h
    refine wm_aload_n d_MM_look_131 rfl rfl ?_
    refine gf_MM_60 rfl d_MM_look_132 h83 ?_
    refine wm_iload d_MM_look_135 rfl ?_
    refine cf_MM_152 rfl d_MM_look_137 h84 (Nat.le_of_ble_eq_true rfl) (Cv.mono h (fun M85 h => ?_))
    obtain ⟨hOM85, h⟩ := h
    obtain ⟨h88, h⟩ := h
    obtain ⟨h89, h⟩ := h
    refine wm_aload_n d_MM_look_140 rfl rfl ?_
    refine gf_MM_60 rfl d_MM_look_141 h88 ?_
    refine wm_iconst d_MM_look_144 ?_
    refine cf_MM_152 rfl d_MM_look_145 h89 (Nat.le_of_ble_eq_true rfl) (Cv.mono h (fun M90 h => ?_))
    obtain ⟨hOM90, h⟩ := h
    obtain ⟨h93, h⟩ := h
    obtain ⟨h94, h⟩ := h
    obtain ⟨h95, h⟩ := h
    refine wm_aload_n d_MM_look_148 rfl rfl ?_
    refine gf_MM_38 rfl d_MM_look_149 h93 ?_
    refine gf_MM_290 rfl d_MM_look_152 h94 ?_
    refine wm_iload d_MM_look_155 rfl ?_
    refine cf_MM_155 rfl d_MM_look_157 h95 (Nat.le_of_ble_eq_true rfl) (Ci.mono h (fun x97 M96 h => ?_))
    obtain ⟨h98, hOM96, h⟩ := h
    refine wm_istore d_MM_look_160 (by decide) (L' := [vr a0, vd, vi l2, vd, vd, vi x97, vi l6]) rfl ?_
    refine wm_goto (tgt := 126) d_MM_look_162 rfl ?_
    exact h
theorem d_MM_turn_0 : decode y_MM_turn.2.1 0 = .ok (.iload_n 1, 1) := by decide +kernel
theorem d_MM_turn_1 : decode y_MM_turn.2.1 1 = .ok (.istore_n 2, 1) := by decide +kernel
theorem d_MM_turn_2 : decode y_MM_turn.2.1 2 = .ok (.aload_n 0, 1) := by decide +kernel
theorem d_MM_turn_3 : decode y_MM_turn.2.1 3 = .ok (.getfield 60, 3) := by decide +kernel
theorem d_MM_turn_6 : decode y_MM_turn.2.1 6 = .ok (.getfield 145, 3) := by decide +kernel
theorem d_MM_turn_9 : decode y_MM_turn.2.1 9 = .ok (.iconst 2, 1) := by decide +kernel
theorem d_MM_turn_10 : decode y_MM_turn.2.1 10 = .ok (.isub, 1) := by decide +kernel
theorem d_MM_turn_11 : decode y_MM_turn.2.1 11 = .ok (.istore_n 3, 1) := by decide +kernel
theorem d_MM_turn_12 : decode y_MM_turn.2.1 12 = .ok (.iload_n 2, 1) := by decide +kernel
theorem d_MM_turn_13 : decode y_MM_turn.2.1 13 = .ok (.iload_n 3, 1) := by decide +kernel
theorem d_MM_turn_14 : decode y_MM_turn.2.1 14 = .ok (.if_icmp .ge 52, 3) := by decide +kernel
theorem d_MM_turn_66 : decode y_MM_turn.2.1 66 = .ok (.return_, 1) := by decide +kernel
theorem d_MM_turn_17 : decode y_MM_turn.2.1 17 = .ok (.aload_n 0, 1) := by decide +kernel
theorem d_MM_turn_18 : decode y_MM_turn.2.1 18 = .ok (.getfield 60, 3) := by decide +kernel
theorem d_MM_turn_21 : decode y_MM_turn.2.1 21 = .ok (.iload_n 2, 1) := by decide +kernel
theorem d_MM_turn_22 : decode y_MM_turn.2.1 22 = .ok (.invokevirtual 155, 3) := by decide +kernel
theorem d_MM_turn_25 : decode y_MM_turn.2.1 25 = .ok (.istore 4, 2) := by decide +kernel
theorem d_MM_turn_27 : decode y_MM_turn.2.1 27 = .ok (.aload_n 0, 1) := by decide +kernel
theorem d_MM_turn_28 : decode y_MM_turn.2.1 28 = .ok (.getfield 60, 3) := by decide +kernel
theorem d_MM_turn_31 : decode y_MM_turn.2.1 31 = .ok (.getfield 293, 3) := by decide +kernel
theorem d_MM_turn_34 : decode y_MM_turn.2.1 34 = .ok (.iload_n 2, 1) := by decide +kernel
theorem d_MM_turn_35 : decode y_MM_turn.2.1 35 = .ok (.aload_n 0, 1) := by decide +kernel
theorem d_MM_turn_36 : decode y_MM_turn.2.1 36 = .ok (.getfield 60, 3) := by decide +kernel
theorem d_MM_turn_39 : decode y_MM_turn.2.1 39 = .ok (.iload_n 3, 1) := by decide +kernel
theorem d_MM_turn_40 : decode y_MM_turn.2.1 40 = .ok (.invokevirtual 155, 3) := by decide +kernel
theorem d_MM_turn_43 : decode y_MM_turn.2.1 43 = .ok (.iastore, 1) := by decide +kernel
theorem d_MM_turn_44 : decode y_MM_turn.2.1 44 = .ok (.aload_n 0, 1) := by decide +kernel
theorem d_MM_turn_45 : decode y_MM_turn.2.1 45 = .ok (.getfield 60, 3) := by decide +kernel
theorem d_MM_turn_48 : decode y_MM_turn.2.1 48 = .ok (.getfield 293, 3) := by decide +kernel
theorem d_MM_turn_51 : decode y_MM_turn.2.1 51 = .ok (.iload_n 3, 1) := by decide +kernel
theorem d_MM_turn_52 : decode y_MM_turn.2.1 52 = .ok (.iload 4, 2) := by decide +kernel
theorem d_MM_turn_54 : decode y_MM_turn.2.1 54 = .ok (.iastore, 1) := by decide +kernel
theorem d_MM_turn_55 : decode y_MM_turn.2.1 55 = .ok (.iload_n 2, 1) := by decide +kernel
theorem d_MM_turn_56 : decode y_MM_turn.2.1 56 = .ok (.iconst 2, 1) := by decide +kernel
theorem d_MM_turn_57 : decode y_MM_turn.2.1 57 = .ok (.iadd, 1) := by decide +kernel
theorem d_MM_turn_58 : decode y_MM_turn.2.1 58 = .ok (.istore_n 2, 1) := by decide +kernel
theorem d_MM_turn_59 : decode y_MM_turn.2.1 59 = .ok (.iload_n 3, 1) := by decide +kernel
theorem d_MM_turn_60 : decode y_MM_turn.2.1 60 = .ok (.iconst 2, 1) := by decide +kernel
theorem d_MM_turn_61 : decode y_MM_turn.2.1 61 = .ok (.isub, 1) := by decide +kernel
theorem d_MM_turn_62 : decode y_MM_turn.2.1 62 = .ok (.istore_n 3, 1) := by decide +kernel
theorem d_MM_turn_63 : decode y_MM_turn.2.1 63 = .ok (.goto (-51), 3) := by decide +kernel
def h_MM_turn_12 (G : mG) (d : Nat) (a0 : Nat) (l2 : Int) (l3 : Int) (M : mM) (Q : mM → Prop) : Prop := mWm G y_MM_turn (d + 1) 12 [vr a0, vd, vi l2, vi l3, vd] [] M (fun r9 M9 => r9 = none ∧ Q M9)
theorem k_MM_turn {G : mG} {d : Nat} {a0 : Nat} {l1 : Int} {M : mM} {Q : mM → Prop} (hO : mOk M) (hi_l1 : i32 l1)
    (h : mK M a0 = 14 ∧ mK M (mR M a0 20) = 15 ∧ h_MM_turn_12 G d a0 l1 ((mI M (mR M a0 20) 1) - 2) M Q) :
    Cv G y_MM_turn (d + 1) [vr a0, vi l1] M Q := by
  refine wm_open (y := y_MM_turn) rfl (Nat.le_of_ble_eq_true rfl) (L := [vr a0, vi l1, vd, vd, vd]) rfl ?_
  obtain ⟨h1, h⟩ := h
  obtain ⟨h2, h⟩ := h
  refine wm_iload_n d_MM_turn_0 rfl rfl ?_
  refine wm_istore_n d_MM_turn_1 rfl (by decide) (L' := [vr a0, vi l1, vi l1, vd, vd]) rfl ?_
  refine wm_aload_n d_MM_turn_2 rfl rfl ?_
  refine gf_MM_60 rfl d_MM_turn_3 h1 ?_
  refine gf_MM_145 rfl d_MM_turn_6 h2 ?_
  refine wm_iconst d_MM_turn_9 ?_
  refine wm_isub d_MM_turn_10 ?_
  refine wm_istore_n d_MM_turn_11 rfl (by decide) (L' := [vr a0, vi l1, vi l1, vi ((mI M (mR M a0 20) 1) - 2), vd]) rfl ?_
  refine wm_less (L' := [vr a0, vd, vi l1, vi ((mI M (mR M a0 20) 1) - 2), vd]) ⟨Or.inr rfl, Or.inl rfl, Or.inr rfl, Or.inr rfl, Or.inl rfl, trivial⟩ ?_
  exact h
theorem k_MM_turn_12 {G : mG} {d : Nat} {a0 : Nat} {l2 : Int} {l3 : Int} {M : mM} {Q : mM → Prop} (hO : mOk M) (hi_l2 : i32 l2) (hi_l3 : i32 l3)
    (h : ((l3 ≤ l2) → (Q M)) ∧ (¬ (l3 ≤ l2) → (mK M a0 = 14 ∧ mK M (mR M a0 20) = 15 ∧ Ci G y_MN_at d [vr (mR M a0 20), vi l2] M (fun x8 M7 => i32 x8 ∧ mOk M7 ∧ (mK M7 a0 = 14 ∧ mK M7 (mR M7 a0 20) = 15 ∧ Ci G y_MN_at d [vr (mR M7 a0 20), vi l3] M7 (fun x13 M12 => i32 x13 ∧ mOk M12 ∧ (mK M12 (mR M7 (mR M7 a0 20) 0) = 30 ∧ ((0 : Int) ≤ l2 ∧ l2 < (mN M12 (mR M7 (mR M7 a0 20) 0) : Int)) ∧ ∀ M17, M17 = mUI M12 (mR M7 (mR M7 a0 20) 0) (Int.toNat l2) x13 → mK M17 a0 = 14 ∧ mK M17 (mR M17 a0 20) = 15 ∧ mK M17 (mR M17 (mR M17 a0 20) 0) = 30 ∧ ((0 : Int) ≤ l3 ∧ l3 < (mN M17 (mR M17 (mR M17 a0 20) 0) : Int)) ∧ ∀ M23, M23 = mUI M17 (mR M17 (mR M17 a0 20) 0) (Int.toNat l3) x8 → h_MM_turn_12 G d a0 (l2 + 2) (l3 - 2) M23 Q))))))) :
    h_MM_turn_12 G d a0 l2 l3 M Q := by
  unfold h_MM_turn_12
  refine wm_iload_n d_MM_turn_12 rfl rfl ?_
  refine wm_iload_n d_MM_turn_13 rfl rfl ?_
  refine wm_icmp_ge (tgt := 66) d_MM_turn_14 rfl hi_l2 hi_l3 (fun c4 => ?_) (fun c4 => ?_)
  · replace h := h.1 c4
    refine wm_return d_MM_turn_66 rfl ?_
    exact ⟨rfl, h⟩
  · replace h := h.2 c4
    obtain ⟨h5, h⟩ := h
    obtain ⟨h6, h⟩ := h
    refine wm_aload_n d_MM_turn_17 rfl rfl ?_
    refine gf_MM_60 rfl d_MM_turn_18 h5 ?_
    refine wm_iload_n d_MM_turn_21 rfl rfl ?_
    refine cf_MM_155 rfl d_MM_turn_22 h6 (Nat.le_of_ble_eq_true rfl) (Ci.mono h (fun x8 M7 h => ?_))
    obtain ⟨h9, hOM7, h⟩ := h
    obtain ⟨h10, h⟩ := h
    obtain ⟨h11, h⟩ := h
    refine wm_istore d_MM_turn_25 (by decide) (L' := [vr a0, vd, vi l2, vi l3, vi x8]) rfl ?_
    refine wm_aload_n d_MM_turn_27 rfl rfl ?_
    refine gf_MM_60 rfl d_MM_turn_28 h10 ?_
    refine gf_MM_293 rfl d_MM_turn_31 h11 ?_
    refine wm_iload_n d_MM_turn_34 rfl rfl ?_
    refine wm_aload_n d_MM_turn_35 rfl rfl ?_
    refine gf_MM_60 rfl d_MM_turn_36 h10 ?_
    refine wm_iload_n d_MM_turn_39 rfl rfl ?_
    refine cf_MM_155 rfl d_MM_turn_40 h11 (Nat.le_of_ble_eq_true rfl) (Ci.mono h (fun x13 M12 h => ?_))
    obtain ⟨h14, hOM12, h⟩ := h
    obtain ⟨h15, h⟩ := h
    obtain ⟨h16, h⟩ := h
    obtain ⟨M17, e18⟩ : ∃ M17, M17 = mUI M12 (mR M7 (mR M7 a0 20) 0) (Int.toNat l2) x13 := ⟨_, rfl⟩
    replace h := h M17 e18
    obtain ⟨h19, h⟩ := h
    obtain ⟨h20, h⟩ := h
    obtain ⟨h21, h⟩ := h
    obtain ⟨h22, h⟩ := h
    obtain ⟨M23, e24⟩ : ∃ M23, M23 = mUI M17 (mR M17 (mR M17 a0 20) 0) (Int.toNat l3) x8 := ⟨_, rfl⟩
    replace h := h M23 e24
    have hOM17 : mOk M17 := by rw [e18]; exact mOk_UI hOM12 h14
    refine wm_iastE d_MM_turn_43 h15 h16 h14 e18 ?_
    refine wm_aload_n d_MM_turn_44 rfl rfl ?_
    refine gf_MM_60 rfl d_MM_turn_45 h19 ?_
    refine gf_MM_293 rfl d_MM_turn_48 h20 ?_
    refine wm_iload_n d_MM_turn_51 rfl rfl ?_
    refine wm_iload d_MM_turn_52 rfl ?_
    have hOM23 : mOk M23 := by rw [e24]; exact mOk_UI hOM17 h9
    refine wm_iastE d_MM_turn_54 h21 h22 h9 e24 ?_
    refine wm_iload_n d_MM_turn_55 rfl rfl ?_
    refine wm_iconst d_MM_turn_56 ?_
    refine wm_iadd d_MM_turn_57 ?_
    refine wm_istore_n d_MM_turn_58 rfl (by decide) (L' := [vr a0, vd, vi (l2 + 2), vi l3, vi x8]) rfl ?_
    refine wm_iload_n d_MM_turn_59 rfl rfl ?_
    refine wm_iconst d_MM_turn_60 ?_
    refine wm_isub d_MM_turn_61 ?_
    refine wm_istore_n d_MM_turn_62 rfl (by decide) (L' := [vr a0, vd, vi (l2 + 2), vi (l3 - 2), vi x8]) rfl ?_
    refine wm_goto (tgt := 12) d_MM_turn_63 rfl ?_
    refine wm_less (L' := [vr a0, vd, vi (l2 + 2), vi (l3 - 2), vd]) ⟨Or.inr rfl, Or.inl rfl, Or.inr rfl, Or.inr rfl, Or.inl rfl, trivial⟩ ?_
    exact h
theorem d_MM_parts_0 : decode y_MM_parts.2.1 0 = .ok (.iconst 0, 1) := by decide +kernel
theorem d_MM_parts_1 : decode y_MM_parts.2.1 1 = .ok (.istore_n 2, 1) := by decide +kernel
theorem d_MM_parts_2 : decode y_MM_parts.2.1 2 = .ok (.aload_n 0, 1) := by decide +kernel
theorem d_MM_parts_3 : decode y_MM_parts.2.1 3 = .ok (.getfield 38, 3) := by decide +kernel
theorem d_MM_parts_6 : decode y_MM_parts.2.1 6 = .ok (.getfield 287, 3) := by decide +kernel
theorem d_MM_parts_9 : decode y_MM_parts.2.1 9 = .ok (.iload_n 1, 1) := by decide +kernel
theorem d_MM_parts_10 : decode y_MM_parts.2.1 10 = .ok (.invokevirtual 155, 3) := by decide +kernel
theorem d_MM_parts_13 : decode y_MM_parts.2.1 13 = .ok (.istore_n 3, 1) := by decide +kernel
theorem d_MM_parts_14 : decode y_MM_parts.2.1 14 = .ok (.iload_n 3, 1) := by decide +kernel
theorem d_MM_parts_15 : decode y_MM_parts.2.1 15 = .ok (.ifCond .lt 21, 3) := by decide +kernel
theorem d_MM_parts_36 : decode y_MM_parts.2.1 36 = .ok (.iload_n 2, 1) := by decide +kernel
theorem d_MM_parts_37 : decode y_MM_parts.2.1 37 = .ok (.ireturn, 1) := by decide +kernel
theorem d_MM_parts_18 : decode y_MM_parts.2.1 18 = .ok (.iinc 2 1, 3) := by decide +kernel
theorem d_MM_parts_21 : decode y_MM_parts.2.1 21 = .ok (.aload_n 0, 1) := by decide +kernel
theorem d_MM_parts_22 : decode y_MM_parts.2.1 22 = .ok (.getfield 38, 3) := by decide +kernel
theorem d_MM_parts_25 : decode y_MM_parts.2.1 25 = .ok (.getfield 290, 3) := by decide +kernel
theorem d_MM_parts_28 : decode y_MM_parts.2.1 28 = .ok (.iload_n 3, 1) := by decide +kernel
theorem d_MM_parts_29 : decode y_MM_parts.2.1 29 = .ok (.invokevirtual 155, 3) := by decide +kernel
theorem d_MM_parts_32 : decode y_MM_parts.2.1 32 = .ok (.istore_n 3, 1) := by decide +kernel
theorem d_MM_parts_33 : decode y_MM_parts.2.1 33 = .ok (.goto (-19), 3) := by decide +kernel
def h_MM_parts_14 (G : mG) (d : Nat) (a0 : Nat) (l2 : Int) (l3 : Int) (M : mM) (Q : Int → mM → Prop) : Prop := mWm G y_MM_parts (d + 1) 14 [vr a0, vd, vi l2, vi l3] [] M (fun r9 M9 => ∃ x9, r9 = some (vi x9) ∧ Q x9 M9)
theorem k_MM_parts {G : mG} {d : Nat} {a0 : Nat} {l1 : Int} {M : mM} {Q : Int → mM → Prop} (hO : mOk M) (hi_l1 : i32 l1)
    (h : mK M a0 = 14 ∧ mK M (mR M a0 10) = 16 ∧ mK M (mR M (mR M a0 10) 4) = 15 ∧ Ci G y_MN_at d [vr (mR M (mR M a0 10) 4), vi l1] M (fun x5 M4 => i32 x5 ∧ mOk M4 ∧ (h_MM_parts_14 G d a0 0 x5 M4 Q))) :
    Ci G y_MM_parts (d + 1) [vr a0, vi l1] M Q := by
  refine wm_open (y := y_MM_parts) rfl (Nat.le_of_ble_eq_true rfl) (L := [vr a0, vi l1, vd, vd]) rfl ?_
  obtain ⟨h1, h⟩ := h
  obtain ⟨h2, h⟩ := h
  obtain ⟨h3, h⟩ := h
  refine wm_iconst d_MM_parts_0 ?_
  refine wm_istore_n d_MM_parts_1 rfl (by decide) (L' := [vr a0, vi l1, vi 0, vd]) rfl ?_
  refine wm_aload_n d_MM_parts_2 rfl rfl ?_
  refine gf_MM_38 rfl d_MM_parts_3 h1 ?_
  refine gf_MM_287 rfl d_MM_parts_6 h2 ?_
  refine wm_iload_n d_MM_parts_9 rfl rfl ?_
  refine cf_MM_155 rfl d_MM_parts_10 h3 (Nat.le_of_ble_eq_true rfl) (Ci.mono h (fun x5 M4 h => ?_))
  obtain ⟨h6, hOM4, h⟩ := h
  refine wm_istore_n d_MM_parts_13 rfl (by decide) (L' := [vr a0, vi l1, vi 0, vi x5]) rfl ?_
  refine wm_less (L' := [vr a0, vd, vi 0, vi x5]) ⟨Or.inr rfl, Or.inl rfl, Or.inr rfl, Or.inr rfl, trivial⟩ ?_
  exact h
theorem k_MM_parts_14 {G : mG} {d : Nat} {a0 : Nat} {l2 : Int} {l3 : Int} {M : mM} {Q : Int → mM → Prop} (hO : mOk M) (hi_l2 : i32 l2) (hi_l3 : i32 l3)
    (h : ((l3 < 0) → (Q l2 M)) ∧ (¬ (l3 < 0) → (mK M a0 = 14 ∧ mK M (mR M a0 10) = 16 ∧ mK M (mR M (mR M a0 10) 5) = 15 ∧ Ci G y_MN_at d [vr (mR M (mR M a0 10) 5), vi l3] M (fun x13 M12 => i32 x13 ∧ mOk M12 ∧ (h_MM_parts_14 G d a0 (l2 + 1) x13 M12 Q))))) :
    h_MM_parts_14 G d a0 l2 l3 M Q := by
  unfold h_MM_parts_14
  refine wm_iload_n d_MM_parts_14 rfl rfl ?_
  refine wm_if_lt (tgt := 36) d_MM_parts_15 rfl hi_l3 (fun c8 => ?_) (fun c8 => ?_)
  · replace h := h.1 c8
    refine wm_iload_n d_MM_parts_36 rfl rfl ?_
    refine wm_ireturn d_MM_parts_37 rfl rfl ?_
    exact ⟨_, rfl, h⟩
  · replace h := h.2 c8
    obtain ⟨h9, h⟩ := h
    obtain ⟨h10, h⟩ := h
    obtain ⟨h11, h⟩ := h
    refine wm_iinc d_MM_parts_18 (by decide) rfl (L' := [vr a0, vd, vi (l2 + 1), vi l3]) rfl ?_
    refine wm_aload_n d_MM_parts_21 rfl rfl ?_
    refine gf_MM_38 rfl d_MM_parts_22 h9 ?_
    refine gf_MM_290 rfl d_MM_parts_25 h10 ?_
    refine wm_iload_n d_MM_parts_28 rfl rfl ?_
    refine cf_MM_155 rfl d_MM_parts_29 h11 (Nat.le_of_ble_eq_true rfl) (Ci.mono h (fun x13 M12 h => ?_))
    obtain ⟨h14, hOM12, h⟩ := h
    refine wm_istore_n d_MM_parts_32 rfl (by decide) (L' := [vr a0, vd, vi (l2 + 1), vi x13]) rfl ?_
    refine wm_goto (tgt := 14) d_MM_parts_33 rfl ?_
    exact h
