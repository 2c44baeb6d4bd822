theorem d_So_rankAndChoose_0 : decode y_So_rankAndChoose.2.1 0 = .ok (.aload_n 0, 1) := by decide +kernel
theorem d_So_rankAndChoose_1 : decode y_So_rankAndChoose.2.1 1 = .ok (.aload_n 1, 1) := by decide +kernel
theorem d_So_rankAndChoose_2 : decode y_So_rankAndChoose.2.1 2 = .ok (.invokevirtual 232, 3) := by decide +kernel
theorem d_So_rankAndChoose_5 : decode y_So_rankAndChoose.2.1 5 = .ok (.pop, 1) := by decide +kernel
theorem d_So_rankAndChoose_6 : decode y_So_rankAndChoose.2.1 6 = .ok (.aload_n 0, 1) := by decide +kernel
theorem d_So_rankAndChoose_7 : decode y_So_rankAndChoose.2.1 7 = .ok (.aload_n 1, 1) := by decide +kernel
theorem d_So_rankAndChoose_8 : decode y_So_rankAndChoose.2.1 8 = .ok (.aload_n 0, 1) := by decide +kernel
theorem d_So_rankAndChoose_9 : decode y_So_rankAndChoose.2.1 9 = .ok (.getfield 18, 3) := by decide +kernel
theorem d_So_rankAndChoose_12 : decode y_So_rankAndChoose.2.1 12 = .ok (.invokevirtual 235, 3) := by decide +kernel
theorem d_So_rankAndChoose_15 : decode y_So_rankAndChoose.2.1 15 = .ok (.iconst 0, 1) := by decide +kernel
theorem d_So_rankAndChoose_16 : decode y_So_rankAndChoose.2.1 16 = .ok (.istore_n 2, 1) := by decide +kernel
theorem d_So_rankAndChoose_17 : decode y_So_rankAndChoose.2.1 17 = .ok (.iload_n 2, 1) := by decide +kernel
theorem d_So_rankAndChoose_18 : decode y_So_rankAndChoose.2.1 18 = .ok (.aload_n 0, 1) := by decide +kernel
theorem d_So_rankAndChoose_19 : decode y_So_rankAndChoose.2.1 19 = .ok (.getfield 64, 3) := by decide +kernel
theorem d_So_rankAndChoose_22 : decode y_So_rankAndChoose.2.1 22 = .ok (.getfield 107, 3) := by decide +kernel
theorem d_So_rankAndChoose_25 : decode y_So_rankAndChoose.2.1 25 = .ok (.if_icmp .ge 178, 3) := by decide +kernel
theorem d_So_rankAndChoose_203 : decode y_So_rankAndChoose.2.1 203 = .ok (.return_, 1) := by decide +kernel
theorem d_So_rankAndChoose_28 : decode y_So_rankAndChoose.2.1 28 = .ok (.aload_n 0, 1) := by decide +kernel
theorem d_So_rankAndChoose_29 : decode y_So_rankAndChoose.2.1 29 = .ok (.getfield 64, 3) := by decide +kernel
theorem d_So_rankAndChoose_32 : decode y_So_rankAndChoose.2.1 32 = .ok (.getfield 116, 3) := by decide +kernel
theorem d_So_rankAndChoose_35 : decode y_So_rankAndChoose.2.1 35 = .ok (.iload_n 2, 1) := by decide +kernel
theorem d_So_rankAndChoose_36 : decode y_So_rankAndChoose.2.1 36 = .ok (.iaload, 1) := by decide +kernel
theorem d_So_rankAndChoose_37 : decode y_So_rankAndChoose.2.1 37 = .ok (.istore_n 3, 1) := by decide +kernel
theorem d_So_rankAndChoose_38 : decode y_So_rankAndChoose.2.1 38 = .ok (.aload_n 0, 1) := by decide +kernel
theorem d_So_rankAndChoose_39 : decode y_So_rankAndChoose.2.1 39 = .ok (.getfield 22, 3) := by decide +kernel
theorem d_So_rankAndChoose_42 : decode y_So_rankAndChoose.2.1 42 = .ok (.iload_n 2, 1) := by decide +kernel
theorem d_So_rankAndChoose_43 : decode y_So_rankAndChoose.2.1 43 = .ok (.iload_n 3, 1) := by decide +kernel
theorem d_So_rankAndChoose_44 : decode y_So_rankAndChoose.2.1 44 = .ok (.aload_n 0, 1) := by decide +kernel
theorem d_So_rankAndChoose_45 : decode y_So_rankAndChoose.2.1 45 = .ok (.getfield 64, 3) := by decide +kernel
theorem d_So_rankAndChoose_48 : decode y_So_rankAndChoose.2.1 48 = .ok (.getfield 116, 3) := by decide +kernel
theorem d_So_rankAndChoose_51 : decode y_So_rankAndChoose.2.1 51 = .ok (.iload_n 2, 1) := by decide +kernel
theorem d_So_rankAndChoose_52 : decode y_So_rankAndChoose.2.1 52 = .ok (.iconst 1, 1) := by decide +kernel
theorem d_So_rankAndChoose_53 : decode y_So_rankAndChoose.2.1 53 = .ok (.iadd, 1) := by decide +kernel
theorem d_So_rankAndChoose_54 : decode y_So_rankAndChoose.2.1 54 = .ok (.iaload, 1) := by decide +kernel
theorem d_So_rankAndChoose_55 : decode y_So_rankAndChoose.2.1 55 = .ok (.if_icmp .ne 7, 3) := by decide +kernel
theorem d_So_rankAndChoose_58 : decode y_So_rankAndChoose.2.1 58 = .ok (.iconst (-1), 1) := by decide +kernel
theorem d_So_rankAndChoose_59 : decode y_So_rankAndChoose.2.1 59 = .ok (.goto 4, 3) := by decide +kernel
theorem d_So_rankAndChoose_62 : decode y_So_rankAndChoose.2.1 62 = .ok (.iconst 0, 1) := by decide +kernel
theorem d_So_rankAndChoose_63 : decode y_So_rankAndChoose.2.1 63 = .ok (.iastore, 1) := by decide +kernel
theorem d_So_rankAndChoose_64 : decode y_So_rankAndChoose.2.1 64 = .ok (.aload_n 0, 1) := by decide +kernel
theorem d_So_rankAndChoose_65 : decode y_So_rankAndChoose.2.1 65 = .ok (.getfield 64, 3) := by decide +kernel
theorem d_So_rankAndChoose_68 : decode y_So_rankAndChoose.2.1 68 = .ok (.getfield 113, 3) := by decide +kernel
theorem d_So_rankAndChoose_71 : decode y_So_rankAndChoose.2.1 71 = .ok (.iload_n 2, 1) := by decide +kernel
theorem d_So_rankAndChoose_72 : decode y_So_rankAndChoose.2.1 72 = .ok (.iaload, 1) := by decide +kernel
theorem d_So_rankAndChoose_73 : decode y_So_rankAndChoose.2.1 73 = .ok (.iconst 1, 1) := by decide +kernel
theorem d_So_rankAndChoose_74 : decode y_So_rankAndChoose.2.1 74 = .ok (.if_icmp .ne 7, 3) := by decide +kernel
theorem d_So_rankAndChoose_77 : decode y_So_rankAndChoose.2.1 77 = .ok (.iconst 1, 1) := by decide +kernel
theorem d_So_rankAndChoose_78 : decode y_So_rankAndChoose.2.1 78 = .ok (.goto 4, 3) := by decide +kernel
theorem d_So_rankAndChoose_81 : decode y_So_rankAndChoose.2.1 81 = .ok (.iconst 0, 1) := by decide +kernel
theorem d_So_rankAndChoose_82 : decode y_So_rankAndChoose.2.1 82 = .ok (.istore 4, 2) := by decide +kernel
theorem d_So_rankAndChoose_84 : decode y_So_rankAndChoose.2.1 84 = .ok (.aload_n 0, 1) := by decide +kernel
theorem d_So_rankAndChoose_85 : decode y_So_rankAndChoose.2.1 85 = .ok (.getfield 22, 3) := by decide +kernel
theorem d_So_rankAndChoose_88 : decode y_So_rankAndChoose.2.1 88 = .ok (.iload_n 2, 1) := by decide +kernel
theorem d_So_rankAndChoose_89 : decode y_So_rankAndChoose.2.1 89 = .ok (.iaload, 1) := by decide +kernel
theorem d_So_rankAndChoose_90 : decode y_So_rankAndChoose.2.1 90 = .ok (.iconst (-1), 1) := by decide +kernel
theorem d_So_rankAndChoose_91 : decode y_So_rankAndChoose.2.1 91 = .ok (.if_icmp .eq 18, 3) := by decide +kernel
theorem d_So_rankAndChoose_109 : decode y_So_rankAndChoose.2.1 109 = .ok (.iconst 1, 1) := by decide +kernel
theorem d_So_rankAndChoose_110 : decode y_So_rankAndChoose.2.1 110 = .ok (.goto 4, 3) := by decide +kernel
theorem d_So_rankAndChoose_94 : decode y_So_rankAndChoose.2.1 94 = .ok (.iload 4, 2) := by decide +kernel
theorem d_So_rankAndChoose_96 : decode y_So_rankAndChoose.2.1 96 = .ok (.ifCond .eq 17, 3) := by decide +kernel
theorem d_So_rankAndChoose_113 : decode y_So_rankAndChoose.2.1 113 = .ok (.iconst 0, 1) := by decide +kernel
theorem d_So_rankAndChoose_99 : decode y_So_rankAndChoose.2.1 99 = .ok (.aload_n 0, 1) := by decide +kernel
theorem d_So_rankAndChoose_100 : decode y_So_rankAndChoose.2.1 100 = .ok (.getfield 18, 3) := by decide +kernel
theorem d_So_rankAndChoose_103 : decode y_So_rankAndChoose.2.1 103 = .ok (.iload_n 2, 1) := by decide +kernel
theorem d_So_rankAndChoose_104 : decode y_So_rankAndChoose.2.1 104 = .ok (.iaload, 1) := by decide +kernel
theorem d_So_rankAndChoose_105 : decode y_So_rankAndChoose.2.1 105 = .ok (.iconst (-1), 1) := by decide +kernel
theorem d_So_rankAndChoose_106 : decode y_So_rankAndChoose.2.1 106 = .ok (.if_icmp .ne 7, 3) := by decide +kernel
theorem d_So_rankAndChoose_114 : decode y_So_rankAndChoose.2.1 114 = .ok (.istore 5, 2) := by decide +kernel
theorem d_So_rankAndChoose_116 : decode y_So_rankAndChoose.2.1 116 = .ok (.iload_n 3, 1) := by decide +kernel
theorem d_So_rankAndChoose_117 : decode y_So_rankAndChoose.2.1 117 = .ok (.istore 6, 2) := by decide +kernel
theorem d_So_rankAndChoose_119 : decode y_So_rankAndChoose.2.1 119 = .ok (.iload 6, 2) := by decide +kernel
theorem d_So_rankAndChoose_121 : decode y_So_rankAndChoose.2.1 121 = .ok (.aload_n 0, 1) := by decide +kernel
theorem d_So_rankAndChoose_122 : decode y_So_rankAndChoose.2.1 122 = .ok (.getfield 64, 3) := by decide +kernel
theorem d_So_rankAndChoose_125 : decode y_So_rankAndChoose.2.1 125 = .ok (.getfield 116, 3) := by decide +kernel
theorem d_So_rankAndChoose_128 : decode y_So_rankAndChoose.2.1 128 = .ok (.iload_n 2, 1) := by decide +kernel
theorem d_So_rankAndChoose_129 : decode y_So_rankAndChoose.2.1 129 = .ok (.iconst 1, 1) := by decide +kernel
theorem d_So_rankAndChoose_130 : decode y_So_rankAndChoose.2.1 130 = .ok (.iadd, 1) := by decide +kernel
theorem d_So_rankAndChoose_131 : decode y_So_rankAndChoose.2.1 131 = .ok (.iaload, 1) := by decide +kernel
theorem d_So_rankAndChoose_132 : decode y_So_rankAndChoose.2.1 132 = .ok (.if_icmp .ge 65, 3) := by decide +kernel
theorem d_So_rankAndChoose_135 : decode y_So_rankAndChoose.2.1 135 = .ok (.iload 5, 2) := by decide +kernel
theorem d_So_rankAndChoose_137 : decode y_So_rankAndChoose.2.1 137 = .ok (.ifCond .ne 60, 3) := by decide +kernel
theorem d_So_rankAndChoose_140 : decode y_So_rankAndChoose.2.1 140 = .ok (.aload_n 0, 1) := by decide +kernel
theorem d_So_rankAndChoose_141 : decode y_So_rankAndChoose.2.1 141 = .ok (.getfield 50, 3) := by decide +kernel
theorem d_So_rankAndChoose_144 : decode y_So_rankAndChoose.2.1 144 = .ok (.iload 6, 2) := by decide +kernel
theorem d_So_rankAndChoose_146 : decode y_So_rankAndChoose.2.1 146 = .ok (.baload, 1) := by decide +kernel
theorem d_So_rankAndChoose_147 : decode y_So_rankAndChoose.2.1 147 = .ok (.ifCond .eq 31, 3) := by decide +kernel
theorem d_So_rankAndChoose_150 : decode y_So_rankAndChoose.2.1 150 = .ok (.iload 4, 2) := by decide +kernel
theorem d_So_rankAndChoose_152 : decode y_So_rankAndChoose.2.1 152 = .ok (.ifCond .eq 22, 3) := by decide +kernel
theorem d_So_rankAndChoose_155 : decode y_So_rankAndChoose.2.1 155 = .ok (.aload_n 0, 1) := by decide +kernel
theorem d_So_rankAndChoose_156 : decode y_So_rankAndChoose.2.1 156 = .ok (.iload 6, 2) := by decide +kernel
theorem d_So_rankAndChoose_158 : decode y_So_rankAndChoose.2.1 158 = .ok (.aload_n 0, 1) := by decide +kernel
theorem d_So_rankAndChoose_159 : decode y_So_rankAndChoose.2.1 159 = .ok (.getfield 18, 3) := by decide +kernel
theorem d_So_rankAndChoose_162 : decode y_So_rankAndChoose.2.1 162 = .ok (.iload_n 2, 1) := by decide +kernel
theorem d_So_rankAndChoose_163 : decode y_So_rankAndChoose.2.1 163 = .ok (.iaload, 1) := by decide +kernel
theorem d_So_rankAndChoose_164 : decode y_So_rankAndChoose.2.1 164 = .ok (.aload_n 0, 1) := by decide +kernel
theorem d_So_rankAndChoose_165 : decode y_So_rankAndChoose.2.1 165 = .ok (.getfield 18, 3) := by decide +kernel
theorem d_So_rankAndChoose_197 : decode y_So_rankAndChoose.2.1 197 = .ok (.iinc 2 1, 3) := by decide +kernel
theorem d_So_rankAndChoose_200 : decode y_So_rankAndChoose.2.1 200 = .ok (.goto (-183), 3) := by decide +kernel
theorem d_So_rankAndChoose_178 : decode y_So_rankAndChoose.2.1 178 = .ok (.iconst 0, 1) := by decide +kernel
theorem d_So_rankAndChoose_174 : decode y_So_rankAndChoose.2.1 174 = .ok (.iconst 1, 1) := by decide +kernel
theorem d_So_rankAndChoose_175 : decode y_So_rankAndChoose.2.1 175 = .ok (.goto 4, 3) := by decide +kernel
theorem d_So_rankAndChoose_168 : decode y_So_rankAndChoose.2.1 168 = .ok (.invokevirtual 239, 3) := by decide +kernel
theorem d_So_rankAndChoose_171 : decode y_So_rankAndChoose.2.1 171 = .ok (.ifCond .eq 7, 3) := by decide +kernel
theorem d_So_rankAndChoose_179 : decode y_So_rankAndChoose.2.1 179 = .ok (.istore 5, 2) := by decide +kernel
theorem d_So_rankAndChoose_181 : decode y_So_rankAndChoose.2.1 181 = .ok (.aload_n 0, 1) := by decide +kernel
theorem d_So_rankAndChoose_182 : decode y_So_rankAndChoose.2.1 182 = .ok (.getfield 22, 3) := by decide +kernel
theorem d_So_rankAndChoose_185 : decode y_So_rankAndChoose.2.1 185 = .ok (.iload_n 2, 1) := by decide +kernel
theorem d_So_rankAndChoose_186 : decode y_So_rankAndChoose.2.1 186 = .ok (.iload 6, 2) := by decide +kernel
theorem d_So_rankAndChoose_188 : decode y_So_rankAndChoose.2.1 188 = .ok (.iload_n 3, 1) := by decide +kernel
theorem d_So_rankAndChoose_189 : decode y_So_rankAndChoose.2.1 189 = .ok (.isub, 1) := by decide +kernel
theorem d_So_rankAndChoose_190 : decode y_So_rankAndChoose.2.1 190 = .ok (.iastore, 1) := by decide +kernel
theorem d_So_rankAndChoose_191 : decode y_So_rankAndChoose.2.1 191 = .ok (.iinc 6 1, 3) := by decide +kernel
theorem d_So_rankAndChoose_194 : decode y_So_rankAndChoose.2.1 194 = .ok (.goto (-75), 3) := by decide +kernel
def h_So_rankAndChoose_17 (G : mG) (d : Nat) (a0 : Nat) (l2 : Int) (M : mM) (Q : mM → Prop) : Prop := mWm G y_So_rankAndChoose (d + 1) 17 [vr a0, vd, vi l2, vd, vd, vd, vd] [] M (fun r9 M9 => r9 = none ∧ Q M9)
def h_So_rankAndChoose_119 (G : mG) (d : Nat) (a0 : Nat) (l2 : Int) (l3 : Int) (l4 : Int) (l5 : Int) (l6 : Int) (M : mM) (Q : mM → Prop) : Prop := mWm G y_So_rankAndChoose (d + 1) 119 [vr a0, vd, vi l2, vi l3, vi l4, vi l5, vi l6] [] M (fun r9 M9 => r9 = none ∧ Q M9)
def h_So_rankAndChoose_179 (G : mG) (d : Nat) (a0 : Nat) (l2 : Int) (l3 : Int) (l4 : Int) (l6 : Int) (k0 : Int) (M : mM) (Q : mM → Prop) : Prop := mWm G y_So_rankAndChoose (d + 1) 179 [vr a0, vd, vi l2, vi l3, vi l4, vd, vi l6] [vi k0] M (fun r9 M9 => r9 = none ∧ Q M9)
theorem k_So_rankAndChoose {G : mG} {d : Nat} {a0 : Nat} {a1 : Nat} {M : mM} {Q : mM → Prop} (hO : mOk M)
    (h : mK M a0 = 8 ∧ Ci G y_So_attain d [vr a0, vr a1] M (fun x3 M2 => i32 x3 ∧ mOk M2 ∧ (mK M2 a0 = 8 ∧ Cv G y_So_fillRanks d [vr a0, vr a1, vr (mR M2 a0 1)] M2 (fun M6 => mOk M6 ∧ (h_So_rankAndChoose_17 G d a0 0 M6 Q))))) :
    Cv G y_So_rankAndChoose (d + 1) [vr a0, vr a1] M Q := by
  refine wm_open (y := y_So_rankAndChoose) rfl (Nat.le_of_ble_eq_true rfl) (L := [vr a0, vr a1, vd, vd, vd, vd, vd]) rfl ?_
  obtain ⟨h1, h⟩ := h
  refine wm_aload_n d_So_rankAndChoose_0 rfl rfl ?_
  refine wm_aload_n d_So_rankAndChoose_1 rfl rfl ?_
  refine cf_So_232 rfl d_So_rankAndChoose_2 h1 (Nat.le_of_ble_eq_true rfl) (Ci.mono h (fun x3 M2 h => ?_))
  obtain ⟨h4, hOM2, h⟩ := h
  obtain ⟨h5, h⟩ := h
  refine wm_pop d_So_rankAndChoose_5 rfl ?_
  refine wm_aload_n d_So_rankAndChoose_6 rfl rfl ?_
  refine wm_aload_n d_So_rankAndChoose_7 rfl rfl ?_
  refine wm_aload_n d_So_rankAndChoose_8 rfl rfl ?_
  refine gf_So_18 rfl d_So_rankAndChoose_9 h5 ?_
  refine cf_So_235 rfl d_So_rankAndChoose_12 h5 (Nat.le_of_ble_eq_true rfl) (Cv.mono h (fun M6 h => ?_))
  obtain ⟨hOM6, h⟩ := h
  refine wm_iconst d_So_rankAndChoose_15 ?_
  refine wm_istore_n d_So_rankAndChoose_16 rfl (by decide) (L' := [vr a0, vr a1, vi 0, vd, vd, vd, vd]) rfl ?_
  refine wm_less (L' := [vr a0, vd, vi 0, vd, vd, vd, vd]) ⟨Or.inr rfl, Or.inl rfl, Or.inr rfl, Or.inl rfl, Or.inl rfl, Or.inl rfl, Or.inl rfl, trivial⟩ ?_
  exact h
theorem k_So_rankAndChoose_17 {G : mG} {d : Nat} {a0 : Nat} {l2 : Int} {M : mM} {Q : mM → Prop} (hO : mOk M) (hi_l2 : i32 l2)
    (h : mK M a0 = 8 ∧ mK M (mR M a0 3) = 7 ∧ ((mI M (mR M a0 3) 0 ≤ l2) → (Q M)) ∧ (¬ (mI M (mR M a0 3) 0 ≤ l2) → (mK M (mR M (mR M a0 3) 4) = 30 ∧ ((0 : Int) ≤ l2 ∧ l2 < (mN M (mR M (mR M a0 3) 4) : Int)) ∧ ((0 : Int) ≤ l2 + 1 ∧ l2 + 1 < (mN M (mR M (mR M a0 3) 4) : Int)) ∧ ∀ v20 : Int, v20 = (if (mI M (mR M (mR M a0 3) 4) (Int.toNat l2) = mI M (mR M (mR M a0 3) 4) (Int.toNat (l2 + 1))) then (-1) else 0) → mK M (mR M a0 2) = 30 ∧ ((0 : Int) ≤ l2 ∧ l2 < (mN M (mR M a0 2) : Int)) ∧ ∀ M26, M26 = mUI M (mR M a0 2) (Int.toNat l2) v20 → mK M26 (mR M26 a0 3) = 7 ∧ mK M26 (mR M26 (mR M26 a0 3) 2) = 30 ∧ ((0 : Int) ≤ l2 ∧ l2 < (mN M26 (mR M26 (mR M26 a0 3) 2) : Int)) ∧ ∀ v32 : Int, v32 = (if (mI M26 (mR M26 (mR M26 a0 3) 2) (Int.toNat l2) = 1) then 1 else 0) → mK M26 (mR M26 a0 2) = 30 ∧ ((0 : Int) ≤ l2 ∧ l2 < (mN M26 (mR M26 a0 2) : Int)) ∧ (¬ (mI M26 (mR M26 a0 2) (Int.toNat l2) = (-1)) → (¬ (v32 = 0) → (mK M26 (mR M26 a0 1) = 30 ∧ ((0 : Int) ≤ l2 ∧ l2 < (mN M26 (mR M26 a0 1) : Int))))) ∧ ∀ v44 : Int, v44 = (if ((mI M26 (mR M26 a0 2) (Int.toNat l2) = (-1)) ∨ ((¬ (v32 = 0)) ∧ (mI M26 (mR M26 a0 1) (Int.toNat l2) = (-1)))) then 1 else 0) → h_So_rankAndChoose_119 G d a0 l2 (mI M (mR M (mR M a0 3) 4) (Int.toNat l2)) v32 v44 (mI M (mR M (mR M a0 3) 4) (Int.toNat l2)) M26 Q))) :
    h_So_rankAndChoose_17 G d a0 l2 M Q := by
  unfold h_So_rankAndChoose_17
  obtain ⟨h9, h⟩ := h
  obtain ⟨h10, h⟩ := h
  refine wm_iload_n d_So_rankAndChoose_17 rfl rfl ?_
  refine wm_aload_n d_So_rankAndChoose_18 rfl rfl ?_
  refine gf_So_64 rfl d_So_rankAndChoose_19 h9 ?_
  refine gf_So_107 rfl d_So_rankAndChoose_22 h10 ?_
  refine wm_icmp_ge (tgt := 203) d_So_rankAndChoose_25 rfl hi_l2 (hO _ _).1 (fun c15 => ?_) (fun c15 => ?_)
  · replace h := h.1 c15
    refine wm_return d_So_rankAndChoose_203 rfl ?_
    exact ⟨rfl, h⟩
  · replace h := h.2 c15
    obtain ⟨h16, h⟩ := h
    obtain ⟨h17, h⟩ := h
    obtain ⟨h18, h⟩ := h
    refine wm_aload_n d_So_rankAndChoose_28 rfl rfl ?_
    refine gf_So_64 rfl d_So_rankAndChoose_29 h9 ?_
    refine gf_So_116 rfl d_So_rankAndChoose_32 h10 ?_
    refine wm_iload_n d_So_rankAndChoose_35 rfl rfl ?_
    refine wm_iald d_So_rankAndChoose_36 h16 h17 ?_
    refine wm_istore_n d_So_rankAndChoose_37 rfl (by decide) (L' := [vr a0, vd, vi l2, vi (mI M (mR M (mR M a0 3) 4) (Int.toNat l2)), vd, vd, vd]) rfl ?_
    refine wm_aload_n d_So_rankAndChoose_38 rfl rfl ?_
    refine gf_So_22 rfl d_So_rankAndChoose_39 h9 ?_
    refine wm_iload_n d_So_rankAndChoose_42 rfl rfl ?_
    refine wm_iload_n d_So_rankAndChoose_43 rfl rfl ?_
    refine wm_aload_n d_So_rankAndChoose_44 rfl rfl ?_
    refine gf_So_64 rfl d_So_rankAndChoose_45 h9 ?_
    refine gf_So_116 rfl d_So_rankAndChoose_48 h10 ?_
    refine wm_iload_n d_So_rankAndChoose_51 rfl rfl ?_
    refine wm_iconst d_So_rankAndChoose_52 ?_
    refine wm_iadd d_So_rankAndChoose_53 ?_
    refine wm_iald d_So_rankAndChoose_54 h16 h18 ?_
    have hJ : ∀ v20 : Int, v20 = (if (mI M (mR M (mR M a0 3) 4) (Int.toNat l2) = mI M (mR M (mR M a0 3) 4) (Int.toNat (l2 + 1))) then (-1) else 0) → mWm G y_So_rankAndChoose (d + 1) 63 [vr a0, vd, vi l2, vi (mI M (mR M (mR M a0 3) 4) (Int.toNat l2)), vd, vd, vd] [vi v20, vi l2, vr (mR M a0 2)] M (fun r9 M9 => r9 = none ∧ Q M9) := by
      intro v20 e22
      have h := h v20 e22
      have h23 : i32 v20 := by rw [e22]; (repeat' split) <;> first | exact ⟨by decide, by decide⟩ | exact ⟨by decide, by decide⟩
      obtain ⟨h24, h⟩ := h
      obtain ⟨h25, h⟩ := h
      obtain ⟨M26, e27⟩ : ∃ M26, M26 = mUI M (mR M a0 2) (Int.toNat l2) v20 := ⟨_, rfl⟩
      replace h := h M26 e27
      obtain ⟨h28, h⟩ := h
      obtain ⟨h29, h⟩ := h
      obtain ⟨h30, h⟩ := h
      have hOM26 : mOk M26 := by rw [e27]; exact mOk_UI hO h23
      refine wm_iastE d_So_rankAndChoose_63 h24 h25 h23 e27 ?_
      refine wm_aload_n d_So_rankAndChoose_64 rfl rfl ?_
      refine gf_So_64 rfl d_So_rankAndChoose_65 (by rw [e27]; exact h9) ?_
      refine gf_So_113 rfl d_So_rankAndChoose_68 h28 ?_
      refine wm_iload_n d_So_rankAndChoose_71 rfl rfl ?_
      refine wm_iald d_So_rankAndChoose_72 h29 h30 ?_
      refine wm_iconst d_So_rankAndChoose_73 ?_
      have hJ : ∀ v32 : Int, v32 = (if (mI M26 (mR M26 (mR M26 a0 3) 2) (Int.toNat l2) = 1) then 1 else 0) → mWm G y_So_rankAndChoose (d + 1) 82 [vr a0, vd, vi l2, vi (mI M (mR M (mR M a0 3) 4) (Int.toNat l2)), vd, vd, vd] [vi v32] M26 (fun r9 M9 => r9 = none ∧ Q M9) := by
        intro v32 e34
        have h := h v32 e34
        have h35 : i32 v32 := by rw [e34]; (repeat' split) <;> first | exact ⟨by decide, by decide⟩ | exact ⟨by decide, by decide⟩
        have h36 : (v32 = 0 ∨ v32 = 1) := by rw [e34]; (repeat' split) <;> decide
        obtain ⟨h37, h⟩ := h
        obtain ⟨h38, h⟩ := h
        refine wm_istore d_So_rankAndChoose_82 (by decide) (L' := [vr a0, vd, vi l2, vi (mI M (mR M (mR M a0 3) 4) (Int.toNat l2)), vi v32, vd, vd]) rfl ?_
        refine wm_aload_n d_So_rankAndChoose_84 rfl rfl ?_
        refine gf_So_22 rfl d_So_rankAndChoose_85 (by rw [e27]; exact h9) ?_
        refine wm_iload_n d_So_rankAndChoose_88 rfl rfl ?_
        refine wm_iald d_So_rankAndChoose_89 h37 h38 ?_
        refine wm_iconst d_So_rankAndChoose_90 ?_
        obtain ⟨s45, h⟩ := h
        have hJ : ∀ v44 : Int, v44 = (if ((mI M26 (mR M26 a0 2) (Int.toNat l2) = (-1)) ∨ ((¬ (v32 = 0)) ∧ (mI M26 (mR M26 a0 1) (Int.toNat l2) = (-1)))) then 1 else 0) → mWm G y_So_rankAndChoose (d + 1) 114 [vr a0, vd, vi l2, vi (mI M (mR M (mR M a0 3) 4) (Int.toNat l2)), vi v32, vd, vd] [vi v44] M26 (fun r9 M9 => r9 = none ∧ Q M9) := by
          intro v44 e46
          have h := h v44 e46
          have h47 : i32 v44 := by rw [e46]; (repeat' split) <;> first | exact ⟨by decide, by decide⟩ | exact ⟨by decide, by decide⟩
          have h48 : (v44 = 0 ∨ v44 = 1) := by rw [e46]; (repeat' split) <;> decide
          refine wm_istore d_So_rankAndChoose_114 (by decide) (L' := [vr a0, vd, vi l2, vi (mI M (mR M (mR M a0 3) 4) (Int.toNat l2)), vi v32, vi v44, vd]) rfl ?_
          refine wm_iload_n d_So_rankAndChoose_116 rfl rfl ?_
          refine wm_istore d_So_rankAndChoose_117 (by decide) (L' := [vr a0, vd, vi l2, vi (mI M (mR M (mR M a0 3) 4) (Int.toNat l2)), vi v32, vi v44, vi (mI M (mR M (mR M a0 3) 4) (Int.toNat l2))]) rfl ?_
          exact h
        clear h
        have s49 := s45
        refine wm_icmp_eq (tgt := 109) d_So_rankAndChoose_91 rfl (hOM26 _ _).1 ⟨by decide, by decide⟩ (fun c39 => ?_) (fun c39 => ?_)
        · refine wm_iconst d_So_rankAndChoose_109 ?_
          refine wm_goto (tgt := 114) d_So_rankAndChoose_110 rfl ?_
          exact hJ 1 (if_pos (Or.inl c39)).symm
        · have s49 := s49 c39
          have s50 := s49
          refine wm_iload d_So_rankAndChoose_94 rfl ?_
          refine wm_if_eq (tgt := 113) d_So_rankAndChoose_96 rfl h35 (fun c40 => ?_) (fun c40 => ?_)
          · refine wm_iconst d_So_rankAndChoose_113 ?_
            exact hJ 0 (if_neg (fun z51 => Or.elim z51 c39 (fun z52 => z52.1 c40))).symm
          · have s50 := s50 c40
            obtain ⟨h41, h42⟩ := s50
            refine wm_aload_n d_So_rankAndChoose_99 rfl rfl ?_
            refine gf_So_18 rfl d_So_rankAndChoose_100 (by rw [e27]; exact h9) ?_
            refine wm_iload_n d_So_rankAndChoose_103 rfl rfl ?_
            refine wm_iald d_So_rankAndChoose_104 h41 h42 ?_
            refine wm_iconst d_So_rankAndChoose_105 ?_
            refine wm_icmp_ne (tgt := 113) d_So_rankAndChoose_106 rfl (hOM26 _ _).1 ⟨by decide, by decide⟩ (fun c43 => ?_) (fun c43 => ?_)
            · refine wm_iconst d_So_rankAndChoose_113 ?_
              exact hJ 0 (if_neg (fun z53 => Or.elim z53 c39 (fun z54 => c43 z54.2))).symm
            · replace c43 := Classical.not_not.mp c43
              refine wm_iconst d_So_rankAndChoose_109 ?_
              refine wm_goto (tgt := 114) d_So_rankAndChoose_110 rfl ?_
              exact hJ 1 (if_pos (Or.inr ⟨c40, c43⟩)).symm
      clear h
      refine wm_icmp_ne (tgt := 81) d_So_rankAndChoose_74 rfl (hOM26 _ _).1 ⟨by decide, by decide⟩ (fun c31 => ?_) (fun c31 => ?_)
      · refine wm_iconst d_So_rankAndChoose_81 ?_
        exact hJ 0 (if_neg c31).symm
      · replace c31 := Classical.not_not.mp c31
        refine wm_iconst d_So_rankAndChoose_77 ?_
        refine wm_goto (tgt := 82) d_So_rankAndChoose_78 rfl ?_
        exact hJ 1 (if_pos c31).symm
    clear h
    refine wm_icmp_ne (tgt := 62) d_So_rankAndChoose_55 rfl (hO _ _).1 (hO _ _).1 (fun c19 => ?_) (fun c19 => ?_)
    · refine wm_iconst d_So_rankAndChoose_62 ?_
      exact hJ 0 (if_neg c19).symm
    · replace c19 := Classical.not_not.mp c19
      refine wm_iconst d_So_rankAndChoose_58 ?_
      refine wm_goto (tgt := 63) d_So_rankAndChoose_59 rfl ?_
      exact hJ (-1) (if_pos c19).symm
theorem k_So_rankAndChoose_119 {G : mG} {d : Nat} {a0 : Nat} {l2 : Int} {l3 : Int} {l4 : Int} {l5 : Int} {l6 : Int} {M : mM} {Q : mM → Prop} (hO : mOk M) (hi_l2 : i32 l2) (hi_l3 : i32 l3) (hi_l4 : i32 l4) (hi_l5 : i32 l5) (hi_l6 : i32 l6)
    (h : mK M a0 = 8 ∧ mK M (mR M a0 3) = 7 ∧ mK M (mR M (mR M a0 3) 4) = 30 ∧ ((0 : Int) ≤ l2 + 1 ∧ l2 + 1 < (mN M (mR M (mR M a0 3) 4) : Int)) ∧ (((mI M (mR M (mR M a0 3) 4) (Int.toNat (l2 + 1)) ≤ l6) ∨ (¬ (l5 = 0))) → (h_So_rankAndChoose_17 G d a0 (l2 + 1) M Q)) ∧ (¬ ((mI M (mR M (mR M a0 3) 4) (Int.toNat (l2 + 1)) ≤ l6) ∨ (¬ (l5 = 0))) → (mK M (mR M a0 15) = 31 ∧ ((0 : Int) ≤ l6 ∧ l6 < (mN M (mR M a0 15) : Int)) ∧ ((mI M (mR M a0 15) (Int.toNat l6) = 0) → (h_So_rankAndChoose_179 G d a0 l2 l3 l4 l6 0 M Q)) ∧ (¬ (mI M (mR M a0 15) (Int.toNat l6) = 0) → (((l4 = 0) → (h_So_rankAndChoose_179 G d a0 l2 l3 l4 l6 1 M Q)) ∧ (¬ (l4 = 0) → (mK M (mR M a0 1) = 30 ∧ ((0 : Int) ≤ l2 ∧ l2 < (mN M (mR M a0 1) : Int)) ∧ Ci G y_So_leadsBelow d [vr a0, vi l6, vi (mI M (mR M a0 1) (Int.toNat l2)), vr (mR M a0 1)] M (fun x81 M80 => i32 x81 ∧ mOk M80 ∧ (((x81 = 0) → (h_So_rankAndChoose_179 G d a0 l2 l3 l4 l6 0 M80 Q)) ∧ (¬ (x81 = 0) → (h_So_rankAndChoose_179 G d a0 l2 l3 l4 l6 1 M80 Q))))))))))) :
    h_So_rankAndChoose_119 G d a0 l2 l3 l4 l5 l6 M Q := by
  unfold h_So_rankAndChoose_119
  obtain ⟨h58, h⟩ := h
  obtain ⟨h59, h⟩ := h
  obtain ⟨h60, h⟩ := h
  obtain ⟨h61, h⟩ := h
  refine wm_iload d_So_rankAndChoose_119 rfl ?_
  refine wm_aload_n d_So_rankAndChoose_121 rfl rfl ?_
  refine gf_So_64 rfl d_So_rankAndChoose_122 h58 ?_
  refine gf_So_116 rfl d_So_rankAndChoose_125 h59 ?_
  refine wm_iload_n d_So_rankAndChoose_128 rfl rfl ?_
  refine wm_iconst d_So_rankAndChoose_129 ?_
  refine wm_iadd d_So_rankAndChoose_130 ?_
  refine wm_iald d_So_rankAndChoose_131 h60 h61 ?_
  have hE0 : ((mI M (mR M (mR M a0 3) 4) (Int.toNat (l2 + 1)) ≤ l6) ∨ (¬ (l5 = 0))) → mWm G y_So_rankAndChoose (d + 1) 197 [vr a0, vd, vi l2, vi l3, vi l4, vi l5, vi l6] [] M (fun r9 M9 => r9 = none ∧ Q M9) := by
    intro q69
    have h := h.1 q69
    refine wm_iinc d_So_rankAndChoose_197 (by decide) rfl (L' := [vr a0, vd, vi (l2 + 1), vi l3, vi l4, vi l5, vi l6]) rfl ?_
    refine wm_goto (tgt := 17) d_So_rankAndChoose_200 rfl ?_
    refine wm_less (L' := [vr a0, vd, vi (l2 + 1), vd, vd, vd, vd]) ⟨Or.inr rfl, Or.inl rfl, Or.inr rfl, Or.inl rfl, Or.inl rfl, Or.inl rfl, Or.inl rfl, trivial⟩ ?_
    exact h
  have hE1 : ¬ ((mI M (mR M (mR M a0 3) 4) (Int.toNat (l2 + 1)) ≤ l6) ∨ (¬ (l5 = 0))) → mWm G y_So_rankAndChoose (d + 1) 140 [vr a0, vd, vi l2, vi l3, vi l4, vi l5, vi l6] [] M (fun r9 M9 => r9 = none ∧ Q M9) := by
    intro q70
    have h := h.2 q70
    obtain ⟨h71, h⟩ := h
    obtain ⟨h72, h⟩ := h
    refine wm_aload_n d_So_rankAndChoose_140 rfl rfl ?_
    refine gf_So_50 rfl d_So_rankAndChoose_141 h58 ?_
    refine wm_iload d_So_rankAndChoose_144 rfl ?_
    refine wm_zald d_So_rankAndChoose_146 h71 h72 ?_
    refine wm_if_eq (tgt := 178) d_So_rankAndChoose_147 rfl (hO _ _).1 (fun c75 => ?_) (fun c75 => ?_)
    · replace h := h.1 c75
      refine wm_iconst d_So_rankAndChoose_178 ?_
      refine wm_less (L' := [vr a0, vd, vi l2, vi l3, vi l4, vd, vi l6]) ⟨Or.inr rfl, Or.inl rfl, Or.inr rfl, Or.inr rfl, Or.inr rfl, Or.inl rfl, Or.inr rfl, trivial⟩ ?_
      exact h
    · replace h := h.2 c75
      refine wm_iload d_So_rankAndChoose_150 rfl ?_
      refine wm_if_eq (tgt := 174) d_So_rankAndChoose_152 rfl hi_l4 (fun c77 => ?_) (fun c77 => ?_)
      · replace h := h.1 c77
        refine wm_iconst d_So_rankAndChoose_174 ?_
        refine wm_goto (tgt := 179) d_So_rankAndChoose_175 rfl ?_
        refine wm_less (L' := [vr a0, vd, vi l2, vi l3, vi l4, vd, vi l6]) ⟨Or.inr rfl, Or.inl rfl, Or.inr rfl, Or.inr rfl, Or.inr rfl, Or.inl rfl, Or.inr rfl, trivial⟩ ?_
        exact h
      · replace h := h.2 c77
        obtain ⟨h78, h⟩ := h
        obtain ⟨h79, h⟩ := h
        refine wm_aload_n d_So_rankAndChoose_155 rfl rfl ?_
        refine wm_iload d_So_rankAndChoose_156 rfl ?_
        refine wm_aload_n d_So_rankAndChoose_158 rfl rfl ?_
        refine gf_So_18 rfl d_So_rankAndChoose_159 h58 ?_
        refine wm_iload_n d_So_rankAndChoose_162 rfl rfl ?_
        refine wm_iald d_So_rankAndChoose_163 h78 h79 ?_
        refine wm_aload_n d_So_rankAndChoose_164 rfl rfl ?_
        refine gf_So_18 rfl d_So_rankAndChoose_165 h58 ?_
        refine cf_So_239 rfl d_So_rankAndChoose_168 h58 (Nat.le_of_ble_eq_true rfl) (Ci.mono h (fun x81 M80 h => ?_))
        obtain ⟨h82, hOM80, h⟩ := h
        refine wm_if_eq (tgt := 178) d_So_rankAndChoose_171 rfl h82 (fun c84 => ?_) (fun c84 => ?_)
        · replace h := h.1 c84
          refine wm_iconst d_So_rankAndChoose_178 ?_
          refine wm_less (L' := [vr a0, vd, vi l2, vi l3, vi l4, vd, vi l6]) ⟨Or.inr rfl, Or.inl rfl, Or.inr rfl, Or.inr rfl, Or.inr rfl, Or.inl rfl, Or.inr rfl, trivial⟩ ?_
          exact h
        · replace h := h.2 c84
          refine wm_iconst d_So_rankAndChoose_174 ?_
          refine wm_goto (tgt := 179) d_So_rankAndChoose_175 rfl ?_
          refine wm_less (L' := [vr a0, vd, vi l2, vi l3, vi l4, vd, vi l6]) ⟨Or.inr rfl, Or.inl rfl, Or.inr rfl, Or.inr rfl, Or.inr rfl, Or.inl rfl, Or.inr rfl, trivial⟩ ?_
          exact h
  clear h
  refine wm_icmp_ge (tgt := 197) d_So_rankAndChoose_132 rfl hi_l6 (hO _ _).1 (fun c67 => ?_) (fun c67 => ?_)
  · exact hE0 (Or.inl c67)
  · refine wm_iload d_So_rankAndChoose_135 rfl ?_
    refine wm_if_ne (tgt := 197) d_So_rankAndChoose_137 rfl hi_l5 (fun c66 => ?_) (fun c66 => ?_)
    · exact hE0 (Or.inr c66)
    · replace c66 := Classical.not_not.mp c66
      exact hE1 (fun z85 => Or.elim z85 c67 (fun z86 => z86 c66))
theorem k_So_rankAndChoose_179 {G : mG} {d : Nat} {a0 : Nat} {l2 : Int} {l3 : Int} {l4 : Int} {l6 : Int} {k0 : Int} {M : mM} {Q : mM → Prop} (hO : mOk M) (hi_l2 : i32 l2) (hi_l3 : i32 l3) (hi_l4 : i32 l4) (hi_l6 : i32 l6) (hi_k0 : i32 k0)
    (h : mK M a0 = 8 ∧ mK M (mR M a0 2) = 30 ∧ ((0 : Int) ≤ l2 ∧ l2 < (mN M (mR M a0 2) : Int)) ∧ i32 (l6 - l3) ∧ ∀ M91, M91 = mUI M (mR M a0 2) (Int.toNat l2) (l6 - l3) → h_So_rankAndChoose_119 G d a0 l2 l3 l4 k0 (l6 + 1) M91 Q) :
    h_So_rankAndChoose_179 G d a0 l2 l3 l4 l6 k0 M Q := by
  unfold h_So_rankAndChoose_179
  obtain ⟨h87, h⟩ := h
  obtain ⟨h88, h⟩ := h
  obtain ⟨h89, h⟩ := h
  obtain ⟨h90, h⟩ := h
  obtain ⟨M91, e92⟩ : ∃ M91, M91 = mUI M (mR M a0 2) (Int.toNat l2) (l6 - l3) := ⟨_, rfl⟩
  replace h := h M91 e92
  refine wm_istore d_So_rankAndChoose_179 (by decide) (L' := [vr a0, vd, vi l2, vi l3, vi l4, vi k0, vi l6]) rfl ?_
  refine wm_aload_n d_So_rankAndChoose_181 rfl rfl ?_
  refine gf_So_22 rfl d_So_rankAndChoose_182 h87 ?_
  refine wm_iload_n d_So_rankAndChoose_185 rfl rfl ?_
  refine wm_iload d_So_rankAndChoose_186 rfl ?_
  refine wm_iload_n d_So_rankAndChoose_188 rfl rfl ?_
  refine wm_isub d_So_rankAndChoose_189 ?_
  have hOM91 : mOk M91 := by rw [e92]; exact mOk_UI hO h90
  refine wm_iastE d_So_rankAndChoose_190 h88 h89 h90 e92 ?_
  refine wm_iinc d_So_rankAndChoose_191 (by decide) rfl (L' := [vr a0, vd, vi l2, vi l3, vi l4, vi k0, vi (l6 + 1)]) rfl ?_
  refine wm_goto (tgt := 119) d_So_rankAndChoose_194 rfl ?_
  exact h
theorem d_So_attain_0 : decode y_So_attain.2.1 0 = .ok (.iconst 1, 1) := by decide +kernel
theorem d_So_attain_1 : decode y_So_attain.2.1 1 = .ok (.istore_n 2, 1) := by decide +kernel
theorem d_So_attain_2 : decode y_So_attain.2.1 2 = .ok (.iconst 0, 1) := by decide +kernel
theorem d_So_attain_3 : decode y_So_attain.2.1 3 = .ok (.istore_n 3, 1) := by decide +kernel
theorem d_So_attain_4 : decode y_So_attain.2.1 4 = .ok (.iload_n 3, 1) := by decide +kernel
theorem d_So_attain_5 : decode y_So_attain.2.1 5 = .ok (.aload_n 0, 1) := by decide +kernel
theorem d_So_attain_6 : decode y_So_attain.2.1 6 = .ok (.getfield 64, 3) := by decide +kernel
theorem d_So_attain_9 : decode y_So_attain.2.1 9 = .ok (.getfield 107, 3) := by decide +kernel
theorem d_So_attain_12 : decode y_So_attain.2.1 12 = .ok (.if_icmp .ge 239, 3) := by decide +kernel
theorem d_So_attain_251 : decode y_So_attain.2.1 251 = .ok (.iload_n 2, 1) := by decide +kernel
theorem d_So_attain_252 : decode y_So_attain.2.1 252 = .ok (.ireturn, 1) := by decide +kernel
theorem d_So_attain_15 : decode y_So_attain.2.1 15 = .ok (.aload_n 1, 1) := by decide +kernel
theorem d_So_attain_16 : decode y_So_attain.2.1 16 = .ok (.getfield 169, 3) := by decide +kernel
theorem d_So_attain_19 : decode y_So_attain.2.1 19 = .ok (.iload_n 3, 1) := by decide +kernel
theorem d_So_attain_20 : decode y_So_attain.2.1 20 = .ok (.aaload, 1) := by decide +kernel
theorem d_So_attain_21 : decode y_So_attain.2.1 21 = .ok (.astore 4, 2) := by decide +kernel
theorem d_So_attain_23 : decode y_So_attain.2.1 23 = .ok (.aload_n 0, 1) := by decide +kernel
theorem d_So_attain_24 : decode y_So_attain.2.1 24 = .ok (.getfield 64, 3) := by decide +kernel
theorem d_So_attain_27 : decode y_So_attain.2.1 27 = .ok (.getfield 116, 3) := by decide +kernel
theorem d_So_attain_30 : decode y_So_attain.2.1 30 = .ok (.iload_n 3, 1) := by decide +kernel
theorem d_So_attain_31 : decode y_So_attain.2.1 31 = .ok (.iaload, 1) := by decide +kernel
theorem d_So_attain_32 : decode y_So_attain.2.1 32 = .ok (.aload_n 0, 1) := by decide +kernel
theorem d_So_attain_33 : decode y_So_attain.2.1 33 = .ok (.getfield 64, 3) := by decide +kernel
theorem d_So_attain_36 : decode y_So_attain.2.1 36 = .ok (.getfield 116, 3) := by decide +kernel
theorem d_So_attain_39 : decode y_So_attain.2.1 39 = .ok (.iload_n 3, 1) := by decide +kernel
theorem d_So_attain_40 : decode y_So_attain.2.1 40 = .ok (.iconst 1, 1) := by decide +kernel
theorem d_So_attain_41 : decode y_So_attain.2.1 41 = .ok (.iadd, 1) := by decide +kernel
theorem d_So_attain_42 : decode y_So_attain.2.1 42 = .ok (.iaload, 1) := by decide +kernel
theorem d_So_attain_43 : decode y_So_attain.2.1 43 = .ok (.if_icmp .ne 7, 3) := by decide +kernel
theorem d_So_attain_46 : decode y_So_attain.2.1 46 = .ok (.iconst 1, 1) := by decide +kernel
theorem d_So_attain_47 : decode y_So_attain.2.1 47 = .ok (.goto 4, 3) := by decide +kernel
theorem d_So_attain_50 : decode y_So_attain.2.1 50 = .ok (.iconst 0, 1) := by decide +kernel
theorem d_So_attain_51 : decode y_So_attain.2.1 51 = .ok (.istore 5, 2) := by decide +kernel
theorem d_So_attain_53 : decode y_So_attain.2.1 53 = .ok (.iload 5, 2) := by decide +kernel
theorem d_So_attain_55 : decode y_So_attain.2.1 55 = .ok (.ifCond .eq 52, 3) := by decide +kernel
theorem d_So_attain_58 : decode y_So_attain.2.1 58 = .ok (.aload_n 0, 1) := by decide +kernel
theorem d_So_attain_59 : decode y_So_attain.2.1 59 = .ok (.getfield 60, 3) := by decide +kernel
theorem d_So_attain_62 : decode y_So_attain.2.1 62 = .ok (.aload_n 0, 1) := by decide +kernel
theorem d_So_attain_63 : decode y_So_attain.2.1 63 = .ok (.getfield 64, 3) := by decide +kernel
theorem d_So_attain_66 : decode y_So_attain.2.1 66 = .ok (.getfield 113, 3) := by decide +kernel
theorem d_So_attain_69 : decode y_So_attain.2.1 69 = .ok (.iload_n 3, 1) := by decide +kernel
theorem d_So_attain_70 : decode y_So_attain.2.1 70 = .ok (.iaload, 1) := by decide +kernel
theorem d_So_attain_71 : decode y_So_attain.2.1 71 = .ok (.iconst 3, 1) := by decide +kernel
theorem d_So_attain_72 : decode y_So_attain.2.1 72 = .ok (.if_icmp .ne 7, 3) := by decide +kernel
theorem d_So_attain_75 : decode y_So_attain.2.1 75 = .ok (.iconst 1, 1) := by decide +kernel
theorem d_So_attain_76 : decode y_So_attain.2.1 76 = .ok (.goto 4, 3) := by decide +kernel
theorem d_So_attain_79 : decode y_So_attain.2.1 79 = .ok (.iconst 0, 1) := by decide +kernel
theorem d_So_attain_80 : decode y_So_attain.2.1 80 = .ok (.invokevirtual 243, 3) := by decide +kernel
theorem d_So_attain_83 : decode y_So_attain.2.1 83 = .ok (.iload_n 2, 1) := by decide +kernel
theorem d_So_attain_84 : decode y_So_attain.2.1 84 = .ok (.aload_n 0, 1) := by decide +kernel
theorem d_So_attain_85 : decode y_So_attain.2.1 85 = .ok (.getfield 12, 3) := by decide +kernel
theorem d_So_attain_88 : decode y_So_attain.2.1 88 = .ok (.aload_n 0, 1) := by decide +kernel
theorem d_So_attain_89 : decode y_So_attain.2.1 89 = .ok (.getfield 60, 3) := by decide +kernel
theorem d_So_attain_92 : decode y_So_attain.2.1 92 = .ok (.aload 4, 2) := by decide +kernel
theorem d_So_attain_94 : decode y_So_attain.2.1 94 = .ok (.invokevirtual 225, 3) := by decide +kernel
theorem d_So_attain_97 : decode y_So_attain.2.1 97 = .ok (.ifCond .ne 7, 3) := by decide +kernel
theorem d_So_attain_100 : decode y_So_attain.2.1 100 = .ok (.iconst 1, 1) := by decide +kernel
theorem d_So_attain_101 : decode y_So_attain.2.1 101 = .ok (.goto 4, 3) := by decide +kernel
theorem d_So_attain_104 : decode y_So_attain.2.1 104 = .ok (.iconst 0, 1) := by decide +kernel
theorem d_So_attain_105 : decode y_So_attain.2.1 105 = .ok (.iand, 1) := by decide +kernel
theorem d_So_attain_106 : decode y_So_attain.2.1 106 = .ok (.istore_n 2, 1) := by decide +kernel
theorem d_So_attain_107 : decode y_So_attain.2.1 107 = .ok (.aload_n 0, 1) := by decide +kernel
theorem d_So_attain_108 : decode y_So_attain.2.1 108 = .ok (.getfield 64, 3) := by decide +kernel
theorem d_So_attain_111 : decode y_So_attain.2.1 111 = .ok (.getfield 113, 3) := by decide +kernel
theorem d_So_attain_114 : decode y_So_attain.2.1 114 = .ok (.iload_n 3, 1) := by decide +kernel
theorem d_So_attain_115 : decode y_So_attain.2.1 115 = .ok (.iaload, 1) := by decide +kernel
theorem d_So_attain_116 : decode y_So_attain.2.1 116 = .ok (.iconst 1, 1) := by decide +kernel
theorem d_So_attain_117 : decode y_So_attain.2.1 117 = .ok (.if_icmp .ne 7, 3) := by decide +kernel
theorem d_So_attain_120 : decode y_So_attain.2.1 120 = .ok (.iconst 1, 1) := by decide +kernel
theorem d_So_attain_121 : decode y_So_attain.2.1 121 = .ok (.goto 4, 3) := by decide +kernel
theorem d_So_attain_124 : decode y_So_attain.2.1 124 = .ok (.iconst (-1), 1) := by decide +kernel
theorem d_So_attain_125 : decode y_So_attain.2.1 125 = .ok (.istore 6, 2) := by decide +kernel
theorem d_So_attain_127 : decode y_So_attain.2.1 127 = .ok (.aload_n 0, 1) := by decide +kernel
theorem d_So_attain_128 : decode y_So_attain.2.1 128 = .ok (.getfield 64, 3) := by decide +kernel
theorem d_So_attain_131 : decode y_So_attain.2.1 131 = .ok (.getfield 116, 3) := by decide +kernel
theorem d_So_attain_134 : decode y_So_attain.2.1 134 = .ok (.iload_n 3, 1) := by decide +kernel
theorem d_So_attain_135 : decode y_So_attain.2.1 135 = .ok (.iaload, 1) := by decide +kernel
theorem d_So_attain_136 : decode y_So_attain.2.1 136 = .ok (.istore 7, 2) := by decide +kernel
theorem d_So_attain_138 : decode y_So_attain.2.1 138 = .ok (.iload 7, 2) := by decide +kernel
theorem d_So_attain_140 : decode y_So_attain.2.1 140 = .ok (.aload_n 0, 1) := by decide +kernel
theorem d_So_attain_141 : decode y_So_attain.2.1 141 = .ok (.getfield 64, 3) := by decide +kernel
theorem d_So_attain_144 : decode y_So_attain.2.1 144 = .ok (.getfield 116, 3) := by decide +kernel
theorem d_So_attain_147 : decode y_So_attain.2.1 147 = .ok (.iload_n 3, 1) := by decide +kernel
theorem d_So_attain_148 : decode y_So_attain.2.1 148 = .ok (.iconst 1, 1) := by decide +kernel
theorem d_So_attain_149 : decode y_So_attain.2.1 149 = .ok (.iadd, 1) := by decide +kernel
theorem d_So_attain_150 : decode y_So_attain.2.1 150 = .ok (.iaload, 1) := by decide +kernel
theorem d_So_attain_151 : decode y_So_attain.2.1 151 = .ok (.if_icmp .ge 89, 3) := by decide +kernel
theorem d_So_attain_240 : decode y_So_attain.2.1 240 = .ok (.iload_n 2, 1) := by decide +kernel
theorem d_So_attain_241 : decode y_So_attain.2.1 241 = .ok (.iload 5, 2) := by decide +kernel
theorem d_So_attain_243 : decode y_So_attain.2.1 243 = .ok (.iand, 1) := by decide +kernel
theorem d_So_attain_244 : decode y_So_attain.2.1 244 = .ok (.istore_n 2, 1) := by decide +kernel
theorem d_So_attain_245 : decode y_So_attain.2.1 245 = .ok (.iinc 3 1, 3) := by decide +kernel
theorem d_So_attain_248 : decode y_So_attain.2.1 248 = .ok (.goto (-244), 3) := by decide +kernel
theorem d_So_attain_154 : decode y_So_attain.2.1 154 = .ok (.aload_n 0, 1) := by decide +kernel
theorem d_So_attain_155 : decode y_So_attain.2.1 155 = .ok (.getfield 12, 3) := by decide +kernel
theorem d_So_attain_158 : decode y_So_attain.2.1 158 = .ok (.aload_n 0, 1) := by decide +kernel
theorem d_So_attain_159 : decode y_So_attain.2.1 159 = .ok (.getfield 64, 3) := by decide +kernel
theorem d_So_attain_162 : decode y_So_attain.2.1 162 = .ok (.iload 7, 2) := by decide +kernel
theorem d_So_attain_164 : decode y_So_attain.2.1 164 = .ok (.aload_n 1, 1) := by decide +kernel
theorem d_So_attain_165 : decode y_So_attain.2.1 165 = .ok (.aload_n 0, 1) := by decide +kernel
theorem d_So_attain_166 : decode y_So_attain.2.1 166 = .ok (.getfield 60, 3) := by decide +kernel
theorem d_So_attain_169 : decode y_So_attain.2.1 169 = .ok (.invokevirtual 221, 3) := by decide +kernel
theorem d_So_attain_172 : decode y_So_attain.2.1 172 = .ok (.aload_n 0, 1) := by decide +kernel
theorem d_So_attain_173 : decode y_So_attain.2.1 173 = .ok (.getfield 12, 3) := by decide +kernel
theorem d_So_attain_176 : decode y_So_attain.2.1 176 = .ok (.aload_n 0, 1) := by decide +kernel
theorem d_So_attain_177 : decode y_So_attain.2.1 177 = .ok (.getfield 60, 3) := by decide +kernel
theorem d_So_attain_180 : decode y_So_attain.2.1 180 = .ok (.aload 4, 2) := by decide +kernel
theorem d_So_attain_182 : decode y_So_attain.2.1 182 = .ok (.invokevirtual 225, 3) := by decide +kernel
theorem d_So_attain_185 : decode y_So_attain.2.1 185 = .ok (.istore 8, 2) := by decide +kernel
theorem d_So_attain_187 : decode y_So_attain.2.1 187 = .ok (.aload_n 0, 1) := by decide +kernel
theorem d_So_attain_188 : decode y_So_attain.2.1 188 = .ok (.getfield 50, 3) := by decide +kernel
theorem d_So_attain_191 : decode y_So_attain.2.1 191 = .ok (.iload 7, 2) := by decide +kernel
theorem d_So_attain_193 : decode y_So_attain.2.1 193 = .ok (.iload 8, 2) := by decide +kernel
theorem d_So_attain_195 : decode y_So_attain.2.1 195 = .ok (.ifCond .ne 7, 3) := by decide +kernel
theorem d_So_attain_198 : decode y_So_attain.2.1 198 = .ok (.iconst 1, 1) := by decide +kernel
theorem d_So_attain_199 : decode y_So_attain.2.1 199 = .ok (.goto 4, 3) := by decide +kernel
theorem d_So_attain_202 : decode y_So_attain.2.1 202 = .ok (.iconst 0, 1) := by decide +kernel
theorem d_So_attain_203 : decode y_So_attain.2.1 203 = .ok (.bastore, 1) := by decide +kernel
theorem d_So_attain_204 : decode y_So_attain.2.1 204 = .ok (.iload 5, 2) := by decide +kernel
theorem d_So_attain_206 : decode y_So_attain.2.1 206 = .ok (.iload 8, 2) := by decide +kernel
theorem d_So_attain_208 : decode y_So_attain.2.1 208 = .ok (.ifCond .ne 7, 3) := by decide +kernel
theorem d_So_attain_211 : decode y_So_attain.2.1 211 = .ok (.iconst 1, 1) := by decide +kernel
theorem d_So_attain_212 : decode y_So_attain.2.1 212 = .ok (.goto 4, 3) := by decide +kernel
theorem d_So_attain_215 : decode y_So_attain.2.1 215 = .ok (.iconst 0, 1) := by decide +kernel
theorem d_So_attain_216 : decode y_So_attain.2.1 216 = .ok (.ior, 1) := by decide +kernel
theorem d_So_attain_217 : decode y_So_attain.2.1 217 = .ok (.istore 5, 2) := by decide +kernel
theorem d_So_attain_219 : decode y_So_attain.2.1 219 = .ok (.iload_n 2, 1) := by decide +kernel
theorem d_So_attain_220 : decode y_So_attain.2.1 220 = .ok (.iload 8, 2) := by decide +kernel
theorem d_So_attain_222 : decode y_So_attain.2.1 222 = .ok (.iload 6, 2) := by decide +kernel
theorem d_So_attain_224 : decode y_So_attain.2.1 224 = .ok (.if_icmp .eq 7, 3) := by decide +kernel
theorem d_So_attain_231 : decode y_So_attain.2.1 231 = .ok (.iconst 0, 1) := by decide +kernel
theorem d_So_attain_227 : decode y_So_attain.2.1 227 = .ok (.iconst 1, 1) := by decide +kernel
theorem d_So_attain_228 : decode y_So_attain.2.1 228 = .ok (.goto 4, 3) := by decide +kernel
theorem d_So_attain_232 : decode y_So_attain.2.1 232 = .ok (.iand, 1) := by decide +kernel
theorem d_So_attain_233 : decode y_So_attain.2.1 233 = .ok (.istore_n 2, 1) := by decide +kernel
theorem d_So_attain_234 : decode y_So_attain.2.1 234 = .ok (.iinc 7 1, 3) := by decide +kernel
theorem d_So_attain_237 : decode y_So_attain.2.1 237 = .ok (.goto (-99), 3) := by decide +kernel
def h_So_attain_4 (G : mG) (d : Nat) (a0 : Nat) (a1 : Nat) (l2 : Int) (l3 : Int) (M : mM) (Q : Int → mM → Prop) : Prop := mWm G y_So_attain (d + 1) 4 [vr a0, vr a1, vi l2, vi l3, vd, vd, vd, vd, vd] [] M (fun r9 M9 => ∃ x9, r9 = some (vi x9) ∧ Q x9 M9)
def h_So_attain_107 (G : mG) (d : Nat) (a0 : Nat) (a1 : Nat) (l2 : Int) (l3 : Int) (a4 : Nat) (l5 : Int) (M : mM) (Q : Int → mM → Prop) : Prop := mWm G y_So_attain (d + 1) 107 [vr a0, vr a1, vi l2, vi l3, vr a4, vi l5, vd, vd, vd] [] M (fun r9 M9 => ∃ x9, r9 = some (vi x9) ∧ Q x9 M9)
def h_So_attain_138 (G : mG) (d : Nat) (a0 : Nat) (a1 : Nat) (l2 : Int) (l3 : Int) (a4 : Nat) (l5 : Int) (l6 : Int) (l7 : Int) (M : mM) (Q : Int → mM → Prop) : Prop := mWm G y_So_attain (d + 1) 138 [vr a0, vr a1, vi l2, vi l3, vr a4, vi l5, vi l6, vi l7, vd] [] M (fun r9 M9 => ∃ x9, r9 = some (vi x9) ∧ Q x9 M9)
theorem k_So_attain {G : mG} {d : Nat} {a0 : Nat} {a1 : Nat} {M : mM} {Q : Int → mM → Prop} (hO : mOk M)
    (h : h_So_attain_4 G d a0 a1 1 0 M Q) :
    Ci G y_So_attain (d + 1) [vr a0, vr a1] M Q := by
  refine wm_open (y := y_So_attain) rfl (Nat.le_of_ble_eq_true rfl) (L := [vr a0, vr a1, vd, vd, vd, vd, vd, vd, vd]) rfl ?_
  refine wm_iconst d_So_attain_0 ?_
  refine wm_istore_n d_So_attain_1 rfl (by decide) (L' := [vr a0, vr a1, vi 1, vd, vd, vd, vd, vd, vd]) rfl ?_
  refine wm_iconst d_So_attain_2 ?_
  refine wm_istore_n d_So_attain_3 rfl (by decide) (L' := [vr a0, vr a1, vi 1, vi 0, vd, vd, vd, vd, vd]) rfl ?_
  exact h
theorem k_So_attain_4 {G : mG} {d : Nat} {a0 : Nat} {a1 : Nat} {l2 : Int} {l3 : Int} {M : mM} {Q : Int → mM → Prop} (hO : mOk M) (hi_l2 : i32 l2) (hi_l3 : i32 l3)
    (h : mK M a0 = 8 ∧ mK M (mR M a0 3) = 7 ∧ ((mI M (mR M a0 3) 0 ≤ l3) → ((l2 = 0 ∨ l2 = 1) ∧ Q l2 M)) ∧ (¬ (mI M (mR M a0 3) 0 ≤ l3) → (mK M a1 = 13 ∧ mK M (mR M a1 0) = 35 ∧ ((0 : Int) ≤ l3 ∧ l3 < (mN M (mR M a1 0) : Int)) ∧ mK M (mR M (mR M a0 3) 4) = 30 ∧ ((0 : Int) ≤ l3 ∧ l3 < (mN M (mR M (mR M a0 3) 4) : Int)) ∧ ((0 : Int) ≤ l3 + 1 ∧ l3 + 1 < (mN M (mR M (mR M a0 3) 4) : Int)) ∧ ∀ v20 : Int, v20 = (if (mI M (mR M (mR M a0 3) 4) (Int.toNat l3) = mI M (mR M (mR M a0 3) 4) (Int.toNat (l3 + 1))) then 1 else 0) → ((v20 = 0) → (h_So_attain_107 G d a0 a1 l2 l3 (mR M (mR M a1 0) (Int.toNat l3)) v20 M Q)) ∧ (¬ (v20 = 0) → (mK M (mR M (mR M a0 3) 2) = 30 ∧ ((0 : Int) ≤ l3 ∧ l3 < (mN M (mR M (mR M a0 3) 2) : Int)) ∧ ∀ v32 : Int, v32 = (if (mI M (mR M (mR M a0 3) 2) (Int.toNat l3) = 3) then 1 else 0) → mK M (mR M a0 17) = 11 ∧ Cv G y_Fr_put0 d [vr (mR M a0 17), vi v32] M (fun M38 => mOk M38 ∧ (mK M38 a0 = 8 ∧ mK M38 (mR M38 a0 0) = 9 ∧ Ci G y_Sc_order d [vr (mR M38 a0 0), vr (mR M38 a0 17), vr (mR M (mR M a1 0) (Int.toNat l3))] M38 (fun x44 M43 => i32 x44 ∧ mOk M43 ∧ (∀ v47 : Int, v47 = (if (x44 = 0) then 1 else 0) → h_So_attain_107 G d a0 a1 (andI l2 v47) l3 (mR M (mR M a1 0) (Int.toNat l3)) v20 M43 Q))))))))) :
    h_So_attain_4 G d a0 a1 l2 l3 M Q := by
  unfold h_So_attain_4
  obtain ⟨h1, h⟩ := h
  obtain ⟨h2, h⟩ := h
  refine wm_iload_n d_So_attain_4 rfl rfl ?_
  refine wm_aload_n d_So_attain_5 rfl rfl ?_
  refine gf_So_64 rfl d_So_attain_6 h1 ?_
  refine gf_So_107 rfl d_So_attain_9 h2 ?_
  refine wm_icmp_ge (tgt := 251) d_So_attain_12 rfl hi_l3 (hO _ _).1 (fun c11 => ?_) (fun c11 => ?_)
  · replace h := h.1 c11
    obtain ⟨h12, h⟩ := h
    refine wm_iload_n d_So_attain_251 rfl rfl ?_
    refine wm_ireturn d_So_attain_252 rfl (m_nb h12) ?_
    exact ⟨_, rfl, h⟩
  · replace h := h.2 c11
    obtain ⟨h13, h⟩ := h
    obtain ⟨h14, h⟩ := h
    obtain ⟨h15, h⟩ := h
    obtain ⟨h16, h⟩ := h
    obtain ⟨h17, h⟩ := h
    obtain ⟨h18, h⟩ := h
    refine wm_aload_n d_So_attain_15 rfl rfl ?_
    refine gf_So_169 rfl d_So_attain_16 h13 ?_
    refine wm_iload_n d_So_attain_19 rfl rfl ?_
    refine wm_aald5 d_So_attain_20 h14 h15 ?_
    refine wm_astore d_So_attain_21 (by decide) (L' := [vr a0, vr a1, vi l2, vi l3, vr (mR M (mR M a1 0) (Int.toNat l3)), vd, vd, vd, vd]) rfl ?_
    refine wm_aload_n d_So_attain_23 rfl rfl ?_
    refine gf_So_64 rfl d_So_attain_24 h1 ?_
    refine gf_So_116 rfl d_So_attain_27 h2 ?_
    refine wm_iload_n d_So_attain_30 rfl rfl ?_
    refine wm_iald d_So_attain_31 h16 h17 ?_
    refine wm_aload_n d_So_attain_32 rfl rfl ?_
    refine gf_So_64 rfl d_So_attain_33 h1 ?_
    refine gf_So_116 rfl d_So_attain_36 h2 ?_
    refine wm_iload_n d_So_attain_39 rfl rfl ?_
    refine wm_iconst d_So_attain_40 ?_
    refine wm_iadd d_So_attain_41 ?_
    refine wm_iald d_So_attain_42 h16 h18 ?_
    have hJ : ∀ v20 : Int, v20 = (if (mI M (mR M (mR M a0 3) 4) (Int.toNat l3) = mI M (mR M (mR M a0 3) 4) (Int.toNat (l3 + 1))) then 1 else 0) → mWm G y_So_attain (d + 1) 51 [vr a0, vr a1, vi l2, vi l3, vr (mR M (mR M a1 0) (Int.toNat l3)), vd, vd, vd, vd] [vi v20] M (fun r9 M9 => ∃ x9, r9 = some (vi x9) ∧ Q x9 M9) := by
      intro v20 e22
      have h := h v20 e22
      have h23 : i32 v20 := by rw [e22]; (repeat' split) <;> first | exact ⟨by decide, by decide⟩ | exact ⟨by decide, by decide⟩
      have h24 : (v20 = 0 ∨ v20 = 1) := by rw [e22]; (repeat' split) <;> decide
      refine wm_istore d_So_attain_51 (by decide) (L' := [vr a0, vr a1, vi l2, vi l3, vr (mR M (mR M a1 0) (Int.toNat l3)), vi v20, vd, vd, vd]) rfl ?_
      refine wm_iload d_So_attain_53 rfl ?_
      refine wm_if_eq (tgt := 107) d_So_attain_55 rfl h23 (fun c28 => ?_) (fun c28 => ?_)
      · replace h := h.1 c28
        exact h
      · replace h := h.2 c28
        obtain ⟨h29, h⟩ := h
        obtain ⟨h30, h⟩ := h
        refine wm_aload_n d_So_attain_58 rfl rfl ?_
        refine gf_So_60 rfl d_So_attain_59 h1 ?_
        refine wm_aload_n d_So_attain_62 rfl rfl ?_
        refine gf_So_64 rfl d_So_attain_63 h1 ?_
        refine gf_So_113 rfl d_So_attain_66 h2 ?_
        refine wm_iload_n d_So_attain_69 rfl rfl ?_
        refine wm_iald d_So_attain_70 h29 h30 ?_
        refine wm_iconst d_So_attain_71 ?_
        have hJ : ∀ v32 : Int, v32 = (if (mI M (mR M (mR M a0 3) 2) (Int.toNat l3) = 3) then 1 else 0) → mWm G y_So_attain (d + 1) 80 [vr a0, vr a1, vi l2, vi l3, vr (mR M (mR M a1 0) (Int.toNat l3)), vi v20, vd, vd, vd] [vi v32, vr (mR M a0 17)] M (fun r9 M9 => ∃ x9, r9 = some (vi x9) ∧ Q x9 M9) := by
          intro v32 e34
          have h := h v32 e34
          have h35 : i32 v32 := by rw [e34]; (repeat' split) <;> first | exact ⟨by decide, by decide⟩ | exact ⟨by decide, by decide⟩
          have h36 : (v32 = 0 ∨ v32 = 1) := by rw [e34]; (repeat' split) <;> decide
          obtain ⟨h37, h⟩ := h
          refine cf_So_243 rfl d_So_attain_80 h37 (Nat.le_of_ble_eq_true rfl) (Cv.mono h (fun M38 h => ?_))
          obtain ⟨hOM38, h⟩ := h
          obtain ⟨h41, h⟩ := h
          obtain ⟨h42, h⟩ := h
          refine wm_iload_n d_So_attain_83 rfl rfl ?_
          refine wm_aload_n d_So_attain_84 rfl rfl ?_
          refine gf_So_12 rfl d_So_attain_85 h41 ?_
          refine wm_aload_n d_So_attain_88 rfl rfl ?_
          refine gf_So_60 rfl d_So_attain_89 h41 ?_
          refine wm_aload d_So_attain_92 rfl ?_
          refine cf_So_225 rfl d_So_attain_94 h42 (Nat.le_of_ble_eq_true rfl) (Ci.mono h (fun x44 M43 h => ?_))
          obtain ⟨h45, hOM43, h⟩ := h
          have hJ : ∀ v47 : Int, v47 = (if (x44 = 0) then 1 else 0) → mWm G y_So_attain (d + 1) 105 [vr a0, vr a1, vd, vi l3, vr (mR M (mR M a1 0) (Int.toNat l3)), vi v20, vd, vd, vd] [vi v47, vi l2] M43 (fun r9 M9 => ∃ x9, r9 = some (vi x9) ∧ Q x9 M9) := by
            intro v47 e49
            have h := h v47 e49
            have h50 : i32 v47 := by rw [e49]; (repeat' split) <;> first | exact ⟨by decide, by decide⟩ | exact ⟨by decide, by decide⟩
            have h51 : (v47 = 0 ∨ v47 = 1) := by rw [e49]; (repeat' split) <;> decide
            refine wm_iand d_So_attain_105 ?_
            refine wm_istore_n d_So_attain_106 rfl (by decide) (L' := [vr a0, vr a1, vi (andI l2 v47), vi l3, vr (mR M (mR M a1 0) (Int.toNat l3)), vi v20, vd, vd, vd]) rfl ?_
            exact h
          clear h
          refine wm_if_ne (tgt := 104) d_So_attain_97 rfl h45 (fun c46 => ?_) (fun c46 => ?_)
          · refine wm_iconst d_So_attain_104 ?_
            refine wm_less (L' := [vr a0, vr a1, vd, vi l3, vr (mR M (mR M a1 0) (Int.toNat l3)), vi v20, vd, vd, vd]) ⟨Or.inr rfl, Or.inr rfl, Or.inl rfl, Or.inr rfl, Or.inr rfl, Or.inr rfl, Or.inl rfl, Or.inl rfl, Or.inl rfl, trivial⟩ ?_
            exact hJ 0 (if_neg c46).symm
          · replace c46 := Classical.not_not.mp c46
            refine wm_iconst d_So_attain_100 ?_
            refine wm_goto (tgt := 105) d_So_attain_101 rfl ?_
            refine wm_less (L' := [vr a0, vr a1, vd, vi l3, vr (mR M (mR M a1 0) (Int.toNat l3)), vi v20, vd, vd, vd]) ⟨Or.inr rfl, Or.inr rfl, Or.inl rfl, Or.inr rfl, Or.inr rfl, Or.inr rfl, Or.inl rfl, Or.inl rfl, Or.inl rfl, trivial⟩ ?_
            exact hJ 1 (if_pos c46).symm
        clear h
        refine wm_icmp_ne (tgt := 79) d_So_attain_72 rfl (hO _ _).1 ⟨by decide, by decide⟩ (fun c31 => ?_) (fun c31 => ?_)
        · refine wm_iconst d_So_attain_79 ?_
          exact hJ 0 (if_neg c31).symm
        · replace c31 := Classical.not_not.mp c31
          refine wm_iconst d_So_attain_75 ?_
          refine wm_goto (tgt := 80) d_So_attain_76 rfl ?_
          exact hJ 1 (if_pos c31).symm
    clear h
    refine wm_icmp_ne (tgt := 50) d_So_attain_43 rfl (hO _ _).1 (hO _ _).1 (fun c19 => ?_) (fun c19 => ?_)
    · refine wm_iconst d_So_attain_50 ?_
      exact hJ 0 (if_neg c19).symm
    · replace c19 := Classical.not_not.mp c19
      refine wm_iconst d_So_attain_46 ?_
      refine wm_goto (tgt := 51) d_So_attain_47 rfl ?_
      exact hJ 1 (if_pos c19).symm
theorem k_So_attain_107 {G : mG} {d : Nat} {a0 : Nat} {a1 : Nat} {l2 : Int} {l3 : Int} {a4 : Nat} {l5 : Int} {M : mM} {Q : Int → mM → Prop} (hO : mOk M) (hi_l2 : i32 l2) (hi_l3 : i32 l3) (hi_l5 : i32 l5)
    (h : mK M a0 = 8 ∧ mK M (mR M a0 3) = 7 ∧ mK M (mR M (mR M a0 3) 2) = 30 ∧ ((0 : Int) ≤ l3 ∧ l3 < (mN M (mR M (mR M a0 3) 2) : Int)) ∧ ∀ v60 : Int, v60 = (if (mI M (mR M (mR M a0 3) 2) (Int.toNat l3) = 1) then 1 else (-1)) → mK M (mR M (mR M a0 3) 4) = 30 ∧ ((0 : Int) ≤ l3 ∧ l3 < (mN M (mR M (mR M a0 3) 4) : Int)) ∧ h_So_attain_138 G d a0 a1 l2 l3 a4 l5 v60 (mI M (mR M (mR M a0 3) 4) (Int.toNat l3)) M Q) :
    h_So_attain_107 G d a0 a1 l2 l3 a4 l5 M Q := by
  unfold h_So_attain_107
  obtain ⟨h55, h⟩ := h
  obtain ⟨h56, h⟩ := h
  obtain ⟨h57, h⟩ := h
  obtain ⟨h58, h⟩ := h
  refine wm_aload_n d_So_attain_107 rfl rfl ?_
  refine gf_So_64 rfl d_So_attain_108 h55 ?_
  refine gf_So_113 rfl d_So_attain_111 h56 ?_
  refine wm_iload_n d_So_attain_114 rfl rfl ?_
  refine wm_iald d_So_attain_115 h57 h58 ?_
  refine wm_iconst d_So_attain_116 ?_
  have hJ : ∀ v60 : Int, v60 = (if (mI M (mR M (mR M a0 3) 2) (Int.toNat l3) = 1) then 1 else (-1)) → mWm G y_So_attain (d + 1) 125 [vr a0, vr a1, vi l2, vi l3, vr a4, vi l5, vd, vd, vd] [vi v60] M (fun r9 M9 => ∃ x9, r9 = some (vi x9) ∧ Q x9 M9) := by
    intro v60 e62
    have h := h v60 e62
    have h63 : i32 v60 := by rw [e62]; (repeat' split) <;> first | exact ⟨by decide, by decide⟩ | exact ⟨by decide, by decide⟩
    obtain ⟨h64, h⟩ := h
    obtain ⟨h65, h⟩ := h
    refine wm_istore d_So_attain_125 (by decide) (L' := [vr a0, vr a1, vi l2, vi l3, vr a4, vi l5, vi v60, vd, vd]) rfl ?_
    refine wm_aload_n d_So_attain_127 rfl rfl ?_
    refine gf_So_64 rfl d_So_attain_128 h55 ?_
    refine gf_So_116 rfl d_So_attain_131 h56 ?_
    refine wm_iload_n d_So_attain_134 rfl rfl ?_
    refine wm_iald d_So_attain_135 h64 h65 ?_
    refine wm_istore d_So_attain_136 (by decide) (L' := [vr a0, vr a1, vi l2, vi l3, vr a4, vi l5, vi v60, vi (mI M (mR M (mR M a0 3) 4) (Int.toNat l3)), vd]) rfl ?_
    exact h
  clear h
  refine wm_icmp_ne (tgt := 124) d_So_attain_117 rfl (hO _ _).1 ⟨by decide, by decide⟩ (fun c59 => ?_) (fun c59 => ?_)
  · refine wm_iconst d_So_attain_124 ?_
    exact hJ (-1) (if_neg c59).symm
  · replace c59 := Classical.not_not.mp c59
    refine wm_iconst d_So_attain_120 ?_
    refine wm_goto (tgt := 125) d_So_attain_121 rfl ?_
    exact hJ 1 (if_pos c59).symm
theorem k_So_attain_138 {G : mG} {d : Nat} {a0 : Nat} {a1 : Nat} {l2 : Int} {l3 : Int} {a4 : Nat} {l5 : Int} {l6 : Int} {l7 : Int} {M : mM} {Q : Int → mM → Prop} (hO : mOk M) (hi_l2 : i32 l2) (hi_l3 : i32 l3) (hi_l5 : i32 l5) (hi_l6 : i32 l6) (hi_l7 : i32 l7)
    (h : mK M a0 = 8 ∧ mK M (mR M a0 3) = 7 ∧ mK M (mR M (mR M a0 3) 4) = 30 ∧ ((0 : Int) ≤ l3 + 1 ∧ l3 + 1 < (mN M (mR M (mR M a0 3) 4) : Int)) ∧ ((mI M (mR M (mR M a0 3) 4) (Int.toNat (l3 + 1)) ≤ l7) → (h_So_attain_4 G d a0 a1 (andI l2 l5) (l3 + 1) M Q)) ∧ (¬ (mI M (mR M (mR M a0 3) 4) (Int.toNat (l3 + 1)) ≤ l7) → (mK M (mR M a0 0) = 9 ∧ Cv G y_Sc_weigh d [vr (mR M a0 0), vr (mR M a0 3), vi l7, vr a1, vr (mR M a0 17)] M (fun M74 => mOk M74 ∧ (mK M74 a0 = 8 ∧ mK M74 (mR M74 a0 0) = 9 ∧ Ci G y_Sc_order d [vr (mR M74 a0 0), vr (mR M74 a0 17), vr a4] M74 (fun x80 M79 => i32 x80 ∧ mOk M79 ∧ (mK M79 a0 = 8 ∧ ∀ v84 : Int, v84 = (if (x80 = 0) then 1 else 0) → mK M79 (mR M79 a0 15) = 31 ∧ ((0 : Int) ≤ l7 ∧ l7 < (mN M79 (mR M79 a0 15) : Int)) ∧ ∀ M91, M91 = mUI M79 (mR M79 a0 15) (Int.toNat l7) v84 → ∀ v94 : Int, v94 = (if (x80 = 0) then 1 else 0) → ∀ v100 : Int, v100 = (if (x80 = l6) then 0 else 1) → h_So_attain_138 G d a0 a1 (andI l2 v100) l3 a4 (orI l5 v94) l6 (l7 + 1) M91 Q))))))) :
    h_So_attain_138 G d a0 a1 l2 l3 a4 l5 l6 l7 M Q := by
  unfold h_So_attain_138
  obtain ⟨h67, h⟩ := h
  obtain ⟨h68, h⟩ := h
  obtain ⟨h69, h⟩ := h
  obtain ⟨h70, h⟩ := h
  refine wm_iload d_So_attain_138 rfl ?_
  refine wm_aload_n d_So_attain_140 rfl rfl ?_
  refine gf_So_64 rfl d_So_attain_141 h67 ?_
  refine gf_So_116 rfl d_So_attain_144 h68 ?_
  refine wm_iload_n d_So_attain_147 rfl rfl ?_
  refine wm_iconst d_So_attain_148 ?_
  refine wm_iadd d_So_attain_149 ?_
  refine wm_iald d_So_attain_150 h69 h70 ?_
  refine wm_icmp_ge (tgt := 240) d_So_attain_151 rfl hi_l7 (hO _ _).1 (fun c72 => ?_) (fun c72 => ?_)
  · replace h := h.1 c72
    refine wm_iload_n d_So_attain_240 rfl rfl ?_
    refine wm_iload d_So_attain_241 rfl ?_
    refine wm_iand d_So_attain_243 ?_
    refine wm_istore_n d_So_attain_244 rfl (by decide) (L' := [vr a0, vr a1, vi (andI l2 l5), vi l3, vr a4, vi l5, vi l6, vi l7, vd]) rfl ?_
    refine wm_iinc d_So_attain_245 (by decide) rfl (L' := [vr a0, vr a1, vi (andI l2 l5), vi (l3 + 1), vr a4, vi l5, vi l6, vi l7, vd]) rfl ?_
    refine wm_goto (tgt := 4) d_So_attain_248 rfl ?_
    refine wm_less (L' := [vr a0, vr a1, vi (andI l2 l5), vi (l3 + 1), vd, vd, vd, vd, vd]) ⟨Or.inr rfl, Or.inr rfl, Or.inr rfl, Or.inr rfl, Or.inl rfl, Or.inl rfl, Or.inl rfl, Or.inl rfl, Or.inl rfl, trivial⟩ ?_
    exact h
  · replace h := h.2 c72
    obtain ⟨h73, h⟩ := h
    refine wm_aload_n d_So_attain_154 rfl rfl ?_
    refine gf_So_12 rfl d_So_attain_155 h67 ?_
    refine wm_aload_n d_So_attain_158 rfl rfl ?_
    refine gf_So_64 rfl d_So_attain_159 h67 ?_
    refine wm_iload d_So_attain_162 rfl ?_
    refine wm_aload_n d_So_attain_164 rfl rfl ?_
    refine wm_aload_n d_So_attain_165 rfl rfl ?_
    refine gf_So_60 rfl d_So_attain_166 h67 ?_
    refine cf_So_221 rfl d_So_attain_169 h73 (Nat.le_of_ble_eq_true rfl) (Cv.mono h (fun M74 h => ?_))
    obtain ⟨hOM74, h⟩ := h
    obtain ⟨h77, h⟩ := h
    obtain ⟨h78, h⟩ := h
    refine wm_aload_n d_So_attain_172 rfl rfl ?_
    refine gf_So_12 rfl d_So_attain_173 h77 ?_
    refine wm_aload_n d_So_attain_176 rfl rfl ?_
    refine gf_So_60 rfl d_So_attain_177 h77 ?_
    refine wm_aload d_So_attain_180 rfl ?_
    refine cf_So_225 rfl d_So_attain_182 h78 (Nat.le_of_ble_eq_true rfl) (Ci.mono h (fun x80 M79 h => ?_))
    obtain ⟨h81, hOM79, h⟩ := h
    obtain ⟨h82, h⟩ := h
    refine wm_istore d_So_attain_185 (by decide) (L' := [vr a0, vr a1, vi l2, vi l3, vr a4, vi l5, vi l6, vi l7, vi x80]) rfl ?_
    refine wm_aload_n d_So_attain_187 rfl rfl ?_
    refine gf_So_50 rfl d_So_attain_188 h82 ?_
    refine wm_iload d_So_attain_191 rfl ?_
    refine wm_iload d_So_attain_193 rfl ?_
    have hJ : ∀ v84 : Int, v84 = (if (x80 = 0) then 1 else 0) → mWm G y_So_attain (d + 1) 203 [vr a0, vr a1, vi l2, vi l3, vr a4, vi l5, vi l6, vi l7, vi x80] [vi v84, vi l7, vr (mR M79 a0 15)] M79 (fun r9 M9 => ∃ x9, r9 = some (vi x9) ∧ Q x9 M9) := by
      intro v84 e86
      have h := h v84 e86
      have h87 : i32 v84 := by rw [e86]; (repeat' split) <;> first | exact ⟨by decide, by decide⟩ | exact ⟨by decide, by decide⟩
      have h88 : (v84 = 0 ∨ v84 = 1) := by rw [e86]; (repeat' split) <;> decide
      obtain ⟨h89, h⟩ := h
      obtain ⟨h90, h⟩ := h
      obtain ⟨M91, e92⟩ : ∃ M91, M91 = mUI M79 (mR M79 a0 15) (Int.toNat l7) v84 := ⟨_, rfl⟩
      replace h := h M91 e92
      have hOM91 : mOk M91 := by rw [e92]; exact mOk_UI hOM79 (m_b32 h88)
      refine wm_zastE d_So_attain_203 h89 h90 h88 e92 ?_
      refine wm_iload d_So_attain_204 rfl ?_
      refine wm_iload d_So_attain_206 rfl ?_
      have hJ : ∀ v94 : Int, v94 = (if (x80 = 0) then 1 else 0) → mWm G y_So_attain (d + 1) 216 [vr a0, vr a1, vi l2, vi l3, vr a4, vd, vi l6, vi l7, vi x80] [vi v94, vi l5] M91 (fun r9 M9 => ∃ x9, r9 = some (vi x9) ∧ Q x9 M9) := by
        intro v94 e96
        have h := h v94 e96
        have h97 : i32 v94 := by rw [e96]; (repeat' split) <;> first | exact ⟨by decide, by decide⟩ | exact ⟨by decide, by decide⟩
        have h98 : (v94 = 0 ∨ v94 = 1) := by rw [e96]; (repeat' split) <;> decide
        refine wm_ior d_So_attain_216 ?_
        refine wm_istore d_So_attain_217 (by decide) (L' := [vr a0, vr a1, vi l2, vi l3, vr a4, vi (orI l5 v94), vi l6, vi l7, vi x80]) rfl ?_
        refine wm_iload_n d_So_attain_219 rfl rfl ?_
        refine wm_iload d_So_attain_220 rfl ?_
        refine wm_iload d_So_attain_222 rfl ?_
        have hJ : ∀ v100 : Int, v100 = (if (x80 = l6) then 0 else 1) → mWm G y_So_attain (d + 1) 232 [vr a0, vr a1, vd, vi l3, vr a4, vi (orI l5 v94), vi l6, vi l7, vd] [vi v100, vi l2] M91 (fun r9 M9 => ∃ x9, r9 = some (vi x9) ∧ Q x9 M9) := by
          intro v100 e102
          have h := h v100 e102
          have h103 : i32 v100 := by rw [e102]; (repeat' split) <;> first | exact ⟨by decide, by decide⟩ | exact ⟨by decide, by decide⟩
          have h104 : (v100 = 0 ∨ v100 = 1) := by rw [e102]; (repeat' split) <;> decide
          refine wm_iand d_So_attain_232 ?_
          refine wm_istore_n d_So_attain_233 rfl (by decide) (L' := [vr a0, vr a1, vi (andI l2 v100), vi l3, vr a4, vi (orI l5 v94), vi l6, vi l7, vd]) rfl ?_
          refine wm_iinc d_So_attain_234 (by decide) rfl (L' := [vr a0, vr a1, vi (andI l2 v100), vi l3, vr a4, vi (orI l5 v94), vi l6, vi (l7 + 1), vd]) rfl ?_
          refine wm_goto (tgt := 138) d_So_attain_237 rfl ?_
          exact h
        clear h
        refine wm_icmp_eq (tgt := 231) d_So_attain_224 rfl h81 hi_l6 (fun c99 => ?_) (fun c99 => ?_)
        · refine wm_iconst d_So_attain_231 ?_
          refine wm_less (L' := [vr a0, vr a1, vd, vi l3, vr a4, vi (orI l5 v94), vi l6, vi l7, vd]) ⟨Or.inr rfl, Or.inr rfl, Or.inl rfl, Or.inr rfl, Or.inr rfl, Or.inr rfl, Or.inr rfl, Or.inr rfl, Or.inl rfl, trivial⟩ ?_
          exact hJ 0 (if_pos c99).symm
        · refine wm_iconst d_So_attain_227 ?_
          refine wm_goto (tgt := 232) d_So_attain_228 rfl ?_
          refine wm_less (L' := [vr a0, vr a1, vd, vi l3, vr a4, vi (orI l5 v94), vi l6, vi l7, vd]) ⟨Or.inr rfl, Or.inr rfl, Or.inl rfl, Or.inr rfl, Or.inr rfl, Or.inr rfl, Or.inr rfl, Or.inr rfl, Or.inl rfl, trivial⟩ ?_
          exact hJ 1 (if_neg c99).symm
      clear h
      refine wm_if_ne (tgt := 215) d_So_attain_208 rfl h81 (fun c93 => ?_) (fun c93 => ?_)
      · refine wm_iconst d_So_attain_215 ?_
        refine wm_less (L' := [vr a0, vr a1, vi l2, vi l3, vr a4, vd, vi l6, vi l7, vi x80]) ⟨Or.inr rfl, Or.inr rfl, Or.inr rfl, Or.inr rfl, Or.inr rfl, Or.inl rfl, Or.inr rfl, Or.inr rfl, Or.inr rfl, trivial⟩ ?_
        exact hJ 0 (if_neg c93).symm
      · replace c93 := Classical.not_not.mp c93
        refine wm_iconst d_So_attain_211 ?_
        refine wm_goto (tgt := 216) d_So_attain_212 rfl ?_
        refine wm_less (L' := [vr a0, vr a1, vi l2, vi l3, vr a4, vd, vi l6, vi l7, vi x80]) ⟨Or.inr rfl, Or.inr rfl, Or.inr rfl, Or.inr rfl, Or.inr rfl, Or.inl rfl, Or.inr rfl, Or.inr rfl, Or.inr rfl, trivial⟩ ?_
        exact hJ 1 (if_pos c93).symm
    clear h
    refine wm_if_ne (tgt := 202) d_So_attain_195 rfl h81 (fun c83 => ?_) (fun c83 => ?_)
    · refine wm_iconst d_So_attain_202 ?_
      exact hJ 0 (if_neg c83).symm
    · replace c83 := Classical.not_not.mp c83
      refine wm_iconst d_So_attain_198 ?_
      refine wm_goto (tgt := 203) d_So_attain_199 rfl ?_
      exact hJ 1 (if_pos c83).symm
theorem d_So_fillRanks_0 : decode y_So_fillRanks.2.1 0 = .ok (.iconst 0, 1) := by decide +kernel
theorem d_So_fillRanks_1 : decode y_So_fillRanks.2.1 1 = .ok (.istore_n 3, 1) := by decide +kernel
theorem d_So_fillRanks_2 : decode y_So_fillRanks.2.1 2 = .ok (.iload_n 3, 1) := by decide +kernel
theorem d_So_fillRanks_3 : decode y_So_fillRanks.2.1 3 = .ok (.aload_n 0, 1) := by decide +kernel
theorem d_So_fillRanks_4 : decode y_So_fillRanks.2.1 4 = .ok (.getfield 64, 3) := by decide +kernel
theorem d_So_fillRanks_7 : decode y_So_fillRanks.2.1 7 = .ok (.getfield 107, 3) := by decide +kernel
theorem d_So_fillRanks_10 : decode y_So_fillRanks.2.1 10 = .ok (.if_icmp .ge 30, 3) := by decide +kernel
theorem d_So_fillRanks_40 : decode y_So_fillRanks.2.1 40 = .ok (.iconst 1, 1) := by decide +kernel
theorem d_So_fillRanks_41 : decode y_So_fillRanks.2.1 41 = .ok (.istore_n 3, 1) := by decide +kernel
theorem d_So_fillRanks_42 : decode y_So_fillRanks.2.1 42 = .ok (.iconst 1, 1) := by decide +kernel
theorem d_So_fillRanks_43 : decode y_So_fillRanks.2.1 43 = .ok (.istore 4, 2) := by decide +kernel
theorem d_So_fillRanks_13 : decode y_So_fillRanks.2.1 13 = .ok (.aload_n 2, 1) := by decide +kernel
theorem d_So_fillRanks_14 : decode y_So_fillRanks.2.1 14 = .ok (.iload_n 3, 1) := by decide +kernel
theorem d_So_fillRanks_15 : decode y_So_fillRanks.2.1 15 = .ok (.aload_n 0, 1) := by decide +kernel
theorem d_So_fillRanks_16 : decode y_So_fillRanks.2.1 16 = .ok (.getfield 64, 3) := by decide +kernel
theorem d_So_fillRanks_19 : decode y_So_fillRanks.2.1 19 = .ok (.getfield 113, 3) := by decide +kernel
theorem d_So_fillRanks_22 : decode y_So_fillRanks.2.1 22 = .ok (.iload_n 3, 1) := by decide +kernel
theorem d_So_fillRanks_23 : decode y_So_fillRanks.2.1 23 = .ok (.iaload, 1) := by decide +kernel
theorem d_So_fillRanks_24 : decode y_So_fillRanks.2.1 24 = .ok (.iconst 3, 1) := by decide +kernel
theorem d_So_fillRanks_25 : decode y_So_fillRanks.2.1 25 = .ok (.if_icmp .ne 7, 3) := by decide +kernel
theorem d_So_fillRanks_28 : decode y_So_fillRanks.2.1 28 = .ok (.iconst 0, 1) := by decide +kernel
theorem d_So_fillRanks_29 : decode y_So_fillRanks.2.1 29 = .ok (.goto 4, 3) := by decide +kernel
theorem d_So_fillRanks_32 : decode y_So_fillRanks.2.1 32 = .ok (.iconst (-1), 1) := by decide +kernel
theorem d_So_fillRanks_33 : decode y_So_fillRanks.2.1 33 = .ok (.iastore, 1) := by decide +kernel
theorem d_So_fillRanks_34 : decode y_So_fillRanks.2.1 34 = .ok (.iinc 3 1, 3) := by decide +kernel
theorem d_So_fillRanks_37 : decode y_So_fillRanks.2.1 37 = .ok (.goto (-35), 3) := by decide +kernel
theorem d_So_fillRanks_45 : decode y_So_fillRanks.2.1 45 = .ok (.iload 4, 2) := by decide +kernel
theorem d_So_fillRanks_47 : decode y_So_fillRanks.2.1 47 = .ok (.sipush 512, 3) := by decide +kernel
theorem d_So_fillRanks_50 : decode y_So_fillRanks.2.1 50 = .ok (.if_icmp .gt 80, 3) := by decide +kernel
theorem d_So_fillRanks_53 : decode y_So_fillRanks.2.1 53 = .ok (.iload_n 3, 1) := by decide +kernel
theorem d_So_fillRanks_54 : decode y_So_fillRanks.2.1 54 = .ok (.ifCond .eq 76, 3) := by decide +kernel
theorem d_So_fillRanks_57 : decode y_So_fillRanks.2.1 57 = .ok (.iconst 0, 1) := by decide +kernel
theorem d_So_fillRanks_58 : decode y_So_fillRanks.2.1 58 = .ok (.istore_n 3, 1) := by decide +kernel
theorem d_So_fillRanks_59 : decode y_So_fillRanks.2.1 59 = .ok (.iconst 0, 1) := by decide +kernel
theorem d_So_fillRanks_60 : decode y_So_fillRanks.2.1 60 = .ok (.istore 5, 2) := by decide +kernel
theorem d_So_fillRanks_130 : decode y_So_fillRanks.2.1 130 = .ok (.return_, 1) := by decide +kernel
theorem d_So_fillRanks_62 : decode y_So_fillRanks.2.1 62 = .ok (.iload 5, 2) := by decide +kernel
theorem d_So_fillRanks_64 : decode y_So_fillRanks.2.1 64 = .ok (.aload_n 0, 1) := by decide +kernel
theorem d_So_fillRanks_65 : decode y_So_fillRanks.2.1 65 = .ok (.getfield 64, 3) := by decide +kernel
theorem d_So_fillRanks_68 : decode y_So_fillRanks.2.1 68 = .ok (.getfield 107, 3) := by decide +kernel
theorem d_So_fillRanks_71 : decode y_So_fillRanks.2.1 71 = .ok (.if_icmp .ge 53, 3) := by decide +kernel
theorem d_So_fillRanks_124 : decode y_So_fillRanks.2.1 124 = .ok (.iinc 4 1, 3) := by decide +kernel
theorem d_So_fillRanks_127 : decode y_So_fillRanks.2.1 127 = .ok (.goto (-82), 3) := by decide +kernel
theorem d_So_fillRanks_74 : decode y_So_fillRanks.2.1 74 = .ok (.aload_n 2, 1) := by decide +kernel
theorem d_So_fillRanks_75 : decode y_So_fillRanks.2.1 75 = .ok (.iload 5, 2) := by decide +kernel
theorem d_So_fillRanks_77 : decode y_So_fillRanks.2.1 77 = .ok (.iaload, 1) := by decide +kernel
theorem d_So_fillRanks_78 : decode y_So_fillRanks.2.1 78 = .ok (.iconst (-1), 1) := by decide +kernel
theorem d_So_fillRanks_79 : decode y_So_fillRanks.2.1 79 = .ok (.if_icmp .ne 39, 3) := by decide +kernel
theorem d_So_fillRanks_82 : decode y_So_fillRanks.2.1 82 = .ok (.aload_n 1, 1) := by decide +kernel
theorem d_So_fillRanks_83 : decode y_So_fillRanks.2.1 83 = .ok (.getfield 169, 3) := by decide +kernel
theorem d_So_fillRanks_86 : decode y_So_fillRanks.2.1 86 = .ok (.iload 5, 2) := by decide +kernel
theorem d_So_fillRanks_88 : decode y_So_fillRanks.2.1 88 = .ok (.aaload, 1) := by decide +kernel
theorem d_So_fillRanks_89 : decode y_So_fillRanks.2.1 89 = .ok (.getfield 173, 3) := by decide +kernel
theorem d_So_fillRanks_92 : decode y_So_fillRanks.2.1 92 = .ok (.getfield 245, 3) := by decide +kernel
theorem d_So_fillRanks_95 : decode y_So_fillRanks.2.1 95 = .ok (.ifCond .le 23, 3) := by decide +kernel
theorem d_So_fillRanks_98 : decode y_So_fillRanks.2.1 98 = .ok (.aload_n 0, 1) := by decide +kernel
theorem d_So_fillRanks_99 : decode y_So_fillRanks.2.1 99 = .ok (.iload 5, 2) := by decide +kernel
theorem d_So_fillRanks_101 : decode y_So_fillRanks.2.1 101 = .ok (.iload 4, 2) := by decide +kernel
theorem d_So_fillRanks_103 : decode y_So_fillRanks.2.1 103 = .ok (.aload_n 2, 1) := by decide +kernel
theorem d_So_fillRanks_118 : decode y_So_fillRanks.2.1 118 = .ok (.iinc 5 1, 3) := by decide +kernel
theorem d_So_fillRanks_121 : decode y_So_fillRanks.2.1 121 = .ok (.goto (-59), 3) := by decide +kernel
theorem d_So_fillRanks_104 : decode y_So_fillRanks.2.1 104 = .ok (.invokevirtual 248, 3) := by decide +kernel
theorem d_So_fillRanks_107 : decode y_So_fillRanks.2.1 107 = .ok (.ifCond .eq 11, 3) := by decide +kernel
theorem d_So_fillRanks_110 : decode y_So_fillRanks.2.1 110 = .ok (.aload_n 2, 1) := by decide +kernel
theorem d_So_fillRanks_111 : decode y_So_fillRanks.2.1 111 = .ok (.iload 5, 2) := by decide +kernel
theorem d_So_fillRanks_113 : decode y_So_fillRanks.2.1 113 = .ok (.iload 4, 2) := by decide +kernel
theorem d_So_fillRanks_115 : decode y_So_fillRanks.2.1 115 = .ok (.iastore, 1) := by decide +kernel
theorem d_So_fillRanks_116 : decode y_So_fillRanks.2.1 116 = .ok (.iconst 1, 1) := by decide +kernel
theorem d_So_fillRanks_117 : decode y_So_fillRanks.2.1 117 = .ok (.istore_n 3, 1) := by decide +kernel
def h_So_fillRanks_2 (G : mG) (d : Nat) (a0 : Nat) (a1 : Nat) (a2 : Nat) (l3 : Int) (M : mM) (Q : mM → Prop) : Prop := mWm G y_So_fillRanks (d + 1) 2 [vr a0, vr a1, vr a2, vi l3, vd, vd] [] M (fun r9 M9 => r9 = none ∧ Q M9)
def h_So_fillRanks_45 (G : mG) (d : Nat) (a0 : Nat) (a1 : Nat) (a2 : Nat) (l3 : Int) (l4 : Int) (M : mM) (Q : mM → Prop) : Prop := mWm G y_So_fillRanks (d + 1) 45 [vr a0, vr a1, vr a2, vi l3, vi l4, vd] [] M (fun r9 M9 => r9 = none ∧ Q M9)
def h_So_fillRanks_62 (G : mG) (d : Nat) (a0 : Nat) (a1 : Nat) (a2 : Nat) (l3 : Int) (l4 : Int) (l5 : Int) (M : mM) (Q : mM → Prop) : Prop := mWm G y_So_fillRanks (d + 1) 62 [vr a0, vr a1, vr a2, vi l3, vi l4, vi l5] [] M (fun r9 M9 => r9 = none ∧ Q M9)
theorem k_So_fillRanks {G : mG} {d : Nat} {a0 : Nat} {a1 : Nat} {a2 : Nat} {M : mM} {Q : mM → Prop} (hO : mOk M)
    (h : h_So_fillRanks_2 G d a0 a1 a2 0 M Q) :
    Cv G y_So_fillRanks (d + 1) [vr a0, vr a1, vr a2] M Q := by
  refine wm_open (y := y_So_fillRanks) rfl (Nat.le_of_ble_eq_true rfl) (L := [vr a0, vr a1, vr a2, vd, vd, vd]) rfl ?_
  refine wm_iconst d_So_fillRanks_0 ?_
  refine wm_istore_n d_So_fillRanks_1 rfl (by decide) (L' := [vr a0, vr a1, vr a2, vi 0, vd, vd]) rfl ?_
  exact h
theorem k_So_fillRanks_2 {G : mG} {d : Nat} {a0 : Nat} {a1 : Nat} {a2 : Nat} {l3 : Int} {M : mM} {Q : mM → Prop} (hO : mOk M) (hi_l3 : i32 l3)
    (h : mK M a0 = 8 ∧ mK M (mR M a0 3) = 7 ∧ ((mI M (mR M a0 3) 0 ≤ l3) → (h_So_fillRanks_45 G d a0 a1 a2 1 1 M Q)) ∧ (¬ (mI M (mR M a0 3) 0 ≤ l3) → (mK M (mR M (mR M a0 3) 2) = 30 ∧ ((0 : Int) ≤ l3 ∧ l3 < (mN M (mR M (mR M a0 3) 2) : Int)) ∧ ∀ v10 : Int, v10 = (if (mI M (mR M (mR M a0 3) 2) (Int.toNat l3) = 3) then 0 else (-1)) → mK M a2 = 30 ∧ ((0 : Int) ≤ l3 ∧ l3 < (mN M a2 : Int)) ∧ ∀ M16, M16 = mUI M a2 (Int.toNat l3) v10 → h_So_fillRanks_2 G d a0 a1 a2 (l3 + 1) M16 Q))) :
    h_So_fillRanks_2 G d a0 a1 a2 l3 M Q := by
  unfold h_So_fillRanks_2
  obtain ⟨h1, h⟩ := h
  obtain ⟨h2, h⟩ := h
  refine wm_iload_n d_So_fillRanks_2 rfl rfl ?_
  refine wm_aload_n d_So_fillRanks_3 rfl rfl ?_
  refine gf_So_64 rfl d_So_fillRanks_4 h1 ?_
  refine gf_So_107 rfl d_So_fillRanks_7 h2 ?_
  refine wm_icmp_ge (tgt := 40) d_So_fillRanks_10 rfl hi_l3 (hO _ _).1 (fun c6 => ?_) (fun c6 => ?_)
  · replace h := h.1 c6
    refine wm_iconst d_So_fillRanks_40 ?_
    refine wm_istore_n d_So_fillRanks_41 rfl (by decide) (L' := [vr a0, vr a1, vr a2, vi 1, vd, vd]) rfl ?_
    refine wm_iconst d_So_fillRanks_42 ?_
    refine wm_istore d_So_fillRanks_43 (by decide) (L' := [vr a0, vr a1, vr a2, vi 1, vi 1, vd]) rfl ?_
    exact h
  · replace h := h.2 c6
    obtain ⟨h7, h⟩ := h
    obtain ⟨h8, h⟩ := h
    refine wm_aload_n d_So_fillRanks_13 rfl rfl ?_
    refine wm_iload_n d_So_fillRanks_14 rfl rfl ?_
    refine wm_aload_n d_So_fillRanks_15 rfl rfl ?_
    refine gf_So_64 rfl d_So_fillRanks_16 h1 ?_
    refine gf_So_113 rfl d_So_fillRanks_19 h2 ?_
    refine wm_iload_n d_So_fillRanks_22 rfl rfl ?_
    refine wm_iald d_So_fillRanks_23 h7 h8 ?_
    refine wm_iconst d_So_fillRanks_24 ?_
    have hJ : ∀ v10 : Int, v10 = (if (mI M (mR M (mR M a0 3) 2) (Int.toNat l3) = 3) then 0 else (-1)) → mWm G y_So_fillRanks (d + 1) 33 [vr a0, vr a1, vr a2, vi l3, vd, vd] [vi v10, vi l3, vr a2] M (fun r9 M9 => r9 = none ∧ Q M9) := by
      intro v10 e12
      have h := h v10 e12
      have h13 : i32 v10 := by rw [e12]; (repeat' split) <;> first | exact ⟨by decide, by decide⟩ | exact ⟨by decide, by decide⟩
      obtain ⟨h14, h⟩ := h
      obtain ⟨h15, h⟩ := h
      obtain ⟨M16, e17⟩ : ∃ M16, M16 = mUI M a2 (Int.toNat l3) v10 := ⟨_, rfl⟩
      replace h := h M16 e17
      have hOM16 : mOk M16 := by rw [e17]; exact mOk_UI hO h13
      refine wm_iastE d_So_fillRanks_33 h14 h15 h13 e17 ?_
      refine wm_iinc d_So_fillRanks_34 (by decide) rfl (L' := [vr a0, vr a1, vr a2, vi (l3 + 1), vd, vd]) rfl ?_
      refine wm_goto (tgt := 2) d_So_fillRanks_37 rfl ?_
      exact h
    clear h
    refine wm_icmp_ne (tgt := 32) d_So_fillRanks_25 rfl (hO _ _).1 ⟨by decide, by decide⟩ (fun c9 => ?_) (fun c9 => ?_)
    · refine wm_iconst d_So_fillRanks_32 ?_
      exact hJ (-1) (if_neg c9).symm
    · replace c9 := Classical.not_not.mp c9
      refine wm_iconst d_So_fillRanks_28 ?_
      refine wm_goto (tgt := 33) d_So_fillRanks_29 rfl ?_
      exact hJ 0 (if_pos c9).symm
theorem k_So_fillRanks_45 {G : mG} {d : Nat} {a0 : Nat} {a1 : Nat} {a2 : Nat} {l3 : Int} {l4 : Int} {M : mM} {Q : mM → Prop} (hO : mOk M) (hi_l3 : i32 l3) (hi_l4 : i32 l4)
    (h : (((512 < l4) ∨ (l3 = 0)) → (Q M)) ∧ (¬ ((512 < l4) ∨ (l3 = 0)) → (h_So_fillRanks_62 G d a0 a1 a2 0 l4 0 M Q))) :
    h_So_fillRanks_45 G d a0 a1 a2 l3 l4 M Q := by
  unfold h_So_fillRanks_45
  refine wm_iload d_So_fillRanks_45 rfl ?_
  refine wm_sipush d_So_fillRanks_47 (by decide) ?_
  have hE0 : ((512 < l4) ∨ (l3 = 0)) → mWm G y_So_fillRanks (d + 1) 130 [vr a0, vr a1, vr a2, vi l3, vi l4, vd] [] M (fun r9 M9 => r9 = none ∧ Q M9) := by
    intro q22
    have h := h.1 q22
    refine wm_return d_So_fillRanks_130 rfl ?_
    exact ⟨rfl, h⟩
  have hE1 : ¬ ((512 < l4) ∨ (l3 = 0)) → mWm G y_So_fillRanks (d + 1) 57 [vr a0, vr a1, vr a2, vi l3, vi l4, vd] [] M (fun r9 M9 => r9 = none ∧ Q M9) := by
    intro q23
    have h := h.2 q23
    refine wm_iconst d_So_fillRanks_57 ?_
    refine wm_istore_n d_So_fillRanks_58 rfl (by decide) (L' := [vr a0, vr a1, vr a2, vi 0, vi l4, vd]) rfl ?_
    refine wm_iconst d_So_fillRanks_59 ?_
    refine wm_istore d_So_fillRanks_60 (by decide) (L' := [vr a0, vr a1, vr a2, vi 0, vi l4, vi 0]) rfl ?_
    exact h
  clear h
  refine wm_icmp_gt (tgt := 130) d_So_fillRanks_50 rfl hi_l4 ⟨by decide, by decide⟩ (fun c20 => ?_) (fun c20 => ?_)
  · exact hE0 (Or.inl c20)
  · refine wm_iload_n d_So_fillRanks_53 rfl rfl ?_
    refine wm_if_eq (tgt := 130) d_So_fillRanks_54 rfl hi_l3 (fun c19 => ?_) (fun c19 => ?_)
    · exact hE0 (Or.inr c19)
    · exact hE1 (fun z24 => Or.elim z24 c20 c19)
theorem k_So_fillRanks_62 {G : mG} {d : Nat} {a0 : Nat} {a1 : Nat} {a2 : Nat} {l3 : Int} {l4 : Int} {l5 : Int} {M : mM} {Q : mM → Prop} (hO : mOk M) (hi_l3 : i32 l3) (hi_l4 : i32 l4) (hi_l5 : i32 l5)
    (h : mK M a0 = 8 ∧ mK M (mR M a0 3) = 7 ∧ ((mI M (mR M a0 3) 0 ≤ l5) → (h_So_fillRanks_45 G d a0 a1 a2 l3 (l4 + 1) M Q)) ∧ (¬ (mI M (mR M a0 3) 0 ≤ l5) → (mK M a2 = 30 ∧ ((0 : Int) ≤ l5 ∧ l5 < (mN M a2 : Int)) ∧ ((mI M a2 (Int.toNat l5) = (-1)) → (mK M a1 = 13 ∧ mK M (mR M a1 0) = 35 ∧ ((0 : Int) ≤ l5 ∧ l5 < (mN M (mR M a1 0) : Int)) ∧ mK M (mR M (mR M a1 0) (Int.toNat l5)) = 11 ∧ mK M (mR M (mR M (mR M a1 0) (Int.toNat l5)) 0) = 10)) ∧ (((¬ (mI M a2 (Int.toNat l5) = (-1))) ∨ (mI M (mR M (mR M (mR M a1 0) (Int.toNat l5)) 0) 1 ≤ 0)) → (h_So_fillRanks_62 G d a0 a1 a2 l3 l4 (l5 + 1) M Q)) ∧ (¬ ((¬ (mI M a2 (Int.toNat l5) = (-1))) ∨ (mI M (mR M (mR M (mR M a1 0) (Int.toNat l5)) 0) 1 ≤ 0)) → (Ci G y_So_earns d [vr a0, vi l5, vi l4, vr a2] M (fun x59 M58 => i32 x59 ∧ mOk M58 ∧ ((¬ (x59 = 0) → (mK M58 a2 = 30 ∧ ((0 : Int) ≤ l5 ∧ l5 < (mN M58 a2 : Int)))) ∧ ∀ v64 : Int, v64 = (if (x59 = 0) then l3 else 1) → ∀ M65 : mM, M65 = (if (x59 = 0) then M58 else (mUI M58 a2 (Int.toNat l5) l4)) → mOk M65 ∧ h_So_fillRanks_62 G d a0 a1 a2 v64 l4 (l5 + 1) M65 Q))))))) :
    h_So_fillRanks_62 G d a0 a1 a2 l3 l4 l5 M Q := by
  unfold h_So_fillRanks_62
  obtain ⟨h26, h⟩ := h
  obtain ⟨h27, h⟩ := h
  refine wm_iload d_So_fillRanks_62 rfl ?_
  refine wm_aload_n d_So_fillRanks_64 rfl rfl ?_
  refine gf_So_64 rfl d_So_fillRanks_65 h26 ?_
  refine gf_So_107 rfl d_So_fillRanks_68 h27 ?_
  refine wm_icmp_ge (tgt := 124) d_So_fillRanks_71 rfl hi_l5 (hO _ _).1 (fun c38 => ?_) (fun c38 => ?_)
  · replace h := h.1 c38
    refine wm_iinc d_So_fillRanks_124 (by decide) rfl (L' := [vr a0, vr a1, vr a2, vi l3, vi (l4 + 1), vi l5]) rfl ?_
    refine wm_goto (tgt := 45) d_So_fillRanks_127 rfl ?_
    refine wm_less (L' := [vr a0, vr a1, vr a2, vi l3, vi (l4 + 1), vd]) ⟨Or.inr rfl, Or.inr rfl, Or.inr rfl, Or.inr rfl, Or.inr rfl, Or.inl rfl, trivial⟩ ?_
    exact h
  · replace h := h.2 c38
    obtain ⟨h39, h⟩ := h
    obtain ⟨h40, h⟩ := h
    refine wm_aload_n d_So_fillRanks_74 rfl rfl ?_
    refine wm_iload d_So_fillRanks_75 rfl ?_
    refine wm_iald d_So_fillRanks_77 h39 h40 ?_
    refine wm_iconst d_So_fillRanks_78 ?_
    obtain ⟨s55, h⟩ := h
    have hE0 : ((¬ (mI M a2 (Int.toNat l5) = (-1))) ∨ (mI M (mR M (mR M (mR M a1 0) (Int.toNat l5)) 0) 1 ≤ 0)) → mWm G y_So_fillRanks (d + 1) 118 [vr a0, vr a1, vr a2, vi l3, vi l4, vi l5] [] M (fun r9 M9 => r9 = none ∧ Q M9) := by
      intro q56
      have h := h.1 q56
      refine wm_iinc d_So_fillRanks_118 (by decide) rfl (L' := [vr a0, vr a1, vr a2, vi l3, vi l4, vi (l5 + 1)]) rfl ?_
      refine wm_goto (tgt := 62) d_So_fillRanks_121 rfl ?_
      exact h
    have hE1 : ¬ ((¬ (mI M a2 (Int.toNat l5) = (-1))) ∨ (mI M (mR M (mR M (mR M a1 0) (Int.toNat l5)) 0) 1 ≤ 0)) → mWm G y_So_fillRanks (d + 1) 98 [vr a0, vr a1, vr a2, vi l3, vi l4, vi l5] [] M (fun r9 M9 => r9 = none ∧ Q M9) := by
      intro q57
      have h := h.2 q57
      refine wm_aload_n d_So_fillRanks_98 rfl rfl ?_
      refine wm_iload d_So_fillRanks_99 rfl ?_
      refine wm_iload d_So_fillRanks_101 rfl ?_
      refine wm_aload_n d_So_fillRanks_103 rfl rfl ?_
      refine cf_So_248 rfl d_So_fillRanks_104 h26 (Nat.le_of_ble_eq_true rfl) (Ci.mono h (fun x59 M58 h => ?_))
      obtain ⟨h60, hOM58, h⟩ := h
      obtain ⟨s66, h⟩ := h
      have hJ : ∀ v64 : Int, v64 = (if (x59 = 0) then l3 else 1) → ∀ M65 : mM, M65 = (if (x59 = 0) then M58 else (mUI M58 a2 (Int.toNat l5) l4)) → mWm G y_So_fillRanks (d + 1) 118 [vr a0, vr a1, vr a2, vi v64, vi l4, vi l5] [] M65 (fun r9 M9 => r9 = none ∧ Q M9) := by
        intro v64 e67
        intro M65 e68
        have h := h v64 e67 M65 e68
        have h69 : i32 v64 := by rw [e67]; (repeat' split) <;> first | exact hi_l3 | exact ⟨by decide, by decide⟩
        have h70 : mK M65 = mK M58 := by rw [e68]; (repeat' split) <;> rfl
        obtain ⟨hOM65, h⟩ := h
        refine wm_iinc d_So_fillRanks_118 (by decide) rfl (L' := [vr a0, vr a1, vr a2, vi v64, vi l4, vi (l5 + 1)]) rfl ?_
        refine wm_goto (tgt := 62) d_So_fillRanks_121 rfl ?_
        exact h
      clear h
      have s71 := s66
      refine wm_if_eq (tgt := 118) d_So_fillRanks_107 rfl h60 (fun c61 => ?_) (fun c61 => ?_)
      · exact hJ l3 (if_pos c61).symm M58 (if_pos c61).symm
      · have s71 := s71 c61
        obtain ⟨h62, h63⟩ := s71
        refine wm_aload_n d_So_fillRanks_110 rfl rfl ?_
        refine wm_iload d_So_fillRanks_111 rfl ?_
        refine wm_iload d_So_fillRanks_113 rfl ?_
        refine wm_iastE d_So_fillRanks_115 h62 h63 hi_l4 rfl ?_
        refine wm_iconst d_So_fillRanks_116 ?_
        refine wm_istore_n d_So_fillRanks_117 rfl (by decide) (L' := [vr a0, vr a1, vr a2, vi 1, vi l4, vi l5]) rfl ?_
        exact hJ 1 (if_neg c61).symm (mUI M58 a2 (Int.toNat l5) l4) (if_neg c61).symm
    clear h
    have s74 := s55
    refine wm_icmp_ne (tgt := 118) d_So_fillRanks_79 rfl (hO _ _).1 ⟨by decide, by decide⟩ (fun c54 => ?_) (fun c54 => ?_)
    · exact hE0 (Or.inl c54)
    · replace c54 := Classical.not_not.mp c54
      have s74 := s74 c54
      obtain ⟨h48, h49, h50, h51, h52⟩ := s74
      refine wm_aload_n d_So_fillRanks_82 rfl rfl ?_
      refine gf_So_169 rfl d_So_fillRanks_83 h48 ?_
      refine wm_iload d_So_fillRanks_86 rfl ?_
      refine wm_aald5 d_So_fillRanks_88 h49 h50 ?_
      refine gf_So_173 rfl d_So_fillRanks_89 h51 ?_
      refine gf_So_245 rfl d_So_fillRanks_92 h52 ?_
      refine wm_if_le (tgt := 118) d_So_fillRanks_95 rfl (hO _ _).1 (fun c53 => ?_) (fun c53 => ?_)
      · exact hE0 (Or.inr c53)
      · exact hE1 (fun z75 => Or.elim z75 (fun w => w c54) c53)
theorem d_So_earns_0 : decode y_So_earns.2.1 0 = .ok (.aload_n 0, 1) := by decide +kernel
theorem d_So_earns_1 : decode y_So_earns.2.1 1 = .ok (.getfield 64, 3) := by decide +kernel
theorem d_So_earns_4 : decode y_So_earns.2.1 4 = .ok (.getfield 113, 3) := by decide +kernel
theorem d_So_earns_7 : decode y_So_earns.2.1 7 = .ok (.iload_n 1, 1) := by decide +kernel
theorem d_So_earns_8 : decode y_So_earns.2.1 8 = .ok (.iaload, 1) := by decide +kernel
theorem d_So_earns_9 : decode y_So_earns.2.1 9 = .ok (.iconst 1, 1) := by decide +kernel
theorem d_So_earns_10 : decode y_So_earns.2.1 10 = .ok (.if_icmp .ne 7, 3) := by decide +kernel
theorem d_So_earns_13 : decode y_So_earns.2.1 13 = .ok (.iconst 1, 1) := by decide +kernel
theorem d_So_earns_14 : decode y_So_earns.2.1 14 = .ok (.goto 4, 3) := by decide +kernel
theorem d_So_earns_17 : decode y_So_earns.2.1 17 = .ok (.iconst 0, 1) := by decide +kernel
theorem d_So_earns_18 : decode y_So_earns.2.1 18 = .ok (.istore 4, 2) := by decide +kernel
theorem d_So_earns_20 : decode y_So_earns.2.1 20 = .ok (.aload_n 0, 1) := by decide +kernel
theorem d_So_earns_21 : decode y_So_earns.2.1 21 = .ok (.getfield 64, 3) := by decide +kernel
theorem d_So_earns_24 : decode y_So_earns.2.1 24 = .ok (.getfield 116, 3) := by decide +kernel
theorem d_So_earns_27 : decode y_So_earns.2.1 27 = .ok (.iload_n 1, 1) := by decide +kernel
theorem d_So_earns_28 : decode y_So_earns.2.1 28 = .ok (.iaload, 1) := by decide +kernel
theorem d_So_earns_29 : decode y_So_earns.2.1 29 = .ok (.istore 5, 2) := by decide +kernel
theorem d_So_earns_31 : decode y_So_earns.2.1 31 = .ok (.iload 5, 2) := by decide +kernel
theorem d_So_earns_33 : decode y_So_earns.2.1 33 = .ok (.aload_n 0, 1) := by decide +kernel
theorem d_So_earns_34 : decode y_So_earns.2.1 34 = .ok (.getfield 64, 3) := by decide +kernel
theorem d_So_earns_37 : decode y_So_earns.2.1 37 = .ok (.getfield 116, 3) := by decide +kernel
theorem d_So_earns_40 : decode y_So_earns.2.1 40 = .ok (.iload_n 1, 1) := by decide +kernel
theorem d_So_earns_41 : decode y_So_earns.2.1 41 = .ok (.iconst 1, 1) := by decide +kernel
theorem d_So_earns_42 : decode y_So_earns.2.1 42 = .ok (.iadd, 1) := by decide +kernel
theorem d_So_earns_43 : decode y_So_earns.2.1 43 = .ok (.iaload, 1) := by decide +kernel
theorem d_So_earns_44 : decode y_So_earns.2.1 44 = .ok (.if_icmp .ge 35, 3) := by decide +kernel
theorem d_So_earns_79 : decode y_So_earns.2.1 79 = .ok (.iload 4, 2) := by decide +kernel
theorem d_So_earns_47 : decode y_So_earns.2.1 47 = .ok (.aload_n 0, 1) := by decide +kernel
theorem d_So_earns_48 : decode y_So_earns.2.1 48 = .ok (.getfield 50, 3) := by decide +kernel
theorem d_So_earns_51 : decode y_So_earns.2.1 51 = .ok (.iload 5, 2) := by decide +kernel
theorem d_So_earns_53 : decode y_So_earns.2.1 53 = .ok (.baload, 1) := by decide +kernel
theorem d_So_earns_81 : decode y_So_earns.2.1 81 = .ok (.ifCond .ne 7, 3) := by decide +kernel
theorem d_So_earns_84 : decode y_So_earns.2.1 84 = .ok (.iconst 1, 1) := by decide +kernel
theorem d_So_earns_85 : decode y_So_earns.2.1 85 = .ok (.goto 4, 3) := by decide +kernel
theorem d_So_earns_89 : decode y_So_earns.2.1 89 = .ok (.ireturn, 1) := by decide +kernel
theorem d_So_earns_88 : decode y_So_earns.2.1 88 = .ok (.iconst 0, 1) := by decide +kernel
theorem d_So_earns_54 : decode y_So_earns.2.1 54 = .ok (.ifCond .eq 19, 3) := by decide +kernel
theorem d_So_earns_57 : decode y_So_earns.2.1 57 = .ok (.aload_n 0, 1) := by decide +kernel
theorem d_So_earns_58 : decode y_So_earns.2.1 58 = .ok (.iload 5, 2) := by decide +kernel
theorem d_So_earns_60 : decode y_So_earns.2.1 60 = .ok (.iload_n 2, 1) := by decide +kernel
theorem d_So_earns_61 : decode y_So_earns.2.1 61 = .ok (.aload_n 3, 1) := by decide +kernel
theorem d_So_earns_73 : decode y_So_earns.2.1 73 = .ok (.iinc 5 1, 3) := by decide +kernel
theorem d_So_earns_76 : decode y_So_earns.2.1 76 = .ok (.goto (-45), 3) := by decide +kernel
theorem d_So_earns_62 : decode y_So_earns.2.1 62 = .ok (.invokevirtual 239, 3) := by decide +kernel
theorem d_So_earns_65 : decode y_So_earns.2.1 65 = .ok (.iload 4, 2) := by decide +kernel
theorem d_So_earns_67 : decode y_So_earns.2.1 67 = .ok (.if_icmp .ne 6, 3) := by decide +kernel
theorem d_So_earns_70 : decode y_So_earns.2.1 70 = .ok (.iload 4, 2) := by decide +kernel
theorem d_So_earns_72 : decode y_So_earns.2.1 72 = .ok (.ireturn, 1) := by decide +kernel
def h_So_earns_31 (G : mG) (d : Nat) (a0 : Nat) (l1 : Int) (l2 : Int) (a3 : Nat) (l4 : Int) (l5 : Int) (M : mM) (Q : Int → mM → Prop) : Prop := mWm G y_So_earns (d + 1) 31 [vr a0, vi l1, vi l2, vr a3, vi l4, vi l5] [] M (fun r9 M9 => ∃ x9, r9 = some (vi x9) ∧ Q x9 M9)
theorem k_So_earns {G : mG} {d : Nat} {a0 : Nat} {l1 : Int} {l2 : Int} {a3 : Nat} {M : mM} {Q : Int → mM → Prop} (hO : mOk M) (hi_l1 : i32 l1) (hi_l2 : i32 l2)
    (h : mK M a0 = 8 ∧ mK M (mR M a0 3) = 7 ∧ mK M (mR M (mR M a0 3) 2) = 30 ∧ ((0 : Int) ≤ l1 ∧ l1 < (mN M (mR M (mR M a0 3) 2) : Int)) ∧ ∀ v6 : Int, v6 = (if (mI M (mR M (mR M a0 3) 2) (Int.toNat l1) = 1) then 1 else 0) → mK M (mR M (mR M a0 3) 4) = 30 ∧ ((0 : Int) ≤ l1 ∧ l1 < (mN M (mR M (mR M a0 3) 4) : Int)) ∧ h_So_earns_31 G d a0 l1 l2 a3 v6 (mI M (mR M (mR M a0 3) 4) (Int.toNat l1)) M Q) :
    Ci G y_So_earns (d + 1) [vr a0, vi l1, vi l2, vr a3] M Q := by
  refine wm_open (y := y_So_earns) rfl (Nat.le_of_ble_eq_true rfl) (L := [vr a0, vi l1, vi l2, vr a3, vd, vd]) rfl ?_
  obtain ⟨h1, h⟩ := h
  obtain ⟨h2, h⟩ := h
  obtain ⟨h3, h⟩ := h
  obtain ⟨h4, h⟩ := h
  refine wm_aload_n d_So_earns_0 rfl rfl ?_
  refine gf_So_64 rfl d_So_earns_1 h1 ?_
  refine gf_So_113 rfl d_So_earns_4 h2 ?_
  refine wm_iload_n d_So_earns_7 rfl rfl ?_
  refine wm_iald d_So_earns_8 h3 h4 ?_
  refine wm_iconst d_So_earns_9 ?_
  have hJ : ∀ v6 : Int, v6 = (if (mI M (mR M (mR M a0 3) 2) (Int.toNat l1) = 1) then 1 else 0) → mWm G y_So_earns (d + 1) 18 [vr a0, vi l1, vi l2, vr a3, vd, vd] [vi v6] M (fun r9 M9 => ∃ x9, r9 = some (vi x9) ∧ Q x9 M9) := by
    intro v6 e8
    have h := h v6 e8
    have h9 : i32 v6 := by rw [e8]; (repeat' split) <;> first | exact ⟨by decide, by decide⟩ | exact ⟨by decide, by decide⟩
    have h10 : (v6 = 0 ∨ v6 = 1) := by rw [e8]; (repeat' split) <;> decide
    obtain ⟨h11, h⟩ := h
    obtain ⟨h12, h⟩ := h
    refine wm_istore d_So_earns_18 (by decide) (L' := [vr a0, vi l1, vi l2, vr a3, vi v6, vd]) rfl ?_
    refine wm_aload_n d_So_earns_20 rfl rfl ?_
    refine gf_So_64 rfl d_So_earns_21 h1 ?_
    refine gf_So_116 rfl d_So_earns_24 h2 ?_
    refine wm_iload_n d_So_earns_27 rfl rfl ?_
    refine wm_iald d_So_earns_28 h11 h12 ?_
    refine wm_istore d_So_earns_29 (by decide) (L' := [vr a0, vi l1, vi l2, vr a3, vi v6, vi (mI M (mR M (mR M a0 3) 4) (Int.toNat l1))]) rfl ?_
    exact h
  clear h
  refine wm_icmp_ne (tgt := 17) d_So_earns_10 rfl (hO _ _).1 ⟨by decide, by decide⟩ (fun c5 => ?_) (fun c5 => ?_)
  · refine wm_iconst d_So_earns_17 ?_
    exact hJ 0 (if_neg c5).symm
  · replace c5 := Classical.not_not.mp c5
    refine wm_iconst d_So_earns_13 ?_
    refine wm_goto (tgt := 18) d_So_earns_14 rfl ?_
    exact hJ 1 (if_pos c5).symm
theorem k_So_earns_31 {G : mG} {d : Nat} {a0 : Nat} {l1 : Int} {l2 : Int} {a3 : Nat} {l4 : Int} {l5 : Int} {M : mM} {Q : Int → mM → Prop} (hO : mOk M) (hi_l1 : i32 l1) (hi_l2 : i32 l2) (hi_l4 : i32 l4) (hi_l5 : i32 l5)
    (h : mK M a0 = 8 ∧ mK M (mR M a0 3) = 7 ∧ mK M (mR M (mR M a0 3) 4) = 30 ∧ ((0 : Int) ≤ l1 + 1 ∧ l1 + 1 < (mN M (mR M (mR M a0 3) 4) : Int)) ∧ ((mI M (mR M (mR M a0 3) 4) (Int.toNat (l1 + 1)) ≤ l5) → (∀ v27 : Int, v27 = (if (l4 = 0) then 1 else 0) → Q v27 M)) ∧ (¬ (mI M (mR M (mR M a0 3) 4) (Int.toNat (l1 + 1)) ≤ l5) → (mK M (mR M a0 15) = 31 ∧ ((0 : Int) ≤ l5 ∧ l5 < (mN M (mR M a0 15) : Int)) ∧ ((mI M (mR M a0 15) (Int.toNat l5) = 0) → (h_So_earns_31 G d a0 l1 l2 a3 l4 (l5 + 1) M Q)) ∧ (¬ (mI M (mR M a0 15) (Int.toNat l5) = 0) → (Ci G y_So_leadsBelow d [vr a0, vi l5, vi l2, vr a3] M (fun x38 M37 => i32 x38 ∧ mOk M37 ∧ (((x38 = l4) → ((l4 = 0 ∨ l4 = 1) ∧ Q l4 M37)) ∧ (¬ (x38 = l4) → (h_So_earns_31 G d a0 l1 l2 a3 l4 (l5 + 1) M37 Q))))))))) :
    h_So_earns_31 G d a0 l1 l2 a3 l4 l5 M Q := by
  unfold h_So_earns_31
  obtain ⟨h14, h⟩ := h
  obtain ⟨h15, h⟩ := h
  obtain ⟨h16, h⟩ := h
  obtain ⟨h17, h⟩ := h
  refine wm_iload d_So_earns_31 rfl ?_
  refine wm_aload_n d_So_earns_33 rfl rfl ?_
  refine gf_So_64 rfl d_So_earns_34 h14 ?_
  refine gf_So_116 rfl d_So_earns_37 h15 ?_
  refine wm_iload_n d_So_earns_40 rfl rfl ?_
  refine wm_iconst d_So_earns_41 ?_
  refine wm_iadd d_So_earns_42 ?_
  refine wm_iald d_So_earns_43 h16 h17 ?_
  refine wm_icmp_ge (tgt := 79) d_So_earns_44 rfl hi_l5 (hO _ _).1 (fun c25 => ?_) (fun c25 => ?_)
  · replace h := h.1 c25
    refine wm_iload d_So_earns_79 rfl ?_
    have hJ : ∀ v27 : Int, v27 = (if (l4 = 0) then 1 else 0) → mWm G y_So_earns (d + 1) 89 [vd, vd, vd, vd, vd, vd] [vi v27] M (fun r9 M9 => ∃ x9, r9 = some (vi x9) ∧ Q x9 M9) := by
      intro v27 e29
      have h := h v27 e29
      have h30 : i32 v27 := by rw [e29]; (repeat' split) <;> first | exact ⟨by decide, by decide⟩ | exact ⟨by decide, by decide⟩
      have h31 : (v27 = 0 ∨ v27 = 1) := by rw [e29]; (repeat' split) <;> decide
      refine wm_ireturn d_So_earns_89 rfl (m_nb h31) ?_
      exact ⟨_, rfl, h⟩
    clear h
    refine wm_if_ne (tgt := 88) d_So_earns_81 rfl hi_l4 (fun c26 => ?_) (fun c26 => ?_)
    · refine wm_iconst d_So_earns_88 ?_
      refine wm_less (L' := [vd, vd, vd, vd, vd, vd]) ⟨Or.inl rfl, Or.inl rfl, Or.inl rfl, Or.inl rfl, Or.inl rfl, Or.inl rfl, trivial⟩ ?_
      exact hJ 0 (if_neg c26).symm
    · replace c26 := Classical.not_not.mp c26
      refine wm_iconst d_So_earns_84 ?_
      refine wm_goto (tgt := 89) d_So_earns_85 rfl ?_
      refine wm_less (L' := [vd, vd, vd, vd, vd, vd]) ⟨Or.inl rfl, Or.inl rfl, Or.inl rfl, Or.inl rfl, Or.inl rfl, Or.inl rfl, trivial⟩ ?_
      exact hJ 1 (if_pos c26).symm
  · replace h := h.2 c25
    obtain ⟨h33, h⟩ := h
    obtain ⟨h34, h⟩ := h
    refine wm_aload_n d_So_earns_47 rfl rfl ?_
    refine gf_So_50 rfl d_So_earns_48 h14 ?_
    refine wm_iload d_So_earns_51 rfl ?_
    refine wm_zald d_So_earns_53 h33 h34 ?_
    refine wm_if_eq (tgt := 73) d_So_earns_54 rfl (hO _ _).1 (fun c36 => ?_) (fun c36 => ?_)
    · replace h := h.1 c36
      refine wm_iinc d_So_earns_73 (by decide) rfl (L' := [vr a0, vi l1, vi l2, vr a3, vi l4, vi (l5 + 1)]) rfl ?_
      refine wm_goto (tgt := 31) d_So_earns_76 rfl ?_
      exact h
    · replace h := h.2 c36
      refine wm_aload_n d_So_earns_57 rfl rfl ?_
      refine wm_iload d_So_earns_58 rfl ?_
      refine wm_iload_n d_So_earns_60 rfl rfl ?_
      refine wm_aload_n d_So_earns_61 rfl rfl ?_
      refine cf_So_239 rfl d_So_earns_62 h14 (Nat.le_of_ble_eq_true rfl) (Ci.mono h (fun x38 M37 h => ?_))
      obtain ⟨h39, hOM37, h⟩ := h
      refine wm_iload d_So_earns_65 rfl ?_
      refine wm_icmp_ne (tgt := 73) d_So_earns_67 rfl h39 hi_l4 (fun c42 => ?_) (fun c42 => ?_)
      · replace h := h.2 c42
        refine wm_iinc d_So_earns_73 (by decide) rfl (L' := [vr a0, vi l1, vi l2, vr a3, vi l4, vi (l5 + 1)]) rfl ?_
        refine wm_goto (tgt := 31) d_So_earns_76 rfl ?_
        exact h
      · replace c42 := Classical.not_not.mp c42
        replace h := h.1 c42
        obtain ⟨h43, h⟩ := h
        refine wm_iload d_So_earns_70 rfl ?_
        refine wm_ireturn d_So_earns_72 rfl (m_nb h43) ?_
        exact ⟨_, rfl, h⟩
theorem d_So_leadsBelow_0 : decode y_So_leadsBelow.2.1 0 = .ok (.aload_n 0, 1) := by decide +kernel
theorem d_So_leadsBelow_1 : decode y_So_leadsBelow.2.1 1 = .ok (.getfield 64, 3) := by decide +kernel
theorem d_So_leadsBelow_4 : decode y_So_leadsBelow.2.1 4 = .ok (.getfield 139, 3) := by decide +kernel
theorem d_So_leadsBelow_7 : decode y_So_leadsBelow.2.1 7 = .ok (.iload_n 1, 1) := by decide +kernel
theorem d_So_leadsBelow_8 : decode y_So_leadsBelow.2.1 8 = .ok (.iaload, 1) := by decide +kernel
theorem d_So_leadsBelow_9 : decode y_So_leadsBelow.2.1 9 = .ok (.istore 4, 2) := by decide +kernel
theorem d_So_leadsBelow_11 : decode y_So_leadsBelow.2.1 11 = .ok (.iload 4, 2) := by decide +kernel
theorem d_So_leadsBelow_13 : decode y_So_leadsBelow.2.1 13 = .ok (.aload_n 0, 1) := by decide +kernel
theorem d_So_leadsBelow_14 : decode y_So_leadsBelow.2.1 14 = .ok (.getfield 64, 3) := by decide +kernel
theorem d_So_leadsBelow_17 : decode y_So_leadsBelow.2.1 17 = .ok (.getfield 139, 3) := by decide +kernel
theorem d_So_leadsBelow_20 : decode y_So_leadsBelow.2.1 20 = .ok (.iload_n 1, 1) := by decide +kernel
theorem d_So_leadsBelow_21 : decode y_So_leadsBelow.2.1 21 = .ok (.iconst 1, 1) := by decide +kernel
theorem d_So_leadsBelow_22 : decode y_So_leadsBelow.2.1 22 = .ok (.iadd, 1) := by decide +kernel
theorem d_So_leadsBelow_23 : decode y_So_leadsBelow.2.1 23 = .ok (.iaload, 1) := by decide +kernel
theorem d_So_leadsBelow_24 : decode y_So_leadsBelow.2.1 24 = .ok (.if_icmp .ge 37, 3) := by decide +kernel
theorem d_So_leadsBelow_61 : decode y_So_leadsBelow.2.1 61 = .ok (.iconst 0, 1) := by decide +kernel
theorem d_So_leadsBelow_62 : decode y_So_leadsBelow.2.1 62 = .ok (.ireturn, 1) := by decide +kernel
theorem d_So_leadsBelow_27 : decode y_So_leadsBelow.2.1 27 = .ok (.aload_n 3, 1) := by decide +kernel
theorem d_So_leadsBelow_28 : decode y_So_leadsBelow.2.1 28 = .ok (.aload_n 0, 1) := by decide +kernel
theorem d_So_leadsBelow_29 : decode y_So_leadsBelow.2.1 29 = .ok (.getfield 64, 3) := by decide +kernel
theorem d_So_leadsBelow_32 : decode y_So_leadsBelow.2.1 32 = .ok (.getfield 142, 3) := by decide +kernel
theorem d_So_leadsBelow_35 : decode y_So_leadsBelow.2.1 35 = .ok (.iload 4, 2) := by decide +kernel
theorem d_So_leadsBelow_37 : decode y_So_leadsBelow.2.1 37 = .ok (.iaload, 1) := by decide +kernel
theorem d_So_leadsBelow_38 : decode y_So_leadsBelow.2.1 38 = .ok (.iaload, 1) := by decide +kernel
theorem d_So_leadsBelow_39 : decode y_So_leadsBelow.2.1 39 = .ok (.istore 5, 2) := by decide +kernel
theorem d_So_leadsBelow_41 : decode y_So_leadsBelow.2.1 41 = .ok (.iload 5, 2) := by decide +kernel
theorem d_So_leadsBelow_43 : decode y_So_leadsBelow.2.1 43 = .ok (.iconst (-1), 1) := by decide +kernel
theorem d_So_leadsBelow_44 : decode y_So_leadsBelow.2.1 44 = .ok (.if_icmp .eq 11, 3) := by decide +kernel
theorem d_So_leadsBelow_47 : decode y_So_leadsBelow.2.1 47 = .ok (.iload 5, 2) := by decide +kernel
theorem d_So_leadsBelow_49 : decode y_So_leadsBelow.2.1 49 = .ok (.iload_n 2, 1) := by decide +kernel
theorem d_So_leadsBelow_50 : decode y_So_leadsBelow.2.1 50 = .ok (.if_icmp .ge 5, 3) := by decide +kernel
theorem d_So_leadsBelow_53 : decode y_So_leadsBelow.2.1 53 = .ok (.iconst 1, 1) := by decide +kernel
theorem d_So_leadsBelow_54 : decode y_So_leadsBelow.2.1 54 = .ok (.ireturn, 1) := by decide +kernel
theorem d_So_leadsBelow_55 : decode y_So_leadsBelow.2.1 55 = .ok (.iinc 4 1, 3) := by decide +kernel
theorem d_So_leadsBelow_58 : decode y_So_leadsBelow.2.1 58 = .ok (.goto (-47), 3) := by decide +kernel
def h_So_leadsBelow_11 (G : mG) (d : Nat) (a0 : Nat) (l1 : Int) (l2 : Int) (a3 : Nat) (l4 : Int) (M : mM) (Q : Int → mM → Prop) : Prop := mWm G y_So_leadsBelow d 11 [vr a0, vi l1, vi l2, vr a3, vi l4, vd] [] M (fun r9 M9 => ∃ x9, r9 = some (vi x9) ∧ Q x9 M9)
theorem k_So_leadsBelow {G : mG} {d : Nat} {a0 : Nat} {l1 : Int} {l2 : Int} {a3 : Nat} {M : mM} {Q : Int → mM → Prop} (hO : mOk M) (hi_l1 : i32 l1) (hi_l2 : i32 l2)
    (h : mK M a0 = 8 ∧ mK M (mR M a0 3) = 7 ∧ mK M (mR M (mR M a0 3) 7) = 30 ∧ ((0 : Int) ≤ l1 ∧ l1 < (mN M (mR M (mR M a0 3) 7) : Int)) ∧ h_So_leadsBelow_11 G d a0 l1 l2 a3 (mI M (mR M (mR M a0 3) 7) (Int.toNat l1)) M Q) :
    Ci G y_So_leadsBelow d [vr a0, vi l1, vi l2, vr a3] M Q := by
  refine wm_open (y := y_So_leadsBelow) rfl (Nat.le_of_ble_eq_true rfl) (L := [vr a0, vi l1, vi l2, vr a3, vd, vd]) rfl ?_
  obtain ⟨h1, h⟩ := h
  obtain ⟨h2, h⟩ := h
  obtain ⟨h3, h⟩ := h
  obtain ⟨h4, h⟩ := h
  refine wm_aload_n d_So_leadsBelow_0 rfl rfl ?_
  refine gf_So_64 rfl d_So_leadsBelow_1 h1 ?_
  refine gf_So_139 rfl d_So_leadsBelow_4 h2 ?_
  refine wm_iload_n d_So_leadsBelow_7 rfl rfl ?_
  refine wm_iald d_So_leadsBelow_8 h3 h4 ?_
  refine wm_istore d_So_leadsBelow_9 (by decide) (L' := [vr a0, vi l1, vi l2, vr a3, vi (mI M (mR M (mR M a0 3) 7) (Int.toNat l1)), vd]) rfl ?_
  exact h
theorem k_So_leadsBelow_11 {G : mG} {d : Nat} {a0 : Nat} {l1 : Int} {l2 : Int} {a3 : Nat} {l4 : Int} {M : mM} {Q : Int → mM → Prop} (hO : mOk M) (hi_l1 : i32 l1) (hi_l2 : i32 l2) (hi_l4 : i32 l4)
    (h : mK M a0 = 8 ∧ mK M (mR M a0 3) = 7 ∧ mK M (mR M (mR M a0 3) 7) = 30 ∧ ((0 : Int) ≤ l1 + 1 ∧ l1 + 1 < (mN M (mR M (mR M a0 3) 7) : Int)) ∧ ((mI M (mR M (mR M a0 3) 7) (Int.toNat (l1 + 1)) ≤ l4) → (Q 0 M)) ∧ (¬ (mI M (mR M (mR M a0 3) 7) (Int.toNat (l1 + 1)) ≤ l4) → (mK M (mR M (mR M a0 3) 8) = 30 ∧ ((0 : Int) ≤ l4 ∧ l4 < (mN M (mR M (mR M a0 3) 8) : Int)) ∧ mK M a3 = 30 ∧ ((0 : Int) ≤ mI M (mR M (mR M a0 3) 8) (Int.toNat l4) ∧ mI M (mR M (mR M a0 3) 8) (Int.toNat l4) < (mN M a3 : Int)) ∧ (((mI M a3 (Int.toNat (mI M (mR M (mR M a0 3) 8) (Int.toNat l4))) = (-1)) ∨ (l2 ≤ mI M a3 (Int.toNat (mI M (mR M (mR M a0 3) 8) (Int.toNat l4))))) → (h_So_leadsBelow_11 G d a0 l1 l2 a3 (l4 + 1) M Q)) ∧ (¬ ((mI M a3 (Int.toNat (mI M (mR M (mR M a0 3) 8) (Int.toNat l4))) = (-1)) ∨ (l2 ≤ mI M a3 (Int.toNat (mI M (mR M (mR M a0 3) 8) (Int.toNat l4))))) → (Q 1 M))))) :
    h_So_leadsBelow_11 G d a0 l1 l2 a3 l4 M Q := by
  unfold h_So_leadsBelow_11
  obtain ⟨h5, h⟩ := h
  obtain ⟨h6, h⟩ := h
  obtain ⟨h7, h⟩ := h
  obtain ⟨h8, h⟩ := h
  refine wm_iload d_So_leadsBelow_11 rfl ?_
  refine wm_aload_n d_So_leadsBelow_13 rfl rfl ?_
  refine gf_So_64 rfl d_So_leadsBelow_14 h5 ?_
  refine gf_So_139 rfl d_So_leadsBelow_17 h6 ?_
  refine wm_iload_n d_So_leadsBelow_20 rfl rfl ?_
  refine wm_iconst d_So_leadsBelow_21 ?_
  refine wm_iadd d_So_leadsBelow_22 ?_
  refine wm_iald d_So_leadsBelow_23 h7 h8 ?_
  refine wm_icmp_ge (tgt := 61) d_So_leadsBelow_24 rfl hi_l4 (hO _ _).1 (fun c14 => ?_) (fun c14 => ?_)
  · replace h := h.1 c14
    refine wm_iconst d_So_leadsBelow_61 ?_
    refine wm_ireturn d_So_leadsBelow_62 rfl (m_nb (by decide)) ?_
    exact ⟨_, rfl, h⟩
  · replace h := h.2 c14
    obtain ⟨h15, h⟩ := h
    obtain ⟨h16, h⟩ := h
    obtain ⟨h17, h⟩ := h
    obtain ⟨h18, h⟩ := h
    refine wm_aload_n d_So_leadsBelow_27 rfl rfl ?_
    refine wm_aload_n d_So_leadsBelow_28 rfl rfl ?_
    refine gf_So_64 rfl d_So_leadsBelow_29 h5 ?_
    refine gf_So_142 rfl d_So_leadsBelow_32 h6 ?_
    refine wm_iload d_So_leadsBelow_35 rfl ?_
    refine wm_iald d_So_leadsBelow_37 h15 h16 ?_
    refine wm_iald d_So_leadsBelow_38 h17 h18 ?_
    refine wm_istore d_So_leadsBelow_39 (by decide) (L' := [vr a0, vi l1, vi l2, vr a3, vi l4, vi (mI M a3 (Int.toNat (mI M (mR M (mR M a0 3) 8) (Int.toNat l4))))]) rfl ?_
    refine wm_iload d_So_leadsBelow_41 rfl ?_
    refine wm_iconst d_So_leadsBelow_43 ?_
    have hE0 : ((mI M a3 (Int.toNat (mI M (mR M (mR M a0 3) 8) (Int.toNat l4))) = (-1)) ∨ (l2 ≤ mI M a3 (Int.toNat (mI M (mR M (mR M a0 3) 8) (Int.toNat l4))))) → mWm G y_So_leadsBelow d 55 [vr a0, vi l1, vi l2, vr a3, vi l4, vi (mI M a3 (Int.toNat (mI M (mR M (mR M a0 3) 8) (Int.toNat l4))))] [] M (fun r9 M9 => ∃ x9, r9 = some (vi x9) ∧ Q x9 M9) := by
      intro q22
      have h := h.1 q22
      refine wm_iinc d_So_leadsBelow_55 (by decide) rfl (L' := [vr a0, vi l1, vi l2, vr a3, vi (l4 + 1), vi (mI M a3 (Int.toNat (mI M (mR M (mR M a0 3) 8) (Int.toNat l4))))]) rfl ?_
      refine wm_goto (tgt := 11) d_So_leadsBelow_58 rfl ?_
      refine wm_less (L' := [vr a0, vi l1, vi l2, vr a3, vi (l4 + 1), vd]) ⟨Or.inr rfl, Or.inr rfl, Or.inr rfl, Or.inr rfl, Or.inr rfl, Or.inl rfl, trivial⟩ ?_
      exact h
    have hE1 : ¬ ((mI M a3 (Int.toNat (mI M (mR M (mR M a0 3) 8) (Int.toNat l4))) = (-1)) ∨ (l2 ≤ mI M a3 (Int.toNat (mI M (mR M (mR M a0 3) 8) (Int.toNat l4))))) → mWm G y_So_leadsBelow d 53 [vr a0, vi l1, vi l2, vr a3, vi l4, vi (mI M a3 (Int.toNat (mI M (mR M (mR M a0 3) 8) (Int.toNat l4))))] [] M (fun r9 M9 => ∃ x9, r9 = some (vi x9) ∧ Q x9 M9) := by
      intro q23
      have h := h.2 q23
      refine wm_iconst d_So_leadsBelow_53 ?_
      refine wm_ireturn d_So_leadsBelow_54 rfl (m_nb (by decide)) ?_
      exact ⟨_, rfl, h⟩
    clear h
    refine wm_icmp_eq (tgt := 55) d_So_leadsBelow_44 rfl (hO _ _).1 ⟨by decide, by decide⟩ (fun c20 => ?_) (fun c20 => ?_)
    · exact hE0 (Or.inl c20)
    · refine wm_iload d_So_leadsBelow_47 rfl ?_
      refine wm_iload_n d_So_leadsBelow_49 rfl rfl ?_
      refine wm_icmp_ge (tgt := 55) d_So_leadsBelow_50 rfl (hO _ _).1 hi_l2 (fun c19 => ?_) (fun c19 => ?_)
      · exact hE0 (Or.inr c19)
      · exact hE1 (fun z24 => Or.elim z24 c20 c19)
theorem d_So_holds_0 : decode y_So_holds.2.1 0 = .ok (.aload_n 0, 1) := by decide +kernel
theorem d_So_holds_1 : decode y_So_holds.2.1 1 = .ok (.aload_n 1, 1) := by decide +kernel
theorem d_So_holds_2 : decode y_So_holds.2.1 2 = .ok (.invokevirtual 232, 3) := by decide +kernel
theorem d_So_holds_5 : decode y_So_holds.2.1 5 = .ok (.istore_n 2, 1) := by decide +kernel
theorem d_So_holds_6 : decode y_So_holds.2.1 6 = .ok (.aload_n 0, 1) := by decide +kernel
theorem d_So_holds_7 : decode y_So_holds.2.1 7 = .ok (.aload_n 1, 1) := by decide +kernel
theorem d_So_holds_8 : decode y_So_holds.2.1 8 = .ok (.aload_n 0, 1) := by decide +kernel
theorem d_So_holds_9 : decode y_So_holds.2.1 9 = .ok (.getfield 54, 3) := by decide +kernel
theorem d_So_holds_12 : decode y_So_holds.2.1 12 = .ok (.invokevirtual 235, 3) := by decide +kernel
theorem d_So_holds_15 : decode y_So_holds.2.1 15 = .ok (.iconst 0, 1) := by decide +kernel
theorem d_So_holds_16 : decode y_So_holds.2.1 16 = .ok (.istore_n 3, 1) := by decide +kernel
theorem d_So_holds_17 : decode y_So_holds.2.1 17 = .ok (.iload_n 3, 1) := by decide +kernel
theorem d_So_holds_18 : decode y_So_holds.2.1 18 = .ok (.aload_n 0, 1) := by decide +kernel
theorem d_So_holds_19 : decode y_So_holds.2.1 19 = .ok (.getfield 64, 3) := by decide +kernel
theorem d_So_holds_22 : decode y_So_holds.2.1 22 = .ok (.getfield 107, 3) := by decide +kernel
theorem d_So_holds_25 : decode y_So_holds.2.1 25 = .ok (.if_icmp .ge 69, 3) := by decide +kernel
theorem d_So_holds_94 : decode y_So_holds.2.1 94 = .ok (.iload_n 2, 1) := by decide +kernel
theorem d_So_holds_95 : decode y_So_holds.2.1 95 = .ok (.ireturn, 1) := by decide +kernel
theorem d_So_holds_28 : decode y_So_holds.2.1 28 = .ok (.aload_n 1, 1) := by decide +kernel
theorem d_So_holds_29 : decode y_So_holds.2.1 29 = .ok (.getfield 169, 3) := by decide +kernel
theorem d_So_holds_32 : decode y_So_holds.2.1 32 = .ok (.iload_n 3, 1) := by decide +kernel
theorem d_So_holds_33 : decode y_So_holds.2.1 33 = .ok (.aaload, 1) := by decide +kernel
theorem d_So_holds_34 : decode y_So_holds.2.1 34 = .ok (.getfield 173, 3) := by decide +kernel
theorem d_So_holds_37 : decode y_So_holds.2.1 37 = .ok (.getfield 245, 3) := by decide +kernel
theorem d_So_holds_40 : decode y_So_holds.2.1 40 = .ok (.ifCond .eq 13, 3) := by decide +kernel
theorem d_So_holds_43 : decode y_So_holds.2.1 43 = .ok (.aload_n 0, 1) := by decide +kernel
theorem d_So_holds_44 : decode y_So_holds.2.1 44 = .ok (.getfield 54, 3) := by decide +kernel
theorem d_So_holds_47 : decode y_So_holds.2.1 47 = .ok (.iload_n 3, 1) := by decide +kernel
theorem d_So_holds_48 : decode y_So_holds.2.1 48 = .ok (.iaload, 1) := by decide +kernel
theorem d_So_holds_49 : decode y_So_holds.2.1 49 = .ok (.iconst (-1), 1) := by decide +kernel
theorem d_So_holds_50 : decode y_So_holds.2.1 50 = .ok (.if_icmp .eq 7, 3) := by decide +kernel
theorem d_So_holds_57 : decode y_So_holds.2.1 57 = .ok (.iconst 0, 1) := by decide +kernel
theorem d_So_holds_58 : decode y_So_holds.2.1 58 = .ok (.istore 4, 2) := by decide +kernel
theorem d_So_holds_60 : decode y_So_holds.2.1 60 = .ok (.iload_n 2, 1) := by decide +kernel
theorem d_So_holds_61 : decode y_So_holds.2.1 61 = .ok (.iload 4, 2) := by decide +kernel
theorem d_So_holds_53 : decode y_So_holds.2.1 53 = .ok (.iconst 1, 1) := by decide +kernel
theorem d_So_holds_54 : decode y_So_holds.2.1 54 = .ok (.goto 4, 3) := by decide +kernel
theorem d_So_holds_63 : decode y_So_holds.2.1 63 = .ok (.ifCond .eq 22, 3) := by decide +kernel
theorem d_So_holds_85 : decode y_So_holds.2.1 85 = .ok (.iconst 0, 1) := by decide +kernel
theorem d_So_holds_66 : decode y_So_holds.2.1 66 = .ok (.aload_n 0, 1) := by decide +kernel
theorem d_So_holds_67 : decode y_So_holds.2.1 67 = .ok (.getfield 54, 3) := by decide +kernel
theorem d_So_holds_70 : decode y_So_holds.2.1 70 = .ok (.iload_n 3, 1) := by decide +kernel
theorem d_So_holds_71 : decode y_So_holds.2.1 71 = .ok (.iaload, 1) := by decide +kernel
theorem d_So_holds_72 : decode y_So_holds.2.1 72 = .ok (.aload_n 0, 1) := by decide +kernel
theorem d_So_holds_73 : decode y_So_holds.2.1 73 = .ok (.getfield 18, 3) := by decide +kernel
theorem d_So_holds_76 : decode y_So_holds.2.1 76 = .ok (.iload_n 3, 1) := by decide +kernel
theorem d_So_holds_77 : decode y_So_holds.2.1 77 = .ok (.iaload, 1) := by decide +kernel
theorem d_So_holds_78 : decode y_So_holds.2.1 78 = .ok (.if_icmp .ne 7, 3) := by decide +kernel
theorem d_So_holds_81 : decode y_So_holds.2.1 81 = .ok (.iconst 1, 1) := by decide +kernel
theorem d_So_holds_82 : decode y_So_holds.2.1 82 = .ok (.goto 4, 3) := by decide +kernel
theorem d_So_holds_86 : decode y_So_holds.2.1 86 = .ok (.iand, 1) := by decide +kernel
theorem d_So_holds_87 : decode y_So_holds.2.1 87 = .ok (.istore_n 2, 1) := by decide +kernel
theorem d_So_holds_88 : decode y_So_holds.2.1 88 = .ok (.iinc 3 1, 3) := by decide +kernel
theorem d_So_holds_91 : decode y_So_holds.2.1 91 = .ok (.goto (-74), 3) := by decide +kernel
def h_So_holds_17 (G : mG) (d : Nat) (a0 : Nat) (a1 : Nat) (l2 : Int) (l3 : Int) (M : mM) (Q : Int → mM → Prop) : Prop := mWm G y_So_holds (d + 1) 17 [vr a0, vr a1, vi l2, vi l3, vd] [] M (fun r9 M9 => ∃ x9, r9 = some (vi x9) ∧ Q x9 M9)
theorem k_So_holds {G : mG} {d : Nat} {a0 : Nat} {a1 : Nat} {M : mM} {Q : Int → mM → Prop} (hO : mOk M)
    (h : mK M a0 = 8 ∧ Ci G y_So_attain d [vr a0, vr a1] M (fun x3 M2 => i32 x3 ∧ mOk M2 ∧ (mK M2 a0 = 8 ∧ Cv G y_So_fillRanks d [vr a0, vr a1, vr (mR M2 a0 16)] M2 (fun M6 => mOk M6 ∧ (h_So_holds_17 G d a0 a1 x3 0 M6 Q))))) :
    Ci G y_So_holds (d + 1) [vr a0, vr a1] M Q := by
  refine wm_open (y := y_So_holds) rfl (Nat.le_of_ble_eq_true rfl) (L := [vr a0, vr a1, vd, vd, vd]) rfl ?_
  obtain ⟨h1, h⟩ := h
  refine wm_aload_n d_So_holds_0 rfl rfl ?_
  refine wm_aload_n d_So_holds_1 rfl rfl ?_
  refine cf_So_232 rfl d_So_holds_2 h1 (Nat.le_of_ble_eq_true rfl) (Ci.mono h (fun x3 M2 h => ?_))
  obtain ⟨h4, hOM2, h⟩ := h
  obtain ⟨h5, h⟩ := h
  refine wm_istore_n d_So_holds_5 rfl (by decide) (L' := [vr a0, vr a1, vi x3, vd, vd]) rfl ?_
  refine wm_aload_n d_So_holds_6 rfl rfl ?_
  refine wm_aload_n d_So_holds_7 rfl rfl ?_
  refine wm_aload_n d_So_holds_8 rfl rfl ?_
  refine gf_So_54 rfl d_So_holds_9 h5 ?_
  refine cf_So_235 rfl d_So_holds_12 h5 (Nat.le_of_ble_eq_true rfl) (Cv.mono h (fun M6 h => ?_))
  obtain ⟨hOM6, h⟩ := h
  refine wm_iconst d_So_holds_15 ?_
  refine wm_istore_n d_So_holds_16 rfl (by decide) (L' := [vr a0, vr a1, vi x3, vi 0, vd]) rfl ?_
  exact h
theorem k_So_holds_17 {G : mG} {d : Nat} {a0 : Nat} {a1 : Nat} {l2 : Int} {l3 : Int} {M : mM} {Q : Int → mM → Prop} (hO : mOk M) (hi_l2 : i32 l2) (hi_l3 : i32 l3)
    (h : mK M a0 = 8 ∧ mK M (mR M a0 3) = 7 ∧ ((mI M (mR M a0 3) 0 ≤ l3) → ((l2 = 0 ∨ l2 = 1) ∧ Q l2 M)) ∧ (¬ (mI M (mR M a0 3) 0 ≤ l3) → (mK M a1 = 13 ∧ mK M (mR M a1 0) = 35 ∧ ((0 : Int) ≤ l3 ∧ l3 < (mN M (mR M a1 0) : Int)) ∧ mK M (mR M (mR M a1 0) (Int.toNat l3)) = 11 ∧ mK M (mR M (mR M (mR M a1 0) (Int.toNat l3)) 0) = 10 ∧ (¬ (mI M (mR M (mR M (mR M a1 0) (Int.toNat l3)) 0) 1 = 0) → (mK M (mR M a0 16) = 30 ∧ ((0 : Int) ≤ l3 ∧ l3 < (mN M (mR M a0 16) : Int)))) ∧ ∀ v33 : Int, v33 = (if ((mI M (mR M (mR M (mR M a1 0) (Int.toNat l3)) 0) 1 = 0) ∨ (¬ (mI M (mR M a0 16) (Int.toNat l3) = (-1)))) then 1 else 0) → (¬ (v33 = 0) → (mK M (mR M a0 16) = 30 ∧ ((0 : Int) ≤ l3 ∧ l3 < (mN M (mR M a0 16) : Int)) ∧ mK M (mR M a0 1) = 30 ∧ ((0 : Int) ≤ l3 ∧ l3 < (mN M (mR M a0 1) : Int)))) ∧ ∀ v44 : Int, v44 = (if ((v33 = 0) ∨ (¬ (mI M (mR M a0 16) (Int.toNat l3) = mI M (mR M a0 1) (Int.toNat l3)))) then 0 else 1) → h_So_holds_17 G d a0 a1 (andI l2 v44) (l3 + 1) M Q))) :
    h_So_holds_17 G d a0 a1 l2 l3 M Q := by
  unfold h_So_holds_17
  obtain ⟨h9, h⟩ := h
  obtain ⟨h10, h⟩ := h
  refine wm_iload_n d_So_holds_17 rfl rfl ?_
  refine wm_aload_n d_So_holds_18 rfl rfl ?_
  refine gf_So_64 rfl d_So_holds_19 h9 ?_
  refine gf_So_107 rfl d_So_holds_22 h10 ?_
  refine wm_icmp_ge (tgt := 94) d_So_holds_25 rfl hi_l3 (hO _ _).1 (fun c22 => ?_) (fun c22 => ?_)
  · replace h := h.1 c22
    obtain ⟨h23, h⟩ := h
    refine wm_iload_n d_So_holds_94 rfl rfl ?_
    refine wm_ireturn d_So_holds_95 rfl (m_nb h23) ?_
    exact ⟨_, rfl, h⟩
  · replace h := h.2 c22
    obtain ⟨h24, h⟩ := h
    obtain ⟨h25, h⟩ := h
    obtain ⟨h26, h⟩ := h
    obtain ⟨h27, h⟩ := h
    obtain ⟨h28, h⟩ := h
    refine wm_aload_n d_So_holds_28 rfl rfl ?_
    refine gf_So_169 rfl d_So_holds_29 h24 ?_
    refine wm_iload_n d_So_holds_32 rfl rfl ?_
    refine wm_aald5 d_So_holds_33 h25 h26 ?_
    refine gf_So_173 rfl d_So_holds_34 h27 ?_
    refine gf_So_245 rfl d_So_holds_37 h28 ?_
    obtain ⟨s34, h⟩ := h
    have hJ : ∀ v33 : Int, v33 = (if ((mI M (mR M (mR M (mR M a1 0) (Int.toNat l3)) 0) 1 = 0) ∨ (¬ (mI M (mR M a0 16) (Int.toNat l3) = (-1)))) then 1 else 0) → mWm G y_So_holds (d + 1) 58 [vr a0, vr a1, vi l2, vi l3, vd] [vi v33] M (fun r9 M9 => ∃ x9, r9 = some (vi x9) ∧ Q x9 M9) := by
      intro v33 e35
      have h := h v33 e35
      have h36 : i32 v33 := by rw [e35]; (repeat' split) <;> first | exact ⟨by decide, by decide⟩ | exact ⟨by decide, by decide⟩
      have h37 : (v33 = 0 ∨ v33 = 1) := by rw [e35]; (repeat' split) <;> decide
      refine wm_istore d_So_holds_58 (by decide) (L' := [vr a0, vr a1, vi l2, vi l3, vi v33]) rfl ?_
      refine wm_iload_n d_So_holds_60 rfl rfl ?_
      refine wm_iload d_So_holds_61 rfl ?_
      obtain ⟨s45, h⟩ := h
      have hJ : ∀ v44 : Int, v44 = (if ((v33 = 0) ∨ (¬ (mI M (mR M a0 16) (Int.toNat l3) = mI M (mR M a0 1) (Int.toNat l3)))) then 0 else 1) → mWm G y_So_holds (d + 1) 86 [vr a0, vr a1, vd, vi l3, vd] [vi v44, vi l2] M (fun r9 M9 => ∃ x9, r9 = some (vi x9) ∧ Q x9 M9) := by
        intro v44 e46
        have h := h v44 e46
        have h47 : i32 v44 := by rw [e46]; (repeat' split) <;> first | exact ⟨by decide, by decide⟩ | exact ⟨by decide, by decide⟩
        have h48 : (v44 = 0 ∨ v44 = 1) := by rw [e46]; (repeat' split) <;> decide
        refine wm_iand d_So_holds_86 ?_
        refine wm_istore_n d_So_holds_87 rfl (by decide) (L' := [vr a0, vr a1, vi (andI l2 v44), vi l3, vd]) rfl ?_
        refine wm_iinc d_So_holds_88 (by decide) rfl (L' := [vr a0, vr a1, vi (andI l2 v44), vi (l3 + 1), vd]) rfl ?_
        refine wm_goto (tgt := 17) d_So_holds_91 rfl ?_
        exact h
      clear h
      have s49 := s45
      refine wm_if_eq (tgt := 85) d_So_holds_63 rfl h36 (fun c38 => ?_) (fun c38 => ?_)
      · refine wm_iconst d_So_holds_85 ?_
        refine wm_less (L' := [vr a0, vr a1, vd, vi l3, vd]) ⟨Or.inr rfl, Or.inr rfl, Or.inl rfl, Or.inr rfl, Or.inl rfl, trivial⟩ ?_
        exact hJ 0 (if_pos (Or.inl c38)).symm
      · have s49 := s49 c38
        obtain ⟨h39, h40, h41, h42⟩ := s49
        refine wm_aload_n d_So_holds_66 rfl rfl ?_
        refine gf_So_54 rfl d_So_holds_67 h9 ?_
        refine wm_iload_n d_So_holds_70 rfl rfl ?_
        refine wm_iald d_So_holds_71 h39 h40 ?_
        refine wm_aload_n d_So_holds_72 rfl rfl ?_
        refine gf_So_18 rfl d_So_holds_73 h9 ?_
        refine wm_iload_n d_So_holds_76 rfl rfl ?_
        refine wm_iald d_So_holds_77 h41 h42 ?_
        refine wm_icmp_ne (tgt := 85) d_So_holds_78 rfl (hO _ _).1 (hO _ _).1 (fun c43 => ?_) (fun c43 => ?_)
        · refine wm_iconst d_So_holds_85 ?_
          refine wm_less (L' := [vr a0, vr a1, vd, vi l3, vd]) ⟨Or.inr rfl, Or.inr rfl, Or.inl rfl, Or.inr rfl, Or.inl rfl, trivial⟩ ?_
          exact hJ 0 (if_pos (Or.inr c43)).symm
        · replace c43 := Classical.not_not.mp c43
          refine wm_iconst d_So_holds_81 ?_
          refine wm_goto (tgt := 86) d_So_holds_82 rfl ?_
          refine wm_less (L' := [vr a0, vr a1, vd, vi l3, vd]) ⟨Or.inr rfl, Or.inr rfl, Or.inl rfl, Or.inr rfl, Or.inl rfl, trivial⟩ ?_
          exact hJ 1 (if_neg (fun z50 => Or.elim z50 c38 (fun z51 => z51 c43))).symm
    clear h
    have s52 := s34
    refine wm_if_eq (tgt := 53) d_So_holds_40 rfl (hO _ _).1 (fun c29 => ?_) (fun c29 => ?_)
    · refine wm_iconst d_So_holds_53 ?_
      refine wm_goto (tgt := 58) d_So_holds_54 rfl ?_
      exact hJ 1 (if_pos (Or.inl c29)).symm
    · have s52 := s52 c29
      obtain ⟨h30, h31⟩ := s52
      refine wm_aload_n d_So_holds_43 rfl rfl ?_
      refine gf_So_54 rfl d_So_holds_44 h9 ?_
      refine wm_iload_n d_So_holds_47 rfl rfl ?_
      refine wm_iald d_So_holds_48 h30 h31 ?_
      refine wm_iconst d_So_holds_49 ?_
      refine wm_icmp_eq (tgt := 57) d_So_holds_50 rfl (hO _ _).1 ⟨by decide, by decide⟩ (fun c32 => ?_) (fun c32 => ?_)
      · refine wm_iconst d_So_holds_57 ?_
        exact hJ 0 (if_neg (fun z53 => Or.elim z53 c29 (fun z54 => z54 c32))).symm
      · refine wm_iconst d_So_holds_53 ?_
        refine wm_goto (tgt := 58) d_So_holds_54 rfl ?_
        exact hJ 1 (if_pos (Or.inr c32)).symm
theorem d_TR_init_0 : decode y_TR_init.2.1 0 = .ok (.aload_n 0, 1) := by decide +kernel
theorem d_TR_init_1 : decode y_TR_init.2.1 1 = .ok (.invokespecial 3, 3) := by decide +kernel
theorem d_TR_init_4 : decode y_TR_init.2.1 4 = .ok (.aload_n 0, 1) := by decide +kernel
theorem d_TR_init_5 : decode y_TR_init.2.1 5 = .ok (.new 9, 3) := by decide +kernel
theorem d_TR_init_8 : decode y_TR_init.2.1 8 = .ok (.dup, 1) := by decide +kernel
theorem d_TR_init_9 : decode y_TR_init.2.1 9 = .ok (.invokespecial 11, 3) := by decide +kernel
theorem d_TR_init_12 : decode y_TR_init.2.1 12 = .ok (.putfield 12, 3) := by decide +kernel
theorem d_TR_init_15 : decode y_TR_init.2.1 15 = .ok (.aload_n 0, 1) := by decide +kernel
theorem d_TR_init_16 : decode y_TR_init.2.1 16 = .ok (.new 18, 3) := by decide +kernel
theorem d_TR_init_19 : decode y_TR_init.2.1 19 = .ok (.dup, 1) := by decide +kernel
theorem d_TR_init_20 : decode y_TR_init.2.1 20 = .ok (.invokespecial 20, 3) := by decide +kernel
theorem d_TR_init_23 : decode y_TR_init.2.1 23 = .ok (.putfield 21, 3) := by decide +kernel
theorem d_TR_init_26 : decode y_TR_init.2.1 26 = .ok (.aload_n 0, 1) := by decide +kernel
theorem d_TR_init_27 : decode y_TR_init.2.1 27 = .ok (.iconst 3, 1) := by decide +kernel
theorem d_TR_init_28 : decode y_TR_init.2.1 28 = .ok (.newarray .int, 2) := by decide +kernel
theorem d_TR_init_30 : decode y_TR_init.2.1 30 = .ok (.putfield 25, 3) := by decide +kernel
theorem d_TR_init_33 : decode y_TR_init.2.1 33 = .ok (.aload_n 0, 1) := by decide +kernel
theorem d_TR_init_34 : decode y_TR_init.2.1 34 = .ok (.iconst 3, 1) := by decide +kernel
theorem d_TR_init_35 : decode y_TR_init.2.1 35 = .ok (.newarray .int, 2) := by decide +kernel
theorem d_TR_init_37 : decode y_TR_init.2.1 37 = .ok (.putfield 29, 3) := by decide +kernel
theorem d_TR_init_40 : decode y_TR_init.2.1 40 = .ok (.return_, 1) := by decide +kernel
theorem k_TR_init {G : mG} {d : Nat} {a0 : Nat} {M : mM} {Q : mM → Prop} (hO : mOk M)
    (h : 0 < a0 ∧ ∀ M2, M2 = mNew M 4 0 20 → Cv G y_RR_init d [vr (mZ M)] M2 (fun M4 => mOk M4 ∧ (mK M4 a0 = 3 ∧ ∀ M8, M8 = mUR M4 a0 0 (mZ M) → ∀ M10, M10 = mNew M8 5 0 16 → Cv G y_Ma_init d [vr (mZ M8)] M10 (fun M12 => mOk M12 ∧ (mK M12 a0 = 3 ∧ ∀ M16, M16 = mUR M12 a0 1 (mZ M8) → ∀ M18, M18 = mNew M16 30 3 3 → mK M18 a0 = 3 ∧ ∀ M21, M21 = mUR M18 a0 5 (mZ M16) → ∀ M23, M23 = mNew M21 30 3 3 → mK M23 a0 = 3 ∧ ∀ M26, M26 = mUR M23 a0 6 (mZ M21) → Q M26))))) :
    Cv G y_TR_init (d + 1) [vr a0] M Q := by
  refine wm_open (y := y_TR_init) rfl (Nat.le_of_ble_eq_true rfl) (L := [vr a0]) rfl ?_
  obtain ⟨h1, h⟩ := h
  obtain ⟨M2, e3⟩ : ∃ M2, M2 = mNew M 4 0 20 := ⟨_, rfl⟩
  replace h := h M2 e3
  refine wm_aload_n d_TR_init_0 rfl rfl ?_
  refine wm_objInit trivial k1_88 kO_inst kO_code (Nat.le_of_ble_eq_true rfl) d_TR_init_1 h1 ?_
  refine wm_aload_n d_TR_init_4 rfl rfl ?_
  have hOM2 : mOk M2 := by rw [e3]; exact mOk_New hO
  refine nf_TR_9 rfl d_TR_init_5 e3 ?_
  refine wm_dup d_TR_init_8 rfl ?_
  refine cf_TR_11 rfl d_TR_init_9 (by rw [e3]; exact if_pos rfl) (Nat.le_of_ble_eq_true rfl) (Cv.mono h (fun M4 h => ?_))
  obtain ⟨hOM4, h⟩ := h
  obtain ⟨h7, h⟩ := h
  obtain ⟨M8, e9⟩ : ∃ M8, M8 = mUR M4 a0 0 (mZ M) := ⟨_, rfl⟩
  replace h := h M8 e9
  obtain ⟨M10, e11⟩ : ∃ M10, M10 = mNew M8 5 0 16 := ⟨_, rfl⟩
  replace h := h M10 e11
  have hOM8 : mOk M8 := by rw [e9]; exact mOk_UR hOM4
  refine pf_TR_12 rfl rfl d_TR_init_12 h7 e9 ?_
  refine wm_aload_n d_TR_init_15 rfl rfl ?_
  have hOM10 : mOk M10 := by rw [e11]; exact mOk_New hOM8
  refine nf_TR_18 rfl d_TR_init_16 e11 ?_
  refine wm_dup d_TR_init_19 rfl ?_
  refine cf_TR_20 rfl d_TR_init_20 (by rw [e11]; exact if_pos rfl) (Nat.le_of_ble_eq_true rfl) (Cv.mono h (fun M12 h => ?_))
  obtain ⟨hOM12, h⟩ := h
  obtain ⟨h15, h⟩ := h
  obtain ⟨M16, e17⟩ : ∃ M16, M16 = mUR M12 a0 1 (mZ M8) := ⟨_, rfl⟩
  replace h := h M16 e17
  obtain ⟨M18, e19⟩ : ∃ M18, M18 = mNew M16 30 3 3 := ⟨_, rfl⟩
  replace h := h M18 e19
  obtain ⟨h20, h⟩ := h
  obtain ⟨M21, e22⟩ : ∃ M21, M21 = mUR M18 a0 5 (mZ M16) := ⟨_, rfl⟩
  replace h := h M21 e22
  obtain ⟨M23, e24⟩ : ∃ M23, M23 = mNew M21 30 3 3 := ⟨_, rfl⟩
  replace h := h M23 e24
  obtain ⟨h25, h⟩ := h
  obtain ⟨M26, e27⟩ : ∃ M26, M26 = mUR M23 a0 6 (mZ M21) := ⟨_, rfl⟩
  replace h := h M26 e27
  have hOM16 : mOk M16 := by rw [e17]; exact mOk_UR hOM12
  refine pf_TR_21 rfl rfl d_TR_init_23 h15 e17 ?_
  refine wm_aload_n d_TR_init_26 rfl rfl ?_
  refine wm_iconst d_TR_init_27 ?_
  have hOM18 : mOk M18 := by rw [e19]; exact mOk_New hOM16
  refine wm_newarrE 0 (atype := .int) (ty := .int) rfl rfl (fun _ => rfl) rfl rfl (by decide) k1_82 ⟨by decide, by decide⟩ d_TR_init_28 e19 ?_
  have hOM21 : mOk M21 := by rw [e22]; exact mOk_UR hOM18
  refine pf_TR_25 rfl rfl d_TR_init_30 h20 e22 ?_
  refine wm_aload_n d_TR_init_33 rfl rfl ?_
  refine wm_iconst d_TR_init_34 ?_
  have hOM23 : mOk M23 := by rw [e24]; exact mOk_New hOM21
  refine wm_newarrE 0 (atype := .int) (ty := .int) rfl rfl (fun _ => rfl) rfl rfl (by decide) k1_82 ⟨by decide, by decide⟩ d_TR_init_35 e24 ?_
  have hOM26 : mOk M26 := by rw [e27]; exact mOk_UR hOM23
  refine pf_TR_29 rfl rfl d_TR_init_37 h25 e27 ?_
  refine wm_return d_TR_init_40 rfl ?_
  exact ⟨rfl, h⟩
theorem d_TR_faultPlace_0 : decode y_TR_faultPlace.2.1 0 = .ok (.aload_n 0, 1) := by decide +kernel
theorem d_TR_faultPlace_1 : decode y_TR_faultPlace.2.1 1 = .ok (.getfield 12, 3) := by decide +kernel
theorem d_TR_faultPlace_4 : decode y_TR_faultPlace.2.1 4 = .ok (.getfield 32, 3) := by decide +kernel
theorem d_TR_faultPlace_7 : decode y_TR_faultPlace.2.1 7 = .ok (.ireturn, 1) := by decide +kernel
theorem k_TR_faultPlace {G : mG} {d : Nat} {a0 : Nat} {M : mM} {Q : Int → mM → Prop} (hO : mOk M)
    (h : mK M a0 = 3 ∧ mK M (mR M a0 0) = 4 ∧ Q (mI M (mR M a0 0) 4) M) :
    Ci G y_TR_faultPlace d [vr a0] M Q := by
  refine wm_open (y := y_TR_faultPlace) rfl (Nat.le_of_ble_eq_true rfl) (L := [vr a0]) rfl ?_
  obtain ⟨h1, h⟩ := h
  obtain ⟨h2, h⟩ := h
  refine wm_aload_n d_TR_faultPlace_0 rfl rfl ?_
  refine gf_TR_12 rfl d_TR_faultPlace_1 h1 ?_
  refine gf_TR_32 rfl d_TR_faultPlace_4 h2 ?_
  refine wm_ireturn d_TR_faultPlace_7 rfl rfl ?_
  exact ⟨_, rfl, h⟩
