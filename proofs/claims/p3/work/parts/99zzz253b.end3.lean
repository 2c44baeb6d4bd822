/-! end, compared: the class's helper and the reference to the last digit. -/
theorem d_MM_thrown_0 : decode y_MM_thrown.2.1 0 = .ok (.aload_n 0, 1) := by decide +kernel
theorem d_MM_thrown_1 : decode y_MM_thrown.2.1 1 = .ok (.getfield 142, 3) := by decide +kernel
theorem d_MM_thrown_4 : decode y_MM_thrown.2.1 4 = .ok (.ireturn, 1) := by decide +kernel
theorem s_MM_thrown {G : mG} {d a : Nat} {M : mM} (ka : mK M a = 14) : Ci G y_MM_thrown d [vr a] M (fun r M' => M' = M ∧ r = mI M a 0) := by
  refine wm_open (y := y_MM_thrown) rfl (Nat.le_of_ble_eq_true rfl) (L := [vr a]) rfl ?_
  refine wm_aload_n d_MM_thrown_0 rfl rfl ?_
  refine gf_MM_142 rfl d_MM_thrown_1 ka ?_
  exact wm_ireturn d_MM_thrown_4 rfl rfl ⟨_, rfl, rfl, rfl⟩
section LEN
variable {G : mG} {d t a o b N n x Ps Pc B0 B1 : Nat} {Nc Nr Nn Nt9 : tP9} {l : Int} {xs : Int → Int} {M M' M1 M2 : mM} {C : Nat → Prop}
theorem r_MM_end3 (hl : i32 l) (h : RI Nt9 M a) : Ci G y_MM_end d [vr a, vi l] M (fun r M' => ∃ n1, rQ n1 M a r M' ∧ ((0 ≤ l ∧ l ≤ 20 ∧ 20 ≤ Nt9.1 ∧ n1 = (Nt9.1 - 20 + l, Nt9.2) ∧ r = Nt9.1 - 20 + l ∧ mI M' a 0 = 0) ∨ (¬ (0 ≤ l ∧ l ≤ 20 ∧ 20 ≤ Nt9.1) ∧ n1 = Nt9 ∧ mI M' a 0 = 1))) := by
  have bN := h.2.2.1.1
  refine (s_MM_end hl h.1 h.2.1 (by rw [bN.1]; exact bN.2.1)).mono (fun r M1 q => ?_)
  have b0 : 0 ≤ ln M (mR M a 1) := (h.2.1.nu h.2.1.tape.1).2.2.2.1.1
  obtain ⟨m, hf, hh⟩ := id q
  have e : i32 r ∧ ∃ n1, Tpl n1 M1 (mR M a 1) ∧ ((0 ≤ l ∧ l ≤ 20 ∧ 20 ≤ Nt9.1 ∧ n1 = (Nt9.1 - 20 + l, Nt9.2) ∧ r = Nt9.1 - 20 + l ∧ mI M1 a 0 = 0) ∨ (¬ (0 ≤ l ∧ l ≤ 20 ∧ 20 ≤ Nt9.1) ∧ n1 = Nt9 ∧ mI M1 a 0 = 1)) := by
    obtain ⟨c1, c2, c3⟩ := bN
    rcases hh with ⟨y1, y2, y3, y4, y5, y6, y7⟩ | ⟨y1, y2, y3, y4⟩
    · rw [c1] at y3 y5
      exact ⟨i32s (by omega) (by omega), _, ⟨by rw [y6, y5], by show Nt9.1 - 20 + l ≤ 16384; omega, fun j hj => by
        have hj : (j : Int) < Nt9.1 - 20 + l := hj
        rw [y7]
        exact c3 j (by omega)⟩, Or.inl ⟨y1, y2, y3, rfl, y5, y4⟩⟩
    · rw [c1] at y1
      exact ⟨i32s (by omega) (by omega), Nt9, (show Tpl Nt9 M (mR M a 1) from ⟨c1, c2, c3⟩).sm y4, Or.inr ⟨y1, rfl, y2⟩⟩
  obtain ⟨ir, n1, hl', hd⟩ := e
  obtain ⟨r1, F1⟩ := h.mv m (fun q z => z) (fun x z => z) hf hl' (by rcases hd with ⟨-, -, -, y, -⟩ | ⟨-, y, -⟩ <;> rw [y])
  exact ⟨n1, ⟨ir, r1, F1⟩, hd⟩
theorem hp_end3 (hT : TH G) (il : i32 l) (h : IV0 C Ps Pc o a b N xs t B0 B1 n Nc Nr M) : CiW G y_La_end hs_end 39 [vr t, vi l, vr o] M (fun x M1 => cSt o C n t Ps Pc (if 0 ≤ l ∧ l ≤ 20 ∧ 20 ≤ Nc.1 then Nc.1 - 20 + l else Nc.1, Nc.2) M M1 ∧ ((x = 0 ∧ (0 ≤ l ∧ l ≤ 20 ∧ 20 ≤ Nc.1) ∧ mL M1 o 0 = Nc.1 - 20 + l) ∨ (x = 1 ∧ ¬ (0 ≤ l ∧ l ≤ 20 ∧ 20 ≤ Nc.1)))) := by
  have tp := h.2.2.1.1
  by_cases c : 0 ≤ l ∧ l ≤ 20 ∧ 20 ≤ mI M t 1
  · refine (n_La_end (d := 38) (l1 := 0) (l2 := 0) (o := o) h.kt (c_CA_end (d := 38) il h.1 c) (fun r M1 q => ⟨q.1, h.oq q.2.1⟩)).mono (fun x M2 q => ?_)
    obtain ⟨ex, r, M1, q, rfl⟩ := q
    rw [tp] at c
    rw [if_pos c]
    have er : r = Nc.1 - 20 + l := by
      rw [q.2.2.1, tp]
      show Nc.1 + (l - 20) = Nc.1 - 20 + l
      omega
    exact ⟨q.2.1.out (Nn := (Nc.1 - 20 + l, Nc.2)) ⟨by rw [q.2.2.2.1, er], h.2.2.1.2.xc q.2.2.2.2⟩ h.no h.oz (i64_32 q.1), Or.inl ⟨ex, c, by rw [mL_UL, if_pos ⟨rfl, rfl⟩]; exact er⟩⟩
  · have c' := c
    rw [tp] at c'
    rw [if_neg c']
    exact ⟨_, _, x_La_end (d := 38) (l1 := 0) (l2 := 0) h.kt (t_CA_end hT (by decide) h.1.ok il h.kt c), 1, rfl, h.1.thr (Nn := (Nc.1, Nc.2)) h.2.2.1, Or.inr ⟨rfl, c'⟩⟩
end LEN
