section
variable {G : mG} {d pc t n w T A B D N C p a : Nat} {f : Nat → Int} {M : mM} {Q : Option mV → mM → Prop}
theorem s_Wo_spells (hJ : JD G) (hs : Str G t n f) (hO : mOk M) (h : WA M w T A B D N C) (hp : p + n ≤ N) : Ci G y_Wo_spells (d + 4) [vr w, vi p, vo t] M (fun r M' => M' = M ∧ (r = 0 ∨ r = 1) ∧ (r = 1 ↔ ∀ j, j < n → mI M T (p + j) = f j)) := by
  obtain ⟨A0, hv, hT⟩ := hs.2.2
  have hn := hT.2.1
  obtain ⟨k2, ⟨r0, -⟩, ⟨kT, nT⟩, -, -, -, hN, -⟩ := h
  have step : ∀ i : Nat, i ≤ n → (∀ j, j < i → mI M T (p + j) = f j) → (i < n → mI M T (p + i) = f i → mWm G y_Wo_spells (d + 4) 2 [vr w, vi p, vo t, vi ((i + 1 : Nat) : Int)] [] M (fun r M' => ∃ x, r = some (vi x) ∧ M' = M ∧ (x = 0 ∨ x = 1) ∧ (x = 1 ↔ ∀ j, j < n → mI M T (p + j) = f j))) → mWm G y_Wo_spells (d + 4) 2 [vr w, vi p, vo t, vi (i : Int)] [] M (fun r M' => ∃ x, r = some (vi x) ∧ M' = M ∧ (x = 0 ∨ x = 1) ∧ (x = 1 ↔ ∀ j, j < n → mI M T (p + j) = f j)) := by
    intro i hi hj0 ih
    refine wm_iload_n d_Wo_spells_2 rfl rfl ?_
    refine wm_aldO_n d_Wo_spells_3 rfl rfl ?_
    refine wm_strLen (d := d + 2) hJ hs kt_lenW (Nat.le_of_ble_eq_true rfl) d_Wo_spells_4 ?_
    refine wm_icmp_ge (tgt := 34) d_Wo_spells_7 rfl ⟨by omega, by omega⟩ ⟨by omega, by omega⟩ (fun c0 => ?_) (fun c => ?_)
    · refine wm_iconst d_Wo_spells_34 ?_
      refine wm_ireturn d_Wo_spells_35 rfl rfl ?_
      exact ⟨_, rfl, rfl, Or.inr rfl, fun _ j hj => hj0 j (by omega), fun _ => rfl⟩
    · have hin : i < n := by omega
      refine wm_aload_n d_Wo_spells_10 rfl rfl ?_
      refine gf_Wo_9 rfl d_Wo_spells_11 k2 ?_
      rw [r0]
      refine wm_iload_n d_Wo_spells_14 rfl rfl ?_
      refine wm_iload_n d_Wo_spells_15 rfl rfl ?_
      refine wm_iadd d_Wo_spells_16 ?_
      refine wm_cald d_Wo_spells_17 kT ⟨by omega, by omega⟩ ?_
      refine wm_aldO_n d_Wo_spells_18 rfl rfl ?_
      refine wm_iload_n d_Wo_spells_19 rfl rfl ?_
      refine wm_strAt (d := d) hJ hs hin kt_chaW (Nat.le_of_ble_eq_true rfl) d_Wo_spells_20 ?_
      have hf := hT.2.2 i hin
      refine wm_icmp_eq (tgt := 28) d_Wo_spells_23 rfl (hO _ _).1 ⟨by omega, by omega⟩ (fun ce => ?_) (fun cn => ?_)
      · refine wm_iinc d_Wo_spells_28 (by decide) rfl (L' := [vr w, vi p, vo t, vi ((i : Int) + 1)]) rfl ?_
        refine wm_goto (tgt := 2) d_Wo_spells_31 rfl ?_
        have ih := ih hin (by rw [show p + i = ((p : Int) + (i : Int)).toNat by first | rfl | omega]; exact ce)
        rw [show ((i + 1 : Nat) : Int) = (i : Int) + 1 by first | rfl | omega] at ih
        exact ih
      · refine wm_iconst d_Wo_spells_26 ?_
        refine wm_ireturn d_Wo_spells_27 rfl rfl ?_
        exact ⟨_, rfl, rfl, Or.inl rfl, fun e => absurd e (by decide), fun e => absurd (e i hin) (by rw [show p + i = ((p : Int) + (i : Int)).toNat by first | rfl | omega]; exact cn)⟩
  have all : ∀ q i : Nat, n = i + q → (∀ j, j < i → mI M T (p + j) = f j) → mWm G y_Wo_spells (d + 4) 2 [vr w, vi p, vo t, vi (i : Int)] [] M (fun r M' => ∃ x, r = some (vi x) ∧ M' = M ∧ (x = 0 ∨ x = 1) ∧ (x = 1 ↔ ∀ j, j < n → mI M T (p + j) = f j)) := by
    intro q
    induction q with
    | zero => exact fun i e hj => step i (by omega) hj (fun c => by omega)
    | succ q ih => exact fun i e hj => step i (by omega) hj (fun _ ce => ih (i + 1) (by omega) (fun j hj1 => by
        by_cases cj : j < i
        · exact hj j cj
        · rw [show j = i by first | rfl | omega]; exact ce))
  refine wm_open (y := y_Wo_spells) rfl (Nat.le_of_ble_eq_true rfl) (L := [vr w, vi p, vo t, vd]) rfl ?_
  refine wm_iconst d_Wo_spells_0 ?_
  refine wm_istore_n d_Wo_spells_1 rfl (by decide) (L' := [vr w, vi p, vo t, vi 0]) rfl ?_
  exact all n 0 (by omega) (fun j hj => absurd hj (by omega))
end
