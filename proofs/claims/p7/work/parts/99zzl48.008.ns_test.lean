section
variable {G : mG} {d pc t n w T A B D N C p a : Nat} {f : Nat → Int} {M : mM} {Q : Option mV → mM → Prop}
theorem ns_test {tx : String} {l : List Int} {k tgt : Nat} {off : Int} (hJ : JD G) (hl : Lit G "ChanceArena$Words" k tx l) (hO : mOk M) (h : WA M w T A B D N C) (hp : p + l.length ≤ N) (hnl : n = l.length) (h0 : decode y_Wo_nameSort.2.1 pc = .ok (.aload_n 0, 1)) (h1 : decode y_Wo_nameSort.2.1 (pc + 1) = .ok (.iload_n 1, 1)) (h2 : decode y_Wo_nameSort.2.1 (pc + 2) = .ok (.ldc k, 2)) (h3 : decode y_Wo_nameSort.2.1 (pc + 4) = .ok (.invokevirtual 74, 3)) (h4 : decode y_Wo_nameSort.2.1 (pc + 7) = .ok (.ifCond .eq off, 3)) (ht : ((pc + 7 : Nat) : Int) + off = (tgt : Int)) (kt : wlq (mI M T) p (p + n) ≠ l → mWm G y_Wo_nameSort (d + 5) tgt [vr w, vi p, vi n] [] M Q) (kf : wlq (mI M T) p (p + n) = l → mWm G y_Wo_nameSort (d + 5) (pc + 10) [vr w, vi p, vi n] [] M Q) : mWm G y_Wo_nameSort (d + 5) pc [vr w, vi p, vi n] [] M Q := by
  obtain ⟨t, hr, hs⟩ := hl
  refine wm_aload_n h0 rfl rfl ?_
  refine wm_iload_n h1 rfl rfl ?_
  refine wm_ldcS rfl hr h2 ?_
  refine wm_callV (y2 := y_Wo_spells) (c := 1) (n := 2) (As := [vi p, vo t]) rfl rfl rfl kt_spL kt_spI ks_Wo_spells k1_2 kt_spC ⟨by decide, by decide, by decide +kernel⟩ (by decide) rfl rfl (Nat.le_of_ble_eq_true rfl) h3 h.1 ?_
  refine mCm.mono (s_Wo_spells (d := d) hJ hs hO h hp) (fun r M' q => ?_)
  obtain ⟨x, rfl, rfl, hx, hi⟩ := q
  have hw : x = 1 ↔ wlq (mI M' T) p (p + n) = l := by
    rw [hi, wlq_eq]
    exact ⟨fun u => ⟨by omega, u⟩, fun u => u.2⟩
  exact wm_if_eq h4 ht (by rcases hx with e | e <;> subst e <;> exact ⟨by decide, by decide⟩) (fun c => kt (fun u => absurd (hw.mpr u) (by omega))) (fun c => kf (hw.mp (by omega)))
end
