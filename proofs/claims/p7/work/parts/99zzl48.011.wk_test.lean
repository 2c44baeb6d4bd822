section
variable {G : mG} {d pc t n w T A B D N C p a : Nat} {f : Nat → Int} {M : mM} {Q : Option mV → mM → Prop}
theorem wk_test {f e : Nat} {tx : String} {l : List Int} {k tgt : Nat} {off : Int} (hJ : JD G) (hl : Lit G "ChanceArenaModel" k tx l) (hO : mOk M) (h : Wd M a) (hfe : f ≤ 16384 ∧ f < e ∧ e ≤ f + 40) (hel : (e : Int) ≤ ln M (mR M a 2)) (h0 : decode y_MM_wordKind.2.1 pc = .ok (.aload_n 0, 1)) (h1 : decode y_MM_wordKind.2.1 (pc + 1) = .ok (.iload_n 1, 1)) (h1' : decode y_MM_wordKind.2.1 (pc + 2) = .ok (.iload_n 2, 1)) (h2 : decode y_MM_wordKind.2.1 (pc + 3) = .ok (.ldc k, 2)) (h3 : decode y_MM_wordKind.2.1 (pc + 5) = .ok (.invokevirtual 178, 3)) (h4 : decode y_MM_wordKind.2.1 (pc + 8) = .ok (.ifCond .eq off, 3)) (ht : ((pc + 8 : Nat) : Int) + off = (tgt : Int)) (kt : wlq (nt M (mR M a 2)) f e ≠ l → mWm G y_MM_wordKind (d + 5) tgt [vr a, vi f, vi e] [] M Q) (kf : wlq (nt M (mR M a 2)) f e = l → mWm G y_MM_wordKind (d + 5) (pc + 11) [vr a, vi f, vi e] [] M Q) : mWm G y_MM_wordKind (d + 5) pc [vr a, vi f, vi e] [] M Q := by
  obtain ⟨t, hr, hs⟩ := hl
  refine wm_aload_n h0 rfl rfl ?_
  refine wm_iload_n h1 rfl rfl ?_
  refine wm_iload_n h1' rfl rfl ?_
  refine wm_ldcS rfl hr h2 ?_
  refine wm_callV (y2 := y_MM_is) (c := 13) (n := 3) (As := [vi f, vi e, vo t]) rfl rfl rfl kt_isL kt_isI ks_MM_is k1_14 kt_isC ⟨by decide, by decide, by decide +kernel⟩ (by decide) rfl rfl (Nat.le_of_ble_eq_true rfl) h3 h.1.1 ?_
  refine mCm.mono (s_MM_is (d := d) hJ hs hO h hfe) (fun r M' q => ?_)
  obtain ⟨x, rfl, rfl, hx, hi⟩ := q
  have hw : x = 1 ↔ wlq (nt M' (mR M' a 2)) f e = l := by
    rw [hi, wlq_eq]
    have g : ∀ j, j < l.length → e = f + l.length → lt M' a (f + j) = nt M' (mR M' a 2) (f + j) := fun j hj u => by
      unfold lt
      rw [if_pos (by omega)]
    exact ⟨fun u => ⟨by omega, fun j hj => by rw [← g j hj u.1]; exact u.2 j hj⟩, fun u => ⟨by omega, fun j hj => by rw [g j hj (by omega)]; exact u.2 j hj⟩⟩
  exact wm_if_eq h4 ht (by rcases hx with e | e <;> subst e <;> exact ⟨by decide, by decide⟩) (fun c => kt (fun u => absurd (hw.mpr u) (by omega))) (fun c => kf (hw.mp (by omega)))
end
