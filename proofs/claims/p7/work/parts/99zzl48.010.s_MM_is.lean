section
variable {G : mG} {d pc t n w T A B D N C p a : Nat} {f : Nat → Int} {M : mM} {Q : Option mV → mM → Prop}
theorem s_MM_is {f0 e : Nat} (hJ : JD G) (hs : Str G t n f) (hO : mOk M) (h : Wd M a) (hfe : f0 ≤ 16384 ∧ f0 < e ∧ e ≤ f0 + 40) : Ci G y_MM_is (d + 4) [vr a, vi f0, vi e, vo t] M (fun r M' => M' = M ∧ (r = 0 ∨ r = 1) ∧ (r = 1 ↔ (e = f0 + n ∧ ∀ j, j < n → lt M a (f0 + j) = f j))) := by
  obtain ⟨A0, hv, hT⟩ := hs.2.2
  have hn := hT.2.1
  obtain ⟨f1, f2, f3⟩ := hfe
  have step : ∀ (b : Int) (i : Nat), ((b = 1 ∧ e = f0 + n ∧ ∀ j, j < i → lt M a (f0 + j) = f j) ∨ (b = 0 ∧ ¬ (e = f0 + n ∧ ∀ j, j < n → lt M a (f0 + j) = f j))) → i ≤ n → (i < n → ∀ b' : Int, ((b' = 1 ∧ e = f0 + n ∧ ∀ j, j < i + 1 → lt M a (f0 + j) = f j) ∨ (b' = 0 ∧ ¬ (e = f0 + n ∧ ∀ j, j < n → lt M a (f0 + j) = f j))) → mWm G y_MM_is (d + 4) 20 [vr a, vi f0, vi e, vo t, vi b', vi ((i + 1 : Nat) : Int)] [] M (fun r M' => ∃ x, r = some (vi x) ∧ M' = M ∧ (x = 0 ∨ x = 1) ∧ (x = 1 ↔ (e = f0 + n ∧ ∀ j, j < n → lt M a (f0 + j) = f j)))) → mWm G y_MM_is (d + 4) 20 [vr a, vi f0, vi e, vo t, vi b, vi (i : Int)] [] M (fun r M' => ∃ x, r = some (vi x) ∧ M' = M ∧ (x = 0 ∨ x = 1) ∧ (x = 1 ↔ (e = f0 + n ∧ ∀ j, j < n → lt M a (f0 + j) = f j))) := by
    intro b i hB hi ih
    have hb : b = 0 ∨ b = 1 := by rcases hB with u | u <;> omega
    have ib : i32 b := by rcases hb with e | e <;> subst e <;> exact ⟨by decide, by decide⟩
    have fin : (b = 0 ∨ n ≤ i) → mWm G y_MM_is (d + 4) 64 [vr a, vi f0, vi e, vo t, vi b, vi (i : Int)] [] M (fun r M' => ∃ x, r = some (vi x) ∧ M' = M ∧ (x = 0 ∨ x = 1) ∧ (x = 1 ↔ (e = f0 + n ∧ ∀ j, j < n → lt M a (f0 + j) = f j))) := fun cz => by
      refine wm_iload d_MM_is_64 rfl ?_
      refine wm_ireturn d_MM_is_66 rfl (m_nb hb) ?_
      refine ⟨_, rfl, rfl, hb, ?_⟩
      rcases hB with ⟨u1, u2, u3⟩ | ⟨u1, u2⟩
      · exact ⟨fun _ => ⟨u2, fun j hj => u3 j (by omega)⟩, fun _ => u1⟩
      · exact ⟨fun c => by omega, fun c => absurd c u2⟩
    refine wm_iload d_MM_is_20 rfl ?_
    refine wm_if_eq (tgt := 64) d_MM_is_22 rfl ib (fun c => fin (Or.inl c)) (fun cb => ?_)
    refine wm_iload d_MM_is_25 rfl ?_
    refine wm_aldO_n d_MM_is_27 rfl rfl ?_
    refine wm_strLen (d := d + 2) hJ hs kt_lenM (Nat.le_of_ble_eq_true rfl) d_MM_is_28 ?_
    refine wm_icmp_ge (tgt := 64) d_MM_is_31 rfl ⟨by omega, by omega⟩ ⟨by omega, by omega⟩ (fun c => fin (Or.inr (by omega))) (fun c => ?_)
    have hin : i < n := by omega
    have hB1 : e = f0 + n ∧ ∀ j, j < i → lt M a (f0 + j) = f j := by
      rcases hB with ⟨-, u⟩ | ⟨u, -⟩
      · exact u
      · exact absurd u cb
    have ih := ih hin
    refine wm_aload_n d_MM_is_34 rfl rfl ?_
    refine wm_iload_n d_MM_is_35 rfl rfl ?_
    refine wm_iload d_MM_is_36 rfl ?_
    refine wm_iadd d_MM_is_38 ?_
    rw [show (f0 : Int) + (i : Int) = ((f0 + i : Nat) : Int) by first | rfl | omega]
    refine cf_MM_159 rfl d_MM_is_39 h.1.1 (Nat.le_of_ble_eq_true rfl) ?_
    refine (s_MM_letter (d := d + 2) (by omega) hO h).mono (fun x M' q => ?_)
    obtain ⟨eM, hx⟩ := q
    have ix : i32 x := by rw [hx]; exact lt_i32 hO
    rw [eM]
    refine wm_aldO_n d_MM_is_42 rfl rfl ?_
    refine wm_iload d_MM_is_43 rfl ?_
    refine wm_strAt (d := d) hJ hs hin kt_chaM (Nat.le_of_ble_eq_true rfl) d_MM_is_45 ?_
    have hf := hT.2.2 i hin
    have nxt : ∀ b' : Int, ((b' = 1 ∧ e = f0 + n ∧ ∀ j, j < i + 1 → lt M a (f0 + j) = f j) ∨ (b' = 0 ∧ ¬ (e = f0 + n ∧ ∀ j, j < n → lt M a (f0 + j) = f j))) → mWm G y_MM_is (d + 4) 56 [vr a, vi f0, vi e, vo t, vi b, vi (i : Int)] [vi b'] M (fun r M' => ∃ x, r = some (vi x) ∧ M' = M ∧ (x = 0 ∨ x = 1) ∧ (x = 1 ↔ (e = f0 + n ∧ ∀ j, j < n → lt M a (f0 + j) = f j))) := by
      intro b' hb'
      refine wm_istore d_MM_is_56 (by decide) (L' := [vr a, vi f0, vi e, vo t, vi b', vi (i : Int)]) rfl ?_
      refine wm_iinc d_MM_is_58 (by decide) rfl (L' := [vr a, vi f0, vi e, vo t, vi b', vi ((i : Int) + 1)]) rfl ?_
      refine wm_goto (tgt := 20) d_MM_is_61 rfl ?_
      have ih := ih b' hb'
      rw [show ((i + 1 : Nat) : Int) = (i : Int) + 1 by first | rfl | omega] at ih
      exact ih
    refine wm_icmp_ne (tgt := 55) d_MM_is_48 rfl ix ⟨by omega, by omega⟩ (fun cn => ?_) (fun ce => ?_)
    · refine wm_iconst d_MM_is_55 ?_
      exact nxt 0 (Or.inr ⟨rfl, fun u => cn (by rw [hx]; exact u.2 i hin)⟩)
    · refine wm_iconst d_MM_is_51 ?_
      refine wm_goto (tgt := 56) d_MM_is_52 rfl ?_
      exact nxt 1 (Or.inl ⟨rfl, hB1.1, fun j hj => by
        by_cases cj : j < i
        · exact hB1.2 j cj
        · rw [show j = i by first | rfl | omega, ← hx]; exact Decidable.not_not.mp ce⟩)
  have all : ∀ (q i : Nat) (b : Int), ((b = 1 ∧ e = f0 + n ∧ ∀ j, j < i → lt M a (f0 + j) = f j) ∨ (b = 0 ∧ ¬ (e = f0 + n ∧ ∀ j, j < n → lt M a (f0 + j) = f j))) → n = i + q → mWm G y_MM_is (d + 4) 20 [vr a, vi f0, vi e, vo t, vi b, vi (i : Int)] [] M (fun r M' => ∃ x, r = some (vi x) ∧ M' = M ∧ (x = 0 ∨ x = 1) ∧ (x = 1 ↔ (e = f0 + n ∧ ∀ j, j < n → lt M a (f0 + j) = f j))) := by
    intro q
    induction q with
    | zero => exact fun i b hb e => step b i hb (by omega) (fun c => by omega)
    | succ q ih => exact fun i b hb e => step b i hb (by omega) (fun _ b' hb' => ih (i + 1) b' hb' (by omega))
  have go : ∀ b : Int, ((b = 1 ∧ e = f0 + n ∧ ∀ j, j < 0 → lt M a (f0 + j) = f j) ∨ (b = 0 ∧ ¬ (e = f0 + n ∧ ∀ j, j < n → lt M a (f0 + j) = f j))) → mWm G y_MM_is (d + 4) 15 [vr a, vi f0, vi e, vo t, vd, vd] [vi b] M (fun r M' => ∃ x, r = some (vi x) ∧ M' = M ∧ (x = 0 ∨ x = 1) ∧ (x = 1 ↔ (e = f0 + n ∧ ∀ j, j < n → lt M a (f0 + j) = f j))) := by
    intro b hb
    refine wm_istore d_MM_is_15 (by decide) (L' := [vr a, vi f0, vi e, vo t, vi b, vd]) rfl ?_
    refine wm_iconst d_MM_is_17 ?_
    refine wm_istore d_MM_is_18 (by decide) (L' := [vr a, vi f0, vi e, vo t, vi b, vi 0]) rfl ?_
    exact all n 0 b hb (by omega)
  refine wm_open (y := y_MM_is) rfl (Nat.le_of_ble_eq_true rfl) (L := [vr a, vi f0, vi e, vo t, vd, vd]) rfl ?_
  refine wm_iload_n d_MM_is_0 rfl rfl ?_
  refine wm_iload_n d_MM_is_1 rfl rfl ?_
  refine wm_isub d_MM_is_2 ?_
  refine wm_aldO_n d_MM_is_3 rfl rfl ?_
  refine wm_strLen (d := d + 2) hJ hs kt_lenM (Nat.le_of_ble_eq_true rfl) d_MM_is_4 ?_
  refine wm_icmp_ne (tgt := 14) d_MM_is_7 rfl ⟨by omega, by omega⟩ ⟨by omega, by omega⟩ (fun cn => ?_) (fun ce => ?_)
  · refine wm_iconst d_MM_is_14 ?_
    exact go 0 (Or.inr ⟨rfl, fun u => cn (by omega)⟩)
  · refine wm_iconst d_MM_is_10 ?_
    refine wm_goto (tgt := 15) d_MM_is_11 rfl ?_
    exact go 1 (Or.inl ⟨rfl, by omega, fun j hj => absurd hj (by omega)⟩)
end
