/-! The reference: workOut. -/
section WT
variable {G : mG} {F : Prop} {d a g R W T : Nat} {M : mM} {E : Nat → Nat}
/-- a rule has been worked out, or a fault told -/
def wrkQ (F : Prop) (M : mM) (a g R W T : Nat) (t : Int) (M' : mM) : Prop := EO F M a g R W T M' ∧ (mI M' a 16 ≠ 0 ∨ (mI M' a 16 = 0 ∧ vok t (mL M' (a + 97) 0) (mL M' (a + 98) 0)))
theorem s_MM_workOut {b f n e : Nat} {t : Int} (h : Ev F M a g R W T) (hF : F → Fm M g R W T E) (hb : b ≤ R) (hbE : ∀ r : Nat, r < b → mI M (g + 13) r ≠ 0 → E r ≤ n) (ht : Ty (nme F M g b W) (tn M g) M g f 0 n e (fun _ => t)) (he : e ≤ T) : Cv G y_MM_workOut (d + 4) [vr a, vr g, vi n] M (fun M' => mOk M' ∧ wrkQ F M a g R W T t M') := by
  obtain ⟨hO, w, hg, hd, hB, -, -⟩ := id h
  have hlt := ht.tn.lt
  refine k_MM_workOut hO (i32s (by omega) (by omega)) ⟨w.1.1, fun M2 e2 => ?_⟩
  obtain ⟨m2, f2⟩ := mv_fld (v := 0) ⟨by omega, by omega⟩ hO w e2
  have E2 : EO F M a g R W T M2 := (EO.refl h).step m2 (fun _ z => z.elim) (fun x hx => Or.inl hx) (fun i _ _ i3 => by rw [f2, if_neg i3])
  have w2 := m2.2.1
  rw [r24w w2]
  refine ⟨(w2.nu n99).1, fun M5 e5 => ?_⟩
  have b99 : 0 ≤ ln M2 (a + 99) := (w2.nu n99).2.2.2.1.1
  obtain ⟨m5, l5, -, -⟩ := mv_set m2.1 w2 n99 (v := 0) (by omega) b99 e5
  have E5 := E2.pile m5
  have K5 := kp99 w2 m5
  refine (s_MM_todo (d := d + 2) (X := 0) ⟨by omega, by omega⟩ (i32s (by omega) (by omega)) m5.1 m5.2.1 l5 (by omega)).mono (fun M7 t7 => ⟨t7.1, ?_⟩)
  obtain ⟨o7, m7, l7, -, x7, y7⟩ := t7
  have E7 := E5.pile m7
  have K7 := kp99 E5.1.2.1 m7
  have fin : ∀ M3, EO F M a g R W T M3 → mI M3 a 16 ≠ 0 → mOk M3 ∧ wrkQ F M a g R W T t M3 := fun M3 h3 z => ⟨h3.1.1, h3, Or.inl z⟩
  refine s_wo_f fin E7 (fun z => ?_)
  refine s_wo_run h hF fin b f 0 n e n e 0 0 1 (fun _ => t) M7 hb hbE (by omega) ht (Nat.le_refl _) (Nat.le_refl _) he E7 z l7 (fun j hj => ?_) (by rw [K7.1, K5.1, f2, if_pos rfl]; rfl) (by omega) (by omega) (fun M8 h8 => ?_)
  · have j0 : j = 0 := by omega
    subst j0
    exact ⟨x7, y7⟩
  · obtain ⟨E8, z16, l8, -, -, -, o8⟩ := h8
    have w8 := E8.1.2.1
    have l8' : mI M8 (a + 99) 1 = 0 := l8
    refine k_MM_workOut_19 E8.1.1 ?_
    rw [r24w w8, l8']
    exact ⟨w8.1.1, (w8.nu n99).1, fun _ => ⟨E8.1.1, E8, Or.inr ⟨z16, o8 0 (by omega)⟩⟩, fun q => absurd (Or.inl (Int.le_refl _)) q⟩
end WT
