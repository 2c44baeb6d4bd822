/-! New fractions. -/
section NBC
variable {G : mG} {d a z n m w S B u g R cn f F s i : Nat} {M M0 M' M1 M2 M3 : mM} {L L' : List Nat} {W : Nat → Nat}
theorem FA.ui {S R : Nat → Prop} {j : Nat} {x : Int} (ha : S a) (e : M' = mUI M a j x) : FA S R M M' := (show FI S M M' by rw [e]; exact FI.ui ha).fa
theorem s_Na_init (hO : mOk M) (h0 : 0 < a) (hk : mK M a = 10) (hz : a < mZ M) : Cv G y_Na_init (d + 1) [vr a] M (fun M' => mOk M' ∧ FA (fun x => x = a) (fun x => x = a) M M' ∧ (mZ M' = mZ M + 1 ∧ mS M' = mS M + 4) ∧ Nt M' a (mZ M) 4 0) := by
  refine k_Na_init hO ⟨h0, fun M2 e2 => ?_⟩
  have f2 : FA (fun x => x = a) (fun x => x = a) M M2 := FA.new e2
  refine ⟨by rw [(f2.2 a hz).1]; exact hk, fun M5 e5 M7 e7 => ?_⟩
  have f5 := f2.trans (FA.ur rfl e5)
  have f7 := f5.trans (FA.ui rfl e7)
  have z7 : mZ M7 = mZ M + 1 := by rw [e7, e5, e2]; rfl
  refine ⟨by rw [e7]; exact mOk_UI (by rw [e5]; exact mOk_UR (by rw [e2]; exact mOk_New hO)) ⟨by decide, by decide⟩, f7, ⟨z7, by rw [e7, e5, e2]; rfl⟩, ⟨by rw [(f7.2 a hz).1]; exact hk, ?_, ?_, ?_, ⟨by decide, by decide⟩, by omega, by omega, by omega⟩, by rw [mI_ui a 1 e7, if_pos ⟨rfl, rfl⟩]; rfl, by decide, fun j hj => absurd hj (by omega), fun u => absurd u (by omega)⟩
  · rw [e7]; show mR M5 a 0 = _; rw [e5, mR_UR, if_pos ⟨rfl, rfl⟩]
  · rw [e7]; show mK M5 (mZ M) = _; rw [e5]; show mK M2 (mZ M) = _; rw [e2, mK_New, if_pos rfl]
  · rw [e7]; show mN M5 (mZ M) = _; rw [e5]; show mN M2 (mZ M) = _; rw [e2, mN_New, if_pos rfl]
/-- a number that is untouched by growth -/
theorem Nt.grow {S R : Nat → Prop} {b X C s : Nat} (h : Nt M b X C s) (F : FA S R M M') (hb : ¬ S b) (hX : ¬ S X) (rb : ¬ R b) : Nt M' b X C s := h.fa F hb hX rb
theorem s_Fr_init (hO : mOk M) (hk : mK M F = 11) (hz : mZ M = F + 1) (h0 : 0 < F) : Cv G y_Fr_init (d + 2) [vr F] M (fun M' => mOk M' ∧ FA (fun x => x = F) (fun x => x = F) M M' ∧ (mZ M' = F + 5 ∧ mS M' = mS M + 12) ∧ (mR M' F 0 = F + 1 ∧ mR M' F 1 = F + 3) ∧ Nt M' (F + 1) (F + 2) 4 0 ∧ Nt M' (F + 3) (F + 4) 4 0 ∧ mI M' F 2 = 1) := by
  refine k_Fr_init hO ⟨h0, fun M2 e2 => ?_⟩
  have f2 : FA (fun x => x = F) (fun x => x = F) M M2 := FA.new e2
  have z2 : mZ M2 = F + 2 := by rw [e2, mZ_New]; omega
  have s2 : mS M2 = mS M + 2 := by rw [e2, mS_New]
  have k2 : mK M2 (F + 1) = 10 := by rw [e2, mK_New, if_pos (by omega)]
  have o2 : mOk M2 := by rw [e2]; exact mOk_New hO
  rw [hz]
  refine (s_Na_init (d := d) (a := F + 1) o2 (by omega) k2 (by omega)).mono (fun M4 q => ?_)
  obtain ⟨o4, f4, ⟨z4, s4⟩, t4⟩ := q
  rw [z2] at t4 z4
  have F4 : FA (fun x => x = F) (fun x => x = F) M M4 := f2.trans2 f4 (fun x hx e => by have e' : x = F + 1 := e; omega) (fun x hx e => by have e' : x = F + 1 := e; omega)
  refine ⟨o4, by rw [(F4.2 F (by omega)).1]; exact hk, fun M8 e8 => ?_⟩
  have F8 : FA (fun x => x = F) (fun x => x = F) M M8 := F4.trans (FA.ur rfl e8)
  have z8 : mZ M8 = F + 3 := by rw [e8]; exact z4
  have o8 : mOk M8 := by rw [e8]; exact mOk_UR o4
  have s8 : mS M8 = mS M + 6 := by rw [e8, mS_UR, s4, s2]
  have t8 : Nt M8 (F + 1) (F + 2) 4 0 := t4.fa (S := fun _ => False) (R := fun x => x = F) (FA.ur rfl e8) (fun e => e) (fun e => e) (fun e => by have e' : F + 1 = F := e; omega)
  have r8 : mR M8 F 0 = F + 1 := by rw [e8, mR_UR, if_pos ⟨rfl, rfl⟩]
  rw [z8]
  intro M10 e10
  have g10 : FA (fun _ => False) (fun _ => False) M8 M10 := FA.new e10
  have z10 : mZ M10 = F + 4 := by rw [e10, mZ_New]; omega
  have k10 : mK M10 (F + 3) = 10 := by rw [e10, mK_New, if_pos (by omega)]
  have o10 : mOk M10 := by rw [e10]; exact mOk_New o8
  have t10 := t8.fa g10 (fun e => e) (fun e => e) (fun e => e)
  refine (s_Na_init (d := d) (a := F + 3) o10 (by omega) k10 (by omega)).mono (fun M12 q => ?_)
  obtain ⟨o12, f12, ⟨z12, s12⟩, t12⟩ := q
  rw [z10] at t12 z12
  have t12' := t10.fa f12 (fun e => by have e' : F + 1 = F + 3 := e; omega) (fun e => by have e' : F + 2 = F + 3 := e; omega) (fun e => by have e' : F + 1 = F + 3 := e; omega)
  have G12 : FA (fun x => x = F) (fun x => x = F) M8 M12 := (g10.mono (fun _ _ e => e.elim) (fun _ _ e => e.elim)).trans2 f12 (fun x hx e => by have e' : x = F + 3 := e; omega) (fun x hx e => by have e' : x = F + 3 := e; omega)
  have r12 : mR M12 F 0 = F + 1 := by
    rw [(f12.2 F (by omega)).2.2.2.1 (fun e => by have e' : F = F + 3 := e; omega), (g10.2 F (by omega)).2.2.2.1 (fun e => e)]
    exact r8
  refine ⟨o12, by rw [(G12.2 F (by omega)).1, (F8.2 F (by omega)).1]; exact hk, fun M16 e16 M18 e18 => ?_⟩
  have h16 : FA (fun x => x = F) (fun x => x = F) M12 M16 := FA.ur rfl e16
  have h18 : FA (fun x => x = F) (fun x => x = F) M16 M18 := FA.ui rfl e18
  have nF : ∀ {x : Nat}, x ≠ F → ¬ (fun x => x = F) x := fun h e => h e
  have u : ∀ {b X C s : Nat}, b ≠ F → X ≠ F → Nt M12 b X C s → Nt M18 b X C s := fun hb hX t => (t.fa h16 hb hX hb).fa h18 hb hX hb
  refine ⟨by rw [e18]; exact mOk_UI (by rw [e16]; exact mOk_UR o12) ⟨by decide, by decide⟩, ((F8.trans G12).trans h16).trans h18, ⟨by rw [e18, e16]; exact z12, ?_⟩, ⟨?_, ?_⟩, u (by omega) (by omega) t12', u (by omega) (by omega) t12, by rw [mI_ui F 2 e18, if_pos ⟨rfl, rfl⟩]⟩
  · have s10 : mS M10 = mS M8 + 2 := by rw [e10, mS_New]
    have s18 : mS M18 = mS M12 := by rw [e18, e16]; rfl
    omega
  · rw [e18]; show mR M16 F 0 = _; rw [e16, mR_UR, if_neg (fun u => absurd u.2 (by decide))]; exact r12
  · rw [e18]; show mR M16 F 1 = _; rw [e16, mR_UR, if_pos ⟨rfl, rfl⟩]
/-- the family grows by a fraction -/
theorem nf_grow {S R : Nat → Prop} (hF : NF L W M) (F1 : FA S R M M') (hS : ∀ x, x < mZ M → ¬ S x) (hR : ∀ x, x < mZ M → ¬ R x) (hf : mZ M ≤ F) (t1 : Nt M' (F + 1) (F + 2) 4 0) (t3 : Nt M' (F + 3) (F + 4) 4 0) (w1 : 2 ≤ W (F + 1) ∧ W (F + 1) ≤ 20000) (w3 : 2 ≤ W (F + 3) ∧ W (F + 3) ≤ 20000) : NF ((F + 1) :: (F + 3) :: L) W M' := by
  have lt : ∀ a, a ∈ L → a < F := fun a ha => Nat.lt_of_lt_of_le (hF.lt ha).1 hf
  have old : ∀ a, a ∈ L → Nt M' a (mR M a 0) (cp M a) (sz M a) := fun a ha => (hF.nt ha).fa F1 (hS _ (hF.lt ha).1) (hS _ (hF.lt ha).2) (hR _ (hF.lt ha).1)
  have r1 : mR M' (F + 1) 0 = F + 2 := t1.1.2.1
  have r3 : mR M' (F + 3) 0 = F + 4 := t3.1.2.1
  have ro : ∀ a, a ∈ L → mR M' a 0 = mR M a 0 ∧ mR M a 0 < F := fun a ha => ⟨(old a ha).1.2.1, Nat.lt_of_lt_of_le (hF.lt ha).2 hf⟩
  refine ⟨?_, fun a ha => ?_, fun a b ha hb u => ?_⟩
  · refine List.nodup_cons.2 ⟨fun h => ?_, List.nodup_cons.2 ⟨fun h => ?_, hF.1⟩⟩
    · rcases List.mem_cons.1 h with e | e
      · omega
      · have := lt _ e; omega
    · have := lt _ h; omega
  · rcases List.mem_cons.1 ha with e | e
    · rw [e]; exact ⟨t1.nn, by rw [t1.cp]; omega, w1⟩
    · rcases List.mem_cons.1 e with e | e
      · rw [e]; exact ⟨t3.nn, by rw [t3.cp]; omega, w3⟩
      · exact ⟨(old a e).nn, by rw [(old a e).cp]; exact (hF.2.1 a e).2.1, (hF.2.1 a e).2.2⟩
  · have cs : ∀ {a : Nat}, a ∈ (F + 1) :: (F + 3) :: L → a = F + 1 ∨ a = F + 3 ∨ a ∈ L := fun h => by
      rcases List.mem_cons.1 h with e | e
      · exact Or.inl e
      · rcases List.mem_cons.1 e with e | e
        · exact Or.inr (Or.inl e)
        · exact Or.inr (Or.inr e)
    rcases cs ha with e1 | e1 | e1 <;> rcases cs hb with e2 | e2 | e2
    · rw [e1, e2]
    · rw [e1, e2, r1, r3] at u; omega
    · rw [e1, r1, (ro b e2).1] at u; have := (ro b e2).2; omega
    · rw [e1, e2, r1, r3] at u; omega
    · rw [e1, e2]
    · rw [e1, r3, (ro b e2).1] at u; have := (ro b e2).2; omega
    · rw [e2, r1, (ro a e1).1] at u; have := (ro a e1).2; omega
    · rw [e2, r3, (ro a e1).1] at u; have := (ro a e1).2; omega
    · rw [(ro a e1).1, (ro b e2).1] at u
      exact hF.2.2 a b e1 e2 u
end NBC
