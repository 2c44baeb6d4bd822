/-! The class's top: which fraction is asked for; choices, ranks, characters. -/
section NCD
variable {G : mG} {d t g s p pr v v0 v1 v2 c cn cc bc : Nat} {M M' : mM}
/-- a table of fractions, rows enough for all states once it is known -/
def Tbl3 (M : mM) (v cn : Nat) : Prop := mK M v = 13 ∧ mK M (mR M v 0) = 35 ∧ (mI M v 1 ≠ 0 → cn ≤ mN M (mR M v 0))
/-- the top's three tables -/
def Tab3 (M : mM) (t v0 v1 v2 cn : Nat) : Prop := (mR M t 11 = v0 ∧ mR M t 12 = v1 ∧ mR M t 14 = v2) ∧ Tbl3 M v0 cn ∧ Tbl3 M v1 cn ∧ Tbl3 M v2 cn
/-- a row of a table that is known -/
def RowK (M : mM) (v cn f : Nat) : Prop := mI M v 1 ≠ 0 ∧ ∃ k, k < cn ∧ f = mR M (mR M v 0) k
theorem s_fo {l : Int} {Q : Nat → mM → Prop} (il : i32 l) (h : Tg M t g cn cc bc) (hb : Tbl3 M v cn) (hQ0 : Q 0 M) (hQ : ∀ f, RowK M v cn f → Q f M) : (¬ (v = 0) → mK M v = 13) ∧ (((v = 0) ∨ (mI M v 1 = 0)) → (Q 0 M)) ∧ (¬ ((v = 0) ∨ (mI M v 1 = 0)) → (mK M t = 1 ∧ mK M (mR M t 9) = 7 ∧ Ci G y_Ga_hasState d [vr (mR M t 9), vi l] M (fun x23 M22 => i32 x23 ∧ mOk M22 ∧ ((¬ (x23 = 0) → (mK M22 v = 13 ∧ mK M22 (mR M22 v 0) = 35 ∧ ((0 : Int) ≤ l ∧ l < (mN M22 (mR M22 v 0) : Int)))) ∧ ∀ v29 : Nat, v29 = (if (x23 = 0) then 0 else mR M22 (mR M22 v 0) (Int.toNat l)) → Q v29 M22)))) := by
  obtain ⟨h1, ⟨h2, h3⟩, h4, h5⟩ := h
  obtain ⟨b1, b2, b3⟩ := hb
  have hc := h5.cnt
  rw [h3]
  refine ⟨fun _ => b1, fun _ => hQ0, fun u => ⟨h2, h4.1, (s_Ga_hasState il h1 h4.1 hc.1).mono (fun x M3 q => ?_)⟩⟩
  obtain ⟨e, hx, hi⟩ := q
  subst e
  have kn : mI M3 v 1 ≠ 0 := fun w => u (Or.inr w)
  have b4 := b3 kn
  refine ⟨m_b32 hx, h1, fun w => ?_, fun r e => ?_⟩
  · have := hi.mp w
    exact ⟨b1, b2, by omega, by omega⟩
  · rw [e]
    by_cases w : x = 0
    · rw [if_pos w]; exact hQ0
    · rw [if_neg w]
      have := hi.mp w
      exact hQ _ ⟨kn, l.toNat, by omega, rfl⟩
theorem s_CA_fractionOf {l1 l2 : Int} (i1 : i32 l1) (i2 : i32 l2) (h : Tg M t g cn cc bc) (h3 : Tab3 M t v0 v1 v2 cn) : Cr G y_CA_fractionOf (d + 1) [vr t, vi l1, vi l2] M (fun f M' => M' = M ∧ (f = 0 ∨ RowK M v0 cn f ∨ RowK M v1 cn f ∨ RowK M v2 cn f)) := by
  obtain ⟨⟨e0, e1, e2⟩, b0, b1, b2⟩ := h3
  refine k_CA_fractionOf h.1 i1 i2 ?_
  rw [e0, e1, e2]
  have k1 := h.2.1.1
  refine ⟨⟨fun _ => k1, fun _ => ⟨fun _ => k1, fun _ _ => k1⟩⟩, fun v7 e7 => ?_⟩
  by_cases c0 : l2 = 0
  · rw [if_pos c0] at e7
    rw [e7]
    exact s_fo (Q := fun f M' => M' = M ∧ (f = 0 ∨ RowK M v0 cn f ∨ RowK M v1 cn f ∨ RowK M v2 cn f)) i1 h b0 ⟨rfl, Or.inl rfl⟩ (fun f r => ⟨rfl, Or.inr (Or.inl r)⟩)
  rw [if_neg c0] at e7
  by_cases c1 : l2 = 1
  · rw [if_pos c1] at e7
    rw [e7]
    exact s_fo (Q := fun f M' => M' = M ∧ (f = 0 ∨ RowK M v0 cn f ∨ RowK M v1 cn f ∨ RowK M v2 cn f)) i1 h b1 ⟨rfl, Or.inl rfl⟩ (fun f r => ⟨rfl, Or.inr (Or.inr (Or.inl r))⟩)
  rw [if_neg c1] at e7
  by_cases c2 : l2 = 2
  · rw [if_pos c2] at e7
    rw [e7]
    exact s_fo (Q := fun f M' => M' = M ∧ (f = 0 ∨ RowK M v0 cn f ∨ RowK M v1 cn f ∨ RowK M v2 cn f)) i1 h b2 ⟨rfl, Or.inl rfl⟩ (fun f r => ⟨rfl, Or.inr (Or.inr (Or.inr r))⟩)
  rw [if_neg c2] at e7
  subst e7
  exact ⟨fun u => absurd rfl u, fun _ => ⟨rfl, Or.inl rfl⟩, fun u => absurd (Or.inl rfl) u⟩
theorem s_CA_choice {l : Int} (il : i32 l) (h : Tg M t g cn cc bc) (hs : mR M t 10 = s) (hS : SoT M s g) (ht : mR M t 11 = v0 ∧ mK M v0 = 13) : Ci G y_CA_choice (d + 1) [vr t, vi l] M (fun r M' => M' = M ∧ i32 r) := by
  obtain ⟨h1, ⟨h2, h3⟩, h4, h5⟩ := h
  have hc := h5.cnt
  obtain ⟨⟨s0, -⟩, ⟨-, r1, r2, -⟩, ⟨k1, k2, -⟩, ⟨n1, n2, -⟩⟩ := hS
  refine k_CA_choice h1 il ?_
  rw [h3, ht.1]
  refine ⟨h2, ht.2, fun _ => ⟨rfl, by decide, by decide⟩, fun _ => ⟨h4.1, (s_Ga_hasState il h1 h4.1 hc.1).mono (fun x M3 q => ?_)⟩⟩
  obtain ⟨e, hx, hi⟩ := q
  subst e
  rw [hs, r2, n2]
  refine ⟨m_b32 hx, h1, fun w => ?_, fun r e => ⟨rfl, ?_⟩⟩
  · have := hi.mp w
    exact ⟨h2, s0, k2, by omega, by omega⟩
  · rw [e]
    split
    · exact ⟨by decide, by decide⟩
    · exact (h1 _ _).1
theorem s_CA_rank {l : Int} (il : i32 l) (h : Tg M t g cn cc bc) (hs : mR M t 10 = s) (hS : SoT M s g) (ht : mR M t 11 = v0 ∧ mK M v0 = 13) : Ci G y_CA_rank (d + 1) [vr t, vi l] M (fun r M' => M' = M ∧ i32 r) := by
  obtain ⟨h1, ⟨h2, h3⟩, h4, h5⟩ := h
  have hc := h5.cnt
  obtain ⟨⟨s0, -⟩, ⟨-, r1, r2, -⟩, ⟨k1, k2, -⟩, ⟨n1, n2, -⟩⟩ := hS
  refine k_CA_rank h1 il ?_
  rw [h3, ht.1]
  refine ⟨h2, ht.2, fun _ => ⟨rfl, by decide, by decide⟩, fun _ => ⟨h4.1, (s_Ga_hasState il h1 h4.1 hc.1).mono (fun x M3 q => ?_)⟩⟩
  obtain ⟨e, hx, hi⟩ := q
  subst e
  rw [hs, r1, n1]
  refine ⟨m_b32 hx, h1, fun w => ?_, fun r e => ⟨rfl, ?_⟩⟩
  · have := hi.mp w
    exact ⟨h2, s0, k1, by omega, by omega⟩
  · rw [e]
    split
    · exact ⟨by decide, by decide⟩
    · exact (h1 _ _).1
theorem s_CA_character {l : Int} (il : i32 l) (h1 : mOk M) (h2 : mK M t = 1) (h3 : mR M t 17 = pr) (h4 : mK M pr = 32 ∧ mN M pr = 400) (h5 : mI M t 18 = ((c : Nat) : Int)) (h6 : c ≤ 400) : Ci G y_CA_character d [vr t, vi l] M (fun r M' => M' = M ∧ i32 r) := by
  refine k_CA_character h1 il ?_
  rw [h3, h4.2, h5]
  refine ⟨fun u => ⟨h2, fun w => ⟨h4.1, by omega, by omega⟩⟩, fun v e => ⟨rfl, ?_⟩⟩
  rw [e]
  split
  · exact ⟨by decide, by decide⟩
  · exact (h1 _ _).1
/-- end, where it does not throw -/
theorem s_CA_end {l : Int} {n : Nat} (il : i32 l) (h1 : mOk M) (h2 : mK M t = 1) (hn : mI M t 1 = ((n : Nat) : Int)) (hb : n ≤ 16384) (hl : 0 ≤ l ∧ l ≤ 20 ∧ 20 ≤ n) : Ci G y_CA_end d [vr t, vi l] M (fun r M' => r = ((n : Nat) : Int) + (l - 20) ∧ mOk M' ∧ M' = mUI M t 1 (((n : Nat) : Int) + (l - 20))) := by
  refine k_CA_end h1 il ?_
  rw [hn]
  refine ⟨fun _ _ => h2, fun u => ?_, fun _ => ⟨h2, i32s (by omega) (by omega), fun M11 e => ?_⟩⟩
  · rcases u with u | u | u <;> omega
  · rw [mI_ui t 1 e, if_pos ⟨rfl, rfl⟩]
    exact ⟨rfl, by rw [e]; exact mOk_UI h1 ⟨by omega, by omega⟩, e⟩
/-- what is known is forgotten -/
def Sfg (v0 v1 v2 x : Nat) : Prop := x = v0 ∨ x = v1 ∨ x = v2
theorem s_CA_forget (h1 : mOk M) (h2 : mK M t = 1) (h3 : Tab3 M t v0 v1 v2 cn) (nt : t ≠ v0 ∧ t ≠ v1 ∧ t ≠ v2) : Cv G y_CA_forget d [vr t] M (fun M' => mOk M' ∧ FI (Sfg v0 v1 v2) M M' ∧ mI M' v0 1 = 0 ∧ mI M' v1 1 = 0 ∧ mI M' v2 1 = 0) := by
  obtain ⟨⟨e0, e1, e2⟩, b0, b1, b2⟩ := h3
  refine k_CA_forget h1 ?_
  rw [e0]
  refine ⟨h2, b0.1, fun M3 q3 => ?_⟩
  have f3 : FI (Sfg v0 v1 v2) M M3 := by rw [q3]; exact FI.ui (Or.inl rfl)
  rw [f3.1, f3.2.2.1, e1]
  refine ⟨b1.1, fun M6 q6 => ?_⟩
  have f6 : FI (Sfg v0 v1 v2) M3 M6 := by rw [q6]; exact FI.ui (Or.inr (Or.inl rfl))
  rw [f6.1, f6.2.2.1, f3.1, f3.2.2.1, e2]
  refine ⟨b2.1, fun M9 q9 => ?_⟩
  have f9 : FI (Sfg v0 v1 v2) M6 M9 := by rw [q9]; exact FI.ui (Or.inr (Or.inr rfl))
  have z : i32 0 := ⟨by decide, by decide⟩
  have o9 : mOk M9 := by rw [q9]; refine mOk_UI ?_ z; rw [q6]; refine mOk_UI ?_ z; rw [q3]; exact mOk_UI h1 z
  have r : ∀ v, v = v0 ∨ v = v1 ∨ v = v2 → mI M9 v 1 = 0 := fun v hv => by
    rw [mI_ui v 1 q9, mI_ui v 1 q6, mI_ui v 1 q3]
    split
    · rfl
    · split
      · rfl
      · split
        · rfl
        · rename_i a b c
          rcases hv with u | u | u
          · exact absurd ⟨u, rfl⟩ c
          · exact absurd ⟨u, rfl⟩ b
          · exact absurd ⟨u, rfl⟩ a
  exact ⟨o9, (f3.trans f6).trans f9, r v0 (Or.inl rfl), r v1 (Or.inr (Or.inl rfl)), r v2 (Or.inr (Or.inr rfl))⟩
end NCD
