/-! The class's top: solve, judge, check. -/
section NCP
variable {G : mG} {d t g s b i j a Ra n cn cc bc z w R' k' : Nat} {v R k Rn kn : Nat → Nat} {M M0 M' M1 : mM} {L L' L1 : List Nat} {W : Nat → Nat} {T C S Z : Nat → Prop} {r : Prop}
/-- the top's references -/
def Tr (t : Nat) (v : Nat → Nat) (M : mM) : Prop := mK M t = 1 ∧ (mR M t 9 = t + 62 ∧ mR M t 10 = t + 85) ∧ (mR M t 11 = v 0 ∧ mR M t 12 = v 1 ∧ mR M t 13 = v 2 ∧ mR M t 14 = v 3) ∧ (mR M t 15 = t + 228 ∧ mR M t 16 = t + 230 ∧ mR M t 17 = t + 235) ∧ t < mZ M
theorem Tr.fc (h : Tr t v M) (f : FC Z M M') (nz : ¬ Z t) : Tr t v M' ∧ mI M' t = mI M t := by
  obtain ⟨h1, h2, h3, h4, h5⟩ := h
  obtain ⟨f1, -, f2⟩ := f.2 t h5
  obtain ⟨-, e1, e2⟩ := f2 nz
  have := f.1.1
  exact ⟨⟨by rw [f1]; exact h1, by rw [e1]; exact h2, by rw [e1]; exact h3, by rw [e1]; exact h4, by omega⟩, e2⟩
theorem Nms.cnt (h : Nms L W s g b cn cc bc v R k M) : mI M g 0 = ((cn : Nat) : Int) ∧ mK M g = 7 ∧ mK M s = 8 ∧ mOk M := ⟨h.1.1.2.2.2.2.2.2.2, h.1.1.2.2.1.1, h.1.1.2.1.1.1, h.1.1.1⟩
theorem w_tat (hWs : ∀ x, s ≤ x → x ≤ s + 134 → 300 ≤ W x) : ∀ x, Tat s x → 300 ≤ W x := fun x u => hWs x (by unfold Tat Tpk T4 Tor T2 at u; omega) (by unfold Tat Tpk T4 Tor T2 at u; omega)
theorem n_CA_solve (h : Nms L W (t + 85) (t + 62) b cn cc bc v R k M) (hc : Cnu Z L (t + 85) v R k M) (hr : Tr t v M) (nz : ¬ Z t) (c1 : 1 ≤ cn) (hWr : ∀ x, b ≤ x → 17 ≤ W x ∧ W x ≤ 20000) (hWs : ∀ x, t + 85 ≤ x → x ≤ t + 85 + 134 → 300 ≤ W x) : Ci G y_CA_solve (d + 9) [vr t] M (fun x M' => i32 x ∧ nmQ Z L W (t + 85) (t + 62) b cn cc bc v k 0 M M' ∧ (mI M' (v 0) 1 ≠ 0 → Chs M' (t + 85) (t + 62) cn) ∧ (kdT (xtm M (t + 62) cn) → svA9 (xtm M (t + 62) cn) x) ∧ mI M' (v 0) 1 = if x = 0 then 1 else 0) := by
  obtain ⟨e0, kg, ks, o⟩ := h.cnt
  refine k_CA_solve o ?_
  rw [hr.2.1.1, hr.2.1.2, hr.2.2.1.1, e0]
  refine ⟨hr.1, kg, fun u => absurd u (by omega), fun _ => ⟨ks, (h.work (d := d) (kp := 0) ⟨by decide, by decide⟩ hc (by decide) (fun u => absurd rfl u) hWr hWs).mono (fun x M6 q => ?_)⟩⟩
  obtain ⟨hx, q1, q2, q3, q4, q5⟩ := q
  have ix : i32 x := by rcases hx with u | u | u <;> rw [u] <;> exact ⟨by decide, by decide⟩
  obtain ⟨L1, R1, k1, N1, P1, Q1, G1, V1⟩ := id q1
  obtain ⟨-, -, ks6, o6⟩ := N1.cnt
  have r6 := (hr.fc P1.1 nz).1
  rw [r6.2.1.2, r6.2.2.1.1]
  refine ⟨ix, o6, fun u => ⟨r6.1, ks6, ?_⟩, fun u => ⟨ix, q1, fun w => absurd (q3 u) w, q5 rfl, by rw [if_neg u]; exact q3 u⟩⟩
  obtain ⟨ck, rs, rt⟩ := N1.2.2.2 0 (by decide) (by decide) (by rw [q4 u]; decide)
  refine (s_So_rankAndChoose (d := d + 1) (B := 300) (N1.1.sva N1.2.2.1.1 (N1.2.1.1 0 (by decide))) ck (N1.2.1.1 0 (by decide)).2.2.2.1 ⟨rs, rt⟩ (w_tat hWs) (by decide) (by decide)).mono (fun M15 q => ?_)
  obtain ⟨p1, p2⟩ := q
  obtain ⟨⟨L2, R2, k2, N2, P2, Q2, G2, V2⟩, ev0⟩ := N1.sv P1.2 (by decide) ck p1
  exact ⟨p1.2.1.1.1, ix, ⟨L2, R2, k2, N2, P1.trans P2, Q1.trans Q2, fun j hj => by rw [G2 j hj, G1 j hj], fun j hj ji => by rw [V2 j hj ji, V1 j hj ji]⟩, fun _ => p2, q5 rfl, by rw [if_pos u, ev0]; exact q4 u⟩
theorem n_CA_judge {l : Int} (hl : l = 1 ∨ l = 2) (h : Nms L W (t + 85) (t + 62) b cn cc bc v R k M) (hc : Cnu Z L (t + 85) v R k M) (hr : Tr t v M) (c1 : 1 ≤ cn) (ht : Tld M (t + 62) cn l) (hWr : ∀ x, b ≤ x → 17 ≤ W x ∧ W x ≤ 20000) (hWs : ∀ x, t + 85 ≤ x → x ≤ t + 85 + 134 → 300 ≤ W x) : Ci G y_CA_judge (d + 9) [vr t, vi l] M (fun x M' => i32 x ∧ nmQ Z L W (t + 85) (t + 62) b cn cc bc v k 3 M M' ∧ mI M' (t + 85 + 30) = mI M (t + 85 + 30)) := by
  obtain ⟨e0, kg, ks, o⟩ := h.cnt
  have il : i32 l := by rcases hl with u | u <;> rw [u] <;> exact ⟨by decide, by decide⟩
  refine k_CA_judge o il ?_
  rw [hr.2.1.1, hr.2.1.2, hr.2.2.1.2.2.2, e0]
  refine ⟨fun _ => ⟨hr.1, kg, fun u => absurd u (by omega), fun _ => ⟨ks, (h.work (d := d) il hc (by decide) ht hWr hWs).mono (fun x M6 q => ?_)⟩⟩, fun u => absurd hl u⟩
  obtain ⟨hx, q1, q2, -⟩ := q
  have ix : i32 x := by rcases hx with u | u | u <;> rw [u] <;> exact ⟨by decide, by decide⟩
  obtain ⟨L1, R1, k1, N1, -⟩ := id q1
  exact ⟨ix, N1.cnt.2.2.2, ix, q1, q2⟩
theorem n_CA_check (h : Nms L W (t + 85) (t + 62) b cn cc bc v R k M) (hc : Cnu Z L (t + 85) v R k M) (hr : Tr t v M) (hWs : ∀ x, t + 85 ≤ x → x ≤ t + 85 + 134 → 300 ≤ W x) : Ci G y_CA_check (d + 8) [vr t] M (fun x M' => i32 x ∧ (M' = M ∨ (nmQ Z L W (t + 85) (t + 62) b cn cc bc v k 0 M M' ∧ mI M' (v 0) = mI M (v 0) ∧ mI M' (t + 85 + 30) = mI M (t + 85 + 30)))) := by
  obtain ⟨e0, kg, ks, o⟩ := h.cnt
  have t0 := h.2.1.1 0 (by decide)
  refine k_CA_check o ?_
  rw [hr.2.2.1.1, hr.2.1.2]
  refine ⟨hr.1, t0.1.1, fun _ => ⟨⟨by decide, by decide⟩, Or.inl rfl⟩, fun u => ⟨ks, ?_⟩⟩
  obtain ⟨ck, rs, rt⟩ := h.2.2.2 0 (by decide) (by decide) u
  refine (s_So_holds (d := d) (B := 300) (h.1.sva h.2.2.1.1 t0) ck t0.2.2.2.1 ⟨rs, rt⟩ (w_tat hWs) (by decide) (by decide)).mono (fun x M6 q => ?_)
  obtain ⟨x01, q1, q2⟩ := q
  refine ⟨m_b32 x01, q1.2.1.1.1, fun y ey => ⟨by rw [ey]; split <;> exact ⟨by decide, by decide⟩, Or.inr ?_⟩⟩
  obtain ⟨p1, p2⟩ := h.sv hc (by decide) ck q1
  exact ⟨p1, p2, q2⟩
end NCP
