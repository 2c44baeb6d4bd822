section
section
variable {G : mG} {d a : Nat} {M : mM} {kw : (Nat → Int) → Nat → Nat → Int}
theorem x_MM_signKind {i : Nat} (hi : (i : Int) ≤ 20000) (hO : mOk M) (h : Wd M a) : Ci G y_MM_signKind (d + 2) [vr a, vi i] M (fun x M' => M' = M ∧ x = sgk (lt M a i) (lt M a (i + 1))) := by
  refine k_MM_signKind hO ⟨by omega, by omega⟩ ⟨h.1.1, ?_⟩
  rw [show (i : Int) + 1 = ((i + 1 : Nat) : Int) by first | rfl | omega]
  refine (s_MM_letter (i := i + 1) (by omega) hO h).mono (fun x M1 h1 => ?_)
  obtain ⟨e1, hx⟩ := h1
  subst e1
  refine ⟨by rw [hx]; exact lt_i32 hO, hO, h.1.1, (s_MM_letter (by omega) hO h).mono (fun y M2 h2 => ?_)⟩
  obtain ⟨e2, hy⟩ := h2
  subst e2
  refine ⟨by rw [hy]; exact lt_i32 hO, hO, ?_⟩
  rw [← hx, ← hy]
  exact ⟨fun e v hv => ⟨rfl, by rw [hv, e]; rfl⟩, fun n33 => ⟨fun e => ⟨rfl, by rw [e]; rfl⟩, fun n37 => ⟨fun e => ⟨rfl, by rw [e]; rfl⟩, fun n38 => ⟨fun e => ⟨rfl, by rw [e]; rfl⟩, fun n39 => ⟨fun e => ⟨rfl, by rw [e]; rfl⟩, fun n40 => ⟨fun e => ⟨rfl, by rw [e]; rfl⟩, fun n41 => ⟨fun e => ⟨rfl, by rw [e]; rfl⟩, fun n42 => ⟨fun e => ⟨rfl, by rw [e]; rfl⟩, fun n43 => ⟨fun e => ⟨rfl, by rw [e]; rfl⟩, fun n44 => ⟨fun e v hv => ⟨rfl, by rw [hv, e]; rfl⟩, fun n45 => ⟨fun e v hv => ⟨rfl, by rw [hv, e]; rfl⟩, fun n46 => ⟨fun e => ⟨rfl, by rw [e]; rfl⟩, fun n47 => ⟨fun e => ⟨rfl, by rw [e]; rfl⟩, fun n58 => ⟨fun e => ⟨rfl, by rw [e]; rfl⟩, fun n59 => ⟨fun e v hv => ⟨rfl, by rw [hv, e]; rfl⟩, fun n60 => ⟨fun e => ⟨rfl, by rw [e]; rfl⟩, fun n61 => ⟨fun e v hv => ⟨rfl, by rw [hv, e]; rfl⟩, fun n62 => ⟨fun e => ⟨rfl, by rw [e]; rfl⟩, fun n63 => ⟨fun e => ⟨rfl, by rw [e]; rfl⟩, fun n124 => ⟨rfl, by unfold sgk; rw [if_neg n46, if_neg n45, if_neg n33, if_neg n60, if_neg n62, if_neg n61, if_neg n43, if_neg n42, if_neg n47, if_neg n37, if_neg n38, if_neg n124, if_neg n63, if_neg n58, if_neg n59, if_neg n44, if_neg n40, if_neg n41, if_neg n39]⟩⟩⟩⟩⟩⟩⟩⟩⟩⟩⟩⟩⟩⟩⟩⟩⟩⟩⟩⟩
end
end
