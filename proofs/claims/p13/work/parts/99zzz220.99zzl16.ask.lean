/-! The class's top: questions about the game. -/
section NCC
variable {G : mG} {d t g s c cn cc bc : Nat} {M M' : mM}
theorem GR.cnt (hr : GR M g cn cc bc) : mI M g 0 = ((cn : Nat) : Int) ∧ cn ≤ 512 := by
  rcases hr with ⟨e1, e2⟩ | ⟨-, q⟩
  · exact ⟨by rw [e1]; exact e2, by omega⟩
  · exact ⟨q.1.1, q.1.2.1⟩
theorem GR.cmd (hr : GR M g cn cc bc) (c1 : 1 ≤ cn) : (cc ≤ bc ∧ bc ≤ 4096 ∧ cn ≤ 512) ∧ ∀ c, c < cc → cmdG M g cn bc c := by
  rcases hr with ⟨e1, -⟩ | ⟨-, q⟩
  · omega
  · obtain ⟨⟨-, q2, -⟩, -, -, t1, t2, t3, -⟩ := q
    exact ⟨⟨t1, t2, q2⟩, t3⟩
/-- the top with its game -/
def Tg (M : mM) (t g cn cc bc : Nat) : Prop := mOk M ∧ (mK M t = 1 ∧ mR M t 9 = g) ∧ GK M g ∧ GR M g cn cc bc
theorem s_CA_place (h : Tg M t g cn cc bc) : Ci G y_CA_place d [vr t] M (fun r M' => M' = M ∧ i32 r ∧ r = mI M t 7) := k_CA_place h.1 ⟨h.2.1.1, rfl, (h.1 _ _).1, rfl⟩
theorem s_CA_state (h : Tg M t g cn cc bc) : Ci G y_CA_state d [vr t] M (fun r M' => M' = M ∧ i32 r ∧ r = mI M t 8) := k_CA_state h.1 ⟨h.2.1.1, rfl, (h.1 _ _).1, rfl⟩
theorem s_CA_states (h : Tg M t g cn cc bc) : Ci G y_CA_states d [vr t] M (fun r M' => M' = M ∧ r = ((cn : Nat) : Int)) := by
  obtain ⟨h1, ⟨h2, h3⟩, h4, h5⟩ := h
  refine k_CA_states h1 ?_
  rw [h3]
  exact ⟨h2, h4.1, rfl, h5.cnt.1⟩
theorem s_CA_items {l : Int} {p : Nat} (il : i32 l) (h : Tg M t g cn cc bc) (hp : mR M t 4 = p ∧ mK M p = 6) : Ci G y_CA_items d [vr t, vi l] M (fun r M' => (M' = M ∧ i32 r) ∧ r = if mI M t 6 = 0 then -1 else if l = 0 then mI M p 3 else if l = 1 then mI M p 7 else if l = 2 then mI M p 12 else -1) := by
  obtain ⟨h1, ⟨h2, h3⟩, h4, h5⟩ := h
  refine k_CA_items h1 il ?_
  rw [hp.1]
  have m1 : (M = M ∧ i32 (-1)) := ⟨rfl, by decide, by decide⟩
  exact ⟨h2, fun u => ⟨m1, by rw [if_pos u]⟩, fun u => ⟨fun u0 => ⟨hp.2, ⟨rfl, (h1 _ _).1⟩, by rw [if_neg u, if_pos u0]⟩, fun u0 => ⟨fun u1 => ⟨hp.2, ⟨rfl, (h1 _ _).1⟩, by rw [if_neg u, if_neg u0, if_pos u1]⟩, fun u1 => ⟨fun u2 => ⟨hp.2, ⟨rfl, (h1 _ _).1⟩, by rw [if_neg u, if_neg u0, if_neg u1, if_pos u2]⟩, fun u2 => ⟨m1, by rw [if_neg u, if_neg u0, if_neg u1, if_neg u2]⟩⟩⟩⟩⟩
theorem s_CA_next {l1 l2 : Int} (i1 : i32 l1) (i2 : i32 l2) (h : Tg M t g cn cc bc) : Ci G y_CA_next (d + 2) [vr t, vi l1, vi l2] M (fun r M' => M' = M ∧ i32 r) := by
  obtain ⟨h1, ⟨h2, h3⟩, h4, h5⟩ := h
  have hc := h5.cnt
  obtain ⟨g0, ⟨-, -, g3, -⟩, ⟨-, -, k3, -⟩, ⟨-, -, n3, -⟩⟩ := id h4
  refine k_CA_next h1 i1 i2 ?_
  rw [h3]
  refine ⟨h2, g0, (s_Ga_hasState i1 h1 g0 hc.1).mono (fun x4 M3 q => ?_)⟩
  obtain ⟨e, hx, hi⟩ := q
  subst e
  rw [h3, g3, n3]
  refine ⟨m_b32 hx, h1, fun _ => ⟨rfl, by decide, by decide⟩, fun u => ?_⟩
  have b := hi.mp (fun w => u (Or.inl w))
  refine ⟨h2, g0, k3, by omega, (s_Ga_commandAt (d := d) i1 (h1 _ _).1 h1 h4 h5).mono (fun x16 M15 q => ?_)⟩
  obtain ⟨e, hx16, hi16⟩ := q
  subst e
  refine ⟨hx16, h1, fun _ => ⟨rfl, i1⟩, fun u16 => ?_⟩
  rcases hi16 with w | w
  · exact absurd w u16
  obtain ⟨b1, b2⟩ := h5.cmd w.2.2
  have m := b2 x16.toNat (by omega)
  rw [h3]
  have e16 : ((x16.toNat : Nat) : Int) = x16 := by omega
  have key := s_Ga_drawn (G := G) (d := d + 1) (l2 := l2) i2 h1 h4 (by omega) b1.1 b1.2.1 b1.2.2 m
  rw [e16] at key
  exact ⟨h2, g0, key.mono (fun x25 M24 q => ⟨q.2.1, by rw [q.1]; exact h1, q.1, q.2.1⟩)⟩
end NCC
