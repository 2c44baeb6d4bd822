/-! The class's top: questions about the game. -/
section NCC
variable {G : mG} {d t g s c cn cc bc : Nat} {M M' : mM}
theorem GR.cnt (hr : GR M g cn cc bc) : mI M g 0 = ((cn : Nat) : Int) ∧ cn ≤ 512 := by
  rcases hr with ⟨e1, e2⟩ | ⟨-, q⟩
  · exact ⟨by rw [e1]; exact e2, by omega⟩
  · exact ⟨q.1.1, q.1.2.1⟩
theorem GR.cmd (hr : GR M g cn cc bc) (c1 : 1 ≤ cn) : (cc ≤ bc ∧ bc ≤ 4096 ∧ cn ≤ 512) ∧ ∀ c, c < cc → cmdG M g cn bc c := by
  rcases hr with ⟨e1, -⟩ | ⟨-, q⟩
  · omega
  · obtain ⟨⟨-, q2, -⟩, -, -, t1, t2, t3, -⟩ := q
    exact ⟨⟨t1, t2, q2⟩, t3⟩
/-- the top with its game -/
def Tg (M : mM) (t g cn cc bc : Nat) : Prop := mOk M ∧ (mK M t = 1 ∧ mR M t 9 = g) ∧ GK M g ∧ GR M g cn cc bc
theorem s_CA_place (h : Tg M t g cn cc bc) : Ci G y_CA_place d [vr t] M (fun r M' => M' = M ∧ i32 r) := k_CA_place h.1 ⟨h.2.1.1, rfl, (h.1 _ _).1⟩
theorem s_CA_state (h : Tg M t g cn cc bc) : Ci G y_CA_state d [vr t] M (fun r M' => M' = M ∧ i32 r) := k_CA_state h.1 ⟨h.2.1.1, rfl, (h.1 _ _).1⟩
theorem s_CA_states (h : Tg M t g cn cc bc) : Ci G y_CA_states d [vr t] M (fun r M' => M' = M ∧ r = ((cn : Nat) : Int)) := by
  obtain ⟨h1, ⟨h2, h3⟩, h4, h5⟩ := h
  refine k_CA_states h1 ?_
  rw [h3]
  exact ⟨h2, h4.1, rfl, h5.cnt.1⟩
theorem s_CA_items {l : Int} {p : Nat} (il : i32 l) (h : Tg M t g cn cc bc) (hp : mR M t 4 = p ∧ mK M p = 6) : Ci G y_CA_items d [vr t, vi l] M (fun r M' => (M' = M ∧ i32 r) ∧ r = if mI M t 6 = 0 then -1 else if l = 0 then mI M p 3 else if l = 1 then mI M p 7 else if l = 2 then mI M p 12 else -1) := by
  obtain ⟨h1, ⟨h2, h3⟩, h4, h5⟩ := h
  refine k_CA_items h1 il ?_
  rw [hp.1]
  have m1 : (M = M ∧ i32 (-1)) := ⟨rfl, by decide, by decide⟩
  exact ⟨h2, fun u => ⟨m1, by rw [if_pos u]⟩, fun u => ⟨fun u0 => ⟨hp.2, ⟨rfl, (h1 _ _).1⟩, by rw [if_neg u, if_pos u0]⟩, fun u0 => ⟨fun u1 => ⟨hp.2, ⟨rfl, (h1 _ _).1⟩, by rw [if_neg u, if_neg u0, if_pos u1]⟩, fun u1 => ⟨fun u2 => ⟨hp.2, ⟨rfl, (h1 _ _).1⟩, by rw [if_neg u, if_neg u0, if_neg u1, if_pos u2]⟩, fun u2 => ⟨m1, by rw [if_neg u, if_neg u0, if_neg u1, if_neg u2]⟩⟩⟩⟩⟩
theorem s_CA_kind {l : Int} (il : i32 l) (h : Tg M t g cn cc bc) : Ci G y_CA_kind (d + 1) [vr t, vi l] M (fun r M' => M' = M ∧ i32 r) := by
  obtain ⟨h1, ⟨h2, h3⟩, h4, h5⟩ := h
  have hc := h5.cnt
  obtain ⟨g0, ⟨-, g2, -⟩, ⟨-, k2, -⟩, ⟨-, n2, -⟩⟩ := id h4
  refine k_CA_kind h1 il ?_
  rw [h3]
  refine ⟨h2, g0, (s_Ga_hasState il h1 g0 hc.1).mono (fun x4 M3 q => ?_)⟩
  obtain ⟨e, hx, hi⟩ := q
  subst e
  rw [h3, g2, n2]
  refine ⟨m_b32 hx, h1, fun u => ?_, fun v e => ⟨rfl, ?_⟩⟩
  · have := hi.mp u
    exact ⟨h2, g0, k2, by omega, by omega⟩
  · rw [e]
    split
    · exact ⟨by decide, by decide⟩
    · exact (h1 _ _).1
theorem s_CA_commands {l : Int} (il : i32 l) (h : Tg M t g cn cc bc) : Ci G y_CA_commands (d + 1) [vr t, vi l] M (fun r M' => M' = M ∧ i32 r) := by
  obtain ⟨h1, ⟨h2, h3⟩, h4, h5⟩ := h
  have hc := h5.cnt
  obtain ⟨g0, ⟨-, -, -, g4, -⟩, ⟨-, -, -, k4, -⟩, ⟨-, -, -, n4, -⟩⟩ := id h4
  refine k_CA_commands h1 il ?_
  rw [h3]
  refine ⟨h2, g0, (s_Ga_hasState il h1 g0 hc.1).mono (fun x4 M3 q => ?_)⟩
  obtain ⟨e, hx, hi⟩ := q
  subst e
  rw [h3, g4, n4]
  refine ⟨m_b32 hx, h1, fun u => ?_, fun v e => ⟨rfl, ?_⟩⟩
  · have := hi.mp u
    exact ⟨h2, g0, k4, by omega, by omega⟩
  · rw [e]
    split
    · exact ⟨by decide, by decide⟩
    · rename_i u
      have b := hi.mp u
      rcases h5 with ⟨e1, -⟩ | ⟨c1, q⟩
      · omega
      · obtain ⟨-, -, -, t1, t2, -, -, -, t6, -⟩ := q
        obtain ⟨x, y', f1, f2, f3, f4⟩ := t6 l.toNat (by omega)
        rw [show (l + 1).toNat = l.toNat + 1 by omega, f1, f2]
        exact i32s (by omega) (by omega)
theorem s_CA_command {l1 l2 : Int} (i1 : i32 l1) (i2 : i32 l2) (h : Tg M t g cn cc bc) : Ci G y_CA_command (d + 2) [vr t, vi l1, vi l2] M (fun r M' => M' = M ∧ i32 r) := by
  obtain ⟨h1, ⟨h2, h3⟩, h4, h5⟩ := h
  obtain ⟨g0, ⟨-, -, -, -, g5, -⟩, ⟨-, -, -, -, k5, -⟩, ⟨-, -, -, -, n5, -⟩⟩ := id h4
  refine k_CA_command h1 i1 i2 ?_
  rw [h3]
  refine ⟨h2, g0, (s_Ga_commandAt (d := d) i1 i2 h1 h4 h5).mono (fun x4 M3 q => ?_)⟩
  obtain ⟨e, hx, hi⟩ := q
  subst e
  rw [h3, g5, n5]
  refine ⟨hx, h1, fun u => ?_, fun v e => ⟨rfl, ?_⟩⟩
  · rcases hi with hi | hi
    · exact absurd hi u
    · have := (h5.cmd hi.2.2).1
      exact ⟨h2, g0, k5, by omega, by omega⟩
  · rw [e]
    split
    · exact ⟨by decide, by decide⟩
    · exact (h1 _ _).1
theorem s_CA_branches {l1 l2 : Int} (i1 : i32 l1) (i2 : i32 l2) (h : Tg M t g cn cc bc) : Ci G y_CA_branches (d + 2) [vr t, vi l1, vi l2] M (fun r M' => M' = M ∧ i32 r) := by
  obtain ⟨h1, ⟨h2, h3⟩, h4, h5⟩ := h
  obtain ⟨g0, ⟨-, -, -, -, -, -, g7, -⟩, ⟨-, -, -, -, -, -, k7, -⟩, ⟨-, -, -, -, -, -, n7, -⟩⟩ := id h4
  refine k_CA_branches h1 i1 i2 ?_
  rw [h3]
  refine ⟨h2, g0, (s_Ga_commandAt (d := d) i1 i2 h1 h4 h5).mono (fun x4 M3 q => ?_)⟩
  obtain ⟨e, hx, hi⟩ := q
  subst e
  rw [h3, g7, n7]
  refine ⟨hx, h1, fun u => ?_, fun v e => ⟨rfl, ?_⟩⟩
  · rcases hi with hi | hi
    · exact absurd hi u
    · have := (h5.cmd hi.2.2).1
      exact ⟨h2, g0, k7, by omega, by omega⟩
  · rw [e]
    split
    · exact ⟨by decide, by decide⟩
    · rename_i u
      rcases hi with hi | hi
      · exact absurd hi u
      · obtain ⟨b1, b2⟩ := h5.cmd hi.2.2
        obtain ⟨x, y, mu, e1, e2, e3, e4, -⟩ := b2 x4.toNat (by omega)
        rw [show (x4 + 1).toNat = x4.toNat + 1 by omega, e1, e2]
        exact i32s (by omega) (by omega)
theorem s_CA_next {l1 l2 : Int} (i1 : i32 l1) (i2 : i32 l2) (h : Tg M t g cn cc bc) : Ci G y_CA_next (d + 2) [vr t, vi l1, vi l2] M (fun r M' => M' = M ∧ i32 r) := by
  obtain ⟨h1, ⟨h2, h3⟩, h4, h5⟩ := h
  have hc := h5.cnt
  obtain ⟨g0, ⟨-, -, g3, -⟩, ⟨-, -, k3, -⟩, ⟨-, -, n3, -⟩⟩ := id h4
  refine k_CA_next h1 i1 i2 ?_
  rw [h3]
  refine ⟨h2, g0, (s_Ga_hasState i1 h1 g0 hc.1).mono (fun x4 M3 q => ?_)⟩
  obtain ⟨e, hx, hi⟩ := q
  subst e
  rw [h3, g3, n3]
  refine ⟨m_b32 hx, h1, fun _ => ⟨rfl, by decide, by decide⟩, fun u => ?_⟩
  have b := hi.mp (fun w => u (Or.inl w))
  refine ⟨h2, g0, k3, by omega, (s_Ga_commandAt (d := d) i1 (h1 _ _).1 h1 h4 h5).mono (fun x16 M15 q => ?_)⟩
  obtain ⟨e, hx16, hi16⟩ := q
  subst e
  refine ⟨hx16, h1, fun _ => ⟨rfl, i1⟩, fun u16 => ?_⟩
  rcases hi16 with w | w
  · exact absurd w u16
  obtain ⟨b1, b2⟩ := h5.cmd w.2.2
  have m := b2 x16.toNat (by omega)
  rw [h3]
  have e16 : ((x16.toNat : Nat) : Int) = x16 := by omega
  have key := s_Ga_drawn (G := G) (d := d + 1) (l2 := l2) i2 h1 h4 (by omega) b1.1 b1.2.1 b1.2.2 m
  rw [e16] at key
  exact ⟨h2, g0, key.mono (fun x25 M24 q => ⟨q.2.1, by rw [q.1]; exact h1, q.1, q.2.1⟩)⟩
theorem s_CA_branch {l1 l2 l3 l4 : Int} (i1 : i32 l1) (i2 : i32 l2) (i3 : i32 l3) (i4 : i32 l4) (h : Tg M t g cn cc bc) : Ci G y_CA_branch (d + 2) [vr t, vi l1, vi l2, vi l3, vi l4] M (fun r M' => M' = M ∧ i32 r) := by
  obtain ⟨h1, ⟨h2, h3⟩, h4, h5⟩ := h
  obtain ⟨g0, ⟨-, -, -, -, -, g6, g7, g8, g9, -⟩, ⟨-, -, -, -, -, k6, k7, k8, k9, -⟩, ⟨-, -, -, -, -, n6, n7, n8, n9, -⟩⟩ := id h4
  refine k_CA_branch h1 i1 i2 i3 i4 ?_
  rw [h3]
  refine ⟨h2, g0, (s_Ga_commandAt (d := d) i1 i2 h1 h4 h5).mono (fun x4 M3 q => ?_)⟩
  obtain ⟨e, hx, hi⟩ := q
  subst e
  have m1 : (M3 = M3 ∧ i32 (-1)) := ⟨rfl, by decide, by decide⟩
  rw [h3, g7, n7, g6, n6, g9, n9]
  by_cases u : x4 = -1
  · exact ⟨hx, h1, fun w => absurd u w, fun _ => m1, fun w => absurd (Or.inl u) w⟩
  rcases hi with w | w
  · exact absurd w u
  obtain ⟨b1, b2⟩ := h5.cmd w.2.2
  have b3 : x4 < 4096 := by omega
  have hm := b2 x4.toNat (by omega)
  obtain ⟨x, y, mu, e1, e2, e3, e4, e5, e6, e7, e8, e9, -⟩ := id hm
  have wl : ∀ i, x ≤ i → i < y → mI M3 (g + 9) i < 1000000000 := fun i a b => by
    have := wsm_le (M := M3) (g := g) (x := x) (n := y - x) (fun i a b => (e5 i a (by omega)).2.2) (y - x) (Nat.le_refl _) i a (by omega)
    rw [e9] at this
    omega
  rw [show (x4 + 1).toNat = x4.toNat + 1 by omega, e1, e2, e6]
  refine ⟨hx, h1, fun _ _ => ⟨h2, g0, k7, by omega, by omega, i32s (by omega) (by omega)⟩, fun _ => m1, fun v => ?_⟩
  have v1 : 0 ≤ l3 := by
    by_cases q : l3 < 0
    · exact absurd (Or.inr (Or.inl q)) v
    · omega
  have v2 : l3 < ((y : Nat) : Int) - ((x : Nat) : Int) := Classical.byContradiction (fun q => v (Or.inr (Or.inr q)))
  have ei : Int.toNat (((x : Nat) : Int) + l3) = x + l3.toNat := by omega
  have we := e5 (x + l3.toNat) (by omega) (by omega)
  have we2 := wl (x + l3.toNat) (by omega) (by omega)
  rw [ei]
  refine ⟨h2, g0, k7, by omega, k9, by omega, k6, by omega, (s_Ma_commonDivisor (d := d + 1) ⟨by omega, by omega⟩ ⟨by omega, by omega⟩ h1).mono (fun x27 M26 q => ?_)⟩
  obtain ⟨e, f1, f2⟩ := q
  subst e
  rw [h3, g8, n8, g9, n9, g6, n6, e6]
  have td : ∀ z : Int, 0 ≤ z → z < 1000000000 → i32 (Int.tdiv z x27) := fun z z0 z1 => by
    rw [Int.tdiv_eq_ediv_of_nonneg z0]
    have p1 := Int.ediv_le_self x27 z0
    have p2 : 0 ≤ z / x27 := Int.ediv_nonneg z0 (by omega)
    exact ⟨by omega, by omega⟩
  have i27 : i32 x27 := ⟨by omega, by omega⟩
  exact ⟨⟨by omega, by omega⟩, h1, fun _ => ⟨h2, g0, k8, by omega, rfl, (h1 _ _).1⟩, fun _ => ⟨fun _ => ⟨h2, g0, k9, by omega, i27, by omega, rfl, td _ (by omega) we2⟩, fun _ => ⟨fun _ => ⟨h2, g0, k6, by omega, i27, by omega, rfl, td _ (by omega) (by omega)⟩, fun _ => m1⟩⟩⟩
end NCC
