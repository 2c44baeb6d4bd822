/-! The class's top: choices are told. -/
section NCT
variable {G : mG} {d t g s c cn cc bc k j n : Nat} {M M' M0 : mM} {v : Nat → Nat}
theorem GTT.told (h : GTT M g cn cc bc) (e : ∀ i, i ≤ 9 → i ≠ 3 → mI M' (g + i) = mI M (g + i)) : GTT M' g cn cc bc := by
  obtain ⟨h1, h2, h3, h4⟩ := h
  have e0 := e 0 (by decide) (by decide)
  rw [Nat.add_zero] at e0
  have e4 := e 4 (by decide) (by decide)
  have e7 := e 7 (by decide) (by decide)
  exact ⟨h1, fun c hc => (h2 c hc).cg ⟨by rw [e7], by rw [e7]⟩ (by rw [e 6 (by decide) (by decide)]) (by rw [e 5 (by decide) (by decide)]) (fun i _ => ⟨by rw [e 8 (by decide) (by decide)], by rw [e 9 (by decide) (by decide)]⟩) (Nat.le_refl _) (Nat.le_refl _), fun j hj => by rw [e4]; exact h3 j hj, by rw [e0]; exact h4⟩
theorem GQ.told (hq : GQ M g cn k cc bc) (e : ∀ i, (i ≤ 9 ∧ i ≠ 3) ∨ i = 20 → mI M' (g + i) = mI M (g + i)) : GQ M' g cn k cc bc := by
  have e0 := e 0 (by omega)
  rw [Nat.add_zero] at e0
  obtain ⟨⟨q1, q2, q3⟩, q4, q5, q6⟩ := hq
  have e4 := e 4 (by omega)
  have e7 := e 7 (by omega)
  refine ⟨⟨by rw [e0]; exact q1, q2, fun i hi => by rw [e 20 (by omega)]; exact q3 i hi⟩, by rw [e0]; exact q4, by rw [e0]; exact q5, ?_⟩
  obtain ⟨t1, t2, t3, t4, t5, t6, t7, t8⟩ := q6
  exact ⟨t1, t2, fun c hc => (t3 c hc).cg ⟨by rw [e7], by rw [e7]⟩ (by rw [e 6 (by omega)]) (by rw [e 5 (by omega)]) (fun i _ => ⟨by rw [e 8 (by omega)], by rw [e 9 (by omega)]⟩) (Nat.le_refl _) (Nat.le_refl _), by rw [e7]; exact t4, t5, by rw [e4]; exact t6, by rw [e4]; exact t7, by rw [e4]; exact t8⟩
theorem GR.told (h : GR M g cn cc bc) (f : FI (fun x => x = g + 3) M M') : GR M' g cn cc bc := by
  have e : ∀ x, x ≠ g + 3 → mI M' x = mI M x := fun x hx => f.2.2.2.2.2.2 x hx
  rcases h with ⟨a, b⟩ | ⟨a, b⟩
  · exact Or.inl ⟨a, by rw [e g (by omega)]; exact b⟩
  · exact Or.inr ⟨a, b.told (fun i hi => e _ (by omega))⟩
/-- the command i of state k -/
def cmdP (M : mM) (g cn : Nat) (l1 l2 : Int) : Prop := (0 ≤ l1 ∧ l1 < cn) ∧ 0 ≤ l2 ∧ l2 < mI M (g + 4) (l1 + 1).toNat - mI M (g + 4) l1.toNat
theorem s_Ga_commandAt2 {l1 l2 : Int} (i1 : i32 l1) (i2 : i32 l2) (h1 : mOk M) (hk : GK M g) (hr : GR M g cn cc bc) : Ci G y_Ga_commandAt (d + 1) [vr g, vi l1, vi l2] M (fun r M' => M' = M ∧ i32 r ∧ (cmdP M g cn l1 l2 → 0 ≤ r) ∧ (¬ cmdP M g cn l1 l2 → r = -1)) := by
  obtain ⟨g0, ⟨-, -, -, g4, -⟩, ⟨-, -, -, k4, -⟩, ⟨-, -, -, n4, -⟩⟩ := id hk
  have hc := hr.cnt
  refine k_Ga_commandAt h1 i1 i2 ⟨g0, (s_Ga_hasState i1 h1 g0 hc.1).mono (fun x3 M2 q => ?_)⟩
  obtain ⟨e2, hx, hiff⟩ := q
  subst e2
  have rows : x3 ≠ 0 → ∃ a b : Nat, mI M2 (g + 4) l1.toNat = ((a : Nat) : Int) ∧ mI M2 (g + 4) (l1 + 1).toNat = ((b : Nat) : Int) ∧ a ≤ b ∧ b ≤ cc ∧ cc ≤ 4096 ∧ 0 ≤ l1 ∧ l1 < 512 ∧ 1 ≤ cn := fun y => by
    have b := hiff.mp y
    rcases hr with ⟨e1, -⟩ | ⟨c1, q⟩
    · omega
    · obtain ⟨⟨-, q2, -⟩, -, -, t1, t2, -, -, -, t6, -⟩ := q
      obtain ⟨x, y', f1, f2, f3, f4⟩ := t6 l1.toNat (by omega)
      exact ⟨x, y', f1, by rw [show (l1 + 1).toNat = l1.toNat + 1 by omega]; exact f2, f3, f4, by omega, b.1, by omega, c1⟩
  have bad : ((x3 = 0) ∨ (l2 < 0) ∨ ¬ (l2 < mI M2 (g + 4) (l1 + 1).toNat - mI M2 (g + 4) l1.toNat)) → ¬ cmdP M2 g cn l1 l2 := fun u p => by
    rcases u with u | u | u
    · exact (hiff.mpr p.1) u
    · exact absurd p.2.1 (by omega)
    · exact u p.2.2
  clear hr
  rw [g4, n4]
  refine ⟨m_b32 hx, h1, fun y _ => ?_, fun u => ⟨rfl, ⟨by decide, by decide⟩, fun p => absurd p (bad u), fun _ => rfl⟩, fun y => ?_⟩
  · obtain ⟨a, b, f1, f2, f3, f4, f5, f6, f7, f8⟩ := rows y
    rw [f1, f2]
    exact ⟨g0, k4, by omega, by omega, ⟨by omega, by omega⟩⟩
  · have y0 : x3 ≠ 0 := fun t => y (Or.inl t)
    have b0 := hiff.mp y0
    obtain ⟨a, b, f1, f2, f3, f4, f5, f6, f7, f8⟩ := rows y0
    have y1 : 0 ≤ l2 := by
      by_cases t : l2 < 0
      · exact absurd (Or.inr (Or.inl t)) y
      · omega
    have y2 : l2 < mI M2 (g + 4) (Int.toNat (l1 + 1)) - mI M2 (g + 4) (Int.toNat l1) := Classical.byContradiction (fun t => y (Or.inr (Or.inr t)))
    have yy : cmdP M2 g cn l1 l2 := ⟨b0, y1, y2⟩
    rw [f1, f2] at y2
    rw [f1]
    exact ⟨g0, k4, by omega, rfl, ⟨by omega, by omega⟩, fun _ => by omega, fun n => absurd yy n⟩
/-- what is told stays in bounds -/
theorem GS1.told {x : Int} {l : Nat} (h : GS M g n) (e : M' = mUI M (g + 3) l x) (hx : ∀ a b : Nat, mI M (g + 4) l = ((a : Nat) : Int) → mI M (g + 4) (l + 1) = ((b : Nat) : Int) → 0 ≤ x ∧ (x < ((b : Nat) : Int) - ((a : Nat) : Int) ∨ x = 0)) : GS M' g n := fun j hj => by
  have ne : ∀ y, y ≠ g + 3 → mI M' y = mI M y := fun y hy => by
    funext i
    rw [mI_ui y i e, if_neg (fun u => hy u.1)]
  by_cases c : j = l
  · subst c
    intro a b f1 f2
    rw [ne (g + 4) (by omega)] at f1 f2
    rw [ne (g + 2) (by omega), mI_ui (g + 3) j e, if_pos ⟨rfl, rfl⟩]
    exact ⟨hx a b f1 f2, (h j hj a b f1 f2).2⟩
  · exact (h j hj).cg (by rw [ne _ (by omega)]) (by rw [mI_ui (g + 3) j e, if_neg (fun u => c u.2)]) (by rw [ne _ (by omega)]) (by rw [ne _ (by omega)])
theorem g_CA_choose {l1 l2 : Int} (i1 : i32 l1) (i2 : i32 l2) (h : Tg M t g cn cc bc) (gs : 1 ≤ cn → GS M g (cn - 1)) (hp : cmdP M g cn l1 l2) : Cv G y_CA_choose (d + 2) [vr t, vi l1, vi l2] M (fun M' => mOk M' ∧ FI (fun x => x = g + 3) M M' ∧ GS M' g (cn - 1)) := by
  obtain ⟨h1, ⟨h2, h3⟩, h4, h5⟩ := h
  have hc := h5.cnt
  obtain ⟨g0, ⟨-, -, g3, -⟩, ⟨-, -, k3, -⟩, ⟨-, -, n3, -⟩⟩ := id h4
  refine k_CA_choose h1 i1 i2 ?_
  rw [h3]
  refine ⟨h2, g0, (s_Ga_commandAt2 (d := d) i1 i2 h1 h4 h5).mono (fun x4 M3 q => ?_)⟩
  obtain ⟨e, ix, q1, q2⟩ := q
  subst e
  rw [h3, g3, n3]
  have x0 := q1 hp
  obtain ⟨p1, p2, p3⟩ := hp
  refine ⟨ix, h1, fun u => by omega, fun _ => ⟨h2, g0, k3, by omega, fun M16 e16 => ⟨by rw [e16]; exact mOk_UI h1 i2, by rw [e16]; exact FI.ui rfl, GS1.told (gs (by omega)) e16 (fun a b f1 f2 => ?_)⟩⟩⟩
  rw [show (l1 + 1).toNat = l1.toNat + 1 by omega, f1, f2] at p3
  exact ⟨p2, Or.inl p3⟩
/-- adopt, where it does not throw -/
theorem g_CA_adopt (h : Tg M t g cn cc bc) (gs : 1 ≤ cn → GS M g (cn - 1)) (hs : mR M t 10 = s) (hS : SoT M s g) (ht : mR M t 11 = v 0 ∧ mK M (v 0) = 13) (kn : mI M (v 0) 1 ≠ 0) (ch : Chs M s g cn) : Cv G y_CA_adopt (d + 1) [vr t] M (fun M' => mOk M' ∧ FI (fun x => x = g + 3) M M' ∧ (1 ≤ cn → GS M' g (cn - 1))) := by
  obtain ⟨h1, ⟨h2, h3⟩, h4, h5⟩ := h
  have hc := h5.cnt
  obtain ⟨g0, ⟨-, -, g3, -⟩, ⟨-, -, k3, -⟩, ⟨-, -, n3, -⟩⟩ := id h4
  obtain ⟨⟨s0, sg⟩, ⟨-, -, r2, -⟩, ⟨-, k2, -⟩, ⟨-, n2, -⟩⟩ := hS
  refine k_CA_adopt h1 ?_
  rw [ht.1]
  refine ⟨h2, ht.2, fun u => absurd u kn, fun _ => ?_⟩
  suffices H : ∀ (u m : Nat) (M1 : mM), cn ≤ m + u → m ≤ cn → mOk M1 → FI (fun x => x = g + 3) M M1 → (1 ≤ cn → GS M1 g (cn - 1)) → h_CA_adopt_20 G d t m M1 (fun M' => mOk M' ∧ FI (fun x => x = g + 3) M M' ∧ (1 ≤ cn → GS M' g (cn - 1))) from H cn 0 M (by omega) (by omega) h1 FI.refl gs
  intro u
  induction u with
  | zero =>
    intro m M1 hu hm o f gs1
    have c0 : mI M1 g 0 = ((cn : Nat) : Int) := by rw [f.2.2.2.2.2.2 g (show ¬ g = g + 3 by omega)]; exact hc.1
    refine k_CA_adopt_20 o (i32s (by omega) (by omega)) ?_
    rw [f.2.2.1, f.1, h3, c0]
    exact ⟨h2, g0, fun _ => ⟨o, f, gs1⟩, fun w => absurd (by omega) w⟩
  | succ u ih =>
    intro m M1 hu hm o f gs1
    have c0 : mI M1 g 0 = ((cn : Nat) : Int) := by rw [f.2.2.2.2.2.2 g (show ¬ g = g + 3 by omega)]; exact hc.1
    have e30 : mI M1 (s + 30) = mI M (s + 30) := f.2.2.2.2.2.2 _ (show ¬ s + 30 = g + 3 by omega)
    have e4 : mI M1 (g + 4) = mI M (g + 4) := f.2.2.2.2.2.2 _ (show ¬ g + 4 = g + 3 by omega)
    refine k_CA_adopt_20 o (i32s (by omega) (by omega)) ?_
    rw [f.2.2.1, f.1, f.2.1, h3, c0, hs, r2, n2, g3, n3, Int.toNat_natCast, e30]
    refine ⟨h2, g0, fun _ => ⟨o, f, gs1⟩, fun w => ⟨s0, k2, by omega, k3, by omega, fun M19 e19 => ?_⟩⟩
    rw [show ((m : Int) + 1) = ((m + 1 : Nat) : Int) by omega]
    have i2 : i32 (if mI M (s + 30) m < 0 then 0 else mI M (s + 30) m) := by
      split
      · exact ⟨by decide, by decide⟩
      · exact (h1 _ _).1
    refine ih (m + 1) M19 (by omega) (by omega) (by rw [e19]; exact mOk_UI o i2) (f.trans (by rw [e19]; exact FI.ui rfl)) (fun c1 => GS1.told (gs1 c1) e19 (fun a b f1 f2 => ?_))
    rw [e4] at f1 f2
    rcases ch m (by omega) a b f1 f2 with ⟨y1, y2⟩ | ⟨y1, y2, y3⟩
    · rw [y2, if_pos (by decide)]
      exact ⟨by decide, Or.inr rfl⟩
    · rw [if_neg (by omega)]
      exact ⟨y2, Or.inl y3⟩
/-- a player's choices are commands -/
theorem tld_of {l : Int} (hl : l = 1 ∨ l = 2) (gs : 1 ≤ cn → GS M g (cn - 1)) : Tld M g cn l := fun _ k hk e x y f1 f2 => by
  obtain ⟨⟨a1, a2⟩, a3⟩ := gs (by omega) k (by omega) x y f1 f2
  have := a3 (by rw [e]; exact hl)
  exact ⟨a1, by rcases a2 with u | u <;> omega⟩
end NCT
