/-! The class's game: weighChances, the whole. -/
section GAE
variable {G : mG} {d z g p O P K V F L cnt U Ab Be C Ab0 Be0 C0 s h t c cn k u v cc n : Nat} {M0 M M' M1 M2 : mM} {ns : Nat → Int} {sf ef : Nat → Nat} {H : Nat → Nat} {S R : Nat → Prop}
/-- cells that a run leaves alone -/
theorem ga_ce (hx : GX M0 z g p O P K V F ns sf ef L cnt Ab0 Be0 C0 M Ab Be C) (f : FA (mcS (g + 10) Ab Be) (fun x => x = g + 10) M M') : (∀ i, i ≤ 9 ∨ (20 ≤ i ∧ i ≤ 22) → mI M' (g + i) = mI M (g + i)) ∧ (∀ i, i ≤ 15 → mI M' (p + i) = mI M (p + i)) := by
  have ne := hx.ne
  obtain ⟨-, -, h3, h4, -, ⟨h61, h62, h63⟩, -⟩ := hx
  obtain ⟨a1, a2, -, -⟩ := h3.2.2.2.2.2.1
  have z1 := h3.2.2.2.2.2.2.1.1
  have o4 := h4.1.2.2.2.1.2.2.2
  clear h3 h4
  refine ⟨fun i hi => (f.2 (g + i) (by omega)).2.2.2.2 (fun y => ?_), fun i hi => (f.2 (p + i) (by omega)).2.2.2.2 (fun y => ne.1 i hi ?_)⟩
  · have y' : g + i = g + 10 ∨ g + i = g + 10 + 2 ∨ (g + 10 + 5 ≤ g + i ∧ g + i ≤ g + 10 + 9) ∨ g + i = Ab ∨ g + i = Be := y
    omega
  · have y' : p + i = g + 10 ∨ p + i = g + 10 + 2 ∨ (g + 10 + 5 ≤ p + i ∧ p + i ≤ g + 10 + 9) ∨ p + i = Ab ∨ p + i = Be := y
    show (g ≤ p + i ∧ p + i ≤ g + 22) ∨ p + i = Ab ∨ p + i = Be
    omega
theorem ga_wg (hx : GX M0 z g p O P K V F ns sf ef L cnt Ab0 Be0 C0 M Ab Be C) (f : FA (mcS (g + 10) Ab Be) (fun x => x = g + 10) M M') (h9 : mI M' (g + 10) 9 = mI M (g + 10) 9) : wgF M g M' := by
  obtain ⟨e1, -⟩ := ga_ce hx f
  have e0 := e1 0 (by omega)
  rw [Nat.add_zero] at e0
  exact ⟨fun i _ => by rw [e0], fun i _ i9 _ => e1 i (by omega), e1 20 (by omega), fun i _ => by rw [e1 6 (by omega)], h9⟩
theorem s_we27 (hF : FMs G) (hc : c < cnt) (hcc2 : cc ≤ 4096) (hcc1 : mI M1 g 12 = ((cc : Nat) : Int)) (huv : u ≤ v ∧ v ≤ u + 8 ∧ v ≤ 480) : ∀ (t i : Nat) (M : mM) (Ab Be C : Nat), v - u ≤ i + t → i ≤ v - u → GX M0 z g p O P K V F ns sf ef L cnt Ab0 Be0 C0 M Ab Be C → wgF M1 g M → mI M (p + 12) c = ((u : Nat) : Int) → mI M (p + 12) (c + 1) = ((v : Nat) : Int) → chz M g i → h_Ga_weighChances_27 G (d + 4) g c u ((v - u : Nat) : Int) i M (weQ M0 z g p O P K V F ns sf ef L cnt Ab0 Be0 C0 M1 (v - u) cc) := by
  intro t
  induction t with
  | zero =>
    intro i M Ab Be C hi hi2 hx hw hu hv hch
    have c60 := hx.2.2.2.1.2.2.2.2.1.2
    refine k_Ga_weighChances_27 hx.1 (i32s (by omega) (by omega)) (i32s (by omega) (by omega)) (i32s (by omega) (by omega)) (i32s (by omega) (by omega)) ⟨fun _ => ?_, fun y => absurd y (by omega)⟩
    have en : i = v - u := by omega
    rw [en] at hch
    exact s_we150 (d := d + 3) hx hw hc (by omega) hch (by rw [hw.1 12 (by decide)]; exact hcc1) hcc2 hcc1 (v - u) 0 1 (by omega) (by omega) ⟨by omega, by omega⟩ (fun b hb => absurd hb (by omega))
  | succ t ih =>
    intro i M Ab Be C hi hi2 hx hw hu hv hch
    have c60 := hx.2.2.2.1.2.2.2.2.1.2
    refine k_Ga_weighChances_27 hx.1 (i32s (by omega) (by omega)) (i32s (by omega) (by omega)) (i32s (by omega) (by omega)) (i32s (by omega) (by omega)) ⟨fun y => ?_, fun y => ?_⟩
    · have en : i = v - u := by omega
      rw [en] at hch
      exact s_we150 (d := d + 3) hx hw hc (by omega) hch (by rw [hw.1 12 (by decide)]; exact hcc1) hcc2 hcc1 (v - u) 0 1 (by omega) (by omega) ⟨by omega, by omega⟩ (fun b hb => absurd hb (by omega))
    have inn : i < v - u := by omega
    obtain ⟨h1, h2, h3, h4, h5, -⟩ := id hx
    obtain ⟨g0, ⟨-, -, -, -, -, -, -, -, -, g15, -, g17, g18⟩, -, -⟩ := id h2
    obtain ⟨u', v', e1, e2, -, -, -, hbr, -⟩ := h4.cmd hc
    have vv : v' = v := by rw [hv] at e2; omega
    subst vv
    obtain ⟨s1, s2, b1, b2, -, -⟩ := hbr (u + i) (by omega)
    have p18 := h4.1.2.2.2.2.2.2.1.2.2.2.2.2.2.2.2.2.2.2.1
    have kp18 := h4.1.2.2.2.2.2.2.2.1.2.2.2.2.2.2.2.2.2.2.2.1
    have np18 := h4.1.2.2.2.2.2.2.2.2.2.2.2.2.2.2.2.2.2.2.2.1
    rw [h5.1, p18, np18, g15, show Int.toNat ((u : Int) + (i : Int)) = u + i by omega, b1]
    refine ⟨g0, h4.1.1, kp18, by omega, h3.1, (s_Ga_run hF hx b2).mono (fun x14 M13 k => ?_)⟩
    obtain ⟨i14, o13, hx14, Ab', Be', C', hx13, f13, s13, z13, v13⟩ := k
    have w13 := hw.trans (ga_wg hx f13 s13)
    obtain ⟨ce1, ce2⟩ := ga_ce hx f13
    obtain ⟨-, k2, k3, k4, k5, -⟩ := id hx13
    obtain ⟨j0, ⟨-, -, -, -, -, -, -, -, -, j15, -, j17, j18⟩, ⟨-, -, -, -, -, -, -, -, -, -, jk21, jk22⟩, ⟨-, -, -, -, -, -, -, -, -, -, jn21, jn22⟩⟩ := id k2
    have mA := k3.2.1.2.2.1
    have mB := k3.2.1.2.2.2.1
    have kA := k3.2.2.1.2.2.1
    have kB := k3.2.2.1.2.2.2.1
    have nA := k3.2.2.2.1.2.1
    have nB := k3.2.2.2.1.2.2.1
    have c64 := k3.2.2.2.2.2.2.2.1
    obtain ⟨sA, sB, sne, sz⟩ := k3.2.2.2.2.2.1
    have h61 := hx13.2.2.2.2.2.1.1
    refine ⟨i14, o13, fun y14 => ⟨j0, (s_Ga_machineFault o13 j0 j15 k3.1).mono (fun r M' q => ?_)⟩, fun y14 => ?_⟩
    · exact ⟨q.1, q.2.2.1, pl_we hx13 w13 q.2.2 q.1 (by rw [q.2.1]; exact z13 y14)⟩
    · obtain ⟨vb1, vb2⟩ := v13 y14 rfl
      have p17 := k4.1.2.2.2.2.2.2.1.2.2.2.2.2.2.2.2.2.2.1
      have kp17 := k4.1.2.2.2.2.2.2.2.1.2.2.2.2.2.2.2.2.2.2.1
      have np17 := k4.1.2.2.2.2.2.2.2.2.2.2.2.2.2.2.2.2.2.2.1
      have B21 : Be' ≠ g + 21 ∧ Be' ≠ g + 22 := by
        clear hx hx13 k2 k3 k4 h2 h3 h4 ih hbr hch f13 w13 hw ce1 ce2 v13
        omega
      rw [j15, mA, j17, nA, jn21, Int.toNat_natCast]
      refine ⟨j0, k3.1, kA, ⟨by omega, by omega⟩, jk21, by omega, fun M28 e28 => ?_⟩
      have f28 : FI (fun x => x = g + 21) M13 M28 := by rw [e28]; exact FI.ui rfl
      have iB : mI M28 Be' 0 = mI M13 Be' 0 := by rw [f28.2.2.2.2.2.2 Be' B21.1]
      rw [f28.1, f28.2.1, f28.2.2.1, j15, mB, j18, nB, jn22, iB]
      refine ⟨k3.1, kB, ⟨by omega, by omega⟩, jk22, by omega, fun M35 e35 => ?_⟩
      have f35 : FI (fun x => x = g + 22) M28 M35 := by rw [e35]; exact FI.ui rfl
      have ff : FI (fun x => x = g + 21 ∨ x = g + 22) M13 M35 := (f28.mono (fun _ y => Or.inl y)).trans (f35.mono (fun _ y => Or.inr y))
      have o35 : mOk M35 := by rw [e35]; exact mOk_UI (by rw [e28]; exact mOk_UI o13 (o13 _ _).1) (o13 _ _).1
      have nb : ∀ x, x ≠ g + 21 → x ≠ g + 22 → mI M35 x = mI M13 x := fun x a b => ff.2.2.2.2.2.2 x (fun y => y.elim a b)
      have e21 : ∀ j, mI M35 (g + 21) j = if j = i then mI M13 Ab' 0 else mI M13 (g + 21) j := fun j => by
        rw [f35.2.2.2.2.2.2 _ (show ¬ g + 21 = g + 22 by omega), mI_ui _ j e28]
        by_cases yj : j = i
        · rw [if_pos ⟨rfl, yj⟩, if_pos yj]
        · rw [if_neg (fun t => yj t.2), if_neg yj]
      have e22 : ∀ j, mI M35 (g + 22) j = if j = i then mI M13 Be' 0 else mI M13 (g + 22) j := fun j => by
        rw [mI_ui _ j e35]
        by_cases yj : j = i
        · rw [if_pos ⟨rfl, yj⟩, if_pos yj]
        · rw [if_neg (fun t => yj t.2), if_neg yj, f28.2.2.2.2.2.2 _ (show ¬ g + 22 = g + 21 by omega)]
      have x35 := hx13.fi o35 (ff.mono (fun x y => Or.inr (Or.inr (by have y' : x = g + 21 ∨ x = g + 22 := y; omega))))
      have w35 : wgF M1 g M35 := w13.trans ⟨fun j _ => by rw [nb g (by omega) (by omega)], fun j j1 j9 _ => nb _ (by omega) (by omega), nb _ (by omega) (by omega), fun j _ => by rw [nb _ (by omega) (by omega)], by rw [nb _ (by omega) (by omega)]⟩
      have pq : ∀ i, i ≤ 15 → mI M35 (p + i) = mI M (p + i) := fun i hi => by
        have := hx13.2.2.2.2.2.1.2.1
        rw [nb (p + i) (by omega) (by omega), ce2 i hi]
      rw [ff.1, ff.2.1, ff.2.2.1, j17, j18, jn21, jn22, k5.1, p17, np17]
      refine ⟨jk21, by omega, fun _ => ⟨by omega, jk22, by omega⟩, fun y => ⟨k4.1.1, kp17, by omega, ?_⟩, fun y => ?_⟩
      · refine (s_Ga_fault ⟨by decide, by decide⟩ (o35 _ _).1 o35 (by rw [ff.1]; exact j0)).mono (fun r M' q => ?_)
        rw [q.1]
        exact ⟨⟨by decide, by decide⟩, q.2.1, pl_we x35 w35 q.2 ⟨by decide, by decide⟩ (by decide)⟩
      · have yy : 0 ≤ mI M35 (g + 21) i ∧ mI M35 (g + 21) i ≤ mI M35 (g + 22) i := by
          by_cases y1 : mI M35 (g + 21) i < 0
          · exact absurd (Or.inl y1) y
          · by_cases y2 : mI M35 (g + 21) i ≤ mI M35 (g + 22) i
            · exact ⟨by omega, y2⟩
            · exact absurd (Or.inr y2) y
        rw [show ((i : Int) + 1) = ((i + 1 : Nat) : Int) by omega]
        refine ih (i + 1) M35 Ab' Be' C' (by omega) (by omega) x35 w35 (by rw [pq 12 (by omega)]; exact hu) (by rw [pq 12 (by omega)]; exact hv) (fun b hb => ?_)
        by_cases yb : b = i
        · subst yb
          refine ⟨yy.1, yy.2, ?_⟩
          rw [e22, if_pos rfl]
          exact ⟨vb1, vb2⟩
        · rw [e21, e22, if_neg yb, if_neg yb, ce1 21 (by omega), ce1 22 (by omega)]
          exact hch b (by omega)
theorem s_Ga_weighChances (hF : FMs G) (hx : GX M0 z g p O P K V F ns sf ef L cnt Ab0 Be0 C0 M Ab Be C) (hc : c < cnt) (hcc2 : cc ≤ 4096) (hcc : mI M g 12 = ((cc : Nat) : Int)) (hu : mI M (p + 12) c = ((u : Nat) : Int)) (hv : mI M (p + 12) (c + 1) = ((v : Nat) : Int)) (huv : u ≤ v ∧ v ≤ u + 8 ∧ v ≤ 480) : Ci G y_Ga_weighChances (d + 5) [vr g, vi c] M (weQ M0 z g p O P K V F ns sf ef L cnt Ab0 Be0 C0 M (v - u) cc) := by
  obtain ⟨h1, h2, h3, h4, h5, -⟩ := id hx
  have c60 := h4.2.2.2.2.1.2
  have p16 := h4.1.2.2.2.2.2.2.1.2.2.2.2.2.2.2.2.2.1
  have kp16 := h4.1.2.2.2.2.2.2.2.1.2.2.2.2.2.2.2.2.2.1
  have np16 := h4.1.2.2.2.2.2.2.2.2.2.2.2.2.2.2.2.2.2.1
  refine k_Ga_weighChances h1 (i32s (by omega) (by omega)) ?_
  rw [h5.1, p16, np16, Int.toNat_natCast, show Int.toNat ((c : Int) + 1) = c + 1 by omega, hu, hv, show ((v : Nat) : Int) - ((u : Nat) : Int) = ((v - u : Nat) : Int) by omega]
  exact ⟨h2.1, h4.1.1, kp16, by omega, by omega, s_we27 hF hc hcc2 hcc huv (v - u) 0 M Ab Be C (by omega) (by omega) hx wgF.refl hu hv (fun b hb => absurd hb (by omega))⟩
end GAE
