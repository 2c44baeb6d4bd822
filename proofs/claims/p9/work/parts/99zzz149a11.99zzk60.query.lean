section
/-! The class's game: questions. -/
section GAL
variable {G : mG} {d g c cn k cc bc : Nat} {M M' : mM}
theorem s_Ga_hasState {l : Int} (il : i32 l) (h1 : mOk M) (hk : mK M g = 7) (hc : mI M g 0 = ((cn : Nat) : Int)) : Ci G y_Ga_hasState d [vr g, vi l] M (fun r M' => M' = M ∧ (r = 0 ∨ r = 1) ∧ (r ≠ 0 ↔ (0 ≤ l ∧ l < cn))) := by
  refine k_Ga_hasState h1 il ⟨fun _ => hk, fun v4 e4 => ⟨rfl, ?_⟩⟩
  rw [hc] at e4
  by_cases y : l < 0 ∨ ((cn : Nat) : Int) ≤ l
  · rw [if_pos y] at e4
    rw [e4]
    exact ⟨Or.inl rfl, ⟨fun t => absurd rfl t, fun t => by omega⟩⟩
  · rw [if_neg y] at e4
    rw [e4]
    exact ⟨Or.inr rfl, ⟨fun _ => by omega, fun _ => by decide⟩⟩
/-- the game at rest: no states, or all of them -/
def GR (M : mM) (g cn cc bc : Nat) : Prop := (cn = 0 ∧ mI M g 0 = 0) ∨ (1 ≤ cn ∧ GQ M g cn (cn - 1) cc bc)
theorem s_Ga_commandAt {l1 l2 : Int} (i1 : i32 l1) (i2 : i32 l2) (h1 : mOk M) (hk : GK M g) (hr : GR M g cn cc bc) : Ci G y_Ga_commandAt (d + 1) [vr g, vi l1, vi l2] M (fun r M' => M' = M ∧ i32 r ∧ (r = -1 ∨ (0 ≤ r ∧ r < cc ∧ 1 ≤ cn))) := by
  obtain ⟨g0, ⟨-, -, -, g4, -⟩, ⟨-, -, -, k4, -⟩, ⟨-, -, -, n4, -⟩⟩ := id hk
  have hc : mI M g 0 = ((cn : Nat) : Int) := by
    rcases hr with ⟨e1, e2⟩ | ⟨-, q⟩
    · rw [e1]; exact e2
    · exact q.1.1
  refine k_Ga_commandAt h1 i1 i2 ⟨g0, (s_Ga_hasState i1 h1 g0 hc).mono (fun x3 M2 q => ?_)⟩
  obtain ⟨e2, hx, hiff⟩ := q
  subst e2
  have rows : x3 ≠ 0 → ∃ a b : Nat, mI M2 (g + 4) l1.toNat = ((a : Nat) : Int) ∧ mI M2 (g + 4) (l1 + 1).toNat = ((b : Nat) : Int) ∧ a ≤ b ∧ b ≤ cc ∧ cc ≤ 4096 ∧ 0 ≤ l1 ∧ l1 < 512 ∧ 1 ≤ cn := fun y => by
    have b := hiff.mp y
    rcases hr with ⟨e1, -⟩ | ⟨c1, q⟩
    · omega
    · obtain ⟨⟨-, q2, -⟩, -, -, t1, t2, -, -, -, t6, -⟩ := q
      obtain ⟨x, y', f1, f2, f3, f4⟩ := t6 l1.toNat (by omega)
      exact ⟨x, y', f1, by rw [show (l1 + 1).toNat = l1.toNat + 1 by omega]; exact f2, f3, f4, by omega, b.1, by omega, c1⟩
  clear hr hiff
  rw [g4, n4]
  refine ⟨m_b32 hx, h1, fun y _ => ?_, fun _ => ⟨rfl, ⟨by decide, by decide⟩, Or.inl rfl⟩, fun y => ?_⟩
  · obtain ⟨a, b, f1, f2, f3, f4, f5, f6, f7, f8⟩ := rows y
    rw [f1, f2]
    exact ⟨g0, k4, by omega, by omega, ⟨by omega, by omega⟩⟩
  · have y0 : x3 ≠ 0 := fun t => y (Or.inl t)
    obtain ⟨a, b, f1, f2, f3, f4, f5, f6, f7, f8⟩ := rows y0
    have y1 : 0 ≤ l2 := by
      by_cases t : l2 < 0
      · exact absurd (Or.inr (Or.inl t)) y
      · omega
    have y2 : l2 < mI M2 (g + 4) (Int.toNat (l1 + 1)) - mI M2 (g + 4) (Int.toNat l1) := Classical.byContradiction (fun t => y (Or.inr (Or.inr t)))
    rw [f1, f2] at y2
    rw [f1]
    exact ⟨g0, k4, by omega, rfl, ⟨by omega, by omega⟩, Or.inr ⟨by omega, by omega, f8⟩⟩
theorem s_Ga_drawn {l2 : Int} (i2 : i32 l2) (h1 : mOk M) (hk : GK M g) (hc : c < cc) (hcc : cc ≤ bc) (hbc : bc ≤ 4096) (hcn : cn ≤ 512) (hm : cmdG M g cn bc c) : Ci G y_Ga_drawn d [vr g, vi c, vi l2] M (fun r M' => M' = M ∧ i32 r ∧ (r = -1 ∨ (0 ≤ r ∧ r < cn))) := by
  obtain ⟨g0, ⟨-, -, -, -, -, g6, g7, g8, g9, -⟩, ⟨-, -, -, -, -, k6, k7, k8, k9, -⟩, ⟨-, -, -, -, -, n6, n7, n8, n9, -⟩⟩ := id hk
  obtain ⟨x, y, mu, e1, e2, e3, e4, e5, e6, e7, e8, e9, -⟩ := hm
  have wl : ∀ i, x ≤ i → i < y → mI M (g + 9) i < 1000000000 := fun i a b => by
    have := wsm_le (M := M) (g := g) (x := x) (n := y - x) (fun i a b => (e5 i a (by omega)).2.2) (y - x) (Nat.le_refl _) i a (by omega)
    rw [e9] at this
    omega
  refine k_Ga_drawn h1 (i32s (by omega) (by omega)) i2 ?_
  rw [g6, n6, g7, n7, Int.toNat_natCast, e6, e1]
  refine ⟨g0, k6, by omega, k7, by omega, ?_⟩
  have b3 : i64 (l2 * ((mu : Nat) : Int)) := by
    have n1 : l2.natAbs ≤ 2147483648 := by unfold i32 at i2; omega
    have n2 : (((mu : Nat) : Int)).natAbs ≤ 1000000000 := by omega
    have := mulab n1 n2
    exact ⟨by omega, by omega⟩
  suffices HH : ∀ (t i : Nat) (j5 : Int), y ≤ i + t → x ≤ i → i ≤ y → 0 ≤ j5 → j5 ≤ ((i - x : Nat) : Int) * 1000000000 → h_Ga_drawn_22 G d g c (l2 * ((mu : Nat) : Int)) j5 i M (fun r M' => M' = M ∧ i32 r ∧ (r = -1 ∨ (0 ≤ r ∧ r < cn))) from HH (y - x) x 0 (by omega) (Nat.le_refl _) (by omega) (Int.le_refl _) (by omega)
  intro t
  induction t with
  | zero =>
    intro i j5 h2 h3 h4 h5 h6
    refine k_Ga_drawn_22 h1 (i32s (by omega) (by omega)) b3 ⟨by omega, by omega⟩ (i32s (by omega) (by omega)) ?_
    rw [g7, n7, show Int.toNat ((c : Int) + 1) = c + 1 by omega, e2]
    exact ⟨g0, k7, by omega, fun _ => ⟨rfl, ⟨by decide, by decide⟩, Or.inl rfl⟩, fun u => absurd u (by omega)⟩
  | succ t ih =>
    intro i j5 h2 h3 h4 h5 h6
    refine k_Ga_drawn_22 h1 (i32s (by omega) (by omega)) b3 ⟨by omega, by omega⟩ (i32s (by omega) (by omega)) ?_
    rw [g7, n7, show Int.toNat ((c : Int) + 1) = c + 1 by omega, e2, g8, g9, n8, n9, Int.toNat_natCast]
    refine ⟨g0, k7, by omega, fun _ => ⟨rfl, ⟨by decide, by decide⟩, Or.inl rfl⟩, fun u => ?_⟩
    have iy : i < y := by omega
    obtain ⟨w1, w2, w3⟩ := e5 i h3 iy
    have w4 := wl i h3 iy
    refine ⟨k9, by omega, fun _ => ?_, fun _ => ⟨k8, by omega, rfl, ⟨by omega, by omega⟩, Or.inr ⟨w1, w2⟩⟩⟩
    rw [show ((i : Int) + 1) = ((i + 1 : Nat) : Int) by omega]
    exact ih (i + 1) _ (by omega) (by omega) (by omega) (by omega) (by rw [show i + 1 - x = (i - x) + 1 by omega]; omega)
end GAL
end
section
/-! The class's game, exactly: is it the next state. -/
section GAX
variable {G : mG} {d z g p O P K V F L cnt U w9 Ab Be C Ab0 Be0 C0 cn k : Nat} {M0 M : mM} {ns : Nat → Int} {sf ef : Nat → Nat}
theorem x_Ga_isNext (hx : GY U w9 M0 z g p O P K V F ns sf ef L cnt Ab0 Be0 C0 M Ab Be C) (hk : k < 512) : Ci G y_Ga_isNext d [vr g, vi k] M (fun r M' => M' = M ∧ (r = 0 ∨ r = 1) ∧ (r = 1 ↔ ∀ v, v < V → mI M (g + 1) (12 * k + v) = mI M (g + 10 + 2) v)) := by
  obtain ⟨h1, h2, h3, h4, h5, -⟩ := hx
  obtain ⟨g0, ⟨g1, -, -, -, -, -, -, -, -, g15, -⟩, ⟨k1, -⟩, ⟨n1, -⟩⟩ := h2
  obtain ⟨p5, p6⟩ := h4.2.2.1
  have m0 := h3.1
  have m5 := h3.2.1.2.1
  have km := h3.2.2.1.2.1
  have nm := h3.2.2.2.1.1
  refine k_Ga_isNext h1 (i32s (by omega) (by omega)) ?_
  suffices HH : ∀ (t i : Nat), V ≤ i + t → i ≤ V → (∀ v, v < i → mI M (g + 1) (12 * k + v) = mI M (g + 10 + 2) v) → h_Ga_isNext_2 G d g k i M (fun r M' => M' = M ∧ (r = 0 ∨ r = 1) ∧ (r = 1 ↔ ∀ v, v < V → mI M (g + 1) (12 * k + v) = mI M (g + 10 + 2) v)) from HH V 0 (by omega) (by omega) (fun v hv => absurd hv (by omega))
  intro t
  induction t with
  | zero =>
    intro i hi hi2 he
    refine k_Ga_isNext_2 h1 (i32s (by omega) (by omega)) (i32s (by omega) (by omega)) ?_
    rw [h5.1, p5]
    exact ⟨g0, h4.1.1, fun _ => ⟨rfl, Or.inr rfl, fun _ v hv => he v (by omega), fun _ => rfl⟩, fun y => absurd y (by omega)⟩
  | succ t ih =>
    intro i hi hi2 he
    refine k_Ga_isNext_2 h1 (i32s (by omega) (by omega)) (i32s (by omega) (by omega)) ?_
    have t1 : Int.toNat ((k : Int) * 12 + (i : Int)) = 12 * k + i := by omega
    rw [h5.1, p5, g1, n1, g15, m5, nm, t1, Int.toNat_natCast]
    refine ⟨g0, h4.1.1, fun y => ⟨rfl, Or.inr rfl, fun _ v hv => he v (by omega), fun _ => rfl⟩, fun y => ⟨k1, by omega, m0, km, by omega, fun e1 => ?_, fun e1 => ⟨rfl, Or.inl rfl, fun u => absurd u (by decide), fun u => absurd (u i (by omega)) e1⟩⟩⟩
    rw [show ((i : Int) + 1) = ((i + 1 : Nat) : Int) by omega]
    refine ih (i + 1) (by omega) (by omega) (fun v hv => ?_)
    by_cases y2 : v = i
    · rw [y2]; exact e1
    · exact he v (by omega)
end GAX
end
section
/-! The class's game, exactly: a state is entered. -/
/-- the hash of a state -/
def hq9 (f : Nat → Int) : Nat → Int
  | 0 => 0
  | i + 1 => w32 (hq9 f i * 31 + f i)
def hs9 (f : Nat → Int) (V : Nat) : Nat := (andI (xorI (hq9 f V) (ushrI (hq9 f V) 15)) 1023).toNat
theorem hq9_cg {f f' : Nat → Int} : ∀ {V : Nat}, (∀ v, v < V → f v = f' v) → hq9 f V = hq9 f' V
  | 0, _ => rfl
  | V + 1, h => by
    show w32 (hq9 f V * 31 + f V) = w32 (hq9 f' V * 31 + f' V)
    rw [hq9_cg (fun v hv => h v (by omega)), h V (by omega)]
theorem hs9_cg {f f' : Nat → Int} {V : Nat} (h : ∀ v, v < V → f v = f' v) : hs9 f V = hs9 f' V := by
  unfold hs9
  rw [hq9_cg h]
theorem SLq.cg {sl : Nat → Int} {hs hs' : Nat → Nat} {n : Nat} (h : SLq sl hs n) (e : ∀ k, k < n → hs k = hs' k) : SLq sl hs' n := ⟨h.1, fun k hk => by rw [← e k hk]; exact h.2.1 k hk, h.2.2⟩
/-- the slots tell the states, and these are all different -/
def SLm (M : mM) (g V cn : Nat) : Prop := SLq (mI M (g + 20)) (fun k => hs9 (fun v => mI M (g + 1) (12 * k + v)) V) cn ∧ ∀ i j, i < cn → j < cn → (∀ v, v < V → mI M (g + 1) (12 * i + v) = mI M (g + 1) (12 * j + v)) → i = j
/-- state k is the next one -/
def mtk (M : mM) (g V k : Nat) : Prop := ∀ v, v < V → mI M (g + 1) (12 * k + v) = mI M (g + 10 + 2) v
def enX (M : mM) (g V cn : Nat) (r : Int) (M' : mM) : Prop := (∃ k : Nat, k < cn ∧ mtk M g V k ∧ r = (k : Int) ∧ M' = M) ∨ ((∀ k, k < cn → ¬ mtk M g V k) ∧ ((cn = 512 ∧ r = -1 ∧ M' = M) ∨ (cn < 512 ∧ r = (cn : Int) ∧ mI M' g 0 = ((cn + 1 : Nat) : Int) ∧ SLm M' g V (cn + 1) ∧ (∀ v, v < 12 → mI M' (g + 1) (12 * cn + v) = mI M (g + 10 + 2) v) ∧ ∀ j, j < 12 * cn → mI M' (g + 1) j = mI M (g + 1) j)))
section GAW
variable {G : mG} {d z g p O P K V F L cnt U w9 Ab Be C Ab0 Be0 C0 cn k : Nat} {M0 M : mM} {ns : Nat → Int} {sf ef : Nat → Nat}
theorem x_en51 {h : Nat} (hx : GY U w9 M0 z g p O P K V F ns sf ef L cnt Ab0 Be0 C0 M Ab Be C) (hc : mI M g 0 = ((cn : Nat) : Int)) (hcn : cn ≤ 512) (sm : SLm M g V cn) (hh : h = hs9 (fun v => mI M (g + 10 + 2) v) V) : ∀ (t i : Nat), 1024 ≤ i + t → i ≤ 1024 → (∀ t', t' < i → ∃ k : Nat, k < cn ∧ mI M (g + 20) ((h + t') % 1024) = (k : Int) ∧ ¬ mtk M g V k) → h_Ga_enter_51 G (d + 1) g (((h + i) % 1024 : Nat) : Int) i M (fun r M' => enG U w9 M0 z g p O P K V F ns sf ef L cnt Ab0 Be0 C0 M Ab Be C cn r M' ∧ enX M g V cn r M') := by
  have hs : SLt M g cn := fun i hi => (sm.1.1 i hi).imp id (fun ⟨k, k1, k2⟩ => ⟨by omega, by omega⟩)
  have hV : V ≤ 12 := hx.2.2.2.1.2.2.1.2
  have md : ∀ x : Nat, x % 1024 < 1024 := fun x => Nat.mod_lt _ (by decide)
  obtain ⟨h1, h2, h3, h4, h5, -⟩ := id hx
  obtain ⟨g0, ⟨g1, -, -, -, -, -, -, -, -, g15, g16, -⟩, ⟨k1, -, -, -, -, -, -, -, -, k20, -⟩, ⟨n1, -, -, -, -, -, -, -, -, n20, -⟩⟩ := h2
  have m0 := h3.1
  have m5 := h3.2.1.2.1
  have km := h3.2.2.1.2.1
  have nm := h3.2.2.2.1.1
  -- a new state
  have new : ∀ {sl i : Nat}, sl < 1024 → i < 1024 → sl = (h + i) % 1024 → mI M (g + 20) sl = -1 → (∀ t, t < i → mI M (g + 20) ((h + t) % 1024) ≠ -1) → (∀ k, k < cn → ¬ mtk M g V k) → mK M g = 7 ∧ ((mI M g 0 = 512) → (enG U w9 M0 z g p O P K V F ns sf ef L cnt Ab0 Be0 C0 M Ab Be C cn (-1) M ∧ enX M g V cn (-1) M)) ∧ (¬ (mI M g 0 = 512) → (mK M (mR M g 16) = 30 ∧ ((0 : Int) ≤ sl ∧ (sl : Int) < (mN M (mR M g 16) : Int)) ∧ ∀ M23, M23 = mUI M (mR M g 16) (Int.toNat sl) (mI M g 0) → mK M23 (mR M23 g 15) = 5 ∧ mK M23 (mR M23 (mR M23 g 15) 5) = 30 ∧ mK M23 (mR M23 g 1) = 30 ∧ ((0 : Int) ≤ 0 ∧ (0 : Int) ≤ (mI M23 g 0) * 12 ∧ (0 : Int) ≤ 12 ∧ 0 + 12 ≤ (mN M23 (mR M23 (mR M23 g 15) 5) : Int) ∧ ((mI M23 g 0) * 12) + 12 ≤ (mN M23 (mR M23 g 1) : Int)) ∧ ∀ M29, M29 = mCpy M23 (mR M23 (mR M23 g 15) 5) (mR M23 g 1) 0 (Int.toNat ((mI M23 g 0) * 12)) 12 → i32 ((mI M29 g 0) + 1) ∧ ∀ M32, M32 = mUI M29 g 0 ((mI M29 g 0) + 1) → enG U w9 M0 z g p O P K V F ns sf ef L cnt Ab0 Be0 C0 M Ab Be C cn ((mI M32 g 0) - 1) M32 ∧ enX M g V cn ((mI M32 g 0) - 1) M32)) := fun {sl i9} hsl hi9 esl fsl bsl nom => by
    refine ⟨g0, fun y => ⟨⟨hx, FI.refl, fun _ _ => rfl, cn, hc, Nat.le_refl _, hcn, hs, Or.inl rfl, ⟨by decide, by decide⟩, fun _ => by omega⟩, Or.inr ⟨nom, Or.inl ⟨by omega, rfl, rfl⟩⟩⟩, fun y => ?_⟩
    rw [g16, n20, Int.toNat_natCast, hc]
    refine ⟨k20, by omega, fun M23 e23 => ?_⟩
    have f23 : FI (fun x => x = g + 20) M M23 := by rw [e23]; exact FI.ui rfl
    have c23 : mI M23 g 0 = ((cn : Nat) : Int) := by rw [f23.2.2.2.2.2.2 g (show ¬ g = g + 20 by omega)]; exact hc
    rw [f23.1, f23.2.1, f23.2.2.1, g15, m5, g1, n1, nm, c23]
    refine ⟨m0, km, k1, ⟨by omega, by omega, by omega, by omega, by omega⟩, fun M29 e29 => ?_⟩
    have f29 : FI (fun x => x = g + 1) M23 M29 := by
      rw [e29]
      refine ⟨rfl, rfl, rfl, rfl, rfl, rfl, fun x hx => ?_⟩
      funext j
      exact if_neg (fun u => hx u.1)
    have c29 : mI M29 g 0 = ((cn : Nat) : Int) := by rw [f29.2.2.2.2.2.2 g (show ¬ g = g + 1 by omega)]; exact c23
    rw [c29]
    refine ⟨⟨by omega, by omega⟩, fun M32 e32 => ?_⟩
    have f32 : FI (fun x => x = g) M29 M32 := by rw [e32]; exact FI.ui rfl
    have c32 : mI M32 g 0 = ((cn + 1 : Nat) : Int) := by rw [mI_ui g 0 e32, if_pos ⟨rfl, rfl⟩]; omega
    have ff : FI (fun x => x = g ∨ x = g + 1 ∨ x = g + 20) M M32 := ((f23.mono (fun _ y => Or.inr (Or.inr y))).trans (f29.mono (fun _ y => Or.inr (Or.inl y)))).trans (f32.mono (fun _ y => Or.inl y))
    have o32 : mOk M32 := by rw [e32]; exact mOk_UI (by rw [e29]; exact mOk_Cpy (by rw [e23]; exact mOk_UI h1 ⟨by omega, by omega⟩)) ⟨by omega, by omega⟩
    rw [c32]
    have n32 : ∀ j, mI M32 (g + 1) j = if 12 * cn ≤ j ∧ j < 12 * cn + 12 then mI M (g + 10 + 2) (j - 12 * cn) else mI M (g + 1) j := fun j => by
      rw [f32.2.2.2.2.2.2 _ (show ¬ g + 1 = g by omega), e29]
      show (if g + 1 = g + 1 ∧ Int.toNat (((cn : Nat) : Int) * 12) ≤ j ∧ j < Int.toNat (((cn : Nat) : Int) * 12) + 12 then mI M23 (g + 10 + 2) (0 + (j - Int.toNat (((cn : Nat) : Int) * 12))) else mI M23 (g + 1) j) = _
      rw [show Int.toNat (((cn : Nat) : Int) * 12) = 12 * cn by omega, f23.2.2.2.2.2.2 _ (show ¬ g + 10 + 2 = g + 20 by omega), f23.2.2.2.2.2.2 _ (show ¬ g + 1 = g + 20 by omega), Nat.zero_add]
      by_cases y3 : 12 * cn ≤ j ∧ j < 12 * cn + 12
      · rw [if_pos ⟨rfl, y3⟩, if_pos y3]
      · rw [if_neg (fun q => y3 q.2), if_neg y3]
    have s32 : ∀ j, mI M32 (g + 20) j = if j = sl then ((cn : Nat) : Int) else mI M (g + 20) j := fun j => by
      rw [f32.2.2.2.2.2.2 _ (show ¬ g + 20 = g by omega), f29.2.2.2.2.2.2 _ (show ¬ g + 20 = g + 1 by omega), mI_ui _ j e23]
      by_cases y3 : j = sl
      · rw [if_pos ⟨rfl, y3⟩, if_pos y3]
      · rw [if_neg (fun q => y3 q.2), if_neg y3]
    have old : ∀ k v, k < cn → v < V → mI M32 (g + 1) (12 * k + v) = mI M (g + 1) (12 * k + v) := fun k v hk hv => by
      rw [n32, if_neg (by omega)]
    have nw : ∀ v, v < 12 → mI M32 (g + 1) (12 * cn + v) = mI M (g + 10 + 2) v := fun v hv => by
      rw [n32, if_pos (by omega), show 12 * cn + v - 12 * cn = v by omega]
    have sq : SLm M32 g V (cn + 1) := by
      refine ⟨SLq.put (h := h) (t := i9) (sl := mI M (g + 20)) (sm.1.cg (fun k hk => hs9_cg (fun v hv => (old k v hk hv).symm))) ?_ hi9 (by rw [← esl]; exact fsl) bsl (fun j _ => by rw [s32, esl]), fun i j hi hj eq => ?_⟩
      · show hs9 (fun v => mI M32 (g + 1) (12 * cn + v)) V % 1024 = h % 1024
        rw [hh, hs9_cg (f := fun v => mI M32 (g + 1) (12 * cn + v)) (f' := fun v => mI M (g + 10 + 2) v) (fun v hv => nw v (by omega))]
      · by_cases yi : i = cn <;> by_cases yj : j = cn
        · omega
        · refine absurd (fun v hv => ?_) (nom j (by omega))
          rw [← old j v (by omega) hv, ← eq v hv, yi]
          exact nw v (by omega)
        · refine absurd (fun v hv => ?_) (nom i (by omega))
          rw [← old i v (by omega) hv, eq v hv, yj]
          exact nw v (by omega)
        · refine sm.2 i j (by omega) (by omega) (fun v hv => ?_)
          rw [← old i v (by omega) hv, ← old j v (by omega) hv]
          exact eq v hv
    refine ⟨?_, Or.inr ⟨nom, Or.inr ⟨by omega, by omega, c32, sq, nw, fun j hj => by rw [n32, if_neg (by omega)]⟩⟩⟩
    refine ⟨hx.fi o32 (ff.mono (fun x y => by
      have y' : x = g ∨ x = g + 1 ∨ x = g + 20 := y
      show (g ≤ x ∧ x ≤ g + 9) ∨ x = g + 12 ∨ (g + 20 ≤ x ∧ x ≤ g + 22)
      omega)), ff, fun i hi => ?_, cn + 1, c32, by omega, by omega, fun i hi => ?_, Or.inr ⟨by omega, by omega⟩, ⟨by omega, by omega⟩, fun t => absurd t (by omega)⟩
    · rw [mI_ui g i e32, if_neg (fun u => hi u.2), f29.2.2.2.2.2.2 g (show ¬ g = g + 1 by omega), f23.2.2.2.2.2.2 g (show ¬ g = g + 20 by omega)]
    · rw [f32.2.2.2.2.2.2 _ (show ¬ g + 20 = g by omega), f29.2.2.2.2.2.2 _ (show ¬ g + 20 = g + 1 by omega), mI_ui _ i e23]
      by_cases y0 : i = sl
      · rw [if_pos ⟨rfl, y0⟩]
        exact Or.inr ⟨by omega, by omega⟩
      · rw [if_neg (fun u => y0 u.2)]
        rcases hs i hi with u | u
        · exact Or.inl u
        · exact Or.inr ⟨u.1, by omega⟩
  have nof : ∀ i, i < 1024 → (∀ t', t' < i → ∃ k : Nat, k < cn ∧ mI M (g + 20) ((h + t') % 1024) = (k : Int) ∧ ¬ mtk M g V k) → mI M (g + 20) ((h + i) % 1024) = -1 → ∀ k, k < cn → ¬ mtk M g V k := fun i hi bf fr k hk mt => by
    have eh : hs9 (fun v => mI M (g + 1) (12 * k + v)) V = h := by rw [hh]; exact hs9_cg mt
    have st := sm.1.step (t := i) hk hi (fun t' ht' => by
      show mI M (g + 20) ((hs9 (fun v => mI M (g + 1) (12 * k + v)) V + t') % 1024) ≠ (k : Int)
      rw [eh]
      obtain ⟨k', a1, a2, a3⟩ := bf t' ht'
      intro w
      rw [a2] at w
      have : k' = k := by omega
      rw [this] at a3
      exact a3 mt)
    have st : mI M (g + 20) ((hs9 (fun v => mI M (g + 1) (12 * k + v)) V + i) % 1024) ≠ -1 := st
    rw [eh] at st
    exact st fr
  intro t
  induction t with
  | zero =>
    intro i hi hi2 bf
    obtain ⟨t0, a1, a2⟩ := sm.1.free (h := h) (by omega)
    obtain ⟨k, k1, k2, -⟩ := bf t0 (by omega)
    rw [k2] at a2
    omega
  | succ t ih =>
    intro i hi hi2 bf
    obtain ⟨sl, esl⟩ : ∃ sl, sl = (h + i) % 1024 := ⟨_, rfl⟩
    have hsl : sl < 1024 := by rw [esl]; exact md _
    have i10 : i < 1024 := by
      by_cases u : i = 1024
      · obtain ⟨t0, a1, a2⟩ := sm.1.free (h := h) (by omega)
        obtain ⟨k, k1, k2, -⟩ := bf t0 (by omega)
        rw [k2] at a2
        omega
      · omega
    rw [← esl]
    refine k_Ga_enter_51 h1 (i32s (by omega) (by omega)) (i32s (by omega) (by omega)) ⟨fun _ => ⟨g0, by rw [g16]; exact k20, by rw [g16, n20]; omega⟩, fun y => ?_, fun y => ?_⟩
    · rw [g16, Int.toNat_natCast] at y
      have fsl : mI M (g + 20) sl = -1 := y.resolve_left (by omega)
      have nn := nof i i10 bf (by rw [← esl]; exact fsl)
      exact new hsl i10 esl fsl (fun t' ht' => by
        obtain ⟨k, k1, k2, -⟩ := bf t' ht'
        rw [k2]
        omega) nn
    rw [g16, Int.toNat_natCast] at y
    have y1 : mI M (g + 20) sl ≠ -1 := fun u => y (Or.inr u)
    obtain ⟨k, kc, ek⟩ := (sm.1.1 sl hsl).resolve_left y1
    rw [g16, n20, Int.toNat_natCast, ek]
    refine ⟨g0, k20, by omega, (x_Ga_isNext hx (by omega)).mono (fun r M' q => ?_)⟩
    obtain ⟨e, hr, hm⟩ := q
    subst e
    rw [g16, n20, ek]
    have ia := i_and (x := (sl : Int) + 1) 10 (by decide) 1023 (by decide) ⟨by decide, by decide⟩
    have p10 : (2 : Int) ^ 10 = 1024 := by decide
    rw [p10] at ia
    have es2 : andI ((sl : Int) + 1) 1023 = (((h + (i + 1)) % 1024 : Nat) : Int) := by rw [ia]; omega
    refine ⟨m_b32 hr, h1, fun r0 => ?_, fun r1 => ⟨g0, k20, by omega, ⟨hx, FI.refl, fun _ _ => rfl, cn, hc, Nat.le_refl _, hcn, hs, Or.inr ⟨by omega, by omega⟩, ⟨by omega, by omega⟩, fun t => absurd t (by omega)⟩, Or.inl ⟨k, kc, hm.mp (by omega), rfl, rfl⟩⟩⟩
    rw [es2, show ((i : Int) + 1) = ((i + 1 : Nat) : Int) by omega]
    refine ih (i + 1) (by omega) (by omega) (fun t' ht' => ?_)
    by_cases y2 : t' = i
    · rw [y2, ← esl]
      exact ⟨k, kc, ek, fun mt => by have := hm.mpr mt; omega⟩
    · exact bf t' (by omega)
theorem x_Ga_enter (hx : GY U w9 M0 z g p O P K V F ns sf ef L cnt Ab0 Be0 C0 M Ab Be C) (hc : mI M g 0 = ((cn : Nat) : Int)) (hcn : cn ≤ 512) (sm : SLm M g V cn) : Ci G y_Ga_enter (d + 2) [vr g] M (fun r M' => enG U w9 M0 z g p O P K V F ns sf ef L cnt Ab0 Be0 C0 M Ab Be C cn r M' ∧ enX M g V cn r M') := by
  obtain ⟨h1, h2, h3, h4, h5, -⟩ := id hx
  obtain ⟨g0, ⟨g1, -, -, -, -, -, -, -, -, g15, g16, -⟩, -, -⟩ := h2
  obtain ⟨p5, p6⟩ := h4.2.2.1
  have m0 := h3.1
  have m5 := h3.2.1.2.1
  have km := h3.2.2.1.2.1
  have nm := h3.2.2.2.1.1
  refine k_Ga_enter h1 ?_
  suffices HH : ∀ (t i : Nat) (x : Int), V ≤ i + t → i ≤ V → i32 x → x = hq9 (fun v => mI M (g + 10 + 2) v) i → h_Ga_enter_4 G (d + 1) g x i M (fun r M' => enG U w9 M0 z g p O P K V F ns sf ef L cnt Ab0 Be0 C0 M Ab Be C cn r M' ∧ enX M g V cn r M') from HH V 0 0 (by omega) (by omega) ⟨by decide, by decide⟩ rfl
  have fin : h_Ga_enter_51 G (d + 1) g (andI (xorI (hq9 (fun v => mI M (g + 10 + 2) v) V) (ushrI (hq9 (fun v => mI M (g + 10 + 2) v) V) 15)) 1023) 0 M (fun r M' => enG U w9 M0 z g p O P K V F ns sf ef L cnt Ab0 Be0 C0 M Ab Be C cn r M' ∧ enX M g V cn r M') := by
    have ia := i_and (x := xorI (hq9 (fun v => mI M (g + 10 + 2) v) V) (ushrI (hq9 (fun v => mI M (g + 10 + 2) v) V) 15)) 10 (by decide) 1023 (by decide) ⟨by decide, by decide⟩
    have p10 : (2 : Int) ^ 10 = 1024 := by decide
    rw [p10] at ia
    have es : andI (xorI (hq9 (fun v => mI M (g + 10 + 2) v) V) (ushrI (hq9 (fun v => mI M (g + 10 + 2) v) V) 15)) 1023 = (((hs9 (fun v => mI M (g + 10 + 2) v) V + 0) % 1024 : Nat) : Int) := by
      unfold hs9
      rw [ia]
      omega
    rw [es]
    exact x_en51 hx hc hcn sm rfl 1024 0 (by omega) (by omega) (fun t' ht' => absurd ht' (by omega))
  intro t
  induction t with
  | zero =>
    intro i x hi hi2 ix ex
    refine k_Ga_enter_4w h1 ix (i32s (by omega) (by omega)) ?_
    rw [h5.1, p5]
    exact ⟨g0, h4.1.1, fun y0 => by rw [ex, show i = V by omega]; exact fin, fun y => absurd y (by omega)⟩
  | succ t ih =>
    intro i x hi hi2 ix ex
    refine k_Ga_enter_4w h1 ix (i32s (by omega) (by omega)) ?_
    rw [h5.1, p5, g15, m5, nm]
    refine ⟨g0, h4.1.1, fun y0 => by rw [ex, show i = V by omega]; exact fin, fun y => ⟨m0, km, by omega, ?_⟩⟩
    rw [show ((i : Int) + 1) = ((i + 1 : Nat) : Int) by omega]
    refine ih (i + 1) _ (by omega) (by omega) i32_w32 ?_
    rw [ex, Int.toNat_natCast]
    rfl
end GAW
end
section
/-! The class's game, exactly: the multiple and the sum of chances. -/
section GAV
variable {G : mG} {d z g p O P K V F L cnt U Ab Be C Ab0 Be0 C0 s h t c cn k u v cc n : Nat} {M0 M M' M1 M2 : mM} {ns : Nat → Int} {sf ef : Nat → Nat} {H : Nat → Nat} {S R : Nat → Prop}
theorem x_Ga_fault {x y : Int} (hx : i32 x) (hy : i32 y) (hO : mOk M) (hk : mK M g = 7) : Ci G y_Ga_fault d [vr g, vi x, vi y] M (fun r M' => r = x ∧ plQ M g M' ∧ mI M' g 10 = y) := by
  refine k_Ga_fault hO hx hy ⟨hk, fun M2 e2 => ⟨rfl, ⟨by rw [e2]; exact mOk_UI hO hy, by rw [e2]; exact FI.ui rfl, fun i hi => ?_⟩, by rw [mI_ui g 10 e2, if_pos ⟨rfl, rfl⟩]⟩⟩
  rw [mI_ui g i e2, if_neg (fun u => hi u.2)]
/-- the chances of n branches -/
def lch9 (M : mM) (g : Nat) : Nat → List (Int × Int)
  | 0 => []
  | n + 1 => lch9 M g n ++ [(mI M (g + 21) n, mI M (g + 22) n)]
theorem lch_cg : ∀ n, (∀ b, b < n → mI M' (g + 21) b = mI M (g + 21) b ∧ mI M' (g + 22) b = mI M (g + 22) b) → lch9 M' g n = lch9 M g n
  | 0, _ => rfl
  | n + 1, hh => by
    show lch9 M' g n ++ [(mI M' (g + 21) n, mI M' (g + 22) n)] = lch9 M g n ++ [(mI M (g + 21) n, mI M (g + 22) n)]
    rw [lch_cg n (fun b hb => hh b (by omega)), (hh n (by omega)).1, (hh n (by omega)).2]
theorem smq_app {m : Int} (l r : List (Int × Int)) : smq9 m (l ++ r) = smq9 m l + smq9 m r := by
  induction l with
  | nil => show smq9 m r = 0 + smq9 m r; omega
  | cons x l ih =>
    show m / x.2 * x.1 + smq9 m (l ++ r) = m / x.2 * x.1 + smq9 m l + smq9 m r
    rw [ih]
    omega
theorem shs_smq {mu : Nat} : ∀ {n : Nat}, chz M g n → 1 ≤ mu → smq9 ((mu : Nat) : Int) (lch9 M g n) = shS M g ((mu : Nat) : Int) n
  | 0, _, _ => rfl
  | n + 1, h, hm => by
    show smq9 ((mu : Nat) : Int) (lch9 M g n ++ [(mI M (g + 21) n, mI M (g + 22) n)]) = shS M g ((mu : Nat) : Int) n + Int.tdiv ((mu : Nat) : Int) (mI M (g + 22) n) * mI M (g + 21) n
    rw [smq_app, shs_smq (fun b hb => h b (by omega)) hm, Int.tdiv_eq_ediv_of_nonneg (by omega)]
    show _ + (((mu : Nat) : Int) / mI M (g + 22) n * mI M (g + 21) n + 0) = _
    omega
theorem muq_zero : ∀ (l : List (Int × Int)), muq9 l 0 = 0
  | [] => rfl
  | x :: l => by
    show (if 1000000000 ≤ (0 : Int) / (Int.gcd 0 x.2 : Int) * x.2 then 0 else muq9 l ((0 : Int) / (Int.gcd 0 x.2 : Int) * x.2)) = 0
    rw [Int.zero_ediv, Int.zero_mul, if_neg (by decide)]
    exact muq_zero l
theorem muq_app : ∀ (l r : List (Int × Int)) (m : Int), muq9 (l ++ r) m = if muq9 l m = 0 then 0 else muq9 r (muq9 l m)
  | [], r, m => by
    show muq9 r m = if m = 0 then 0 else muq9 r m
    by_cases y : m = 0
    · rw [if_pos y, y]; exact muq_zero r
    · rw [if_neg y]
  | x :: l, r, m => by
    show (if 1000000000 ≤ m / (Int.gcd m x.2 : Int) * x.2 then 0 else muq9 (l ++ r) (m / (Int.gcd m x.2 : Int) * x.2)) = if (if 1000000000 ≤ m / (Int.gcd m x.2 : Int) * x.2 then 0 else muq9 l (m / (Int.gcd m x.2 : Int) * x.2)) = 0 then 0 else muq9 r (if 1000000000 ≤ m / (Int.gcd m x.2 : Int) * x.2 then 0 else muq9 l (m / (Int.gcd m x.2 : Int) * x.2))
    by_cases y : 1000000000 ≤ m / (Int.gcd m x.2 : Int) * x.2
    · simp only [if_pos y, if_true]
    · simp only [if_neg y]
      exact muq_app l r _
theorem muq_up {i : Nat} (h : muq9 (lch9 M g i) 1 = 0) : ∀ n, i ≤ n → muq9 (lch9 M g n) 1 = 0 := by
  intro n
  induction n with
  | zero =>
    intro hn
    rw [show (0 : Nat) = i by omega]
    exact h
  | succ n ih =>
    intro hn
    by_cases y : i = n + 1
    · rw [← y]; exact h
    · show muq9 (lch9 M g n ++ [(mI M (g + 21) n, mI M (g + 22) n)]) 1 = 0
      rw [muq_app, if_pos (ih (by omega))]
/-- what the weighing of n chances comes to; pc the command's place -/
def weX (pc : Int) (g cc : Nat) (l : List (Int × Int)) (MA : mM) (r : Int) (M' : mM) : Prop := (muq9 l 1 = 0 ∧ r = 6 ∧ mI M' g 10 = pc) ∨ (muq9 l 1 ≠ 0 ∧ smq9 (muq9 l 1) l ≠ muq9 l 1 ∧ r = 11 ∧ mI M' g 10 = pc) ∨ (muq9 l 1 ≠ 0 ∧ smq9 (muq9 l 1) l = muq9 l 1 ∧ r = 0 ∧ mI M' (g + 6) cc = muq9 l 1 ∧ FI (fun x => x = g + 6) MA M')
theorem x_we232 {MA : mM} {mu : Nat} (fA : FI (fun x => x = g + 6) MA M) (hx : GX M0 z g p O P K V F ns sf ef L cnt Ab0 Be0 C0 M Ab Be C) (hw : wgF M1 g M) (hc : c < cnt) (hn : n ≤ 8) (hch : chz M g n) (hmu : 1 ≤ mu ∧ mu < 1000000000) (h6 : mI M (g + 6) cc = ((mu : Nat) : Int)) (hm9 : muq9 (lch9 M g n) 1 = ((mu : Nat) : Int)) (hdv : ∀ b, b < n → (mI M (g + 22) b) ∣ ((mu : Nat) : Int)) : ∀ (t i : Nat), n ≤ i + t → i ≤ n → 0 ≤ shS M g mu i → shS M g mu i ≤ i * 1000000000 → h_Ga_weighChances_232 G d g c n mu (shS M g mu i) i M (fun r M' => weQ M0 z g p O P K V F ns sf ef L cnt Ab0 Be0 C0 M1 n cc r M' ∧ weX (mI M (p + 10) c) g cc (lch9 M g n) MA r M') := by
  obtain ⟨h1, h2, h3, h4, h5, -⟩ := id hx
  obtain ⟨g0, ⟨-, -, -, -, -, -, -, -, -, -, -, g17, g18⟩, ⟨-, -, -, -, -, -, -, -, -, -, k21, k22⟩, ⟨-, -, -, -, -, -, -, -, -, -, n21, n22⟩⟩ := h2
  have p14 := h4.1.2.2.2.2.2.2.1.2.2.2.2.2.2.2.1
  have kp14 := h4.1.2.2.2.2.2.2.2.1.2.2.2.2.2.2.2.1
  have np14 := h4.1.2.2.2.2.2.2.2.2.2.2.2.2.2.2.2.1
  have c60 := h4.2.2.2.2.1.2
  intro t
  induction t with
  | zero =>
    intro i hi hi2 s0 s1
    have cm := (cmpz (shS M g mu i) mu).2.2.2.1
    have en : i = n := by omega
    refine k_Ga_weighChances_232 h1 (i32s (by omega) (by omega)) (i32s (by omega) (by omega)) ⟨by omega, by omega⟩ ⟨by omega, by omega⟩ (i32s (by omega) (by omega)) ⟨fun _ => ⟨fun y => ?_, fun y => ?_⟩, fun y => absurd y (by omega)⟩
    · rw [cm] at y
      rw [en] at y
      exact k_Ga_weighChances_296 h1 ⟨by decide, by decide⟩ ⟨⟨⟨by decide, by decide⟩, hw, ⟨Ab, Be, C, hx⟩, fun _ => ⟨hch, mu, h6, hmu.1, hmu.2, y, hdv⟩⟩, Or.inr (Or.inr ⟨by rw [hm9]; omega, by rw [hm9, shs_smq hch (by omega)]; exact y, rfl, by rw [hm9]; exact h6, fA⟩)⟩
    · rw [h5.1, p14, np14]
      refine ⟨g0, h4.1.1, kp14, by omega, (x_Ga_fault ⟨by decide, by decide⟩ (h1 _ _).1 h1 g0).mono (fun r M' q => ?_)⟩
      rw [q.1]
      exact ⟨⟨by decide, by decide⟩, q.2.1.1, k_Ga_weighChances_296 q.2.1.1 ⟨by decide, by decide⟩ ⟨pl_we hx hw q.2.1 ⟨by decide, by decide⟩ (by decide), Or.inr (Or.inl ⟨by rw [hm9]; omega, by rw [hm9, shs_smq hch (by omega)]; intro y9; exact y (cm.mpr (by rw [show i = n by omega]; exact y9)), rfl, by rw [q.2.2, Int.toNat_natCast]⟩)⟩⟩
  | succ t ih =>
    intro i hi hi2 s0 s1
    have cm := (cmpz (shS M g mu i) mu).2.2.2.1
    refine k_Ga_weighChances_232 h1 (i32s (by omega) (by omega)) (i32s (by omega) (by omega)) ⟨by omega, by omega⟩ ⟨by omega, by omega⟩ (i32s (by omega) (by omega)) ⟨fun yy => ⟨fun y => ?_, fun y => ?_⟩, fun y => ?_⟩
    · have en : i = n := by omega
      rw [cm] at y
      rw [en] at y
      exact k_Ga_weighChances_296 h1 ⟨by decide, by decide⟩ ⟨⟨⟨by decide, by decide⟩, hw, ⟨Ab, Be, C, hx⟩, fun _ => ⟨hch, mu, h6, hmu.1, hmu.2, y, hdv⟩⟩, Or.inr (Or.inr ⟨by rw [hm9]; omega, by rw [hm9, shs_smq hch (by omega)]; exact y, rfl, by rw [hm9]; exact h6, fA⟩)⟩
    · rw [h5.1, p14, np14]
      refine ⟨g0, h4.1.1, kp14, by omega, (x_Ga_fault ⟨by decide, by decide⟩ (h1 _ _).1 h1 g0).mono (fun r M' q => ?_)⟩
      rw [q.1]
      exact ⟨⟨by decide, by decide⟩, q.2.1.1, k_Ga_weighChances_296 q.2.1.1 ⟨by decide, by decide⟩ ⟨pl_we hx hw q.2.1 ⟨by decide, by decide⟩ (by decide), Or.inr (Or.inl ⟨by rw [hm9]; omega, by rw [hm9, shs_smq hch (by omega)]; intro y9; exact y (cm.mpr (by rw [show i = n by omega]; exact y9)), rfl, by rw [q.2.2, Int.toNat_natCast]⟩)⟩⟩
    · have inn : i < n := by omega
      obtain ⟨b1, b2, b3, b4⟩ := hch i inn
      rw [g18, g17, n22, n21, Int.toNat_natCast]
      have e : shS M g mu (i + 1) = shS M g mu i + Int.tdiv mu (mI M (g + 22) i) * mI M (g + 21) i := rfl
      have tb : 0 ≤ Int.tdiv mu (mI M (g + 22) i) * mI M (g + 21) i ∧ Int.tdiv mu (mI M (g + 22) i) * mI M (g + 21) i ≤ 1000000000 := by
        have q0 := Int.tdiv_nonneg (show (0 : Int) ≤ mu by omega) (show (0 : Int) ≤ mI M (g + 22) i by omega)
        refine ⟨Int.mul_nonneg q0 b1, ?_⟩
        have q1 := Int.mul_le_mul_of_nonneg_left b2 q0
        have q2 : Int.tdiv mu (mI M (g + 22) i) * mI M (g + 22) i ≤ mu := by
          rw [Int.tdiv_eq_ediv_of_nonneg (by omega)]
          exact Int.ediv_mul_le _ (by omega)
        omega
      refine ⟨g0, k22, by omega, by omega, k21, by omega, ?_⟩
      rw [← e, show ((i : Int) + 1) = ((i + 1 : Nat) : Int) by omega]
      exact ih (i + 1) (by omega) (by omega) (by rw [e]; omega) (by rw [e]; omega)
theorem x_we150 (hx : GX M0 z g p O P K V F ns sf ef L cnt Ab0 Be0 C0 M Ab Be C) (hw : wgF M1 g M) (hc : c < cnt) (hn : n ≤ 8) (hch : chz M g n) (hcc : mI M g 12 = ((cc : Nat) : Int)) (hcc2 : cc ≤ 4096) (hcc1 : mI M1 g 12 = ((cc : Nat) : Int)) : ∀ (t i mu : Nat), n ≤ i + t → i ≤ n → (1 ≤ mu ∧ mu < 1000000000) → muq9 (lch9 M g i) 1 = ((mu : Nat) : Int) → (∀ b, b < i → (mI M (g + 22) b) ∣ ((mu : Nat) : Int)) → h_Ga_weighChances_150 G (d + 1) g c n mu i M (fun r M' => weQ M0 z g p O P K V F ns sf ef L cnt Ab0 Be0 C0 M1 n cc r M' ∧ weX (mI M (p + 10) c) g cc (lch9 M g n) M r M') := by
  obtain ⟨h1, h2, h3, h4, h5, -⟩ := id hx
  obtain ⟨g0, ⟨-, -, -, -, -, g6, -, -, -, -, -, g17, g18⟩, ⟨-, -, -, -, -, k6, -, -, -, -, k21, k22⟩, ⟨-, -, -, -, -, n6, -, -, -, -, n21, n22⟩⟩ := h2
  have p14 := h4.1.2.2.2.2.2.2.1.2.2.2.2.2.2.2.1
  have kp14 := h4.1.2.2.2.2.2.2.2.1.2.2.2.2.2.2.2.1
  have np14 := h4.1.2.2.2.2.2.2.2.2.2.2.2.2.2.2.2.1
  have c60 := h4.2.2.2.2.1.2
  have fin : ∀ {mu : Nat}, (1 ≤ mu ∧ mu < 1000000000) → muq9 (lch9 M g n) 1 = ((mu : Nat) : Int) → (∀ b, b < n → (mI M (g + 22) b) ∣ ((mu : Nat) : Int)) → mK M g = 7 ∧ mK M (mR M g 6) = 30 ∧ ((0 : Int) ≤ mI M g 12 ∧ mI M g 12 < (mN M (mR M g 6) : Int)) ∧ i32 ((mu : Nat) : Int) ∧ ∀ M66, M66 = mUI M (mR M g 6) (Int.toNat (mI M g 12)) mu → h_Ga_weighChances_232 G (d + 1) g c n mu 0 0 M66 (fun r M' => weQ M0 z g p O P K V F ns sf ef L cnt Ab0 Be0 C0 M1 n cc r M' ∧ weX (mI M (p + 10) c) g cc (lch9 M g n) M r M') := fun {mu} hmu hm9 hd => by
    rw [g6, n6, hcc, Int.toNat_natCast]
    refine ⟨g0, k6, by omega, ⟨by omega, by omega⟩, fun M66 e66 => ?_⟩
    have f66 : FI (fun x => x = g + 6) M M66 := by rw [e66]; exact FI.ui rfl
    have nb : ∀ x, x ≠ g + 6 → mI M66 x = mI M x := fun x hx => f66.2.2.2.2.2.2 x hx
    have o66 : mOk M66 := by rw [e66]; exact mOk_UI h1 ⟨by omega, by omega⟩
    have x66 := hx.fi o66 (f66.mono (fun x y => Or.inl (by have y' : x = g + 6 := y; omega)))
    have w66 : wgF M g M66 := ⟨fun i _ => by rw [nb g (by omega)], fun i i1 i9 i6 => nb _ (by omega), nb _ (by omega), fun i hi => by rw [mI_ui _ i e66, if_neg (fun t => hi (by rw [hcc, Int.toNat_natCast]; exact t.2))], by rw [nb _ (by omega)]⟩
    have e21 := nb (g + 21) (by omega)
    have e22 := nb (g + 22) (by omega)
    have ep : mI M66 (p + 10) c = mI M (p + 10) c := by rw [nb _ (by have := hx.2.2.2.2.2.1.2.1; omega)]
    have el : lch9 M66 g n = lch9 M g n := lch_cg n (fun b _ => by rw [e21, e22]; exact ⟨rfl, rfl⟩)
    rw [← ep, ← el]
    exact x_we232 (cc := cc) (MA := M) f66 x66 (hw.trans w66) hc hn (fun b hb => by rw [e21, e22]; exact hch b hb) hmu (by rw [mI_ui _ _ e66, if_pos ⟨rfl, rfl⟩]) (by rw [el]; exact hm9) (fun b hb => by rw [e22]; exact hd b hb) n 0 (by omega) (by omega) (Int.le_refl _) (by show (0 : Int) ≤ _; omega)
  intro t
  induction t with
  | zero =>
    intro i mu hi hi2 hmu hm hd
    exact k_Ga_weighChances_150 h1 (i32s (by omega) (by omega)) (i32s (by omega) (by omega)) ⟨by omega, by omega⟩ (i32s (by omega) (by omega)) ⟨fun _ => fin hmu (by rw [show n = i by omega]; exact hm) (fun b hb => hd b (by omega)), fun y => absurd y (by omega)⟩
  | succ t ih =>
    intro i mu hi hi2 hmu hm hd
    refine k_Ga_weighChances_150 h1 (i32s (by omega) (by omega)) (i32s (by omega) (by omega)) ⟨by omega, by omega⟩ (i32s (by omega) (by omega)) ⟨fun y => fin hmu (by rw [show n = i by omega]; exact hm) (fun b hb => hd b (by omega)), fun y => ?_⟩
    have inn : i < n := by omega
    obtain ⟨b1, b2, b3, b4⟩ := hch i inn
    rw [g18, n22, Int.toNat_natCast]
    obtain ⟨bl, ebl⟩ : ∃ bl : Nat, mI M (g + 22) i = ((bl : Nat) : Int) := ⟨(mI M (g + 22) i).toNat, by omega⟩
    rw [ebl]
    refine ⟨g0, k22, by omega, (x_Ma_commonDivisor (x := (mu : Int)) (y := (bl : Int)) (by omega) (by omega) h1).mono (fun r M' q => ?_)⟩
    obtain ⟨e', ⟨w1, -⟩, ew⟩ := q
    obtain ⟨w, ewn⟩ : ∃ w : Nat, w = Nat.gcd mu bl := ⟨_, rfl⟩
    have ew : r = ((w : Nat) : Int) := by rw [ew, ewn]; rfl
    have w1 : 1 ≤ w := by omega
    obtain ⟨q1, wd1⟩ : w ∣ mu := by rw [ewn]; exact Nat.gcd_dvd_left _ _
    obtain ⟨q2, wd2⟩ : w ∣ bl := by rw [ewn]; exact Nat.gcd_dvd_right _ _
    subst e'
    have ed : Int.tdiv (mu : Int) r = ((q1 : Nat) : Int) := by
      rw [ew, Int.tdiv_eq_ediv_of_nonneg (by omega), wd1]
      rw [Int.natCast_mul]
      exact Int.mul_ediv_cancel_left _ (by omega)
    have q10 : 1 ≤ q1 := by
      by_cases u : q1 = 0
      · rw [u] at wd1; omega
      · omega
    have wm : w ≤ mu := by rw [wd1]; exact Nat.le_mul_of_pos_right _ (by omega)
    have q1m : q1 ≤ mu := by rw [wd1]; exact Nat.le_mul_of_pos_left _ (by omega)
    rw [ed, g18, n22, ebl, ← Int.natCast_mul]
    have pb : q1 * bl ≤ 1000000000 * 1000000000 := Nat.mul_le_mul (by omega) (by omega)
    have p1 : 1 ≤ q1 * bl := Nat.mul_pos (by omega) (by omega)
    have cm := (cmpz ((q1 * bl : Nat) : Int) 1000000000).2.2.1
    have nx9 : muq9 (lch9 M' g (i + 1)) 1 = if (1000000000 : Int) ≤ ((q1 * bl : Nat) : Int) then 0 else ((q1 * bl : Nat) : Int) := by
      show muq9 (lch9 M' g i ++ [(mI M' (g + 21) i, mI M' (g + 22) i)]) 1 = _
      rw [muq_app, hm, if_neg (by omega), ebl]
      show (if (1000000000 : Int) ≤ (mu : Int) / (Int.gcd (mu : Int) (bl : Int) : Int) * (bl : Int) then 0 else (mu : Int) / (Int.gcd (mu : Int) (bl : Int) : Int) * (bl : Int)) = _
      have e3 : (mu : Int) / (Int.gcd (mu : Int) (bl : Int) : Int) * (bl : Int) = ((q1 * bl : Nat) : Int) := by
        have e4 : (Int.gcd (mu : Int) (bl : Int) : Int) = ((w : Nat) : Int) := by rw [ewn]; rfl
        rw [e4, Int.natCast_mul, ← ed, ew, Int.tdiv_eq_ediv_of_nonneg (by omega)]
      rw [e3]
    refine ⟨by rw [ew]; exact ⟨by omega, by omega⟩, h1, by omega, g0, k22, by omega, ⟨by omega, by omega⟩, fun y1 => ?_, fun y1 => ?_⟩
    · rw [cm] at y1
      rw [show ((i : Int) + 1) = ((i + 1 : Nat) : Int) by omega]
      refine ih (i + 1) (q1 * bl) (by omega) (by omega) ⟨p1, by omega⟩ (by rw [nx9, if_neg (by omega)]) (fun b hb => ?_)
      by_cases yb : b = i
      · rw [yb, ebl, Int.natCast_mul]
        exact Int.dvd_mul_left _ _
      · have e2 : ((q1 * bl : Nat) : Int) = (mu : Int) * (q2 : Int) := by
          rw [wd1, wd2, ← Int.natCast_mul]
          congr 1
          rw [Nat.mul_left_comm, Nat.mul_assoc]
        rw [e2]
        exact Int.dvd_trans (hd b (by omega)) (Int.dvd_mul_right _ _)
    · rw [h5.1, p14, np14]
      refine ⟨h4.1.1, kp14, by omega, (x_Ga_fault ⟨by decide, by decide⟩ (h1 _ _).1 h1 g0).mono (fun r2 M2 q => ?_)⟩
      rw [q.1]
      rw [cm] at y1
      exact ⟨⟨by decide, by decide⟩, q.2.1.1, pl_we hx hw q.2.1 ⟨by decide, by decide⟩ (by decide), Or.inl ⟨muq_up (by rw [nx9, if_pos (by omega)]) n (by omega), rfl, by rw [q.2.2, Int.toNat_natCast]⟩⟩
end GAV
end
