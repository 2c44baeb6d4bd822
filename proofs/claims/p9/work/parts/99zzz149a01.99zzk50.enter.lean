section
/-! The class's game: small steps, and a state that is entered. -/
section GAB
variable {G : mG} {d z g p O P K V F L cnt U w9 Ab Be C Ab0 Be0 C0 s h t c cn k : Nat} {M0 M M' M1 M2 : mM} {ns : Nat → Int} {sf ef : Nat → Nat} {H : Nat → Nat} {S R : Nat → Prop}
theorem s_JA_fill {a : Nat} {v : Int} (hO : mOk M) (hK : mK M a = 30) (hN : mN M a ≤ 100000) (hv : i32 v) : Cv G y_JA_fill d [vr a, vi v] M (fun M' => mOk M' ∧ FI (fun x => x = a) M M' ∧ ∀ i, i < mN M a → mI M' a i = v) := by
  refine k_JA_fill hO hv ⟨hK, ?_⟩
  suffices HH : ∀ (t i : Nat) (M1 : mM), mN M a ≤ i + t → i ≤ mN M a → mOk M1 → FI (fun x => x = a) M M1 → (∀ j, j < i → mI M1 a j = v) → h_JA_fill_5 G d a v i (mN M a : Int) M1 (fun M' => mOk M' ∧ FI (fun x => x = a) M M' ∧ ∀ i, i < mN M a → mI M' a i = v) from HH (mN M a) 0 M (by omega) (by omega) hO FI.refl (fun j hj => absurd hj (by omega))
  intro t
  induction t with
  | zero =>
    intro i M1 h1 h2 o f hj
    exact k_JA_fill_5 o hv ⟨by omega, by omega⟩ ⟨by omega, by omega⟩ ⟨fun _ => ⟨o, f, fun j hj' => hj j (by omega)⟩, fun y => absurd y (by omega)⟩
  | succ t ih =>
    intro i M1 h1 h2 o f hj
    refine k_JA_fill_5 o hv ⟨by omega, by omega⟩ ⟨by omega, by omega⟩ ⟨fun y => ⟨o, f, fun j hj' => hj j (by omega)⟩, fun y => ?_⟩
    rw [f.1, f.2.1, Int.toNat_natCast]
    refine ⟨hK, by omega, fun M8 e8 => ?_⟩
    rw [show ((i : Int) + 1) = ((i + 1 : Nat) : Int) by omega]
    refine ih (i + 1) M8 (by omega) (by omega) (by rw [e8]; exact mOk_UI o hv) (f.trans (by rw [e8]; exact FI.ui rfl)) (fun j hj' => ?_)
    rw [mI_ui a j e8]
    by_cases y : j = i
    · rw [if_pos ⟨rfl, y⟩]
    · rw [if_neg (fun u => y u.2)]
      exact hj j (by omega)
theorem s_Ga_clear (hO : mOk M) (hk : mK M g = 7) : Cv G y_Ga_clear d [vr g] M (fun M' => mOk M' ∧ FI (fun x => x = g) M M' ∧ (∀ i, mI M' g i = if i = 13 then 0 else if i = 12 then 0 else if i = 0 then 0 else mI M g i)) := by
  refine k_Ga_clear hO ⟨hk, fun M2 e2 M4 e4 M6 e6 => ?_⟩
  have f2 : FI (fun x => x = g) M M2 := by rw [e2]; exact FI.ui rfl
  have f4 : FI (fun x => x = g) M2 M4 := by rw [e4]; exact FI.ui rfl
  have f6 : FI (fun x => x = g) M4 M6 := by rw [e6]; exact FI.ui rfl
  refine ⟨by rw [e6]; exact mOk_UI (by rw [e4]; exact mOk_UI (by rw [e2]; exact mOk_UI hO ⟨by decide, by decide⟩) ⟨by decide, by decide⟩) ⟨by decide, by decide⟩, (f2.trans f4).trans f6, fun i => ?_⟩
  rw [mI_ui g i e6, mI_ui g i e4, mI_ui g i e2]
  by_cases y13 : i = 13
  · rw [if_pos ⟨rfl, y13⟩, if_pos y13]
  · rw [if_neg (fun u => y13 u.2), if_neg y13]
    by_cases y12 : i = 12
    · rw [if_pos ⟨rfl, y12⟩, if_pos y12]
    · rw [if_neg (fun u => y12 u.2), if_neg y12]
      by_cases y0 : i = 0
      · rw [if_pos ⟨rfl, y0⟩, if_pos y0]
      · rw [if_neg (fun u => y0 u.2), if_neg y0]
/-- a place is told: nothing else of the game changes -/
def plQ (M : mM) (g : Nat) (M' : mM) : Prop := mOk M' ∧ FI (fun x => x = g) M M' ∧ ∀ i, i ≠ 10 → mI M' g i = mI M g i
/-- slots tell states -/
def SLt (M : mM) (g cn : Nat) : Prop := ∀ i, i < 1024 → mI M (g + 20) i = -1 ∨ (0 ≤ mI M (g + 20) i ∧ mI M (g + 20) i < cn)
/-- what enter comes to -/
def enG (U w9 : Nat) (M0 : mM) (z g p O P K V F : Nat) (ns : Nat → Int) (sf ef : Nat → Nat) (L cnt Ab0 Be0 C0 : Nat) (M : mM) (Ab Be C cn : Nat) (r : Int) (M' : mM)   : Prop := GY U w9 M0 z g p O P K V F ns sf ef L cnt Ab0 Be0 C0 M' Ab Be C ∧ FI (fun x => x = g ∨ x = g + 1 ∨ x = g + 20) M M' ∧ (∀ i, i ≠ 0 → mI M' g i = mI M g i) ∧ ∃ cn' : Nat, mI M' g 0 = ((cn' : Nat) : Int) ∧ cn ≤ cn' ∧ cn' ≤ 512 ∧ SLt M' g cn' ∧ (r = -1 ∨ (0 ≤ r ∧ r < cn')) ∧ i32 r ∧ (r = -1 → cn = 512)
end GAB
end
section
/-! The class's game: a command's chances are weighed. -/
section GAC
variable {G : mG} {d z g p O P K V F L cnt U Ab Be C Ab0 Be0 C0 s h t c cn k u v cc : Nat} {M0 M M' M1 M2 : mM} {ns : Nat → Int} {sf ef : Nat → Nat} {H : Nat → Nat} {S R : Nat → Prop}
/-- what chances sum up to, times mu -/
def shS (M : mM) (g : Nat) (mu : Int) : Nat → Int
  | 0 => 0
  | b + 1 => shS M g mu b + Int.tdiv mu (mI M (g + 22) b) * mI M (g + 21) b
/-- chances of n branches -/
def chz (M : mM) (g n : Nat) : Prop := ∀ b, b < n → 0 ≤ mI M (g + 21) b ∧ mI M (g + 21) b ≤ mI M (g + 22) b ∧ 1 ≤ mI M (g + 22) b ∧ mI M (g + 22) b < 1000000000
/-- what stays when chances are weighed -/
def wgF (M : mM) (g : Nat) (M' : mM) : Prop := (∀ i, i ≠ 10 → mI M' g i = mI M g i) ∧ (∀ i, 1 ≤ i → i ≤ 9 → i ≠ 6 → mI M' (g + i) = mI M (g + i)) ∧ mI M' (g + 20) = mI M (g + 20) ∧ (∀ i, i ≠ (mI M g 12).toNat → mI M' (g + 6) i = mI M (g + 6) i) ∧ mI M' (g + 10) 9 = mI M (g + 10) 9
theorem wgF.refl : wgF M g M := ⟨fun _ _ => rfl, fun _ _ _ _ => rfl, rfl, fun _ _ => rfl, rfl⟩
theorem wgF.trans (f : wgF M g M1) (k : wgF M1 g M2) : wgF M g M2 := by
  obtain ⟨f1, f2, f3, f4, f5⟩ := f
  obtain ⟨g1, g2, g3, g4, g5⟩ := k
  exact ⟨fun i hi => by rw [g1 i hi, f1 i hi], fun i a b c => by rw [g2 i a b c, f2 i a b c], by rw [g3, f3], fun i hi => by rw [g4 i (by rw [f1 12 (by decide)]; exact hi), f4 i hi], by rw [g5, f5]⟩
theorem PG.fbm {Bn : Nat} (hg : PG M p O P V F ns sf ef L cnt Bn) : ∀ (t j : Nat), j + t = cnt → ∃ x y : Nat, mI M (p + 12) j = ((x : Nat) : Int) ∧ mI M (p + 12) cnt = ((y : Nat) : Int) ∧ x ≤ y ∧ y ≤ Bn ∧ y ≤ 8 * cnt
  | 0, j, hj => by
    obtain ⟨y, e1, e2, e3⟩ := hg.2.2.2.2.2.1
    have : j = cnt := by omega
    subst this
    exact ⟨y, y, e1, e1, Nat.le_refl _, e2, e3⟩
  | t + 1, j, hj => by
    obtain ⟨x, y, e1, e2, e3, e4, e5⟩ := PG.fbm hg t (j + 1) (by omega)
    obtain ⟨a, b, f1, f2, f3, f4⟩ := hg.2.2.2.2.1 j (by omega)
    rw [e1] at f2
    exact ⟨a, y, f1, e2, by omega, e4, e5⟩
/-- a command of the program -/
theorem PW.cmd (hp : PW M z p O P K V F ns sf ef L cnt) (hc : c < cnt) : ∃ u v : Nat, mI M (p + 12) c = ((u : Nat) : Int) ∧ mI M (p + 12) (c + 1) = ((v : Nat) : Int) ∧ u ≤ v ∧ v ≤ u + 8 ∧ v ≤ 480 ∧ (∀ b, b < v → ∃ s1 s2 : Nat, mI M (p + 14) b = ((s1 : Nat) : Int) ∧ PC M O P V F ns ef L s1 1 ∧ mI M (p + 15) b = ((s2 : Nat) : Int) ∧ PC M O P V F ns ef L s2 0) ∧ ∃ sg : Nat, mI M (p + 11) c = ((sg : Nat) : Int) ∧ PC M O P V F ns ef L sg 1 := by
  obtain ⟨p1, -, -, -, ⟨-, p9⟩, -, u0, p11, p12⟩ := hp
  obtain ⟨u, v, e1, e2, e3, e4⟩ := p12.2.2.2.2.1 c hc
  obtain ⟨x, y, f1, f2, f3, f4, f5⟩ := p12.fbm (cnt - (c + 1)) (c + 1) (by omega)
  rw [e2] at f1
  obtain ⟨sg, g1, g2⟩ := p12.2.2.1 c hc
  exact ⟨u, v, e1, e2, e3, e4, by omega, fun b hb => p12.2.2.2.2.2.2 b (by omega), sg, g1, g2⟩
end GAC
end
section
/-! The class's game: weighChances. -/
section GAD
variable {G : mG} {d z g p O P K V F L cnt U Ab Be C Ab0 Be0 C0 s h t c cn k u v cc n : Nat} {M0 M M' M1 M2 : mM} {ns : Nat → Int} {sf ef : Nat → Nat} {H : Nat → Nat} {S R : Nat → Prop}
/-- what weighing comes to -/
def weQ (M0 : mM) (z g p O P K V F : Nat) (ns : Nat → Int) (sf ef : Nat → Nat) (L cnt Ab0 Be0 C0 : Nat) (MB : mM) (n cc : Nat) (r : Int) (M' : mM) : Prop := i32 r ∧ wgF MB g M' ∧ (∃ Ab Be C, GX M0 z g p O P K V F ns sf ef L cnt Ab0 Be0 C0 M' Ab Be C) ∧ (r = 0 → chz M' g n ∧ ∃ mu : Nat, mI M' (g + 6) cc = ((mu : Nat) : Int) ∧ 1 ≤ mu ∧ mu < 1000000000 ∧ shS M' g mu n = ((mu : Nat) : Int) ∧ ∀ b, b < n → (mI M' (g + 22) b) ∣ ((mu : Nat) : Int))
theorem pl_we (hx : GX M0 z g p O P K V F ns sf ef L cnt Ab0 Be0 C0 M Ab Be C) (hw : wgF M1 g M) (q : plQ M g M') {r : Int} (ir : i32 r) (hr : r ≠ 0) : weQ M0 z g p O P K V F ns sf ef L cnt Ab0 Be0 C0 M1 n cc r M' := by
  obtain ⟨q1, q2, q3⟩ := q
  have nb : ∀ x, x ≠ g → mI M' x = mI M x := fun x hx => q2.2.2.2.2.2.2 x hx
  refine ⟨ir, hw.trans ⟨q3, fun i i1 _ _ => nb _ (by omega), nb _ (by omega), fun i _ => by rw [nb _ (by omega)], by rw [nb _ (by omega)]⟩, ⟨Ab, Be, C, hx.fi q1 (q2.mono (fun x y => Or.inl (by have y' : x = g := y; omega)))⟩, fun u => absurd u hr⟩
end GAD
end
section
/-! The class's game: weighChances, the whole. -/
section GAE
variable {G : mG} {d z g p O P K V F L cnt U Ab Be C Ab0 Be0 C0 s h t c cn k u v cc n : Nat} {M0 M M' M1 M2 : mM} {ns : Nat → Int} {sf ef : Nat → Nat} {H : Nat → Nat} {S R : Nat → Prop}
/-- cells that a run leaves alone -/
theorem ga_ce (hx : GX M0 z g p O P K V F ns sf ef L cnt Ab0 Be0 C0 M Ab Be C) (f : FA (mcS (g + 10) Ab Be) (fun x => x = g + 10) M M') : (∀ i, i ≤ 9 ∨ (20 ≤ i ∧ i ≤ 22) → mI M' (g + i) = mI M (g + i)) ∧ (∀ i, i ≤ 15 → mI M' (p + i) = mI M (p + i)) := by
  have ne := hx.ne
  obtain ⟨-, -, h3, h4, -, ⟨h61, h62, h63⟩, -⟩ := hx
  obtain ⟨a1, a2, -, -⟩ := h3.2.2.2.2.2.1
  have z1 := h3.2.2.2.2.2.2.1.1
  have o4 := h4.1.2.2.2.1.2.2.2
  clear h3 h4
  refine ⟨fun i hi => (f.2 (g + i) (by omega)).2.2.2.2 (fun y => ?_), fun i hi => (f.2 (p + i) (by omega)).2.2.2.2 (fun y => ne.1 i hi ?_)⟩
  · have y' : g + i = g + 10 ∨ g + i = g + 10 + 2 ∨ (g + 10 + 5 ≤ g + i ∧ g + i ≤ g + 10 + 9) ∨ g + i = Ab ∨ g + i = Be := y
    omega
  · have y' : p + i = g + 10 ∨ p + i = g + 10 + 2 ∨ (g + 10 + 5 ≤ p + i ∧ p + i ≤ g + 10 + 9) ∨ p + i = Ab ∨ p + i = Be := y
    show (g ≤ p + i ∧ p + i ≤ g + 22) ∨ p + i = Ab ∨ p + i = Be
    omega
theorem ga_wg (hx : GX M0 z g p O P K V F ns sf ef L cnt Ab0 Be0 C0 M Ab Be C) (f : FA (mcS (g + 10) Ab Be) (fun x => x = g + 10) M M') (h9 : mI M' (g + 10) 9 = mI M (g + 10) 9) : wgF M g M' := by
  obtain ⟨e1, -⟩ := ga_ce hx f
  have e0 := e1 0 (by omega)
  rw [Nat.add_zero] at e0
  exact ⟨fun i _ => by rw [e0], fun i _ i9 _ => e1 i (by omega), e1 20 (by omega), fun i _ => by rw [e1 6 (by omega)], h9⟩
end GAE
end
section
/-! The class's game: a branch is followed. -/
section GAF
variable {G : mG} {d z g p O P K V F L cnt U Ab Be C Ab0 Be0 C0 s h t c cn k u v cc n bc bc0 x a0 : Nat} {M0 M M' M1 M2 : mM} {ns : Nat → Int} {sf ef : Nat → Nat} {H : Nat → Nat} {S R : Nat → Prop} {sm sh : Int}
/-- the sum of the weights from x on -/
def wsm (M : mM) (g x : Nat) : Nat → Int
  | 0 => 0
  | i + 1 => wsm M g x i + mI M (g + 9) (x + i)
theorem wsm_cg : ∀ n, (∀ i, x ≤ i → i < x + n → mI M' (g + 9) i = mI M (g + 9) i) → wsm M' g x n = wsm M g x n
  | 0, _ => rfl
  | n + 1, hh => by
    show wsm M' g x n + mI M' (g + 9) (x + n) = wsm M g x n + mI M (g + 9) (x + n)
    rw [wsm_cg n (fun i h1 h2 => hh i h1 (by omega)), hh (x + n) (by omega) (by omega)]
theorem wsm_add (he : ∀ i, mI M' (g + 9) i = if i = a0 then mI M (g + 9) a0 + sh else mI M (g + 9) i) (hx : x ≤ a0) : ∀ n, wsm M' g x n = if a0 < x + n then wsm M g x n + sh else wsm M g x n
  | 0 => by
    rw [if_neg (by omega)]
    rfl
  | n + 1 => by
    show wsm M' g x n + mI M' (g + 9) (x + n) = _
    rw [wsm_add he hx n, he]
    have e : wsm M g x (n + 1) = wsm M g x n + mI M (g + 9) (x + n) := rfl
    by_cases y : a0 = x + n
    · rw [if_neg (by omega), if_pos y.symm, if_pos (by omega), e, ← y]
      omega
    · have y3 : ¬ x + n = a0 := fun t => y t.symm
      by_cases y2 : a0 < x + n
      · rw [if_pos y2, if_neg y3, if_pos (by omega), e]
        omega
      · rw [if_neg y2, if_neg y3, if_neg (by omega), e]
theorem wsm_ge (hw : ∀ i, x ≤ i → i < x + n → 1 ≤ mI M (g + 9) i) : ∀ m, m ≤ n → (m : Int) ≤ wsm M g x m
  | 0, _ => Int.le_refl _
  | m + 1, hm => by
    have e : wsm M g x (m + 1) = wsm M g x m + mI M (g + 9) (x + m) := rfl
    have := wsm_ge hw m (by omega)
    have := hw (x + m) (by omega) (by omega)
    rw [e]
    omega
theorem wsm_le (hw : ∀ i, x ≤ i → i < x + n → 1 ≤ mI M (g + 9) i) : ∀ m, m ≤ n → ∀ i, x ≤ i → i < x + m → mI M (g + 9) i ≤ wsm M g x m
  | 0, _, i, h1, h2 => absurd h2 (by omega)
  | m + 1, hm, i, h1, h2 => by
    have e : wsm M g x (m + 1) = wsm M g x m + mI M (g + 9) (x + m) := rfl
    have := wsm_ge hw m (by omega)
    have := hw (x + m) (by omega) (by omega)
    rw [e]
    by_cases y : i = x + m
    · rw [y]; omega
    · have := wsm_le hw m (by omega) i h1 (by omega)
      omega
/-- a command in progress: branches from bc0 to bc, of sum sm -/
def ipG (M : mM) (g cn bc0 bc : Nat) (sm : Int) : Prop := bc0 ≤ bc ∧ bc ≤ 4096 ∧ (∀ i, bc0 ≤ i → i < bc → 0 ≤ mI M (g + 8) i ∧ mI M (g + 8) i < cn ∧ 1 ≤ mI M (g + 9) i) ∧ wsm M g bc0 (bc - bc0) = sm
/-- what following may change -/
def flF (M : mM) (g p : Nat) (bc0 : Nat) (M' : mM) : Prop := (∀ i, i ≠ 0 → i ≠ 10 → i ≠ 13 → mI M' g i = mI M g i) ∧ (∀ i, 2 ≤ i → i ≤ 7 → mI M' (g + i) = mI M (g + i)) ∧ (mI M' (g + 21) = mI M (g + 21) ∧ mI M' (g + 22) = mI M (g + 22)) ∧ mI M' (g + 10) 9 = mI M (g + 10) 9 ∧ (∀ i, i ≤ 15 → mI M' (p + i) = mI M (p + i)) ∧ (∀ i, i < bc0 → mI M' (g + 8) i = mI M (g + 8) i ∧ mI M' (g + 9) i = mI M (g + 9) i)
theorem flF.refl : flF M g p bc0 M := ⟨fun _ _ _ _ => rfl, fun _ _ _ => rfl, ⟨rfl, rfl⟩, rfl, fun _ _ => rfl, fun _ _ => ⟨rfl, rfl⟩⟩
theorem flF.trans (f : flF M g p bc0 M1) (k : flF M1 g p bc0 M2) : flF M g p bc0 M2 := by
  obtain ⟨f1, f2, ⟨f3, f4⟩, f5, f6, f7⟩ := f
  obtain ⟨g1, g2, ⟨g3, g4⟩, g5, g6, g7⟩ := k
  exact ⟨fun i a b c => by rw [g1 i a b c, f1 i a b c], fun i a b => by rw [g2 i a b, f2 i a b], ⟨by rw [g3, f3], by rw [g4, f4]⟩, by rw [g5, f5], fun i hi => by rw [g6 i hi, f6 i hi], fun i hi => ⟨by rw [(g7 i hi).1, (f7 i hi).1], by rw [(g7 i hi).2, (f7 i hi).2]⟩⟩
/-- what following a branch comes to -/
def foQ (M0 : mM) (z g p O P K V F : Nat) (ns : Nat → Int) (sf ef : Nat → Nat) (L cnt Ab0 Be0 C0 : Nat) (MB : mM) (bc0 : Nat) (cn : Nat) (sm : Int) (r : Int) (M' : mM) : Prop := i32 r ∧ flF MB g p bc0 M' ∧ (∃ Ab Be C, GX M0 z g p O P K V F ns sf ef L cnt Ab0 Be0 C0 M' Ab Be C) ∧ ∃ cn' bc' : Nat, (mI M' g 0 = ((cn' : Nat) : Int) ∧ cn ≤ cn' ∧ cn' ≤ 512 ∧ SLt M' g cn') ∧ mI M' g 13 = ((bc' : Nat) : Int) ∧ bc0 ≤ bc' ∧ (bc' ≤ 4096 ∧ ((bc' : Nat) : Int) ≤ mI MB g 13 + 1) ∧ (r = 0 → ipG M' g cn' bc0 bc' sm)
theorem ga_off (hx : GX M0 z g p O P K V F ns sf ef L cnt Ab0 Be0 C0 M Ab Be C) : ∀ i j, i ≤ 15 → j ≤ 22 → p + i ≠ g + j := fun i j hi hj => by
  have := hx.2.2.2.2.2.1.2.1
  omega
end GAF
end
