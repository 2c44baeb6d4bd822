section
/-! The class's game, exactly: is it the next state. -/
section GAX
variable {G : mG} {d z g p O P K V F L cnt U w9 Ab Be C Ab0 Be0 C0 cn k : Nat} {M0 M : mM} {ns : Nat → Int} {sf ef : Nat → Nat}
theorem x_Ga_isNext (hx : GY U w9 M0 z g p O P K V F ns sf ef L cnt Ab0 Be0 C0 M Ab Be C) (hk : k < 512) : Ci G y_Ga_isNext d [vr g, vi k] M (fun r M' => M' = M ∧ (r = 0 ∨ r = 1) ∧ (r = 1 ↔ ∀ v, v < V → mI M (g + 1) (12 * k + v) = mI M (g + 10 + 2) v)) := by
  obtain ⟨h1, h2, h3, h4, h5, -⟩ := hx
  obtain ⟨g0, ⟨g1, -, -, -, -, -, -, -, -, g15, -⟩, ⟨k1, -⟩, ⟨n1, -⟩⟩ := h2
  obtain ⟨p5, p6⟩ := h4.2.2.1
  have m0 := h3.1
  have m5 := h3.2.1.2.1
  have km := h3.2.2.1.2.1
  have nm := h3.2.2.2.1.1
  refine k_Ga_isNext h1 (i32s (by omega) (by omega)) ?_
  suffices HH : ∀ (t i : Nat), V ≤ i + t → i ≤ V → (∀ v, v < i → mI M (g + 1) (12 * k + v) = mI M (g + 10 + 2) v) → h_Ga_isNext_2 G d g k i M (fun r M' => M' = M ∧ (r = 0 ∨ r = 1) ∧ (r = 1 ↔ ∀ v, v < V → mI M (g + 1) (12 * k + v) = mI M (g + 10 + 2) v)) from HH V 0 (by omega) (by omega) (fun v hv => absurd hv (by omega))
  intro t
  induction t with
  | zero =>
    intro i hi hi2 he
    refine k_Ga_isNext_2 h1 (i32s (by omega) (by omega)) (i32s (by omega) (by omega)) ?_
    rw [h5.1, p5]
    exact ⟨g0, h4.1.1, fun _ => ⟨rfl, Or.inr rfl, fun _ v hv => he v (by omega), fun _ => rfl⟩, fun y => absurd y (by omega)⟩
  | succ t ih =>
    intro i hi hi2 he
    refine k_Ga_isNext_2 h1 (i32s (by omega) (by omega)) (i32s (by omega) (by omega)) ?_
    have t1 : Int.toNat ((k : Int) * 12 + (i : Int)) = 12 * k + i := by omega
    rw [h5.1, p5, g1, n1, g15, m5, nm, t1, Int.toNat_natCast]
    refine ⟨g0, h4.1.1, fun y => ⟨rfl, Or.inr rfl, fun _ v hv => he v (by omega), fun _ => rfl⟩, fun y => ⟨k1, by omega, m0, km, by omega, fun e1 => ?_, fun e1 => ⟨rfl, Or.inl rfl, fun u => absurd u (by decide), fun u => absurd (u i (by omega)) e1⟩⟩⟩
    rw [show ((i : Int) + 1) = ((i + 1 : Nat) : Int) by omega]
    refine ih (i + 1) (by omega) (by omega) (fun v hv => ?_)
    by_cases y2 : v = i
    · rw [y2]; exact e1
    · exact he v (by omega)
end GAX
end
section
/-! The class's game, exactly: a state is entered. -/
/-- the hash of a state -/
def hq9 (f : Nat → Int) : Nat → Int
  | 0 => 0
  | i + 1 => w32 (hq9 f i * 31 + f i)
def hs9 (f : Nat → Int) (V : Nat) : Nat := (andI (xorI (hq9 f V) (ushrI (hq9 f V) 15)) 1023).toNat
theorem hq9_cg {f f' : Nat → Int} : ∀ {V : Nat}, (∀ v, v < V → f v = f' v) → hq9 f V = hq9 f' V
  | 0, _ => rfl
  | V + 1, h => by
    show w32 (hq9 f V * 31 + f V) = w32 (hq9 f' V * 31 + f' V)
    rw [hq9_cg (fun v hv => h v (by omega)), h V (by omega)]
theorem hs9_cg {f f' : Nat → Int} {V : Nat} (h : ∀ v, v < V → f v = f' v) : hs9 f V = hs9 f' V := by
  unfold hs9
  rw [hq9_cg h]
theorem SLq.cg {sl : Nat → Int} {hs hs' : Nat → Nat} {n : Nat} (h : SLq sl hs n) (e : ∀ k, k < n → hs k = hs' k) : SLq sl hs' n := ⟨h.1, fun k hk => by rw [← e k hk]; exact h.2.1 k hk, h.2.2⟩
/-- the slots tell the states, and these are all different -/
def SLm (M : mM) (g V cn : Nat) : Prop := SLq (mI M (g + 20)) (fun k => hs9 (fun v => mI M (g + 1) (12 * k + v)) V) cn ∧ ∀ i j, i < cn → j < cn → (∀ v, v < V → mI M (g + 1) (12 * i + v) = mI M (g + 1) (12 * j + v)) → i = j
/-- state k is the next one -/
def mtk (M : mM) (g V k : Nat) : Prop := ∀ v, v < V → mI M (g + 1) (12 * k + v) = mI M (g + 10 + 2) v
def enX (M : mM) (g V cn : Nat) (r : Int) (M' : mM) : Prop := (∃ k : Nat, k < cn ∧ mtk M g V k ∧ r = (k : Int) ∧ M' = M) ∨ ((∀ k, k < cn → ¬ mtk M g V k) ∧ ((cn = 512 ∧ r = -1 ∧ M' = M) ∨ (cn < 512 ∧ r = (cn : Int) ∧ mI M' g 0 = ((cn + 1 : Nat) : Int) ∧ SLm M' g V (cn + 1) ∧ (∀ v, v < 12 → mI M' (g + 1) (12 * cn + v) = mI M (g + 10 + 2) v) ∧ ∀ j, j < 12 * cn → mI M' (g + 1) j = mI M (g + 1) j)))
section GAW
variable {G : mG} {d z g p O P K V F L cnt U w9 Ab Be C Ab0 Be0 C0 cn k : Nat} {M0 M : mM} {ns : Nat → Int} {sf ef : Nat → Nat}
theorem x_en51 {h : Nat} (hx : GY U w9 M0 z g p O P K V F ns sf ef L cnt Ab0 Be0 C0 M Ab Be C) (hc : mI M g 0 = ((cn : Nat) : Int)) (hcn : cn ≤ 512) (sm : SLm M g V cn) (hh : h = hs9 (fun v => mI M (g + 10 + 2) v) V) : ∀ (t i : Nat), 1024 ≤ i + t → i ≤ 1024 → (∀ t', t' < i → ∃ k : Nat, k < cn ∧ mI M (g + 20) ((h + t') % 1024) = (k : Int) ∧ ¬ mtk M g V k) → h_Ga_enter_51 G (d + 1) g (((h + i) % 1024 : Nat) : Int) i M (fun r M' => enG U w9 M0 z g p O P K V F ns sf ef L cnt Ab0 Be0 C0 M Ab Be C cn r M' ∧ enX M g V cn r M') := by
  have hs : SLt M g cn := fun i hi => (sm.1.1 i hi).imp id (fun ⟨k, k1, k2⟩ => ⟨by omega, by omega⟩)
  have hV : V ≤ 12 := hx.2.2.2.1.2.2.1.2
  have md : ∀ x : Nat, x % 1024 < 1024 := fun x => Nat.mod_lt _ (by decide)
  obtain ⟨h1, h2, h3, h4, h5, -⟩ := id hx
  obtain ⟨g0, ⟨g1, -, -, -, -, -, -, -, -, g15, g16, -⟩, ⟨k1, -, -, -, -, -, -, -, -, k20, -⟩, ⟨n1, -, -, -, -, -, -, -, -, n20, -⟩⟩ := h2
  have m0 := h3.1
  have m5 := h3.2.1.2.1
  have km := h3.2.2.1.2.1
  have nm := h3.2.2.2.1.1
  -- a new state
  have new : ∀ {sl i : Nat}, sl < 1024 → i < 1024 → sl = (h + i) % 1024 → mI M (g + 20) sl = -1 → (∀ t, t < i → mI M (g + 20) ((h + t) % 1024) ≠ -1) → (∀ k, k < cn → ¬ mtk M g V k) → mK M g = 7 ∧ ((mI M g 0 = 512) → (enG U w9 M0 z g p O P K V F ns sf ef L cnt Ab0 Be0 C0 M Ab Be C cn (-1) M ∧ enX M g V cn (-1) M)) ∧ (¬ (mI M g 0 = 512) → (mK M (mR M g 16) = 30 ∧ ((0 : Int) ≤ sl ∧ (sl : Int) < (mN M (mR M g 16) : Int)) ∧ ∀ M23, M23 = mUI M (mR M g 16) (Int.toNat sl) (mI M g 0) → mK M23 (mR M23 g 15) = 5 ∧ mK M23 (mR M23 (mR M23 g 15) 5) = 30 ∧ mK M23 (mR M23 g 1) = 30 ∧ ((0 : Int) ≤ 0 ∧ (0 : Int) ≤ (mI M23 g 0) * 12 ∧ (0 : Int) ≤ 12 ∧ 0 + 12 ≤ (mN M23 (mR M23 (mR M23 g 15) 5) : Int) ∧ ((mI M23 g 0) * 12) + 12 ≤ (mN M23 (mR M23 g 1) : Int)) ∧ ∀ M29, M29 = mCpy M23 (mR M23 (mR M23 g 15) 5) (mR M23 g 1) 0 (Int.toNat ((mI M23 g 0) * 12)) 12 → i32 ((mI M29 g 0) + 1) ∧ ∀ M32, M32 = mUI M29 g 0 ((mI M29 g 0) + 1) → enG U w9 M0 z g p O P K V F ns sf ef L cnt Ab0 Be0 C0 M Ab Be C cn ((mI M32 g 0) - 1) M32 ∧ enX M g V cn ((mI M32 g 0) - 1) M32)) := fun {sl i9} hsl hi9 esl fsl bsl nom => by
    refine ⟨g0, fun y => ⟨⟨hx, FI.refl, fun _ _ => rfl, cn, hc, Nat.le_refl _, hcn, hs, Or.inl rfl, ⟨by decide, by decide⟩, fun _ => by omega⟩, Or.inr ⟨nom, Or.inl ⟨by omega, rfl, rfl⟩⟩⟩, fun y => ?_⟩
    rw [g16, n20, Int.toNat_natCast, hc]
    refine ⟨k20, by omega, fun M23 e23 => ?_⟩
    have f23 : FI (fun x => x = g + 20) M M23 := by rw [e23]; exact FI.ui rfl
    have c23 : mI M23 g 0 = ((cn : Nat) : Int) := by rw [f23.2.2.2.2.2.2 g (show ¬ g = g + 20 by omega)]; exact hc
    rw [f23.1, f23.2.1, f23.2.2.1, g15, m5, g1, n1, nm, c23]
    refine ⟨m0, km, k1, ⟨by omega, by omega, by omega, by omega, by omega⟩, fun M29 e29 => ?_⟩
    have f29 : FI (fun x => x = g + 1) M23 M29 := by
      rw [e29]
      refine ⟨rfl, rfl, rfl, rfl, rfl, rfl, fun x hx => ?_⟩
      funext j
      exact if_neg (fun u => hx u.1)
    have c29 : mI M29 g 0 = ((cn : Nat) : Int) := by rw [f29.2.2.2.2.2.2 g (show ¬ g = g + 1 by omega)]; exact c23
    rw [c29]
    refine ⟨⟨by omega, by omega⟩, fun M32 e32 => ?_⟩
    have f32 : FI (fun x => x = g) M29 M32 := by rw [e32]; exact FI.ui rfl
    have c32 : mI M32 g 0 = ((cn + 1 : Nat) : Int) := by rw [mI_ui g 0 e32, if_pos ⟨rfl, rfl⟩]; omega
    have ff : FI (fun x => x = g ∨ x = g + 1 ∨ x = g + 20) M M32 := ((f23.mono (fun _ y => Or.inr (Or.inr y))).trans (f29.mono (fun _ y => Or.inr (Or.inl y)))).trans (f32.mono (fun _ y => Or.inl y))
    have o32 : mOk M32 := by rw [e32]; exact mOk_UI (by rw [e29]; exact mOk_Cpy (by rw [e23]; exact mOk_UI h1 ⟨by omega, by omega⟩)) ⟨by omega, by omega⟩
    rw [c32]
    have n32 : ∀ j, mI M32 (g + 1) j = if 12 * cn ≤ j ∧ j < 12 * cn + 12 then mI M (g + 10 + 2) (j - 12 * cn) else mI M (g + 1) j := fun j => by
      rw [f32.2.2.2.2.2.2 _ (show ¬ g + 1 = g by omega), e29]
      show (if g + 1 = g + 1 ∧ Int.toNat (((cn : Nat) : Int) * 12) ≤ j ∧ j < Int.toNat (((cn : Nat) : Int) * 12) + 12 then mI M23 (g + 10 + 2) (0 + (j - Int.toNat (((cn : Nat) : Int) * 12))) else mI M23 (g + 1) j) = _
      rw [show Int.toNat (((cn : Nat) : Int) * 12) = 12 * cn by omega, f23.2.2.2.2.2.2 _ (show ¬ g + 10 + 2 = g + 20 by omega), f23.2.2.2.2.2.2 _ (show ¬ g + 1 = g + 20 by omega), Nat.zero_add]
      by_cases y3 : 12 * cn ≤ j ∧ j < 12 * cn + 12
      · rw [if_pos ⟨rfl, y3⟩, if_pos y3]
      · rw [if_neg (fun q => y3 q.2), if_neg y3]
    have s32 : ∀ j, mI M32 (g + 20) j = if j = sl then ((cn : Nat) : Int) else mI M (g + 20) j := fun j => by
      rw [f32.2.2.2.2.2.2 _ (show ¬ g + 20 = g by omega), f29.2.2.2.2.2.2 _ (show ¬ g + 20 = g + 1 by omega), mI_ui _ j e23]
      by_cases y3 : j = sl
      · rw [if_pos ⟨rfl, y3⟩, if_pos y3]
      · rw [if_neg (fun q => y3 q.2), if_neg y3]
    have old : ∀ k v, k < cn → v < V → mI M32 (g + 1) (12 * k + v) = mI M (g + 1) (12 * k + v) := fun k v hk hv => by
      rw [n32, if_neg (by omega)]
    have nw : ∀ v, v < 12 → mI M32 (g + 1) (12 * cn + v) = mI M (g + 10 + 2) v := fun v hv => by
      rw [n32, if_pos (by omega), show 12 * cn + v - 12 * cn = v by omega]
    have sq : SLm M32 g V (cn + 1) := by
      refine ⟨SLq.put (h := h) (t := i9) (sl := mI M (g + 20)) (sm.1.cg (fun k hk => hs9_cg (fun v hv => (old k v hk hv).symm))) ?_ hi9 (by rw [← esl]; exact fsl) bsl (fun j _ => by rw [s32, esl]), fun i j hi hj eq => ?_⟩
      · show hs9 (fun v => mI M32 (g + 1) (12 * cn + v)) V % 1024 = h % 1024
        rw [hh, hs9_cg (f := fun v => mI M32 (g + 1) (12 * cn + v)) (f' := fun v => mI M (g + 10 + 2) v) (fun v hv => nw v (by omega))]
      · by_cases yi : i = cn <;> by_cases yj : j = cn
        · omega
        · refine absurd (fun v hv => ?_) (nom j (by omega))
          rw [← old j v (by omega) hv, ← eq v hv, yi]
          exact nw v (by omega)
        · refine absurd (fun v hv => ?_) (nom i (by omega))
          rw [← old i v (by omega) hv, eq v hv, yj]
          exact nw v (by omega)
        · refine sm.2 i j (by omega) (by omega) (fun v hv => ?_)
          rw [← old i v (by omega) hv, ← old j v (by omega) hv]
          exact eq v hv
    refine ⟨?_, Or.inr ⟨nom, Or.inr ⟨by omega, by omega, c32, sq, nw, fun j hj => by rw [n32, if_neg (by omega)]⟩⟩⟩
    refine ⟨hx.fi o32 (ff.mono (fun x y => by
      have y' : x = g ∨ x = g + 1 ∨ x = g + 20 := y
      show (g ≤ x ∧ x ≤ g + 9) ∨ x = g + 12 ∨ (g + 20 ≤ x ∧ x ≤ g + 22)
      omega)), ff, fun i hi => ?_, cn + 1, c32, by omega, by omega, fun i hi => ?_, Or.inr ⟨by omega, by omega⟩, ⟨by omega, by omega⟩, fun t => absurd t (by omega)⟩
    · rw [mI_ui g i e32, if_neg (fun u => hi u.2), f29.2.2.2.2.2.2 g (show ¬ g = g + 1 by omega), f23.2.2.2.2.2.2 g (show ¬ g = g + 20 by omega)]
    · rw [f32.2.2.2.2.2.2 _ (show ¬ g + 20 = g by omega), f29.2.2.2.2.2.2 _ (show ¬ g + 20 = g + 1 by omega), mI_ui _ i e23]
      by_cases y0 : i = sl
      · rw [if_pos ⟨rfl, y0⟩]
        exact Or.inr ⟨by omega, by omega⟩
      · rw [if_neg (fun u => y0 u.2)]
        rcases hs i hi with u | u
        · exact Or.inl u
        · exact Or.inr ⟨u.1, by omega⟩
  have nof : ∀ i, i < 1024 → (∀ t', t' < i → ∃ k : Nat, k < cn ∧ mI M (g + 20) ((h + t') % 1024) = (k : Int) ∧ ¬ mtk M g V k) → mI M (g + 20) ((h + i) % 1024) = -1 → ∀ k, k < cn → ¬ mtk M g V k := fun i hi bf fr k hk mt => by
    have eh : hs9 (fun v => mI M (g + 1) (12 * k + v)) V = h := by rw [hh]; exact hs9_cg mt
    have st := sm.1.step (t := i) hk hi (fun t' ht' => by
      show mI M (g + 20) ((hs9 (fun v => mI M (g + 1) (12 * k + v)) V + t') % 1024) ≠ (k : Int)
      rw [eh]
      obtain ⟨k', a1, a2, a3⟩ := bf t' ht'
      intro w
      rw [a2] at w
      have : k' = k := by omega
      rw [this] at a3
      exact a3 mt)
    have st : mI M (g + 20) ((hs9 (fun v => mI M (g + 1) (12 * k + v)) V + i) % 1024) ≠ -1 := st
    rw [eh] at st
    exact st fr
  intro t
  induction t with
  | zero =>
    intro i hi hi2 bf
    obtain ⟨t0, a1, a2⟩ := sm.1.free (h := h) (by omega)
    obtain ⟨k, k1, k2, -⟩ := bf t0 (by omega)
    rw [k2] at a2
    omega
  | succ t ih =>
    intro i hi hi2 bf
    obtain ⟨sl, esl⟩ : ∃ sl, sl = (h + i) % 1024 := ⟨_, rfl⟩
    have hsl : sl < 1024 := by rw [esl]; exact md _
    have i10 : i < 1024 := by
      by_cases u : i = 1024
      · obtain ⟨t0, a1, a2⟩ := sm.1.free (h := h) (by omega)
        obtain ⟨k, k1, k2, -⟩ := bf t0 (by omega)
        rw [k2] at a2
        omega
      · omega
    rw [← esl]
    refine k_Ga_enter_51 h1 (i32s (by omega) (by omega)) (i32s (by omega) (by omega)) ⟨fun _ => ⟨g0, by rw [g16]; exact k20, by rw [g16, n20]; omega⟩, fun y => ?_, fun y => ?_⟩
    · rw [g16, Int.toNat_natCast] at y
      have fsl : mI M (g + 20) sl = -1 := y.resolve_left (by omega)
      have nn := nof i i10 bf (by rw [← esl]; exact fsl)
      exact new hsl i10 esl fsl (fun t' ht' => by
        obtain ⟨k, k1, k2, -⟩ := bf t' ht'
        rw [k2]
        omega) nn
    rw [g16, Int.toNat_natCast] at y
    have y1 : mI M (g + 20) sl ≠ -1 := fun u => y (Or.inr u)
    obtain ⟨k, kc, ek⟩ := (sm.1.1 sl hsl).resolve_left y1
    rw [g16, n20, Int.toNat_natCast, ek]
    refine ⟨g0, k20, by omega, (x_Ga_isNext hx (by omega)).mono (fun r M' q => ?_)⟩
    obtain ⟨e, hr, hm⟩ := q
    subst e
    rw [g16, n20, ek]
    have ia := i_and (x := (sl : Int) + 1) 10 (by decide) 1023 (by decide) ⟨by decide, by decide⟩
    have p10 : (2 : Int) ^ 10 = 1024 := by decide
    rw [p10] at ia
    have es2 : andI ((sl : Int) + 1) 1023 = (((h + (i + 1)) % 1024 : Nat) : Int) := by rw [ia]; omega
    refine ⟨m_b32 hr, h1, fun r0 => ?_, fun r1 => ⟨g0, k20, by omega, ⟨hx, FI.refl, fun _ _ => rfl, cn, hc, Nat.le_refl _, hcn, hs, Or.inr ⟨by omega, by omega⟩, ⟨by omega, by omega⟩, fun t => absurd t (by omega)⟩, Or.inl ⟨k, kc, hm.mp (by omega), rfl, rfl⟩⟩⟩
    rw [es2, show ((i : Int) + 1) = ((i + 1 : Nat) : Int) by omega]
    refine ih (i + 1) (by omega) (by omega) (fun t' ht' => ?_)
    by_cases y2 : t' = i
    · rw [y2, ← esl]
      exact ⟨k, kc, ek, fun mt => by have := hm.mpr mt; omega⟩
    · exact bf t' (by omega)
theorem x_Ga_enter (hx : GY U w9 M0 z g p O P K V F ns sf ef L cnt Ab0 Be0 C0 M Ab Be C) (hc : mI M g 0 = ((cn : Nat) : Int)) (hcn : cn ≤ 512) (sm : SLm M g V cn) : Ci G y_Ga_enter (d + 2) [vr g] M (fun r M' => enG U w9 M0 z g p O P K V F ns sf ef L cnt Ab0 Be0 C0 M Ab Be C cn r M' ∧ enX M g V cn r M') := by
  obtain ⟨h1, h2, h3, h4, h5, -⟩ := id hx
  obtain ⟨g0, ⟨g1, -, -, -, -, -, -, -, -, g15, g16, -⟩, -, -⟩ := h2
  obtain ⟨p5, p6⟩ := h4.2.2.1
  have m0 := h3.1
  have m5 := h3.2.1.2.1
  have km := h3.2.2.1.2.1
  have nm := h3.2.2.2.1.1
  refine k_Ga_enter h1 ?_
  suffices HH : ∀ (t i : Nat) (x : Int), V ≤ i + t → i ≤ V → i32 x → x = hq9 (fun v => mI M (g + 10 + 2) v) i → h_Ga_enter_4 G (d + 1) g x i M (fun r M' => enG U w9 M0 z g p O P K V F ns sf ef L cnt Ab0 Be0 C0 M Ab Be C cn r M' ∧ enX M g V cn r M') from HH V 0 0 (by omega) (by omega) ⟨by decide, by decide⟩ rfl
  have fin : h_Ga_enter_51 G (d + 1) g (andI (xorI (hq9 (fun v => mI M (g + 10 + 2) v) V) (ushrI (hq9 (fun v => mI M (g + 10 + 2) v) V) 15)) 1023) 0 M (fun r M' => enG U w9 M0 z g p O P K V F ns sf ef L cnt Ab0 Be0 C0 M Ab Be C cn r M' ∧ enX M g V cn r M') := by
    have ia := i_and (x := xorI (hq9 (fun v => mI M (g + 10 + 2) v) V) (ushrI (hq9 (fun v => mI M (g + 10 + 2) v) V) 15)) 10 (by decide) 1023 (by decide) ⟨by decide, by decide⟩
    have p10 : (2 : Int) ^ 10 = 1024 := by decide
    rw [p10] at ia
    have es : andI (xorI (hq9 (fun v => mI M (g + 10 + 2) v) V) (ushrI (hq9 (fun v => mI M (g + 10 + 2) v) V) 15)) 1023 = (((hs9 (fun v => mI M (g + 10 + 2) v) V + 0) % 1024 : Nat) : Int) := by
      unfold hs9
      rw [ia]
      omega
    rw [es]
    exact x_en51 hx hc hcn sm rfl 1024 0 (by omega) (by omega) (fun t' ht' => absurd ht' (by omega))
  intro t
  induction t with
  | zero =>
    intro i x hi hi2 ix ex
    refine k_Ga_enter_4w h1 ix (i32s (by omega) (by omega)) ?_
    rw [h5.1, p5]
    exact ⟨g0, h4.1.1, fun y0 => by rw [ex, show i = V by omega]; exact fin, fun y => absurd y (by omega)⟩
  | succ t ih =>
    intro i x hi hi2 ix ex
    refine k_Ga_enter_4w h1 ix (i32s (by omega) (by omega)) ?_
    rw [h5.1, p5, g15, m5, nm]
    refine ⟨g0, h4.1.1, fun y0 => by rw [ex, show i = V by omega]; exact fin, fun y => ⟨m0, km, by omega, ?_⟩⟩
    rw [show ((i : Int) + 1) = ((i + 1 : Nat) : Int) by omega]
    refine ih (i + 1) _ (by omega) (by omega) i32_w32 ?_
    rw [ex, Int.toNat_natCast]
    rfl
end GAW
end
section
/-! The class's game, exactly: the multiple and the sum of chances. -/
section GAV
variable {G : mG} {d z g p O P K V F L cnt U Ab Be C Ab0 Be0 C0 s h t c cn k u v cc n : Nat} {M0 M M' M1 M2 : mM} {ns : Nat → Int} {sf ef : Nat → Nat} {H : Nat → Nat} {S R : Nat → Prop}
theorem x_Ga_fault {x y : Int} (hx : i32 x) (hy : i32 y) (hO : mOk M) (hk : mK M g = 7) : Ci G y_Ga_fault d [vr g, vi x, vi y] M (fun r M' => r = x ∧ plQ M g M' ∧ mI M' g 10 = y) := by
  refine k_Ga_fault hO hx hy ⟨hk, fun M2 e2 => ⟨rfl, ⟨by rw [e2]; exact mOk_UI hO hy, by rw [e2]; exact FI.ui rfl, fun i hi => ?_⟩, by rw [mI_ui g 10 e2, if_pos ⟨rfl, rfl⟩]⟩⟩
  rw [mI_ui g i e2, if_neg (fun u => hi u.2)]
/-- the chances of n branches -/
def lch9 (M : mM) (g : Nat) : Nat → List (Int × Int)
  | 0 => []
  | n + 1 => lch9 M g n ++ [(mI M (g + 21) n, mI M (g + 22) n)]
theorem lch_cg : ∀ n, (∀ b, b < n → mI M' (g + 21) b = mI M (g + 21) b ∧ mI M' (g + 22) b = mI M (g + 22) b) → lch9 M' g n = lch9 M g n
  | 0, _ => rfl
  | n + 1, hh => by
    show lch9 M' g n ++ [(mI M' (g + 21) n, mI M' (g + 22) n)] = lch9 M g n ++ [(mI M (g + 21) n, mI M (g + 22) n)]
    rw [lch_cg n (fun b hb => hh b (by omega)), (hh n (by omega)).1, (hh n (by omega)).2]
theorem smq_app {m : Int} (l r : List (Int × Int)) : smq9 m (l ++ r) = smq9 m l + smq9 m r := by
  induction l with
  | nil => show smq9 m r = 0 + smq9 m r; omega
  | cons x l ih =>
    show m / x.2 * x.1 + smq9 m (l ++ r) = m / x.2 * x.1 + smq9 m l + smq9 m r
    rw [ih]
    omega
theorem shs_smq {mu : Nat} : ∀ {n : Nat}, chz M g n → 1 ≤ mu → smq9 ((mu : Nat) : Int) (lch9 M g n) = shS M g ((mu : Nat) : Int) n
  | 0, _, _ => rfl
  | n + 1, h, hm => by
    show smq9 ((mu : Nat) : Int) (lch9 M g n ++ [(mI M (g + 21) n, mI M (g + 22) n)]) = shS M g ((mu : Nat) : Int) n + Int.tdiv ((mu : Nat) : Int) (mI M (g + 22) n) * mI M (g + 21) n
    rw [smq_app, shs_smq (fun b hb => h b (by omega)) hm, Int.tdiv_eq_ediv_of_nonneg (by omega)]
    show _ + (((mu : Nat) : Int) / mI M (g + 22) n * mI M (g + 21) n + 0) = _
    omega
theorem muq_zero : ∀ (l : List (Int × Int)), muq9 l 0 = 0
  | [] => rfl
  | x :: l => by
    show (if 1000000000 ≤ (0 : Int) / (Int.gcd 0 x.2 : Int) * x.2 then 0 else muq9 l ((0 : Int) / (Int.gcd 0 x.2 : Int) * x.2)) = 0
    rw [Int.zero_ediv, Int.zero_mul, if_neg (by decide)]
    exact muq_zero l
theorem muq_app : ∀ (l r : List (Int × Int)) (m : Int), muq9 (l ++ r) m = if muq9 l m = 0 then 0 else muq9 r (muq9 l m)
  | [], r, m => by
    show muq9 r m = if m = 0 then 0 else muq9 r m
    by_cases y : m = 0
    · rw [if_pos y, y]; exact muq_zero r
    · rw [if_neg y]
  | x :: l, r, m => by
    show (if 1000000000 ≤ m / (Int.gcd m x.2 : Int) * x.2 then 0 else muq9 (l ++ r) (m / (Int.gcd m x.2 : Int) * x.2)) = if (if 1000000000 ≤ m / (Int.gcd m x.2 : Int) * x.2 then 0 else muq9 l (m / (Int.gcd m x.2 : Int) * x.2)) = 0 then 0 else muq9 r (if 1000000000 ≤ m / (Int.gcd m x.2 : Int) * x.2 then 0 else muq9 l (m / (Int.gcd m x.2 : Int) * x.2))
    by_cases y : 1000000000 ≤ m / (Int.gcd m x.2 : Int) * x.2
    · simp only [if_pos y, if_true]
    · simp only [if_neg y]
      exact muq_app l r _
theorem muq_up {i : Nat} (h : muq9 (lch9 M g i) 1 = 0) : ∀ n, i ≤ n → muq9 (lch9 M g n) 1 = 0 := by
  intro n
  induction n with
  | zero =>
    intro hn
    rw [show (0 : Nat) = i by omega]
    exact h
  | succ n ih =>
    intro hn
    by_cases y : i = n + 1
    · rw [← y]; exact h
    · show muq9 (lch9 M g n ++ [(mI M (g + 21) n, mI M (g + 22) n)]) 1 = 0
      rw [muq_app, if_pos (ih (by omega))]
/-- what the weighing of n chances comes to; pc the command's place -/
def weX (pc : Int) (g cc : Nat) (l : List (Int × Int)) (MA : mM) (r : Int) (M' : mM) : Prop := (muq9 l 1 = 0 ∧ r = 6 ∧ mI M' g 10 = pc) ∨ (muq9 l 1 ≠ 0 ∧ smq9 (muq9 l 1) l ≠ muq9 l 1 ∧ r = 11 ∧ mI M' g 10 = pc) ∨ (muq9 l 1 ≠ 0 ∧ smq9 (muq9 l 1) l = muq9 l 1 ∧ r = 0 ∧ mI M' (g + 6) cc = muq9 l 1 ∧ FI (fun x => x = g + 6) MA M')
theorem x_we232 {MA : mM} {mu : Nat} (fA : FI (fun x => x = g + 6) MA M) (hx : GX M0 z g p O P K V F ns sf ef L cnt Ab0 Be0 C0 M Ab Be C) (hw : wgF M1 g M) (hc : c < cnt) (hn : n ≤ 8) (hch : chz M g n) (hmu : 1 ≤ mu ∧ mu < 1000000000) (h6 : mI M (g + 6) cc = ((mu : Nat) : Int)) (hm9 : muq9 (lch9 M g n) 1 = ((mu : Nat) : Int)) (hdv : ∀ b, b < n → (mI M (g + 22) b) ∣ ((mu : Nat) : Int)) : ∀ (t i : Nat), n ≤ i + t → i ≤ n → 0 ≤ shS M g mu i → shS M g mu i ≤ i * 1000000000 → h_Ga_weighChances_232 G d g c n mu (shS M g mu i) i M (fun r M' => weQ M0 z g p O P K V F ns sf ef L cnt Ab0 Be0 C0 M1 n cc r M' ∧ weX (mI M (p + 10) c) g cc (lch9 M g n) MA r M') := by
  obtain ⟨h1, h2, h3, h4, h5, -⟩ := id hx
  obtain ⟨g0, ⟨-, -, -, -, -, -, -, -, -, -, -, g17, g18⟩, ⟨-, -, -, -, -, -, -, -, -, -, k21, k22⟩, ⟨-, -, -, -, -, -, -, -, -, -, n21, n22⟩⟩ := h2
  have p14 := h4.1.2.2.2.2.2.2.1.2.2.2.2.2.2.2.1
  have kp14 := h4.1.2.2.2.2.2.2.2.1.2.2.2.2.2.2.2.1
  have np14 := h4.1.2.2.2.2.2.2.2.2.2.2.2.2.2.2.2.1
  have c60 := h4.2.2.2.2.1.2
  intro t
  induction t with
  | zero =>
    intro i hi hi2 s0 s1
    have cm := (cmpz (shS M g mu i) mu).2.2.2.1
    have en : i = n := by omega
    refine k_Ga_weighChances_232 h1 (i32s (by omega) (by omega)) (i32s (by omega) (by omega)) ⟨by omega, by omega⟩ ⟨by omega, by omega⟩ (i32s (by omega) (by omega)) ⟨fun _ => ⟨fun y => ?_, fun y => ?_⟩, fun y => absurd y (by omega)⟩
    · rw [cm] at y
      rw [en] at y
      exact k_Ga_weighChances_296 h1 ⟨by decide, by decide⟩ ⟨⟨⟨by decide, by decide⟩, hw, ⟨Ab, Be, C, hx⟩, fun _ => ⟨hch, mu, h6, hmu.1, hmu.2, y, hdv⟩⟩, Or.inr (Or.inr ⟨by rw [hm9]; omega, by rw [hm9, shs_smq hch (by omega)]; exact y, rfl, by rw [hm9]; exact h6, fA⟩)⟩
    · rw [h5.1, p14, np14]
      refine ⟨g0, h4.1.1, kp14, by omega, (x_Ga_fault ⟨by decide, by decide⟩ (h1 _ _).1 h1 g0).mono (fun r M' q => ?_)⟩
      rw [q.1]
      exact ⟨⟨by decide, by decide⟩, q.2.1.1, k_Ga_weighChances_296 q.2.1.1 ⟨by decide, by decide⟩ ⟨pl_we hx hw q.2.1 ⟨by decide, by decide⟩ (by decide), Or.inr (Or.inl ⟨by rw [hm9]; omega, by rw [hm9, shs_smq hch (by omega)]; intro y9; exact y (cm.mpr (by rw [show i = n by omega]; exact y9)), rfl, by rw [q.2.2, Int.toNat_natCast]⟩)⟩⟩
  | succ t ih =>
    intro i hi hi2 s0 s1
    have cm := (cmpz (shS M g mu i) mu).2.2.2.1
    refine k_Ga_weighChances_232 h1 (i32s (by omega) (by omega)) (i32s (by omega) (by omega)) ⟨by omega, by omega⟩ ⟨by omega, by omega⟩ (i32s (by omega) (by omega)) ⟨fun yy => ⟨fun y => ?_, fun y => ?_⟩, fun y => ?_⟩
    · have en : i = n := by omega
      rw [cm] at y
      rw [en] at y
      exact k_Ga_weighChances_296 h1 ⟨by decide, by decide⟩ ⟨⟨⟨by decide, by decide⟩, hw, ⟨Ab, Be, C, hx⟩, fun _ => ⟨hch, mu, h6, hmu.1, hmu.2, y, hdv⟩⟩, Or.inr (Or.inr ⟨by rw [hm9]; omega, by rw [hm9, shs_smq hch (by omega)]; exact y, rfl, by rw [hm9]; exact h6, fA⟩)⟩
    · rw [h5.1, p14, np14]
      refine ⟨g0, h4.1.1, kp14, by omega, (x_Ga_fault ⟨by decide, by decide⟩ (h1 _ _).1 h1 g0).mono (fun r M' q => ?_)⟩
      rw [q.1]
      exact ⟨⟨by decide, by decide⟩, q.2.1.1, k_Ga_weighChances_296 q.2.1.1 ⟨by decide, by decide⟩ ⟨pl_we hx hw q.2.1 ⟨by decide, by decide⟩ (by decide), Or.inr (Or.inl ⟨by rw [hm9]; omega, by rw [hm9, shs_smq hch (by omega)]; intro y9; exact y (cm.mpr (by rw [show i = n by omega]; exact y9)), rfl, by rw [q.2.2, Int.toNat_natCast]⟩)⟩⟩
    · have inn : i < n := by omega
      obtain ⟨b1, b2, b3, b4⟩ := hch i inn
      rw [g18, g17, n22, n21, Int.toNat_natCast]
      have e : shS M g mu (i + 1) = shS M g mu i + Int.tdiv mu (mI M (g + 22) i) * mI M (g + 21) i := rfl
      have tb : 0 ≤ Int.tdiv mu (mI M (g + 22) i) * mI M (g + 21) i ∧ Int.tdiv mu (mI M (g + 22) i) * mI M (g + 21) i ≤ 1000000000 := by
        have q0 := Int.tdiv_nonneg (show (0 : Int) ≤ mu by omega) (show (0 : Int) ≤ mI M (g + 22) i by omega)
        refine ⟨Int.mul_nonneg q0 b1, ?_⟩
        have q1 := Int.mul_le_mul_of_nonneg_left b2 q0
        have q2 : Int.tdiv mu (mI M (g + 22) i) * mI M (g + 22) i ≤ mu := by
          rw [Int.tdiv_eq_ediv_of_nonneg (by omega)]
          exact Int.ediv_mul_le _ (by omega)
        omega
      refine ⟨g0, k22, by omega, by omega, k21, by omega, ?_⟩
      rw [← e, show ((i : Int) + 1) = ((i + 1 : Nat) : Int) by omega]
      exact ih (i + 1) (by omega) (by omega) (by rw [e]; omega) (by rw [e]; omega)
theorem x_we150 (hx : GX M0 z g p O P K V F ns sf ef L cnt Ab0 Be0 C0 M Ab Be C) (hw : wgF M1 g M) (hc : c < cnt) (hn : n ≤ 8) (hch : chz M g n) (hcc : mI M g 12 = ((cc : Nat) : Int)) (hcc2 : cc ≤ 4096) (hcc1 : mI M1 g 12 = ((cc : Nat) : Int)) : ∀ (t i mu : Nat), n ≤ i + t → i ≤ n → (1 ≤ mu ∧ mu < 1000000000) → muq9 (lch9 M g i) 1 = ((mu : Nat) : Int) → (∀ b, b < i → (mI M (g + 22) b) ∣ ((mu : Nat) : Int)) → h_Ga_weighChances_150 G (d + 1) g c n mu i M (fun r M' => weQ M0 z g p O P K V F ns sf ef L cnt Ab0 Be0 C0 M1 n cc r M' ∧ weX (mI M (p + 10) c) g cc (lch9 M g n) M r M') := by
  obtain ⟨h1, h2, h3, h4, h5, -⟩ := id hx
  obtain ⟨g0, ⟨-, -, -, -, -, g6, -, -, -, -, -, g17, g18⟩, ⟨-, -, -, -, -, k6, -, -, -, -, k21, k22⟩, ⟨-, -, -, -, -, n6, -, -, -, -, n21, n22⟩⟩ := h2
  have p14 := h4.1.2.2.2.2.2.2.1.2.2.2.2.2.2.2.1
  have kp14 := h4.1.2.2.2.2.2.2.2.1.2.2.2.2.2.2.2.1
  have np14 := h4.1.2.2.2.2.2.2.2.2.2.2.2.2.2.2.2.1
  have c60 := h4.2.2.2.2.1.2
  have fin : ∀ {mu : Nat}, (1 ≤ mu ∧ mu < 1000000000) → muq9 (lch9 M g n) 1 = ((mu : Nat) : Int) → (∀ b, b < n → (mI M (g + 22) b) ∣ ((mu : Nat) : Int)) → mK M g = 7 ∧ mK M (mR M g 6) = 30 ∧ ((0 : Int) ≤ mI M g 12 ∧ mI M g 12 < (mN M (mR M g 6) : Int)) ∧ i32 ((mu : Nat) : Int) ∧ ∀ M66, M66 = mUI M (mR M g 6) (Int.toNat (mI M g 12)) mu → h_Ga_weighChances_232 G (d + 1) g c n mu 0 0 M66 (fun r M' => weQ M0 z g p O P K V F ns sf ef L cnt Ab0 Be0 C0 M1 n cc r M' ∧ weX (mI M (p + 10) c) g cc (lch9 M g n) M r M') := fun {mu} hmu hm9 hd => by
    rw [g6, n6, hcc, Int.toNat_natCast]
    refine ⟨g0, k6, by omega, ⟨by omega, by omega⟩, fun M66 e66 => ?_⟩
    have f66 : FI (fun x => x = g + 6) M M66 := by rw [e66]; exact FI.ui rfl
    have nb : ∀ x, x ≠ g + 6 → mI M66 x = mI M x := fun x hx => f66.2.2.2.2.2.2 x hx
    have o66 : mOk M66 := by rw [e66]; exact mOk_UI h1 ⟨by omega, by omega⟩
    have x66 := hx.fi o66 (f66.mono (fun x y => Or.inl (by have y' : x = g + 6 := y; omega)))
    have w66 : wgF M g M66 := ⟨fun i _ => by rw [nb g (by omega)], fun i i1 i9 i6 => nb _ (by omega), nb _ (by omega), fun i hi => by rw [mI_ui _ i e66, if_neg (fun t => hi (by rw [hcc, Int.toNat_natCast]; exact t.2))], by rw [nb _ (by omega)]⟩
    have e21 := nb (g + 21) (by omega)
    have e22 := nb (g + 22) (by omega)
    have ep : mI M66 (p + 10) c = mI M (p + 10) c := by rw [nb _ (by have := hx.2.2.2.2.2.1.2.1; omega)]
    have el : lch9 M66 g n = lch9 M g n := lch_cg n (fun b _ => by rw [e21, e22]; exact ⟨rfl, rfl⟩)
    rw [← ep, ← el]
    exact x_we232 (cc := cc) (MA := M) f66 x66 (hw.trans w66) hc hn (fun b hb => by rw [e21, e22]; exact hch b hb) hmu (by rw [mI_ui _ _ e66, if_pos ⟨rfl, rfl⟩]) (by rw [el]; exact hm9) (fun b hb => by rw [e22]; exact hd b hb) n 0 (by omega) (by omega) (Int.le_refl _) (by show (0 : Int) ≤ _; omega)
  intro t
  induction t with
  | zero =>
    intro i mu hi hi2 hmu hm hd
    exact k_Ga_weighChances_150 h1 (i32s (by omega) (by omega)) (i32s (by omega) (by omega)) ⟨by omega, by omega⟩ (i32s (by omega) (by omega)) ⟨fun _ => fin hmu (by rw [show n = i by omega]; exact hm) (fun b hb => hd b (by omega)), fun y => absurd y (by omega)⟩
  | succ t ih =>
    intro i mu hi hi2 hmu hm hd
    refine k_Ga_weighChances_150 h1 (i32s (by omega) (by omega)) (i32s (by omega) (by omega)) ⟨by omega, by omega⟩ (i32s (by omega) (by omega)) ⟨fun y => fin hmu (by rw [show n = i by omega]; exact hm) (fun b hb => hd b (by omega)), fun y => ?_⟩
    have inn : i < n := by omega
    obtain ⟨b1, b2, b3, b4⟩ := hch i inn
    rw [g18, n22, Int.toNat_natCast]
    obtain ⟨bl, ebl⟩ : ∃ bl : Nat, mI M (g + 22) i = ((bl : Nat) : Int) := ⟨(mI M (g + 22) i).toNat, by omega⟩
    rw [ebl]
    refine ⟨g0, k22, by omega, (x_Ma_commonDivisor (x := (mu : Int)) (y := (bl : Int)) (by omega) (by omega) h1).mono (fun r M' q => ?_)⟩
    obtain ⟨e', ⟨w1, -⟩, ew⟩ := q
    obtain ⟨w, ewn⟩ : ∃ w : Nat, w = Nat.gcd mu bl := ⟨_, rfl⟩
    have ew : r = ((w : Nat) : Int) := by rw [ew, ewn]; rfl
    have w1 : 1 ≤ w := by omega
    obtain ⟨q1, wd1⟩ : w ∣ mu := by rw [ewn]; exact Nat.gcd_dvd_left _ _
    obtain ⟨q2, wd2⟩ : w ∣ bl := by rw [ewn]; exact Nat.gcd_dvd_right _ _
    subst e'
    have ed : Int.tdiv (mu : Int) r = ((q1 : Nat) : Int) := by
      rw [ew, Int.tdiv_eq_ediv_of_nonneg (by omega), wd1]
      rw [Int.natCast_mul]
      exact Int.mul_ediv_cancel_left _ (by omega)
    have q10 : 1 ≤ q1 := by
      by_cases u : q1 = 0
      · rw [u] at wd1; omega
      · omega
    have wm : w ≤ mu := by rw [wd1]; exact Nat.le_mul_of_pos_right _ (by omega)
    have q1m : q1 ≤ mu := by rw [wd1]; exact Nat.le_mul_of_pos_left _ (by omega)
    rw [ed, g18, n22, ebl, ← Int.natCast_mul]
    have pb : q1 * bl ≤ 1000000000 * 1000000000 := Nat.mul_le_mul (by omega) (by omega)
    have p1 : 1 ≤ q1 * bl := Nat.mul_pos (by omega) (by omega)
    have cm := (cmpz ((q1 * bl : Nat) : Int) 1000000000).2.2.1
    have nx9 : muq9 (lch9 M' g (i + 1)) 1 = if (1000000000 : Int) ≤ ((q1 * bl : Nat) : Int) then 0 else ((q1 * bl : Nat) : Int) := by
      show muq9 (lch9 M' g i ++ [(mI M' (g + 21) i, mI M' (g + 22) i)]) 1 = _
      rw [muq_app, hm, if_neg (by omega), ebl]
      show (if (1000000000 : Int) ≤ (mu : Int) / (Int.gcd (mu : Int) (bl : Int) : Int) * (bl : Int) then 0 else (mu : Int) / (Int.gcd (mu : Int) (bl : Int) : Int) * (bl : Int)) = _
      have e3 : (mu : Int) / (Int.gcd (mu : Int) (bl : Int) : Int) * (bl : Int) = ((q1 * bl : Nat) : Int) := by
        have e4 : (Int.gcd (mu : Int) (bl : Int) : Int) = ((w : Nat) : Int) := by rw [ewn]; rfl
        rw [e4, Int.natCast_mul, ← ed, ew, Int.tdiv_eq_ediv_of_nonneg (by omega)]
      rw [e3]
    refine ⟨by rw [ew]; exact ⟨by omega, by omega⟩, h1, by omega, g0, k22, by omega, ⟨by omega, by omega⟩, fun y1 => ?_, fun y1 => ?_⟩
    · rw [cm] at y1
      rw [show ((i : Int) + 1) = ((i + 1 : Nat) : Int) by omega]
      refine ih (i + 1) (q1 * bl) (by omega) (by omega) ⟨p1, by omega⟩ (by rw [nx9, if_neg (by omega)]) (fun b hb => ?_)
      by_cases yb : b = i
      · rw [yb, ebl, Int.natCast_mul]
        exact Int.dvd_mul_left _ _
      · have e2 : ((q1 * bl : Nat) : Int) = (mu : Int) * (q2 : Int) := by
          rw [wd1, wd2, ← Int.natCast_mul]
          congr 1
          rw [Nat.mul_left_comm, Nat.mul_assoc]
        rw [e2]
        exact Int.dvd_trans (hd b (by omega)) (Int.dvd_mul_right _ _)
    · rw [h5.1, p14, np14]
      refine ⟨h4.1.1, kp14, by omega, (x_Ga_fault ⟨by decide, by decide⟩ (h1 _ _).1 h1 g0).mono (fun r2 M2 q => ?_)⟩
      rw [q.1]
      rw [cm] at y1
      exact ⟨⟨by decide, by decide⟩, q.2.1.1, pl_we hx hw q.2.1 ⟨by decide, by decide⟩ (by decide), Or.inl ⟨muq_up (by rw [nx9, if_pos (by omega)]) n (by omega), rfl, by rw [q.2.2, Int.toNat_natCast]⟩⟩
end GAV
end
section
/-! The class's machine, exactly: a rule that was read when only the first H consts and formulas were known. -/
section QAJ
variable {G : mG} {d z m U Ab0 Be0 C0 cc p O P K L F0 H s0 : Nat} {M0 : mM} {w E pl : Nat → Int} {cv : Nat → vrs} {ec : Nat → Int × Int} {fv : Nat → vrs} {ns : Nat → Int} {sf ef : Nat → Nat} {X : Nat → Prop}
theorem x_Ma_runw {i j s e : Nat} (hH : H ≤ F0) (hF : FMx G) (ok : mOk M0) (hk : MK M0 z m U Ab0 Be0 C0) (hT : MT M0 m X) (hV : MVp m fv ns F0 M0) (hE : Rnv M0 z m Ab0 Be0 p O P K L) (hF0 : F0 ≤ 60) (hU : ¬ mcS m Ab0 Be0 U ∧ U < mZ M0) (fr : ∀ x, x < F0 → ns x = 7 → Frq M0 p m U O P L pl w fv ns sf ef X x) (hy : ∀ x, x < H → ns x = 7 → ef x < s) (hlf : ∀ k, (w k = 1 ∨ w k = 2 ∨ w k = 12 ∨ w k = 13) → (w k = 1 → E k ≠ -1) → Lfq M0 p m U fv ns H w E cv ec k) (eo : Eo w 6 i j) (hf : (fl w E pl 0 i j).1 = 0) (hc : Cd w ec pl (mI M0 O) (mI M0 P) 0 0 0 i j s e) (he : e < L) (oe : mI M0 O e = 0) : Ci G y_Ma_run (d + 4) [vr m, vi s] M0 (fun r M' => rnQ M0 z m U Ab0 Be0 C0 X 1 r M' ∧ rnx m (vlq w cv pl 0 0 i j) r M' ∧ MVp m fv ns F0 M') := by
  have c64 := hk.2.2.2.2.2.2.2
  have hLn := hE.2.2.2.2.2
  have lse := hc.lt
  refine k_Ma_run ok (i32s (by omega) (by omega)) ⟨hk.1, fun M2 e2 M4 e4 => ?_⟩
  have f2 : FI (fun b => b = m) M0 M2 := by rw [e2]; exact FI.ui rfl
  have f4 : FI (fun b => b = m) M2 M4 := by rw [e4]; exact FI.ui rfl
  have ff := f2.trans f4
  have g : ∀ i, mI M4 m i = if i = 15 then 0 else if i = 8 then 0 else mI M0 m i := fun i => by
    rw [mI_ui m i e4]
    by_cases y : i = 15
    · rw [if_pos ⟨rfl, y⟩, if_pos y]
    · rw [if_neg (fun q => y q.2), if_neg y, mI_ui m i e2]
      by_cases y8 : i = 8
      · rw [if_pos ⟨rfl, y8⟩, if_pos y8]
      · rw [if_neg (fun q => y8 q.2), if_neg y8]
  have o4 : mOk M4 := by rw [e4]; exact mOk_UI (by rw [e2]; exact mOk_UI ok (i32s (by omega) (by omega))) (i32s (by omega) (by omega))
  have hM : MS M0 z m U Ab0 Be0 C0 M4 0 0 := ms_step (M := M0) (t' := 0) (c' := 0) o4 hk FA.refl ⟨Or.inl rfl, Or.inl rfl⟩ ⟨rfl, Nat.le_refl _⟩ ⟨rfl, rfl, rfl⟩ (ff.mono (fun _ q => Or.inl q)) (by rw [g, if_neg (by decide), if_neg (by decide)]) (by rw [g, if_neg (by decide), if_neg (by decide)]) (by rw [g, if_neg (by decide), if_pos rfl]; rfl) (by omega) (fun j hj => absurd hj (by omega)) (by rw [g, if_pos rfl]; rfl)
  have hb : mtq m M0 M4 := mtq.fi ff
  have g9 : mI M4 m 9 = mI M0 m 9 := by rw [g, if_neg (by decide), if_neg (by decide)]
  have hT4 : MT M4 m X := hT.mtb hb.mtb g9
  have hv4 : MSv M0 z m U Ab0 Be0 C0 fv ns F0 X M4 0 0 := ⟨hM, fun x hx h7 u => by
    rw [hb (m + 5) (by omega), g9] at u
    rw [hb (m + 6) (by omega), hb (m + 7) (by omega)]
    exact hV x hx h7 u, hT4⟩
  have pt := ptl_le (m := m) (sf := sf) (ef := ef) (M := M4) (fun x hx h7 => by
    have := (fr x hx h7).2.2.2.1
    omega) H hH
  refine run_allv (cv := cv) (H := H) (s0 := s) hF hE (fun k h1 h2 => lfq_rc hE hF0 hH (fun _ => by decide) hU hy (fun x hx h7 => ⟨fr x (by omega) h7, frm_rc hF hE hF0 hU fr x (by omega) h7 1 (by omega)⟩) (hlf k h1 h2)) _ 0 i j (Nat.le_refl _) (Or.inl ⟨rfl, eo⟩) hf (fun u => absurd u (by decide)) 0 0 0 s e (fun u => absurd u (by decide)) hc (by omega) 0 0 M4 _ (by omega) (by omega) hv4 (fun M' i' z1 l1 h1 b1 _ t1 => ?_) (fun M' z1 e1 e2 h1 b1 => ?_)
  · exact run_end hE he (by omega) h1.1 oe ⟨⟨h1.2.2, Or.inr ⟨rfl, h1.1⟩⟩, Or.inr ⟨rfl, z1, t1⟩, h1.2.1⟩
  · obtain ⟨t2, c2, h2⟩ := h1
    exact ⟨⟨b1.2, Or.inl ⟨rfl, by rw [e1]; exact z1, t2, c2, h2⟩⟩, Or.inl ⟨rfl, z1, e1, e2⟩, b1.1⟩
end QAJ
section QAK
variable {G : mG} {d z m U Ab0 Be0 C0 cc p O P K L F0 H s0 : Nat} {M0 : mM} {w E pl lo hi : Nat → Int} {cv : Nat → vrs} {Φ : (Nat → Int × Int) → Prop} {fv : Nat → vrs} {ns : Nat → Int} {sf ef : Nat → Nat} {X : Nat → Prop}
theorem run_stw (hH : H ≤ F0) (hF : FMx G) (hE : Rnv M0 z m Ab0 Be0 p O P K L) (hF0 : F0 ≤ 60) (hU : ¬ mcS m Ab0 Be0 U ∧ U < mZ M0) (fr : ∀ x, x < F0 → ns x = 7 → Frq M0 p m U O P L pl w fv ns sf ef X x) (hy : ∀ x, x < H → ns x = 7 → ef x < s0) (hlf : ∀ ec, Φ ec → ∀ k, (w k = 1 ∨ w k = 2 ∨ w k = 12 ∨ w k = 13) → (w k = 1 → E k ≠ -1) → Lfq M0 p m U fv ns H w E cv ec k) (elo : ∀ v, v < 12 → lo v = mI M0 (p + 3) v) (ehi : ∀ v, v < 12 → hi v = mI M0 (p + 4) v) {Q : Int → mM → Prop} : ∀ (l : List (Nat × Nat × Nat × Nat)) (s e i : Nat) (M : mM) (nx : Nat → Int), (∀ q, q ∈ l → Eo w 6 q.2.1 q.2.2.1 ∧ (fl w E pl 0 q.2.1 q.2.2.1).1 = 0 ∧ q.1 < 12 ∧ 0 ≤ pl q.2.2.2 ∧ pl q.2.2.2 ≤ 16384) → Scw Φ w pl (mI M0 O) (mI M0 P) l s e → e < L → mI M0 O e = 0 → s0 ≤ s → i + (e - s) + ptl m ns sf ef M H < 1000000 → MSv M0 z m U Ab0 Be0 C0 fv ns F0 X M 0 0 → (∀ j, j < 12 → mI M (m + 2) j = nx j) →
  ((stq9 w cv pl lo hi l nx).1.1 = 0 → ∀ M', MSv M0 z m U Ab0 Be0 C0 fv ns F0 X M' 0 0 → (∀ j, j < 12 → mI M' (m + 2) j = (stq9 w cv pl lo hi l nx).2 j) → Q 1 M') →
  ((stq9 w cv pl lo hi l nx).1.1 ≠ 0 → ∀ M', mI M' m 1 = (stq9 w cv pl lo hi l nx).1.1 → mI M' m 2 = (stq9 w cv pl lo hi l nx).1.2 → (∃ t2 c2, MS M0 z m U Ab0 Be0 C0 M' t2 c2) → (MVp m fv ns F0 M' ∧ MT M' m X) → Q 0 M') → h_Ma_run_14 G (d + 3) m (s : Int) (i : Int) M Q := by
  have hL := hE.2.2.2.2.2
  intro l
  induction l with
  | nil =>
    intro s e i M nx _ hc he oe _ hi hM hn next _
    have hc : s = e := hc
    subst hc
    exact run_end hE he (by omega) hM.1 oe (next rfl M hM hn)
  | cons q r ih =>
    intro s e i M nx hq hc he oe hs0 hi hM hn next flt
    obtain ⟨q1, q2, q3, q4, q5⟩ := hq q List.mem_cons_self
    have cl := Scw.le _ hc
    obtain ⟨a, ec, hφ, c1, o1, p1, c2⟩ := hc
    have l1 := c1.lt
    have l2 := Scw.le _ c2
    rw [stq9] at next flt
    have rc : Rcv G d M0 z m U Ab0 Be0 C0 fv ns sf ef F0 X 0 H s0 (vlq w cv pl 0 0 q.2.1 q.2.2.1) s a := run_allv hF hE (fun k h1 h2 => lfq_rc hE hF0 hH (fun _ => by decide) hU hy (fun x hx h7 => ⟨fr x (by omega) h7, frm_rc hF hE hF0 hU fr x (by omega) h7 1 (by omega)⟩) (hlf ec hφ k h1 h2)) _ 0 q.2.1 q.2.2.1 (Nat.le_refl _) (Or.inl ⟨rfl, q1⟩) q2 (fun u => absurd u (by decide)) 0 0 0 s a (fun u => absurd u (by decide)) c1 (by omega)
    generalize vlq w cv pl 0 0 q.2.1 q.2.2.1 = v at rc next flt
    refine rc 0 i M Q (by omega) (by omega) hM (fun M1 i1 z1 b1 h1 k1 _ t1 => ?_) (fun M1 z1 e1 e2 h1 b1 => ?_)
    · rw [if_neg (show ¬ v.1 ≠ 0 from fun u => u z1), elo q.1 q3, ehi q.1 q3] at next flt
      refine run_set hE (by omega) (by omega) h1.1 o1 p1 q3 ⟨q4, q5⟩ t1 (fun z2 M2 h2 b2 _ n2 => ?_) (fun z2 M2 e1 e2 h2 b2 => ?_)
      · obtain ⟨h2', v2⟩ := h1.ofb (H := H) (sf := sf) (ef := ef) h2 b2
        rw [if_neg (fun u => u z2)] at next flt
        refine ih (a + 1) e (i1 + 1) M2 _ (fun q' h' => hq q' (List.mem_cons_of_mem _ h')) c2 he oe (by omega) (by omega) h2' (fun j hj => ?_) next flt
        rw [n2 j, k1.2.2, hn j hj]
      · obtain ⟨h2', -⟩ := h1.ofb (H := H) (sf := sf) (ef := ef) h2 b2
        rw [if_pos z2] at flt
        exact flt z2 M2 e1 e2 ⟨_, _, h2⟩ h2'.2
    · rw [if_pos z1] at flt
      exact flt z1 M1 e1 e2 h1 b1
/-- a branch's sets -/
theorem x_Ma_runt (hH : H ≤ F0) {s e : Nat} {l : List (Nat × Nat × Nat × Nat)} {nx : Nat → Int} (hF : FMx G) (ok : mOk M0) (hk : MK M0 z m U Ab0 Be0 C0) (hT : MT M0 m X) (hV : MVp m fv ns F0 M0) (hE : Rnv M0 z m Ab0 Be0 p O P K L) (hF0 : F0 ≤ 60) (hU : ¬ mcS m Ab0 Be0 U ∧ U < mZ M0) (fr : ∀ x, x < F0 → ns x = 7 → Frq M0 p m U O P L pl w fv ns sf ef X x) (hy : ∀ x, x < H → ns x = 7 → ef x < s) (hlf : ∀ ec, Φ ec → ∀ k, (w k = 1 ∨ w k = 2 ∨ w k = 12 ∨ w k = 13) → (w k = 1 → E k ≠ -1) → Lfq M0 p m U fv ns H w E cv ec k) (elo : ∀ v, v < 12 → lo v = mI M0 (p + 3) v) (ehi : ∀ v, v < 12 → hi v = mI M0 (p + 4) v) (hq : ∀ q, q ∈ l → Eo w 6 q.2.1 q.2.2.1 ∧ (fl w E pl 0 q.2.1 q.2.2.1).1 = 0 ∧ q.1 < 12 ∧ 0 ≤ pl q.2.2.2 ∧ pl q.2.2.2 ≤ 16384) (hc : Scw Φ w pl (mI M0 O) (mI M0 P) l s e) (he : e < L) (oe : mI M0 O e = 0) (hn : ∀ j, j < 12 → mI M0 (m + 2) j = nx j) : Ci G y_Ma_run (d + 4) [vr m, vi s] M0 (fun r M' => rnQ M0 z m U Ab0 Be0 C0 X 0 r M' ∧ ((r = 0 ∧ (stq9 w cv pl lo hi l nx).1.1 ≠ 0 ∧ mI M' m 1 = (stq9 w cv pl lo hi l nx).1.1 ∧ mI M' m 2 = (stq9 w cv pl lo hi l nx).1.2) ∨ (r = 1 ∧ (stq9 w cv pl lo hi l nx).1.1 = 0 ∧ ∀ j, j < 12 → mI M' (m + 2) j = (stq9 w cv pl lo hi l nx).2 j)) ∧ MVp m fv ns F0 M') := by
  have lse := Scw.le _ hc
  have c64 := hk.2.2.2.2.2.2.2
  have hLn := hE.2.2.2.2.2
  refine k_Ma_run ok (i32s (by omega) (by omega)) ⟨hk.1, fun M2 e2 M4 e4 => ?_⟩
  have f2 : FI (fun b => b = m) M0 M2 := by rw [e2]; exact FI.ui rfl
  have f4 : FI (fun b => b = m) M2 M4 := by rw [e4]; exact FI.ui rfl
  have ff := f2.trans f4
  have g : ∀ i, mI M4 m i = if i = 15 then 0 else if i = 8 then 0 else mI M0 m i := fun i => by
    rw [mI_ui m i e4]
    by_cases y : i = 15
    · rw [if_pos ⟨rfl, y⟩, if_pos y]
    · rw [if_neg (fun q => y q.2), if_neg y, mI_ui m i e2]
      by_cases y8 : i = 8
      · rw [if_pos ⟨rfl, y8⟩, if_pos y8]
      · rw [if_neg (fun q => y8 q.2), if_neg y8]
  have o4 : mOk M4 := by rw [e4]; exact mOk_UI (by rw [e2]; exact mOk_UI ok (i32s (by omega) (by omega))) (i32s (by omega) (by omega))
  have hM : MS M0 z m U Ab0 Be0 C0 M4 0 0 := ms_step (M := M0) (t' := 0) (c' := 0) o4 hk FA.refl ⟨Or.inl rfl, Or.inl rfl⟩ ⟨rfl, Nat.le_refl _⟩ ⟨rfl, rfl, rfl⟩ (ff.mono (fun _ q => Or.inl q)) (by rw [g, if_neg (by decide), if_neg (by decide)]) (by rw [g, if_neg (by decide), if_neg (by decide)]) (by rw [g, if_neg (by decide), if_pos rfl]; rfl) (by omega) (fun j hj => absurd hj (by omega)) (by rw [g, if_pos rfl]; rfl)
  have hb : mtq m M0 M4 := mtq.fi ff
  have g9 : mI M4 m 9 = mI M0 m 9 := by rw [g, if_neg (by decide), if_neg (by decide)]
  have hT4 : MT M4 m X := hT.mtb hb.mtb g9
  have hv4 : MSv M0 z m U Ab0 Be0 C0 fv ns F0 X M4 0 0 := ⟨hM, fun x hx h7 u => by
    rw [hb (m + 5) (by omega), g9] at u
    rw [hb (m + 6) (by omega), hb (m + 7) (by omega)]
    exact hV x hx h7 u, hT4⟩
  have pt := ptl_le (m := m) (sf := sf) (ef := ef) (M := M4) (fun x hx h7 => by
    have := (fr x hx h7).2.2.2.1
    omega) H hH
  refine run_stw (cv := cv) (s0 := s) hH hF hE hF0 hU fr hy hlf elo ehi l s e 0 M4 nx hq hc he oe (Nat.le_refl _) (by omega) hv4 (fun j hj => by rw [hb (m + 2) (Or.inl rfl)]; exact hn j hj) (fun z1 M' h1 n1 => ?_) (fun z1 M' e1 e2 h1 b1 => ?_)
  · exact ⟨⟨h1.2.2, Or.inr ⟨rfl, h1.1⟩⟩, Or.inr ⟨rfl, z1, n1⟩, h1.2.1⟩
  · obtain ⟨t2, c2, h2⟩ := h1
    exact ⟨⟨b1.2, Or.inl ⟨rfl, by rw [e1]; exact z1, t2, c2, h2⟩⟩, Or.inl ⟨rfl, z1, e1, e2⟩, b1.1⟩
end QAK
end
section
/-! The class's game, exactly: a rule is worked out in a state. -/
section GBA
variable {G : mG} {d z g m U p O P K V F L cnt Ab Be C Ab0 Be0 C0 n N : Nat} {M0 M M' : mM} {ns : Nat → Int} {sf ef : Nat → Nat} {F1 : Nat} {ns1 : Nat → Int} {sf1 ef1 : Nat → Nat} {W pl nq : Nat → Int} {sm : Nat → Nat → Prop} {nms : List nm9} {sg : Nat → Int} {X : Nat → Prop}
/-- what a leaf's order pushes in a state -/
theorem lf_st {r l : List nm9} {ec : Nat → Int × Int} (hq : NqO W nq n) (hn : NmO W pl sm N n nms) (hs : SgO sg nms) (fm : FmC M p O P L W pl nq sm N n ns sf ef nms) (hr : nms = r ++ l) (hV : vcn nms ≤ 12) (hF : rcn nms ≤ 60) (hst : ∀ v, v < vcn nms → mI M U ((mI M m 4).toNat + v) = sg v) (lf : LfC W nq sm n r ec) : ∀ k, (W k = 1 ∨ W k = 2 ∨ W k = 12 ∨ W k = 13) → (W k = 1 → E9 sm r 0 k ≠ -1) → Lfq M p m U (fvs W pl nq sm N sg nms.reverse) ns (rcn r) W (E9 sm r 0) (cvb W pl nq sm N sg n r.reverse) ec k := by
  intro k hk hne
  refine ⟨cvb_ok hq (fun a e' b u => nvs_ok hq hn hs _ a e' (b ++ l) (Nat.le_refl _) (by rw [hr, u]; simp)) k hk hne, ?_⟩
  unfold cvb
  by_cases kn : k < n
  · rw [if_pos kn]
    obtain ⟨c2, c12, c13, c1⟩ := lf.2 k kn
    by_cases h1 : W k = 1
    · obtain ⟨l1, e, l2, q1, q2, q3, q4⟩ := E9_sp (hne h1)
      have hc := c1 h1 l1 e l2 q1 q2 q3
      have b := cvs_old (pl := pl) (nq := nq) (N := N) (sg := sg) (l := []) h1 q1 q2 q3
      rw [List.append_nil] at b
      have hm : nms = l1 ++ e :: (l2 ++ l) := by rw [hr, q1]; simp
      obtain ⟨⟨e1, e3⟩, -⟩ := hn l1 e (l2 ++ l) hm
      rw [b, hc]
      have rl : rcn r = rcn l1 + rcn (e :: l2) := by rw [q1, rcn_app]
      have vl : vcn nms = vcn l1 + vcn (e :: (l2 ++ l)) := by rw [hm, vcn_app]
      have rn : rcn nms = rcn r + rcn l := by rw [hr, rcn_app]
      by_cases y3 : e.2.1 = 3
      · have vl2 : vcn (e :: (l2 ++ l)) = vcn (l2 ++ l) + 1 := by
          show vcn (l2 ++ l) + (if e.2.1 = 3 then 1 else 0) = _
          rw [if_pos y3]
        refine Or.inr (Or.inr (Or.inl ⟨?_, vcn l1, ?_, by omega, ?_⟩))
        · show srt9 e.2.1 = 5
          rw [y3]; rfl
        · show (if e.2.1 = 3 then ((vcn l1 : Nat) : Int) else ((rcn l1 : Nat) : Int)) = _
          rw [if_pos y3]
        · unfold nvs
          rw [if_neg (by omega), if_pos y3, vcn_rev, hst _ (by omega)]
      · have rl2 : rcn (e :: l2) = rcn l2 + 1 := by
          show rcn l2 + (if e.2.1 = 3 then 0 else 1) = _
          rw [if_neg y3]
        obtain ⟨f1, f2, f3⟩ := fm l1 e (l2 ++ l) hm y3
        by_cases y1 : e.2.1 = 1
        · obtain ⟨g1, g2⟩ := f2 y1
          refine Or.inr (Or.inl ⟨?_, rcn l1, ?_, by omega, g2, ?_⟩)
          · show srt9 e.2.1 = 4
            rw [y1]; rfl
          · show (if e.2.1 = 3 then ((vcn l1 : Nat) : Int) else ((rcn l1 : Nat) : Int)) = _
            rw [if_neg y3]
          · unfold nvs
            rw [if_pos y1]
            exact g1
        · have y2 : e.2.1 = 2 := by omega
          refine Or.inr (Or.inr (Or.inr ⟨?_, rcn l1, ?_, by omega, ?_, ?_⟩))
          · show srt9 e.2.1 = 7
            rw [y2]; rfl
          · show (if e.2.1 = 3 then ((vcn l1 : Nat) : Int) else ((rcn l1 : Nat) : Int)) = _
            rw [if_neg y3]
          · rw [f1, y2]; rfl
          · have e9 : nms.reverse = (l2 ++ l).reverse ++ e :: l1.reverse := by rw [hm]; simp
            rw [e9, ← rcn_rev l1]
            exact (fvs_at y3 _).symm
    · rw [cvs_no h1]
      refine Or.inl ?_
      by_cases h2 : W k = 2
      · rw [if_pos h2, c2 h2]
        exact ⟨rfl, rfl⟩
      · rw [if_neg h2]
        by_cases h3 : W k = 12
        · rw [if_pos h3, c12 h3]
          exact ⟨rfl, rfl⟩
        · rw [if_neg h3, c13 (by omega)]
          exact ⟨rfl, rfl⟩
  · rw [if_neg kn, lf.1 k (by omega)]
    exact Or.inl ⟨rfl, rfl⟩
theorem fr_st (hq : NqO W nq n) (hn : NmO W pl sm N n nms) (hs : SgO sg nms) (fm : FmC M p O P L W pl nq sm N n ns sf ef nms) (hV : vcn nms ≤ 12) (hF : rcn nms ≤ 60) (hst : ∀ v, v < vcn nms → mI M U ((mI M m 4).toNat + v) = sg v) (hX : ∀ x, x < 60 → X x) : ∀ x, x < rcn nms → ns x = 7 → Frq M p m U O P L pl W (fvs W pl nq sm N sg nms.reverse) ns sf ef X x := by
  intro x hx h7
  obtain ⟨l1, e, l2, q1, q2, q3⟩ := rcn_sp nms x hx
  obtain ⟨f1, f2, f3⟩ := fm l1 e l2 q1 q2
  rw [q3] at f1 f2 f3
  have y2 : e.2.1 = 2 := srt_7 (by rw [← f1]; exact h7)
  obtain ⟨g1, g2, g3, g4, g5, ec, g6, g7⟩ := f3 y2
  obtain ⟨-, -, -, hf⟩ := hn l1 e l2 q1
  obtain ⟨t1, t2, t3, t4⟩ := hf y2
  refine ⟨hX x (by omega), g1, g2, g3, g4, g5, e.1 + 2, nxq W 34 N e.1, E9 sm l1 0, cvb W pl nq sm N sg n l1.reverse, ec, t1, t3, g7, ?_, ?_⟩
  · have e9 : nms.reverse = l2.reverse ++ e :: l1.reverse := by rw [q1]; simp
    rw [cvb_vl t1 t2, e9]
    have := fvs_at (w := W) (pl := pl) (nq := nq) (sm := sm) (N := N) (sg := sg) (r := l1.reverse) q2 l2.reverse
    rw [rcn_rev, q3] at this
    rw [this]
    unfold nvs
    rw [if_neg (by omega), if_neg q2]
  · have := lf_st (m := m) (U := U) hq hn hs fm q1 hV hF hst g6
    rw [q3] at this
    exact this
/-- what the game's runs hang on -/
def gcx (M0 : mM) (g p O P L V F Ab0 Be0 : Nat) (ns : Nat → Int) (sf ef : Nat → Nat) (W pl nq : Nat → Int) (sm : Nat → Nat → Prop) (N n : Nat) (nms : List nm9) : Prop := (¬ gaS g Ab0 Be0 O ∧ ¬ gaS g Ab0 Be0 P ∧ O < mZ M0 ∧ P < mZ M0 ∧ F ≤ 60) ∧ NqO W nq n ∧ NmO W pl sm N n nms ∧ FmC M0 p O P L W pl nq sm N n ns sf ef nms ∧ rcn nms = F ∧ vcn nms = V
/-- the machine stands in state k, whose values are sg -/
def gst9 (M : mM) (g V F : Nat) (ns W pl nq : Nat → Int) (sm : Nat → Nat → Prop) (N : Nat) (nms : List nm9) (k : Nat) (sg : Nat → Int) : Prop := mI M (g + 10) 4 = ((12 * k : Nat) : Int) ∧ (∀ v, v < V → mI M (g + 1) (12 * k + v) = sg v) ∧ SgO sg nms ∧ MVp (g + 10) (fvs W pl nq sm N sg nms.reverse) ns F M
theorem gst9.cg {k : Nat} (h : gst9 M g V F ns W pl nq sm N nms k sg) (e10 : ∀ i, i = 4 ∨ i = 9 → mI M' (g + 10) i = mI M (g + 10) i) (e1 : ∀ v, v < V → mI M' (g + 1) (12 * k + v) = mI M (g + 1) (12 * k + v)) (e5 : mI M' (g + 15) = mI M (g + 15)) (e6 : mI M' (g + 16) = mI M (g + 16)) (e7 : mI M' (g + 17) = mI M (g + 17)) : gst9 M' g V F ns W pl nq sm N nms k sg := by
  obtain ⟨h1, h2, h3, h4⟩ := h
  refine ⟨by rw [e10 4 (Or.inl rfl)]; exact h1, fun v hv => by rw [e1 v hv]; exact h2 v hv, h3, fun x hx h7 u => ?_⟩
  have u : mI M' (g + 15) x = mI M' (g + 10) 9 := u
  rw [e5, e10 9 (Or.inr rfl)] at u
  have := h4 x hx h7 u
  show _ = (0, mI M' (g + 16) x, mI M' (g + 17) x)
  rw [e6, e7]
  exact this
theorem gx_O (hx : GX M0 z g p O P K V F1 ns1 sf1 ef1 L cnt Ab0 Be0 C0 M Ab Be C) (cx : gcx M0 g p O P L V F Ab0 Be0 ns sf ef W pl nq sm N n nms) : mI M O = mI M0 O ∧ mI M P = mI M0 P := by
  obtain ⟨⟨a, b, c, e, -⟩, -⟩ := cx
  obtain ⟨-, -, -, -, -, -, -, ⟨f, -⟩, -⟩ := hx
  exact ⟨(f.2 O c).2.2.2.2 a, (f.2 P e).2.2.2.2 b⟩
theorem gx_p (hx : GX M0 z g p O P K V F1 ns1 sf1 ef1 L cnt Ab0 Be0 C0 M Ab Be C) : ∀ i, i ≤ 15 → mI M (p + i) = mI M0 (p + i) := hx.2.2.2.2.2.2.2.2.2
/-- what a run of the game's machine comes to -/
def grQ (M0 : mM) (z g p O P K V F1 : Nat) (ns1 : Nat → Int) (sf1 ef1 : Nat → Nat) (L cnt Ab0 Be0 C0 : Nat) (M : mM) (Ab Be : Nat) (r : Int) (M' : mM) : Prop := i32 r ∧ mOk M' ∧ (r = 0 ∨ r = 1) ∧ ∃ Ab' Be' C', GX M0 z g p O P K V F1 ns1 sf1 ef1 L cnt Ab0 Be0 C0 M' Ab' Be' C' ∧ FA (mcS (g + 10) Ab Be) (fun x => x = g + 10) M M' ∧ (mI M' (g + 10) 9 = mI M (g + 10) 9 ∧ mI M' (g + 10) 4 = mI M (g + 10) 4)
theorem gr_mk {h0 : Nat} {r : Int} (hx : GX M0 z g p O P K V F1 ns1 sf1 ef1 L cnt Ab0 Be0 C0 M Ab Be C) (k : rnQ M z (g + 10) (g + 1) Ab Be C (fun x => x < 60 ∧ 1 = 1) h0 r M') : grQ M0 z g p O P K V F1 ns1 sf1 ef1 L cnt Ab0 Be0 C0 M Ab Be r M' := by
  have ne := hx.ne
  obtain ⟨h1, h2, h3, h4, h5, ⟨h61, h62, h63⟩, h7, h8, h9, h10⟩ := hx
  obtain ⟨p1, -⟩ := id h4
  obtain ⟨o1, o2, -, o4⟩ := p1.2.2.2.1
  obtain ⟨a1, a2, a3, a4⟩ := h3.2.2.2.2.2.1
  obtain ⟨k1, k2⟩ := k
  have hr : r = 0 ∨ r = 1 := k2.imp (fun u => u.1) (fun u => u.1)
  have fin : ∀ {t c : Nat}, MS M z (g + 10) (g + 1) Ab Be C M' t c → grQ M0 z g p O P K V F1 ns1 sf1 ef1 L cnt Ab0 Be0 C0 M Ab Be r M' := fun {t c} hM => by
    obtain ⟨Ab', Be', C', ok, hk, hf, hab, hr', ⟨m8, mt, mb⟩, -, hm⟩ := hM
    have hf9 : FA (gaS g Ab Be) (gaR g) M M' := hf.mono (fun x _ y => by
      have y' : x = g + 10 ∨ x = g + 10 + 2 ∨ (g + 10 + 5 ≤ x ∧ x ≤ g + 10 + 9) ∨ x = Ab ∨ x = Be := y
      show (g ≤ x ∧ x ≤ g + 22) ∨ x = Ab ∨ x = Be
      omega) (fun x _ y => Or.inr y)
    obtain ⟨z1, zA, zB, zU⟩ := h3.2.2.2.2.2.2.1
    obtain ⟨pz0, pz1, pz2⟩ := p1.2.2.2.2.1
    have cl : ∀ i, i ≤ 22 → mK M' (g + i) = mK M (g + i) ∧ mN M' (g + i) = mN M (g + i) := fun i hi => ⟨(hf.2 (g + i) (by omega)).1, (hf.2 (g + i) (by omega)).2.1⟩
    have rg : mR M' g = mR M g := (hf.2 g (by omega)).2.2.2.1 (show ¬ g = g + 10 by omega)
    refine ⟨m_b32 hr, ok, hr, Ab', Be', C', ⟨ok, h2.eq2 cl (fun i _ => by rw [rg]), hk, h4.fa hf9 ne.2.2.2 ne.1 ne.2.1 ne.2.2.1, ⟨by rw [rg]; exact h5.1, by rw [hm.2.2]; exact h5.2⟩, ⟨h61, h62, ?_⟩, k1, h8.trans ⟨hf9, hab, hr'⟩, fun x hx => (k1 x ⟨hx, rfl⟩).1, fun i hi => by rw [(hf9.2 (p + i) (by omega)).2.2.2.2 (ne.1 i hi)]; exact h10 i hi⟩, hf, hm.1, hm.2.1⟩
    clear h1 h2 h3 h4 h5 h7 h8 h9 h10 k1 k2 hk hf hf9 cl rg mb hr' hm hr ne
    omega
  rcases k2 with ⟨e1, f0, t, c, hM⟩ | ⟨e1, hM⟩
  · exact fin hM
  · exact fin hM
theorem gx_env (hx : GX M0 z g p O P K V F1 ns1 sf1 ef1 L cnt Ab0 Be0 C0 M Ab Be C) : Rnv M z (g + 10) Ab Be p O P K L ∧ (¬ mcS (g + 10) Ab Be (g + 1) ∧ g + 1 < mZ M) ∧ V ≤ 12 := by
  obtain ⟨h1, h2, h3, h4, h5, ⟨h61, h62, h63⟩, h7, h8, h9, h10⟩ := hx
  obtain ⟨p1, ⟨p2, p3, p4⟩, ⟨p5, p6⟩, p7, ⟨p8, p9⟩, p10, -⟩ := id h4
  obtain ⟨o1, o2, -, o4⟩ := p1.2.2.2.1
  obtain ⟨a1, a2, a3, a4⟩ := h3.2.2.2.2.2.1
  have zz := h3.2.2.2.2.2.2.1.1
  refine ⟨⟨p1, h5.2, ⟨by omega, h63, by omega, o4, a1, a2⟩, p2, p3, p4⟩, ⟨fun y => ?_, by omega⟩, p6⟩
  have y' : g + 1 = g + 10 ∨ g + 1 = g + 10 + 2 ∨ (g + 10 + 5 ≤ g + 1 ∧ g + 1 ≤ g + 10 + 9) ∨ g + 1 = Ab ∨ g + 1 = Be := y
  omega
theorem gst9.at {k : Nat} (st : gst9 M g V F ns W pl nq sm N nms k sg) (hv : vcn nms = V) : ∀ v, v < vcn nms → mI M (g + 1) ((mI M (g + 10) 4).toNat + v) = sg v := fun v hv' => by
  rw [st.1, Int.toNat_natCast]
  exact st.2.1 v (by omega)
theorem gst9.run {k : Nat} {r : Int} (st : gst9 M g V F ns W pl nq sm N nms k sg) (hx : GX M0 z g p O P K V F1 ns1 sf1 ef1 L cnt Ab0 Be0 C0 M Ab Be C) (q : grQ M0 z g p O P K V F1 ns1 sf1 ef1 L cnt Ab0 Be0 C0 M Ab Be r M') (hv : MVp (g + 10) (fvs W pl nq sm N sg nms.reverse) ns F M') : gst9 M' g V F ns W pl nq sm N nms k sg := by
  obtain ⟨-, -, -, Ab', Be', C', -, f, -, e4⟩ := q
  obtain ⟨ce, -⟩ := ga_ce hx f
  exact ⟨by rw [e4]; exact st.1, fun v hv => by rw [ce 1 (by omega)]; exact st.2.1 v hv, st.2.2.1, hv⟩
/-- a rule is worked out in a state -/
theorem x_Ga_run {k i j s : Nat} (hF : FMx G) (hx : GX M0 z g p O P K V F1 ns1 sf1 ef1 L cnt Ab0 Be0 C0 M Ab Be C) (cx : gcx M0 g p O P L V F Ab0 Be0 ns sf ef W pl nq sm N n nms) (st : gst9 M g V F ns W pl nq sm N nms k sg) (ru : RuC M0 O P L W pl nq sm n ns ef nms i j s) : Ci G y_Ma_run (d + 4) [vr (g + 10), vi s] M (fun r M' => grQ M0 z g p O P K V F1 ns1 sf1 ef1 L cnt Ab0 Be0 C0 M Ab Be r M' ∧ rnx (g + 10) (vlq W (cvs W pl nq sm N sg nms.reverse) pl 0 0 i j) r M' ∧ gst9 M' g V F ns W pl nq sm N nms k sg) := by
  obtain ⟨env, hU, V12⟩ := gx_env hx
  have F60 := cx.1.2.2.2.2
  obtain ⟨eO, eP⟩ := gx_O hx cx
  have ep := gx_p hx
  obtain ⟨-, hq, hn, fm, hrc, hvc⟩ := id cx
  have fm' := fm.cg (ep 6 (by omega)) (ep 7 (by omega)) (ep 8 (by omega)) eO eP
  obtain ⟨r, l, ec, e, u1, u2, u3, u4, u5, u6, u7, u8, u9⟩ := ru
  have hst := st.at hvc
  have rl : rcn nms = rcn r + rcn l := by rw [u1, rcn_app]
  have fr := fr_st (m := g + 10) (U := g + 1) (X := fun x => x < 60 ∧ 1 = 1) hq hn st.2.2.1 fm' (by omega) (by omega) hst (fun x hx => ⟨hx, rfl⟩)
  have lf := lf_st (m := g + 10) (U := g + 1) hq hn st.2.2.1 fm' u1 (by omega) (by omega) hst u5
  rw [hrc] at fr
  refine (x_Ma_runw (H := rcn r) (F0 := F) (by omega) hF hx.1 hx.2.2.1 hx.2.2.2.2.2.2.1 st.2.2.2 env F60 hU fr u6 lf u2 u4 (by rw [eO, eP]; exact u7) u8 (by rw [eO]; exact u9)).mono (fun r' M' k => ?_)
  obtain ⟨k1, k2, k3⟩ := k
  have q := gr_mk hx k1
  rw [vls_r u1 u2 u3 u4] at k2
  exact ⟨q, k2, st.run hx q k3⟩
theorem stq_cg {cv cv' : Nat → vrs} {lo hi : Nat → Int} : ∀ (l : List (Nat × Nat × Nat × Nat)) (nx : Nat → Int), (∀ q, q ∈ l → vlq W cv pl 0 0 q.2.1 q.2.2.1 = vlq W cv' pl 0 0 q.2.1 q.2.2.1) → stq9 W cv pl lo hi l nx = stq9 W cv' pl lo hi l nx
  | [], nx, _ => rfl
  | q :: l, nx, h => by
    rw [stq9, stq9, h q List.mem_cons_self]
    rw [stq_cg l _ (fun q' h' => h q' (List.mem_cons_of_mem _ h'))]
/-- a branch's sets are worked out in a state -/
theorem x_Ga_runs {k s : Nat} {l : List (Nat × Nat × Nat × Nat)} {nx : Nat → Int} (hF : FMx G) (hx : GX M0 z g p O P K V F1 ns1 sf1 ef1 L cnt Ab0 Be0 C0 M Ab Be C) (cx : gcx M0 g p O P L V F Ab0 Be0 ns sf ef W pl nq sm N n nms) (st : gst9 M g V F ns W pl nq sm N nms k sg) (ru : SeC M0 O P L V W pl nq sm n ns ef nms l s) (hnx : ∀ j, j < 12 → mI M (g + 12) j = nx j) : Ci G y_Ma_run (d + 4) [vr (g + 10), vi s] M (fun r M' => grQ M0 z g p O P K V F1 ns1 sf1 ef1 L cnt Ab0 Be0 C0 M Ab Be r M' ∧ ((r = 0 ∧ (stq9 W (cvs W pl nq sm N sg nms.reverse) pl (mI M0 (p + 3)) (mI M0 (p + 4)) l nx).1.1 ≠ 0 ∧ mI M' (g + 10) 1 = (stq9 W (cvs W pl nq sm N sg nms.reverse) pl (mI M0 (p + 3)) (mI M0 (p + 4)) l nx).1.1 ∧ mI M' (g + 10) 2 = (stq9 W (cvs W pl nq sm N sg nms.reverse) pl (mI M0 (p + 3)) (mI M0 (p + 4)) l nx).1.2) ∨ (r = 1 ∧ (stq9 W (cvs W pl nq sm N sg nms.reverse) pl (mI M0 (p + 3)) (mI M0 (p + 4)) l nx).1.1 = 0 ∧ ∀ j, j < 12 → mI M' (g + 12) j = (stq9 W (cvs W pl nq sm N sg nms.reverse) pl (mI M0 (p + 3)) (mI M0 (p + 4)) l nx).2 j)) ∧ gst9 M' g V F ns W pl nq sm N nms k sg) := by
  obtain ⟨env, hU, V12⟩ := gx_env hx
  have F60 := cx.1.2.2.2.2
  obtain ⟨eO, eP⟩ := gx_O hx cx
  have ep := gx_p hx
  obtain ⟨-, hq, hn, fm, hrc, hvc⟩ := id cx
  have fm' := fm.cg (ep 6 (by omega)) (ep 7 (by omega)) (ep 8 (by omega)) eO eP
  obtain ⟨r, l', e, u1, u2, u6, u7, u8, u9⟩ := ru
  have hst := st.at hvc
  have rl : rcn nms = rcn r + rcn l' := by rw [u1, rcn_app]
  have fr := fr_st (m := g + 10) (U := g + 1) (X := fun x => x < 60 ∧ 1 = 1) hq hn st.2.2.1 fm' (by omega) (by omega) hst (fun x hx => ⟨hx, rfl⟩)
  have lf := fun (ec : Nat → Int × Int) (u5 : LfC W nq sm n r ec) => lf_st (m := g + 10) (U := g + 1) hq hn st.2.2.1 fm' u1 (by omega) (by omega) hst u5
  rw [hrc] at fr
  have ecg := stq_cg (W := W) (pl := pl) (cv := cvs W pl nq sm N sg nms.reverse) (cv' := cvb W pl nq sm N sg n r.reverse) (lo := mI M0 (p + 3)) (hi := mI M0 (p + 4)) l nx (fun q hq' => (vls_r u1 (u2 q hq').1 (u2 q hq').2.1 (u2 q hq').2.2.1).symm)
  rw [ecg]
  refine (x_Ma_runt (Φ := LfC W nq sm n r) (H := rcn r) (F0 := F) (lo := mI M0 (p + 3)) (hi := mI M0 (p + 4)) (by omega) hF hx.1 hx.2.2.1 hx.2.2.2.2.2.2.1 st.2.2.2 env F60 hU fr u6 lf (fun v _ => by rw [ep 3 (by omega)]) (fun v _ => by rw [ep 4 (by omega)]) (fun q h' => ⟨(u2 q h').1, (u2 q h').2.2.1, by have := (u2 q h').2.2.2.1; omega, (u2 q h').2.2.2.2⟩) (by rw [eO, eP]; exact u7) u8 (by rw [eO]; exact u9) hnx).mono (fun r' M' k => ?_)
  obtain ⟨k1, k2, k3⟩ := k
  have q := gr_mk hx k1
  exact ⟨q, k2, st.run hx q k3⟩
theorem x_Ga_machineFault (hO : mOk M) (hk : mK M g = 7) (hr : mR M g 15 = g + 10) (hm : mK M (g + 10) = 5) : Ci G y_Ga_machineFault d [vr g] M (fun r M' => i32 r ∧ r = mI M (g + 10) 1 ∧ plQ M g M' ∧ mI M' g 10 = mI M (g + 10) 2) := by
  refine k_Ga_machineFault hO ⟨hk, by rw [hr]; exact hm, fun M3 e3 => ?_⟩
  have f3 : FI (fun x => x = g) M M3 := by rw [e3]; exact FI.ui rfl
  have o3 : mOk M3 := by rw [e3]; exact mOk_UI hO (hO _ _).1
  rw [f3.1, f3.2.2.1, hr]
  refine ⟨hm, (o3 _ _).1, by rw [f3.2.2.2.2.2.2 (g + 10) (show ¬ g + 10 = g by omega)], ⟨o3, f3, fun i hi => ?_⟩, by rw [mI_ui g 10 e3, if_pos ⟨rfl, rfl⟩, hr]⟩
  rw [mI_ui g i e3, if_neg (fun u => hi u.2)]
end GBA
end
