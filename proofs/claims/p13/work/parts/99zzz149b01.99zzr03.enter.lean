/-! The class's game, exactly: a state is entered. -/
/-- the hash of a state -/
def hq9 (f : Nat → Int) : Nat → Int
  | 0 => 0
  | i + 1 => w32 (hq9 f i * 31 + f i)
def hs9 (f : Nat → Int) (V : Nat) : Nat := (andI (xorI (hq9 f V) (ushrI (hq9 f V) 15)) 1023).toNat
theorem hq9_cg {f f' : Nat → Int} : ∀ {V : Nat}, (∀ v, v < V → f v = f' v) → hq9 f V = hq9 f' V
  | 0, _ => rfl
  | V + 1, h => by
    show w32 (hq9 f V * 31 + f V) = w32 (hq9 f' V * 31 + f' V)
    rw [hq9_cg (fun v hv => h v (by omega)), h V (by omega)]
theorem hs9_cg {f f' : Nat → Int} {V : Nat} (h : ∀ v, v < V → f v = f' v) : hs9 f V = hs9 f' V := by
  unfold hs9
  rw [hq9_cg h]
theorem SLq.cg {sl : Nat → Int} {hs hs' : Nat → Nat} {n : Nat} (h : SLq sl hs n) (e : ∀ k, k < n → hs k = hs' k) : SLq sl hs' n := ⟨h.1, fun k hk => by rw [← e k hk]; exact h.2.1 k hk, h.2.2⟩
/-- the slots tell the states, and these are all different -/
def SLm (M : mM) (g V cn : Nat) : Prop := SLq (mI M (g + 20)) (fun k => hs9 (fun v => mI M (g + 1) (12 * k + v)) V) cn ∧ ∀ i j, i < cn → j < cn → (∀ v, v < V → mI M (g + 1) (12 * i + v) = mI M (g + 1) (12 * j + v)) → i = j
/-- state k is the next one -/
def mtk (M : mM) (g V k : Nat) : Prop := ∀ v, v < V → mI M (g + 1) (12 * k + v) = mI M (g + 10 + 2) v
def enX (M : mM) (g V cn : Nat) (r : Int) (M' : mM) : Prop := (∃ k : Nat, k < cn ∧ mtk M g V k ∧ r = (k : Int) ∧ M' = M) ∨ ((∀ k, k < cn → ¬ mtk M g V k) ∧ ((cn = 512 ∧ r = -1 ∧ M' = M) ∨ (cn < 512 ∧ r = (cn : Int) ∧ mI M' g 0 = ((cn + 1 : Nat) : Int) ∧ SLm M' g V (cn + 1) ∧ (∀ v, v < 12 → mI M' (g + 1) (12 * cn + v) = mI M (g + 10 + 2) v) ∧ ∀ j, j < 12 * cn → mI M' (g + 1) j = mI M (g + 1) j)))
section GAW
variable {G : mG} {d z g p O P K V F L cnt U w9 Ab Be C Ab0 Be0 C0 cn k : Nat} {M0 M : mM} {ns : Nat → Int} {sf ef : Nat → Nat}
theorem x_en51 {h : Nat} (hx : GY U w9 M0 z g p O P K V F ns sf ef L cnt Ab0 Be0 C0 M Ab Be C) (hc : mI M g 0 = ((cn : Nat) : Int)) (hcn : cn ≤ 512) (sm : SLm M g V cn) (hh : h = hs9 (fun v => mI M (g + 10 + 2) v) V) : ∀ (t i : Nat), 1024 ≤ i + t → i ≤ 1024 → (∀ t', t' < i → ∃ k : Nat, k < cn ∧ mI M (g + 20) ((h + t') % 1024) = (k : Int) ∧ ¬ mtk M g V k) → h_Ga_enter_51 G (d + 1) g (((h + i) % 1024 : Nat) : Int) i M (fun r M' => enG U w9 M0 z g p O P K V F ns sf ef L cnt Ab0 Be0 C0 M Ab Be C cn r M' ∧ enX M g V cn r M') := by
  have hs : SLt M g cn := fun i hi => (sm.1.1 i hi).imp id (fun ⟨k, k1, k2⟩ => ⟨by omega, by omega⟩)
  have hV : V ≤ 12 := hx.2.2.2.1.2.2.1.2
  have md : ∀ x : Nat, x % 1024 < 1024 := fun x => Nat.mod_lt _ (by decide)
  obtain ⟨h1, h2, h3, h4, h5, -⟩ := id hx
  obtain ⟨g0, ⟨g1, -, -, -, -, -, -, -, -, g15, g16, -⟩, ⟨k1, -, -, -, -, -, -, -, -, k20, -⟩, ⟨n1, -, -, -, -, -, -, -, -, n20, -⟩⟩ := h2
  have m0 := h3.1
  have m5 := h3.2.1.2.1
  have km := h3.2.2.1.2.1
  have nm := h3.2.2.2.1.1
  -- a new state
  have new : ∀ {sl i : Nat}, sl < 1024 → i < 1024 → sl = (h + i) % 1024 → mI M (g + 20) sl = -1 → (∀ t, t < i → mI M (g + 20) ((h + t) % 1024) ≠ -1) → (∀ k, k < cn → ¬ mtk M g V k) → mK M g = 7 ∧ ((mI M g 0 = 512) → (enG U w9 M0 z g p O P K V F ns sf ef L cnt Ab0 Be0 C0 M Ab Be C cn (-1) M ∧ enX M g V cn (-1) M)) ∧ (¬ (mI M g 0 = 512) → (mK M (mR M g 16) = 30 ∧ ((0 : Int) ≤ sl ∧ (sl : Int) < (mN M (mR M g 16) : Int)) ∧ ∀ M23, M23 = mUI M (mR M g 16) (Int.toNat sl) (mI M g 0) → mK M23 (mR M23 g 15) = 5 ∧ mK M23 (mR M23 (mR M23 g 15) 5) = 30 ∧ mK M23 (mR M23 g 1) = 30 ∧ ((0 : Int) ≤ 0 ∧ (0 : Int) ≤ (mI M23 g 0) * 12 ∧ (0 : Int) ≤ 12 ∧ 0 + 12 ≤ (mN M23 (mR M23 (mR M23 g 15) 5) : Int) ∧ ((mI M23 g 0) * 12) + 12 ≤ (mN M23 (mR M23 g 1) : Int)) ∧ ∀ M29, M29 = mCpy M23 (mR M23 (mR M23 g 15) 5) (mR M23 g 1) 0 (Int.toNat ((mI M23 g 0) * 12)) 12 → i32 ((mI M29 g 0) + 1) ∧ ∀ M32, M32 = mUI M29 g 0 ((mI M29 g 0) + 1) → enG U w9 M0 z g p O P K V F ns sf ef L cnt Ab0 Be0 C0 M Ab Be C cn ((mI M32 g 0) - 1) M32 ∧ enX M g V cn ((mI M32 g 0) - 1) M32)) := fun {sl i9} hsl hi9 esl fsl bsl nom => by
    refine ⟨g0, fun y => ⟨⟨hx, FI.refl, fun _ _ => rfl, cn, hc, Nat.le_refl _, hcn, hs, Or.inl rfl, ⟨by decide, by decide⟩, fun _ => by omega⟩, Or.inr ⟨nom, Or.inl ⟨by omega, rfl, rfl⟩⟩⟩, fun y => ?_⟩
    rw [g16, n20, Int.toNat_natCast, hc]
    refine ⟨k20, by omega, fun M23 e23 => ?_⟩
    have f23 : FI (fun x => x = g + 20) M M23 := by rw [e23]; exact FI.ui rfl
    have c23 : mI M23 g 0 = ((cn : Nat) : Int) := by rw [f23.2.2.2.2.2.2 g (show ¬ g = g + 20 by omega)]; exact hc
    rw [f23.1, f23.2.1, f23.2.2.1, g15, m5, g1, n1, nm, c23]
    refine ⟨m0, km, k1, ⟨by omega, by omega, by omega, by omega, by omega⟩, fun M29 e29 => ?_⟩
    have f29 : FI (fun x => x = g + 1) M23 M29 := by
      rw [e29]
      refine ⟨rfl, rfl, rfl, rfl, rfl, rfl, fun x hx => ?_⟩
      funext j
      exact if_neg (fun u => hx u.1)
    have c29 : mI M29 g 0 = ((cn : Nat) : Int) := by rw [f29.2.2.2.2.2.2 g (show ¬ g = g + 1 by omega)]; exact c23
    rw [c29]
    refine ⟨⟨by omega, by omega⟩, fun M32 e32 => ?_⟩
    have f32 : FI (fun x => x = g) M29 M32 := by rw [e32]; exact FI.ui rfl
    have c32 : mI M32 g 0 = ((cn + 1 : Nat) : Int) := by rw [mI_ui g 0 e32, if_pos ⟨rfl, rfl⟩]; omega
    have ff : FI (fun x => x = g ∨ x = g + 1 ∨ x = g + 20) M M32 := ((f23.mono (fun _ y => Or.inr (Or.inr y))).trans (f29.mono (fun _ y => Or.inr (Or.inl y)))).trans (f32.mono (fun _ y => Or.inl y))
    have o32 : mOk M32 := by rw [e32]; exact mOk_UI (by rw [e29]; exact mOk_Cpy (by rw [e23]; exact mOk_UI h1 ⟨by omega, by omega⟩)) ⟨by omega, by omega⟩
    rw [c32]
    have n32 : ∀ j, mI M32 (g + 1) j = if 12 * cn ≤ j ∧ j < 12 * cn + 12 then mI M (g + 10 + 2) (j - 12 * cn) else mI M (g + 1) j := fun j => by
      rw [f32.2.2.2.2.2.2 _ (show ¬ g + 1 = g by omega), e29]
      show (if g + 1 = g + 1 ∧ Int.toNat (((cn : Nat) : Int) * 12) ≤ j ∧ j < Int.toNat (((cn : Nat) : Int) * 12) + 12 then mI M23 (g + 10 + 2) (0 + (j - Int.toNat (((cn : Nat) : Int) * 12))) else mI M23 (g + 1) j) = _
      rw [show Int.toNat (((cn : Nat) : Int) * 12) = 12 * cn by omega, f23.2.2.2.2.2.2 _ (show ¬ g + 10 + 2 = g + 20 by omega), f23.2.2.2.2.2.2 _ (show ¬ g + 1 = g + 20 by omega), Nat.zero_add]
      by_cases y3 : 12 * cn ≤ j ∧ j < 12 * cn + 12
      · rw [if_pos ⟨rfl, y3⟩, if_pos y3]
      · rw [if_neg (fun q => y3 q.2), if_neg y3]
    have s32 : ∀ j, mI M32 (g + 20) j = if j = sl then ((cn : Nat) : Int) else mI M (g + 20) j := fun j => by
      rw [f32.2.2.2.2.2.2 _ (show ¬ g + 20 = g by omega), f29.2.2.2.2.2.2 _ (show ¬ g + 20 = g + 1 by omega), mI_ui _ j e23]
      by_cases y3 : j = sl
      · rw [if_pos ⟨rfl, y3⟩, if_pos y3]
      · rw [if_neg (fun q => y3 q.2), if_neg y3]
    have old : ∀ k v, k < cn → v < V → mI M32 (g + 1) (12 * k + v) = mI M (g + 1) (12 * k + v) := fun k v hk hv => by
      rw [n32, if_neg (by omega)]
    have nw : ∀ v, v < 12 → mI M32 (g + 1) (12 * cn + v) = mI M (g + 10 + 2) v := fun v hv => by
      rw [n32, if_pos (by omega), show 12 * cn + v - 12 * cn = v by omega]
    have sq : SLm M32 g V (cn + 1) := by
      refine ⟨SLq.put (h := h) (t := i9) (sl := mI M (g + 20)) (sm.1.cg (fun k hk => hs9_cg (fun v hv => (old k v hk hv).symm))) ?_ hi9 (by rw [← esl]; exact fsl) bsl (fun j _ => by rw [s32, esl]), fun i j hi hj eq => ?_⟩
      · show hs9 (fun v => mI M32 (g + 1) (12 * cn + v)) V % 1024 = h % 1024
        rw [hh, hs9_cg (f := fun v => mI M32 (g + 1) (12 * cn + v)) (f' := fun v => mI M (g + 10 + 2) v) (fun v hv => nw v (by omega))]
      · by_cases yi : i = cn <;> by_cases yj : j = cn
        · omega
        · refine absurd (fun v hv => ?_) (nom j (by omega))
          rw [← old j v (by omega) hv, ← eq v hv, yi]
          exact nw v (by omega)
        · refine absurd (fun v hv => ?_) (nom i (by omega))
          rw [← old i v (by omega) hv, eq v hv, yj]
          exact nw v (by omega)
        · refine sm.2 i j (by omega) (by omega) (fun v hv => ?_)
          rw [← old i v (by omega) hv, ← old j v (by omega) hv]
          exact eq v hv
    refine ⟨?_, Or.inr ⟨nom, Or.inr ⟨by omega, by omega, c32, sq, nw, fun j hj => by rw [n32, if_neg (by omega)]⟩⟩⟩
    refine ⟨hx.fi o32 (ff.mono (fun x y => by
      have y' : x = g ∨ x = g + 1 ∨ x = g + 20 := y
      show (g ≤ x ∧ x ≤ g + 9) ∨ x = g + 12 ∨ (g + 20 ≤ x ∧ x ≤ g + 22)
      omega)), ff, fun i hi => ?_, cn + 1, c32, by omega, by omega, fun i hi => ?_, Or.inr ⟨by omega, by omega⟩, ⟨by omega, by omega⟩, fun t => absurd t (by omega)⟩
    · rw [mI_ui g i e32, if_neg (fun u => hi u.2), f29.2.2.2.2.2.2 g (show ¬ g = g + 1 by omega), f23.2.2.2.2.2.2 g (show ¬ g = g + 20 by omega)]
    · rw [f32.2.2.2.2.2.2 _ (show ¬ g + 20 = g by omega), f29.2.2.2.2.2.2 _ (show ¬ g + 20 = g + 1 by omega), mI_ui _ i e23]
      by_cases y0 : i = sl
      · rw [if_pos ⟨rfl, y0⟩]
        exact Or.inr ⟨by omega, by omega⟩
      · rw [if_neg (fun u => y0 u.2)]
        rcases hs i hi with u | u
        · exact Or.inl u
        · exact Or.inr ⟨u.1, by omega⟩
  have nof : ∀ i, i < 1024 → (∀ t', t' < i → ∃ k : Nat, k < cn ∧ mI M (g + 20) ((h + t') % 1024) = (k : Int) ∧ ¬ mtk M g V k) → mI M (g + 20) ((h + i) % 1024) = -1 → ∀ k, k < cn → ¬ mtk M g V k := fun i hi bf fr k hk mt => by
    have eh : hs9 (fun v => mI M (g + 1) (12 * k + v)) V = h := by rw [hh]; exact hs9_cg mt
    have st := sm.1.step (t := i) hk hi (fun t' ht' => by
      show mI M (g + 20) ((hs9 (fun v => mI M (g + 1) (12 * k + v)) V + t') % 1024) ≠ (k : Int)
      rw [eh]
      obtain ⟨k', a1, a2, a3⟩ := bf t' ht'
      intro w
      rw [a2] at w
      have : k' = k := by omega
      rw [this] at a3
      exact a3 mt)
    have st : mI M (g + 20) ((hs9 (fun v => mI M (g + 1) (12 * k + v)) V + i) % 1024) ≠ -1 := st
    rw [eh] at st
    exact st fr
  intro t
  induction t with
  | zero =>
    intro i hi hi2 bf
    obtain ⟨t0, a1, a2⟩ := sm.1.free (h := h) (by omega)
    obtain ⟨k, k1, k2, -⟩ := bf t0 (by omega)
    rw [k2] at a2
    omega
  | succ t ih =>
    intro i hi hi2 bf
    obtain ⟨sl, esl⟩ : ∃ sl, sl = (h + i) % 1024 := ⟨_, rfl⟩
    have hsl : sl < 1024 := by rw [esl]; exact md _
    have i10 : i < 1024 := by
      by_cases u : i = 1024
      · obtain ⟨t0, a1, a2⟩ := sm.1.free (h := h) (by omega)
        obtain ⟨k, k1, k2, -⟩ := bf t0 (by omega)
        rw [k2] at a2
        omega
      · omega
    rw [← esl]
    refine k_Ga_enter_51 h1 (i32s (by omega) (by omega)) (i32s (by omega) (by omega)) ⟨fun _ => ⟨g0, by rw [g16]; exact k20, by rw [g16, n20]; omega⟩, fun y => ?_, fun y => ?_⟩
    · rw [g16, Int.toNat_natCast] at y
      have fsl : mI M (g + 20) sl = -1 := y.resolve_left (by omega)
      have nn := nof i i10 bf (by rw [← esl]; exact fsl)
      exact new hsl i10 esl fsl (fun t' ht' => by
        obtain ⟨k, k1, k2, -⟩ := bf t' ht'
        rw [k2]
        omega) nn
    rw [g16, Int.toNat_natCast] at y
    have y1 : mI M (g + 20) sl ≠ -1 := fun u => y (Or.inr u)
    obtain ⟨k, kc, ek⟩ := (sm.1.1 sl hsl).resolve_left y1
    rw [g16, n20, Int.toNat_natCast, ek]
    refine ⟨g0, k20, by omega, (x_Ga_isNext hx (by omega)).mono (fun r M' q => ?_)⟩
    obtain ⟨e, hr, hm⟩ := q
    subst e
    rw [g16, n20, ek]
    have ia := i_and (x := (sl : Int) + 1) 10 (by decide) 1023 (by decide) ⟨by decide, by decide⟩
    have p10 : (2 : Int) ^ 10 = 1024 := by decide
    rw [p10] at ia
    have es2 : andI ((sl : Int) + 1) 1023 = (((h + (i + 1)) % 1024 : Nat) : Int) := by rw [ia]; omega
    refine ⟨m_b32 hr, h1, fun r0 => ?_, fun r1 => ⟨g0, k20, by omega, ⟨hx, FI.refl, fun _ _ => rfl, cn, hc, Nat.le_refl _, hcn, hs, Or.inr ⟨by omega, by omega⟩, ⟨by omega, by omega⟩, fun t => absurd t (by omega)⟩, Or.inl ⟨k, kc, hm.mp (by omega), rfl, rfl⟩⟩⟩
    rw [es2, show ((i : Int) + 1) = ((i + 1 : Nat) : Int) by omega]
    refine ih (i + 1) (by omega) (by omega) (fun t' ht' => ?_)
    by_cases y2 : t' = i
    · rw [y2, ← esl]
      exact ⟨k, kc, ek, fun mt => by have := hm.mpr mt; omega⟩
    · exact bf t' (by omega)
theorem x_Ga_enter (hx : GY U w9 M0 z g p O P K V F ns sf ef L cnt Ab0 Be0 C0 M Ab Be C) (hc : mI M g 0 = ((cn : Nat) : Int)) (hcn : cn ≤ 512) (sm : SLm M g V cn) : Ci G y_Ga_enter (d + 2) [vr g] M (fun r M' => enG U w9 M0 z g p O P K V F ns sf ef L cnt Ab0 Be0 C0 M Ab Be C cn r M' ∧ enX M g V cn r M') := by
  obtain ⟨h1, h2, h3, h4, h5, -⟩ := id hx
  obtain ⟨g0, ⟨g1, -, -, -, -, -, -, -, -, g15, g16, -⟩, -, -⟩ := h2
  obtain ⟨p5, p6⟩ := h4.2.2.1
  have m0 := h3.1
  have m5 := h3.2.1.2.1
  have km := h3.2.2.1.2.1
  have nm := h3.2.2.2.1.1
  refine k_Ga_enter h1 ?_
  suffices HH : ∀ (t i : Nat) (x : Int), V ≤ i + t → i ≤ V → i32 x → x = hq9 (fun v => mI M (g + 10 + 2) v) i → h_Ga_enter_4 G (d + 1) g x i M (fun r M' => enG U w9 M0 z g p O P K V F ns sf ef L cnt Ab0 Be0 C0 M Ab Be C cn r M' ∧ enX M g V cn r M') from HH V 0 0 (by omega) (by omega) ⟨by decide, by decide⟩ rfl
  have fin : h_Ga_enter_51 G (d + 1) g (andI (xorI (hq9 (fun v => mI M (g + 10 + 2) v) V) (ushrI (hq9 (fun v => mI M (g + 10 + 2) v) V) 15)) 1023) 0 M (fun r M' => enG U w9 M0 z g p O P K V F ns sf ef L cnt Ab0 Be0 C0 M Ab Be C cn r M' ∧ enX M g V cn r M') := by
    have ia := i_and (x := xorI (hq9 (fun v => mI M (g + 10 + 2) v) V) (ushrI (hq9 (fun v => mI M (g + 10 + 2) v) V) 15)) 10 (by decide) 1023 (by decide) ⟨by decide, by decide⟩
    have p10 : (2 : Int) ^ 10 = 1024 := by decide
    rw [p10] at ia
    have es : andI (xorI (hq9 (fun v => mI M (g + 10 + 2) v) V) (ushrI (hq9 (fun v => mI M (g + 10 + 2) v) V) 15)) 1023 = (((hs9 (fun v => mI M (g + 10 + 2) v) V + 0) % 1024 : Nat) : Int) := by
      unfold hs9
      rw [ia]
      omega
    rw [es]
    exact x_en51 hx hc hcn sm rfl 1024 0 (by omega) (by omega) (fun t' ht' => absurd ht' (by omega))
  intro t
  induction t with
  | zero =>
    intro i x hi hi2 ix ex
    refine k_Ga_enter_4w h1 ix (i32s (by omega) (by omega)) ?_
    rw [h5.1, p5]
    exact ⟨g0, h4.1.1, fun y0 => by rw [ex, show i = V by omega]; exact fin, fun y => absurd y (by omega)⟩
  | succ t ih =>
    intro i x hi hi2 ix ex
    refine k_Ga_enter_4w h1 ix (i32s (by omega) (by omega)) ?_
    rw [h5.1, p5, g15, m5, nm]
    refine ⟨g0, h4.1.1, fun y0 => by rw [ex, show i = V by omega]; exact fin, fun y => ⟨m0, km, by omega, ?_⟩⟩
    rw [show ((i : Int) + 1) = ((i + 1 : Nat) : Int) by omega]
    refine ih (i + 1) _ (by omega) (by omega) i32_w32 ?_
    rw [ex, Int.toNat_natCast]
    rfl
end GAW
