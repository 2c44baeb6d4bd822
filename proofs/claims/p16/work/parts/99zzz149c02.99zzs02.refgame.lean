section
/-! The reference's game in pure words; rules are reached in a state. -/
section RGP
/-- a root, and the words that it stands for -/
def Rtq (ww pl : Nat → Int) (XV : List Int → Int → vrs) (ev : List Int → Nat → Nat → vrs) (M : mM) (g R W T : Nat) (E : Eg9) (n t : Int) (i j : Nat) : Prop := ∃ (n' b f e : Nat) (nv : Nat → Int), (n = (n' : Int) ∧ b ≤ R ∧ (∀ r : Nat, r < b → mI M (g + 13) r ≠ 0 → E.1 r ≤ n') ∧ Ty (nme True M g b W) (tn M g) M g f 0 n' e (fun _ => t) ∧ e ≤ T) ∧ Eo ww 6 i j ∧ Td ww pl nv (so M g) (pm M g) (va M g) (fp M g) (np M g) 0 0 i j n' e ∧ ∀ sg, vlX ww pl (XV sg) nv (i, j) = ev sg i j
/-- a branch -/
def RBr (ww pl : Nat → Int) (XV : List Int → Int → vrs) (ev : List Int → Nat → Nat → vrs) (M : mM) (g R W T : Nat) (E : Eg9) (x : Nat) (br : br9) : Prop := mI M (g + 27) x = br.1 ∧ Rtq ww pl XV ev M g R W T E (mI M (g + 26) x) 0 br.2.1.1 br.2.1.2 ∧ mI M (g + 29) x = ((br.2.2.length : Nat) : Int) ∧ ∃ fs : Nat, mI M (g + 28) x = (fs : Int) ∧ ∀ (i : Nat) (q : Nat × Nat × Nat × Nat), br.2.2[i]? = some q → nt M (g + 30) (fs + i) = ((q.1 : Nat) : Int) ∧ nt M (g + 32) (fs + i) = pl q.2.2.2 ∧ q.1 < W ∧ Rtq ww pl XV ev M g R W T E (nt M (g + 34) (fs + i)) (tn M g (100 + (q.1 : Int))) q.2.1 q.2.2.1
/-- a command -/
def RCm (ww pl : Nat → Int) (XV : List Int → Int → vrs) (ev : List Int → Nat → Nat → vrs) (M : mM) (g R W T : Nat) (E : Eg9) (c : Nat) (cm : cm9) : Prop := ((cm.1 = 1 ∧ mI M (g + 22) c = 0) ∨ (cm.1 = 2 ∧ mI M (g + 22) c ≠ 0)) ∧ mI M (g + 23) c = cm.2.1 ∧ Rtq ww pl XV ev M g R W T E (mI M (g + 24) c) 1 cm.2.2.1.1 cm.2.2.1.2 ∧ mI M (g + 25) c = ((cm.2.2.2.length : Nat) : Int) ∧ ∀ (b : Nat) (x : br9), cm.2.2.2[b]? = some x → RBr ww pl XV ev M g R W T E (8 * c + b) x
/-- the game -/
def GP (ww pl : Nat → Int) (XV : List Int → Int → vrs) (ev : List Int → Nat → Nat → vrs) (M : mM) (g R W C T : Nat) (E : Eg9) (tgI : Nat × Nat) (cms : List cm9) (lo hi : Nat → Int) : Prop := (∀ sg, FmX ww pl (XV sg) M g R E.1) ∧ (∀ sg (r : Nat), r < R → mI M (g + 13) r = 0 → XV sg (r : Int) = vr9 (tn M g r) (mL M (g + 16) r) (mL M (g + 17) r)) ∧ (∀ sg (v : Nat), v < W → XV sg (100 + (v : Int)) = (0, sg.getD v 0, 1)) ∧ (∀ v : Nat, v < W → mI M (g + 19) v = lo v ∧ mI M (g + 20) v = hi v) ∧ Rtq ww pl XV ev M g R W T E (mI M g 17) 1 tgI.1 tgI.2 ∧ cms.length = C ∧ ∀ (c : Nat) (cm : cm9), cms[c]? = some cm → RCm ww pl XV ev M g R W T E c cm
variable {G : mG} {d a g T R W C Z : Nat} {M M' M2 : mM} {E : Eg9} {tg : Int} {ww pl lo hi : Nat → Int} {XV : List Int → Int → vrs} {ev : List Int → Nat → Nat → vrs} {tgI : Nat × Nat} {cms : List cm9} {sg : List Int}
theorem gs_nt (k : Gs M M' g) {q : Nat} (hq : gL9 g q) : nt M' q = nt M q := funext (fun j => (k.2.2 q hq).2 j)
theorem gs_gn (k : Gs M M' g) : Gn M g R W T M' := ⟨fun n _ => ⟨(k.2.2 (g + 1) (by first | exact tLk1 g | exact gLk1 g | omega)).2 n, (k.2.2 (g + 7) (by first | exact tLk7 g | exact gLk7 g | omega)).2 n, (k.2.2 (g + 9) (by first | exact tLk9 g | exact gLk9 g | omega)).2 n, (k.2.2 (g + 11) (by first | exact tLk11 g | exact gLk11 g | omega)).2 n, (k.2.2 (g + 3) (by first | exact tLk3 g | exact gLk3 g | omega)).2 n⟩, fun r _ => ⟨by rw [(k.2.1 13 (by omega) (by omega)).1], by rw [(k.2.1 14 (by omega) (by omega)).1]⟩, fun v _ => by rw [(k.2.1 18 (by omega) (by omega)).1]⟩
theorem Rtq.gs {n t : Int} {i j : Nat} (h : Rtq ww pl XV ev M g R W T E n t i j) (k : Gs M M' g) (hR : R ≤ 60) : Rtq ww pl XV ev M' g R W T E n t i j := by
  obtain ⟨n', b, f, e, nv, ⟨h1, h2, h3, h4, h5⟩, h6, h7, h8⟩ := h
  refine ⟨n', b, f, e, nv, ⟨h1, h2, fun r hr z => h3 r hr (by rw [← (k.2.1 13 (by omega) (by omega)).1]; exact z), (gs_gn (R := R) (W := W) (T := T) k).ty hR h2 h5 h4, h5⟩, h6, ?_, h8⟩
  show Td ww pl nv (nt M' (g + 1)) (nt M' (g + 3)) (nt M' (g + 7)) (nt M' (g + 9)) (nt M' (g + 11)) 0 0 i j n' e
  rw [gs_nt k (q := g + 1) (by omega), gs_nt k (q := g + 3) (by omega), gs_nt k (q := g + 7) (by omega), gs_nt k (q := g + 9) (by omega), gs_nt k (q := g + 11) (by omega)]
  exact h7
theorem RBr.gs {x : Nat} {br : br9} (h : RBr ww pl XV ev M g R W T E x br) (k : Gs M M' g) (hR : R ≤ 60) : RBr ww pl XV ev M' g R W T E x br := by
  obtain ⟨h1, h2, h3, fs, h4, h5⟩ := h
  unfold RBr
  rw [(k.2.1 27 (by omega) (by omega)).1, (k.2.1 26 (by omega) (by omega)).1, (k.2.1 29 (by omega) (by omega)).1, (k.2.1 28 (by omega) (by omega)).1, gs_nt k (q := g + 30) (by omega), gs_nt k (q := g + 32) (by omega), gs_nt k (q := g + 34) (by omega), gs_tn k]
  exact ⟨h1, h2.gs k hR, h3, fs, h4, fun i q hq => ⟨(h5 i q hq).1, (h5 i q hq).2.1, (h5 i q hq).2.2.1, (h5 i q hq).2.2.2.gs k hR⟩⟩
theorem RCm.gs {c : Nat} {cm : cm9} (h : RCm ww pl XV ev M g R W T E c cm) (k : Gs M M' g) (hR : R ≤ 60) : RCm ww pl XV ev M' g R W T E c cm := by
  obtain ⟨h1, h2, h3, h4, h5⟩ := h
  unfold RCm
  rw [(k.2.1 22 (by omega) (by omega)).1, (k.2.1 23 (by omega) (by omega)).1, (k.2.1 24 (by omega) (by omega)).1, (k.2.1 25 (by omega) (by omega)).1]
  exact ⟨h1, h2, h3.gs k hR, h4, fun b x hb => (h5 b x hb).gs k hR⟩
theorem GP.gs (h : GP ww pl XV ev M g R W C T E tgI cms lo hi) (k : Gs M M' g) (hR : R ≤ 60) : GP ww pl XV ev M' g R W C T E tgI cms lo hi := by
  obtain ⟨h1, h2, h3, h4, h5, h6, h7⟩ := h
  refine ⟨fun sg r hr z => ?_, fun sg r hr z => ?_, h3, ?_, ?_, h6, fun c cm hc => (h7 c cm hc).gs k hR⟩
  · rw [(k.2.1 13 (by omega) (by omega)).1] at z
    obtain ⟨n, nv, i, j, e1, e2, e3, e4⟩ := h1 sg r hr z
    refine ⟨n, nv, i, j, by rw [(k.2.1 15 (by omega) (by omega)).1]; exact e1, e2, ?_, e4⟩
    show Td ww pl nv (nt M' (g + 1)) (nt M' (g + 3)) (nt M' (g + 7)) (nt M' (g + 9)) (nt M' (g + 11)) 0 0 i j n (E.1 r)
    rw [gs_nt k (q := g + 1) (by omega), gs_nt k (q := g + 3) (by omega), gs_nt k (q := g + 7) (by omega), gs_nt k (q := g + 9) (by omega), gs_nt k (q := g + 11) (by omega)]
    exact e3
  · rw [(k.2.1 13 (by omega) (by omega)).1] at z
    rw [gs_tn k, (k.2.1 16 (by omega) (by omega)).2, (k.2.1 17 (by omega) (by omega)).2]
    exact h2 sg r hr z
  · rw [(k.2.1 19 (by omega) (by omega)).1, (k.2.1 20 (by omega) (by omega)).1]
    exact h4
  · rw [k.1]
    exact h5.gs k hR
/-- what reaching comes to -/
def reX (v : vrs) (t : Int) (xv : Int → vrs) (a g R W : Nat) (M' : mM) : Prop := fvq M' a v ∨ (mI M' a 16 = 0 ∧ v = vr9 t (mL M' (a + 97) 0) (mL M' (a + 98) 0) ∧ XVq M' a g R W xv)
theorem x_MM_reach {n t : Int} {i j : Nat} (h : GG M a g T R W C Z E tg) (hn : En M a g R W) (hf : ∀ sg, FmX ww pl (XV sg) M g R E.1) (hx : XVq M a g R W (XV sg)) (hr : Rtq ww pl XV ev M g R W T E n t i j) (z16 : mI M a 16 = 0) : Cv G y_MM_reach (d + 5) [vr a, vi n] M (fun M' => mOk M' ∧ reQ M a g T R W C Z E tg t M' ∧ reX (ev sg i j) t (XV sg) a g R W M') := by
  obtain ⟨n', b, f, e, nv, ⟨r1, r2, r3, r4, r5⟩, r6, r7, r8⟩ := hr
  subst r1
  have ev' := h.ev hn
  have w := h.2.1
  have hg := h.2.2.1.2
  have hT := h.2.2.2.2.1
  have hlt := r4.tn.lt
  refine k_MM_reach h.1 (i32s (by omega) (by omega)) ⟨w.1.1, ?_⟩
  rw [h.2.2.1.1]
  refine (x_MM_workOutT (d := d) hx ev' h.2.2.2.2.2.2.2.1.2.2.1 (hf sg) r2 r3 r6 r7 r4 r5).mono (fun M' t' => ?_)
  obtain ⟨o', ⟨E', v'⟩, u'⟩ := t'
  have xr' : xr M a M' := ⟨E'.1, E'.2.2⟩
  have x : xe M a M' := xr'.xe w
  have gs := x.gs w hg
  rw [r8 sg] at u'
  refine ⟨o', o', ⟨xr', x.gg h, ⟨fun r hr q1 q2 => (E'.2.1.2.2.2.2.2.1 r hr).2 trivial q1 q2, fun v hv => ?_⟩, v'⟩, u' z16⟩
  rw [(gs.2.1 19 (by omega) (by omega)).1, (gs.2.1 20 (by omega) (by omega)).1, (E'.gs w).2.2.2.2.2.2]
  exact hn.2 v hv
end RGP
end
section
/-! The reference: a state is entered, exactly. -/
section ENX
variable {G : mG} {d a g T R W C Z : Nat} {M M' : mM} {E : Eg9} {tg : Int} {P S : Nat → Prop} {ww pl lo hi : Nat → Int} {XV : List Int → Int → vrs} {ev : List Int → Nat → Nat → vrs} {tgI : Nat × Nat} {cms : List cm9} {sg : List Int}
theorem x_MM_enter {k : Nat} (h : GG M a g T R W C Z E tg) (hk : k < 512) (hv : ∀ v : Nat, v < W → mI M (g + 19) v ≤ mI M (a + 105) (12 * k + v) ∧ mI M (a + 105) (12 * k + v) ≤ mI M (g + 20) v) : Cv G y_MM_enter d [vr a, vi k] M (fun M' => mOk M' ∧ Mv (fun _ => False) (fun x => x = a + 101 ∨ x = a + 102) M a M' ∧ En M' a g R W ∧ (∀ v : Nat, v < W → mI M' (a + 101) v = mI M (a + 105) (12 * k + v)) ∧ ∀ r : Nat, r < R → mI M' (a + 102) r = 0) := by
  have hO := h.1
  have w := h.2.1
  have hg := h.2.2.1.2
  have hBd := h.2.2.2.2.2.2.2.1.1
  have g6 := h.2.2.2.2.2.1.1
  have g12 := h.2.2.2.2.2.1.2.1
  have r9 := h.2.2.1.1
  have ik : i32 (k : Int) := i32s (by omega) (by omega)
  have no : ∀ q : Nat, False → q ∈ nums a := fun _ z => z.elim
  have gsl : ∀ {Mx : mM}, Mv (fun _ => False) (fun x => x = a + 101 ∨ x = a + 102) M a Mx → Gs M Mx g := fun m => gs_st w hg m no (fun _ z => z.elim) (fun x hx => by omega)
  -- the formulas are forgotten
  have L2 : ∀ (c r : Nat) (M2 : mM), r + c = R → Mv (fun _ => False) (fun x => x = a + 101 ∨ x = a + 102) M a M2 → (∀ v : Nat, v < W → mI M2 (a + 101) v = mI M (a + 105) (12 * k + v)) → (∀ r' : Nat, r' < r → mI M2 (a + 102) r' = 0) → h_MM_enter_38 G d a r M2 (fun M' => mOk M' ∧ Mv (fun _ => False) (fun x => x = a + 101 ∨ x = a + 102) M a M' ∧ En M' a g R W ∧ (∀ v : Nat, v < W → mI M' (a + 101) v = mI M (a + 105) (12 * k + v)) ∧ ∀ r : Nat, r < R → mI M' (a + 102) r = 0) := by
    intro c
    induction c with
    | zero =>
      intro r M2 hr m2 n2 f2
      have er : r = R := by omega
      subst er
      have w2 := m2.2.1
      have gs := gsl m2
      refine k_MM_enter_38 m2.1 (i32s (by omega) (by omega)) ⟨w2.1.1, ?_⟩
      rw [m2.rfl_a w no, r9, gs.1, g6]
      refine ⟨(w2.gp hg).1, fun _ => ⟨m2.1, m2, ⟨fun r hr _ q => absurd (f2 r hr) q, fun v hv' => ?_⟩, n2, f2⟩, fun q => absurd (Int.le_refl _) q⟩
      rw [(gs.2.1 19 (by omega) (by omega)).1, (gs.2.1 20 (by omega) (by omega)).1, n2 v hv']
      exact hv v hv'
    | succ c ih =>
      intro r M2 hr m2 n2 f2
      have w2 := m2.2.1
      have gs := gsl m2
      have A2 : mK M2 (a + 102) = 31 ∧ mN M2 (a + 102) = 60 := w2.1.2.2.2.2.2.2.2.1.2.2.2.1
      refine k_MM_enter_38 m2.1 (i32s (by omega) (by omega)) ⟨w2.1.1, ?_⟩
      rw [show mR M2 a 26 = a + 102 from w2.1.2.2.2.2.1.2.2.2.2.2.2.2.2.2.2.1, m2.rfl_a w no, r9, gs.1, g6, Int.toNat_natCast]
      refine ⟨(w2.gp hg).1, fun q => absurd q (by omega), fun _ => ⟨A2.1, by rw [A2.2]; omega, fun M3 e3 => ?_⟩⟩
      obtain ⟨m3, f3, l3⟩ := mv_cell (v := 0) ⟨by decide, by decide⟩ m2.1 w2 (show a ≤ a + 102 by omega) (offx (a := a) (o := 102) (by decide)) e3
      have nx := ih (r + 1) M3 (by omega) (m2.trans (m3.mono (fun _ z => z.elim) (fun x z => Or.inr z) (fun _ z => z.elim))) (fun v hv' => by rw [f3, if_neg (fun z => by omega)]; exact n2 v hv') (fun r' hr' => ?_)
      · rw [show ((r + 1 : Nat) : Int) = (r : Int) + 1 by omega] at nx
        exact nx
      · rw [f3]
        by_cases z : r' = r
        · rw [if_pos ⟨rfl, z⟩]
        · rw [if_neg (fun y => z y.2)]
          exact f2 r' (by omega)
  refine k_MM_enter hO ik ?_
  suffices L1 : ∀ (c v : Nat) (M2 : mM), v + c = W → Mv (fun _ => False) (fun x => x = a + 101 ∨ x = a + 102) M a M2 → mI M2 (a + 105) = mI M (a + 105) → (∀ v' : Nat, v' < v → mI M2 (a + 101) v' = mI M (a + 105) (12 * k + v')) → h_MM_enter_2 G d a k v M2 (fun M' => mOk M' ∧ Mv (fun _ => False) (fun x => x = a + 101 ∨ x = a + 102) M a M' ∧ En M' a g R W ∧ (∀ v : Nat, v < W → mI M' (a + 101) v = mI M (a + 105) (12 * k + v)) ∧ ∀ r : Nat, r < R → mI M' (a + 102) r = 0) from L1 W 0 M (by omega) (Mv.refl hO w (fun _ z => z.elim)) rfl (fun v hv' => absurd hv' (by omega))
  intro c
  induction c with
  | zero =>
    intro v M2 hc m2 e105 n2
    have ev : v = W := by omega
    subst ev
    have w2 := m2.2.1
    have gs := gsl m2
    refine k_MM_enter_2 m2.1 ik (i32s (by omega) (by omega)) ⟨w2.1.1, ?_⟩
    rw [m2.rfl_a w no, r9, gs.1, g12]
    exact ⟨(w2.gp hg).1, fun _ => L2 R 0 M2 (by omega) m2 n2 (fun r hr => absurd hr (by omega)), fun q => absurd (Int.le_refl _) q⟩
  | succ c ih =>
    intro v M2 hc m2 e105 n2
    have w2 := m2.2.1
    have gs := gsl m2
    have A1 : mK M2 (a + 101) = 30 ∧ mN M2 (a + 101) = 12 := w2.1.2.2.2.2.2.2.2.1.2.2.1
    have A5 : mK M2 (a + 105) = 30 ∧ mN M2 (a + 105) = 6144 := w2.1.2.2.2.2.2.2.2.2.1.1
    have r31 : mR M2 a 31 = a + 105 := w2.1.2.2.2.2.2.1.1
    have r25 : mR M2 a 25 = a + 101 := w2.1.2.2.2.2.1.2.2.2.2.2.2.2.2.2.1
    have e9 : mR M2 a 9 = g := by rw [m2.rfl_a w no]; exact r9
    refine k_MM_enter_2 m2.1 ik (i32s (by omega) (by omega)) ⟨w2.1.1, ?_⟩
    rw [r31, r25, e9, gs.1, g12, Int.toNat_natCast, show 12 * (k : Int) + (v : Int) = ((12 * k + v : Nat) : Int) by omega, Int.toNat_natCast, e105]
    refine ⟨(w2.gp hg).1, fun q => absurd q (by omega), fun _ => ⟨A5.1, by rw [A5.2]; omega, A1.1, by rw [A1.2]; omega, fun M3 e3 => ?_⟩⟩
    obtain ⟨m3, f3, l3⟩ := mv_cell (hO _ _).1 m2.1 w2 (show a ≤ a + 101 by omega) (offx (a := a) (o := 101) (by decide)) e3
    have nx := ih (v + 1) M3 (by omega) (m2.trans (m3.mono (fun _ z => z.elim) (fun x z => Or.inl z) (fun _ z => z.elim))) (by rw [← e105]; exact m3.cell w2 no (by omega) (offx (a := a) (o := 105) (by decide)).2.1 (offx (a := a) (o := 105) (by decide)).2.2 (by omega)) (fun v' hv' => ?_)
    · rw [show ((v + 1 : Nat) : Int) = (v : Int) + 1 by omega] at nx
      exact nx
    · rw [f3]
      by_cases z : v' = v
      · rw [if_pos ⟨rfl, z⟩, z]
      · rw [if_neg (fun y => z y.2)]
        exact n2 v' (by omega)
/-- a state's values -/
def lsR (M : mM) (a W k : Nat) : List Int := (List.range W).map (fun v => mI M (a + 105) (12 * k + v))
theorem getD_mp {V v : Nat} {f : Nat → Int} (h : v < V) : ((List.range V).map f).getD v 0 = f v := by
  rw [List.getD_eq_getElem?_getD, List.getElem?_map, List.getElem?_range h]
  rfl
/-- the state is entered: names are worth what they are worth there -/
theorem xv_ent (h : GG M' a g T R W C Z E tg) (hp : GP ww pl XV ev M' g R W C T E tgI cms lo hi) (h1 : ∀ v : Nat, v < W → mI M' (a + 101) v = sg.getD v 0) (h2 : ∀ r : Nat, r < R → mI M' (a + 102) r = 0) : XVq M' a g R W (XV sg) := by
  refine ⟨fun r hr => ⟨fun z => hp.2.1 sg r hr z, fun _ z => absurd (h2 r hr) z⟩, fun v hv => ?_⟩
  obtain ⟨v1, v2, v3, v4, v5, v6⟩ := h.2.2.2.2.2.2.2.1.2.2.2.1 v hv
  have e : tn M' g (100 + (v : Int)) = mI M' (g + 18) v := by
    unfold tn
    rw [if_pos (show (100 : Int) ≤ 100 + (v : Int) by omega), show (100 + (v : Int) - 100).toNat = v by omega]
    rcases v6 with y | y <;> rw [y] <;> rfl
  rw [hp.2.2.1 sg v hv, e, h1 v hv]
  unfold vr9
  rcases v6 with y | y
  · rw [y]; rfl
  · rw [y]; rfl
/-- a step elsewhere leaves the names' values -/
theorem XVq.mv {xv : Int → vrs} (h : XVq M a g R W xv) (w : Wd M a) (m : Mv P S M a M') (hin : ∀ q, P q → q ∈ nums a) (gs : Gs M M' g) (hS : ∀ x, S x → ¬ (a + 101 ≤ x ∧ x ≤ a + 104)) : XVq M' a g R W xv := by
  have c101 := m.cellL w hin (offx (a := a) (o := 101) (by decide)) (fun z => hS _ z (by omega))
  have c102 := m.cellL w hin (offx (a := a) (o := 102) (by decide)) (fun z => hS _ z (by omega))
  have c103 := m.cellL w hin (offx (a := a) (o := 103) (by decide)) (fun z => hS _ z (by omega))
  have c104 := m.cellL w hin (offx (a := a) (o := 104) (by decide)) (fun z => hS _ z (by omega))
  unfold XVq
  rw [gs_tn gs, c101.1, c102.1, c103.2, c104.2, (gs.2.1 13 (by omega) (by omega)).1, (gs.2.1 16 (by omega) (by omega)).2, (gs.2.1 17 (by omega) (by omega)).2, (gs.2.1 18 (by omega) (by omega)).1]
  exact h
end ENX
end
section
/-! The reference: the chances of a command, exactly. -/
section CHX
variable {G : mG} {d a g T R W C Z nb : Nat} {M M' : mM} {E : Eg9} {tg : Int} {ww pl lo hi : Nat → Int} {XV : List Int → Int → vrs} {ev : List Int → Nat → Nat → vrs} {tgI : Nat × Nat} {cms : List cm9} {sg : List Int}
/-- the first n chances -/
def lchR (M : mM) (a n : Nat) : List (Int × Int) := (List.range n).map (fun b => (mL M (a + 21189) b, mL M (a + 21190) b))
theorem lchR_len {n : Nat} : (lchR M a n).length = n := by
  unfold lchR
  rw [List.length_map, List.length_range]
theorem lchR_s {n : Nat} : lchR M a (n + 1) = lchR M a n ++ [(mL M (a + 21189) n, mL M (a + 21190) n)] := by
  unfold lchR
  rw [List.range_succ, List.map_append]
  rfl
theorem lchR_cg {n : Nat} (h : ∀ b, b < n → mL M' (a + 21189) b = mL M (a + 21189) b ∧ mL M' (a + 21190) b = mL M (a + 21190) b) : lchR M' a n = lchR M a n := by
  unfold lchR
  exact List.map_congr_left (fun b hb => by rw [(h b (List.mem_range.mp hb)).1, (h b (List.mem_range.mp hb)).2])
theorem lchR_get {n b : Nat} (h : b < n) : (lchR M a n)[b]? = some (mL M (a + 21189) b, mL M (a + 21190) b) := by
  unfold lchR
  rw [List.getElem?_map, List.getElem?_range h]
  rfl
theorem lchR_drop {n b : Nat} (h : b < n) : (lchR M a n).drop b = (mL M (a + 21189) b, mL M (a + 21190) b) :: (lchR M a n).drop (b + 1) := by
  obtain ⟨hl, he⟩ := List.getElem?_eq_some_iff.mp (lchR_get (M := M) (a := a) h)
  rw [List.drop_eq_getElem_cons hl, he]
theorem gcd_un {x A B : Int} (h1 : 1 ≤ x) (h2 : x ∣ A) (h3 : x ∣ B) (h4 : ∀ z : Int, z ∣ A → z ∣ B → z ∣ x) : x = (Int.gcd A B : Int) := by
  have d1 : x ∣ (Int.gcd A B : Int) := Int.dvd_coe_gcd h2 h3
  have d2 : (Int.gcd A B : Int) ∣ x := h4 _ (Int.gcd_dvd_left ..) (Int.gcd_dvd_right ..)
  exact Int.dvd_antisymm (by omega) (by omega) d1 d2
theorem Gs.trans {M2 : mM} (h : Gs M M2 g) (k : Gs M2 M' g) : Gs M M' g := ⟨k.1.trans h.1, fun i i1 i2 => ⟨(k.2.1 i i1 i2).1.trans (h.2.1 i i1 i2).1, (k.2.1 i i1 i2).2.trans (h.2.1 i i1 i2).2⟩, fun q hq => ⟨(k.2.2 q hq).1.trans (h.2.2 q hq).1, fun j => ((k.2.2 q hq).2 j).trans ((h.2.2 q hq).2 j)⟩⟩
/-- a fault of chances -/
def chE (ch : (Int × Int) × List (Int × Int)) (pc : Int) (M' : mM) (a : Nat) : Prop := (ch.1.1 ≠ 0 ∧ mI M' a 16 = ch.1.1 ∧ mI M' a 17 = ch.1.2) ∨ (ch.1.1 = 0 ∧ muq9 ch.2 1 = 0 ∧ mI M' a 16 = 6 ∧ mI M' a 17 = pc)
/-- what chances come to -/
def chY (ch : (Int × Int) × List (Int × Int)) (pc : Int) (nb : Nat) (xv : Int → vrs) (a g R W : Nat) (x : Int) (M' : mM) : Prop := chE ch pc M' a ∨ (ch.1.1 = 0 ∧ muq9 ch.2 1 ≠ 0 ∧ mI M' a 16 = 0 ∧ x = muq9 ch.2 1 ∧ lchR M' a nb = ch.2 ∧ XVq M' a g R W xv)
theorem x_ch129 {c nb : Nat} {pc : Int} {xv : Int → vrs} {ch : (Int × Int) × List (Int × Int)} (hc : c < C) (ipl : i32 pc) (hnb : nb ≤ 8) : ∀ (t b : Nat) (j : Int) (M2 : mM), b + t = nb → xg M a g T R W C Z E tg M2 → mI M2 (g + 25) c = (nb : Int) → i64 j → (mI M2 a 16 = 0 → chk1 M2 a nb ∧ 1 ≤ j ∧ j < 1000000000 ∧ ∀ b' : Nat, b' < b → mL M2 (a + 21190) b' ∣ j) → (mI M2 a 16 = 0 → ch = ((0, 0), lchR M2 a nb) ∧ muq9 ch.2 1 = muq9 (ch.2.drop b) j ∧ XVq M2 a g R W xv) → (mI M2 a 16 ≠ 0 → chE ch pc M2 a) → h_MM_chances_129 G d a c pc j b M2 (fun x M' => i64 x ∧ mOk M' ∧ chQ M a g T R W C Z E tg nb x M' ∧ chY ch pc nb xv a g R W x M') := by
  intro t
  induction t with
  | zero =>
    intro b j M2 hb h h25 ij hj hz hf
    have eb : b = nb := by omega
    subst eb
    have gg := h.2.1
    have w2 := gg.2.1
    have hg := gg.2.2.1.2
    have hBd := gg.2.2.2.2.2.2.2.1.1
    refine k_MM_chances_129 gg.1 (i32s (by omega) (by omega)) ipl ij (i32s (by omega) (by omega)) ⟨w2.1.1, ?_⟩
    rw [gg.2.2.1.1, show mR M2 g 22 = g + 25 from (w2.gp hg).2.2.1.2.2.2.2.2.2.2.1, Int.toNat_natCast, h25]
    have b60 : ((0 : Int) ≤ (c : Int) ∧ (c : Int) < ((60 : Nat) : Int)) := by omega
    refine ⟨(w2.gp hg).1, (w2.gp hg).2.2.2.2.2.2.2.2.1.1, by rw [(w2.gp hg).2.2.2.2.2.2.2.2.1.2]; exact b60, fun _ => ⟨ij, gg.1, ⟨ij, h, ?_⟩, ?_⟩, fun q => absurd (Or.inl (Int.le_refl _)) q⟩
    · by_cases z : mI M2 a 16 = 0
      · exact Or.inr ⟨z, hj z⟩
      · exact Or.inl z
    · by_cases z : mI M2 a 16 = 0
      · obtain ⟨z1, z2, z3⟩ := hz z
        obtain ⟨-, j1, -⟩ := hj z
        have e2 : ch.2 = lchR M2 a b := by rw [z1]
        have e3 : muq9 ch.2 1 = j := by
          rw [z2, e2, List.drop_eq_nil_of_le (by rw [lchR_len]; exact Nat.le_refl _)]
          rfl
        exact Or.inr ⟨by rw [z1], by rw [e3]; omega, z, e3.symm, e2.symm, z3⟩
      · exact Or.inl (hf z)
  | succ t ih =>
    intro b j M2 hb h h25 ij hj hz hf
    have gg := h.2.1
    have w2 := gg.2.1
    have hg := gg.2.2.1.2
    have hBd := gg.2.2.2.2.2.2.2.1.1
    have b60 : ((0 : Int) ≤ (c : Int) ∧ (c : Int) < ((60 : Nat) : Int)) := by omega
    have b8 : ((0 : Int) ≤ (b : Int) ∧ (b : Int) < ((8 : Nat) : Int)) := by omega
    have ib : i32 (b : Int) := i32s (by omega) (by omega)
    have ic : i32 (c : Int) := i32s (by omega) (by omega)
    have hbn : b < nb := by omega
    refine k_MM_chances_129 gg.1 ic ipl ij ib ⟨w2.1.1, ?_⟩
    rw [gg.2.2.1.1, show mR M2 g 22 = g + 25 from (w2.gp hg).2.2.1.2.2.2.2.2.2.2.1, Int.toNat_natCast, h25, (r4546 w2).1.2, Int.toNat_natCast]
    refine ⟨(w2.gp hg).1, (w2.gp hg).2.2.2.2.2.2.2.2.1.1, by rw [(w2.gp hg).2.2.2.2.2.2.2.2.1.2]; exact b60, fun q => ⟨ij, gg.1, ⟨ij, h, Or.inl ?_⟩, Or.inl (hf ?_)⟩, fun q => ?_⟩
    · rcases q with q | q
      · omega
      · exact q
    · rcases q with q | q
      · omega
      · exact q
    have z2 : mI M2 a 16 = 0 := Classical.byContradiction (fun z => q (Or.inr z))
    obtain ⟨c1, j1, j2, j3⟩ := hj z2
    obtain ⟨z1, zm, zx⟩ := hz z2
    obtain ⟨e1, e2, e3, e4⟩ := c1 b hbn
    refine ⟨(r4546 w2).2.2.1, by rw [(r4546 w2).2.2.2]; exact b8, (s_MM_divisor2 (by omega) ⟨by omega, by omega, by omega⟩ gg.1).mono (fun x M3 h3 => ?_)⟩
    obtain ⟨em, x1, x2, hxa, hxb, hxc⟩ := h3
    have xg9 : x = (Int.gcd j (mL M2 (a + 21190) b) : Int) := gcd_un x1 hxa hxb hxc
    obtain ⟨u, hu⟩ := hxa
    obtain ⟨v, hv⟩ := hxb
    subst em
    have xne : x ≠ 0 := by omega
    have td : Int.tdiv j x = u := by rw [hu]; exact Int.mul_tdiv_cancel_left u xne
    have u0 : 0 < u := by
      by_cases y : 0 < u
      · exact y
      · have := Int.mul_le_mul_of_nonneg_left (show u ≤ 0 by omega) (show 0 ≤ x by omega)
        rw [← hu] at this
        omega
    have u1 : u ≤ j := by
      have := Int.mul_le_mul_of_nonneg_right x1 (show 0 ≤ u by omega)
      rw [← hu] at this
      omega
    have pr : 0 ≤ u * mL M3 (a + 21190) b ∧ u * mL M3 (a + 21190) b ≤ 1000000000 * 1000000000 := ⟨Int.mul_nonneg (by omega) (by omega), Int.mul_le_mul (by omega) (by omega) (by omega) (by omega)⟩
    have p1 : 1 ≤ u * mL M3 (a + 21190) b := by
      have := Int.mul_le_mul (show 1 ≤ u by omega) e3 (by omega) (by omega)
      omega
    have ip : i64 (u * mL M3 (a + 21190) b) := ⟨by omega, by omega⟩
    have dv : ∀ b' : Nat, b' < b + 1 → mL M3 (a + 21190) b' ∣ u * mL M3 (a + 21190) b := fun b' hb' => by
      by_cases y : b' = b
      · rw [y]; exact Int.dvd_mul_left u _
      · refine Int.dvd_trans (j3 b' (by omega)) ?_
        rw [hu, hv, show u * (x * v) = x * u * v by rw [← Int.mul_assoc, Int.mul_comm u x]]
        exact Int.dvd_mul_right (x * u) v
    have uq : j / x = u := by rw [hu]; exact Int.mul_ediv_cancel_left u xne
    have mq : muq9 (ch.2.drop b) j = if 1000000000 ≤ u * mL M3 (a + 21190) b then 0 else muq9 (ch.2.drop (b + 1)) (u * mL M3 (a + 21190) b) := by
      have e2 : ch.2 = lchR M3 a nb := by rw [z1]
      rw [e2, lchR_drop hbn]
      show (if 1000000000 ≤ j / (Int.gcd j (mL M3 (a + 21190) b) : Int) * mL M3 (a + 21190) b then 0 else muq9 ((lchR M3 a nb).drop (b + 1)) (j / (Int.gcd j (mL M3 (a + 21190) b) : Int) * mL M3 (a + 21190) b)) = _
      rw [← xg9, uq]
    rw [(r4546 w2).1.2, td]
    refine ⟨⟨by omega, by omega⟩, gg.1, xne, w2.1.1, (r4546 w2).2.2.1, by rw [(r4546 w2).2.2.2]; exact b8, ip, fun q6 => ?_, fun q6 => ?_⟩
    · refine k_MM_chances_187 gg.1 ic ipl ip ib ?_
      rw [show (b : Int) + 1 = ((b + 1 : Nat) : Int) by omega]
      have q7 := (cmpz _ _).2.2.1.1 q6
      exact ih (b + 1) _ M3 (by omega) h h25 ip (fun _ => ⟨c1, p1, q7, dv⟩) (fun _ => ⟨z1, by rw [zm, mq, if_neg (by omega)], zx⟩) hf
    · refine (s_MM_stop ⟨by decide, by decide⟩ ipl gg.1 w2).mono (fun M4 h4 => ⟨h4.1.1, ?_⟩)
      have X4 := h.stp h4
      refine k_MM_chances_187 h4.1.1 ic ipl ip ib ?_
      rw [show (b : Int) + 1 = ((b + 1 : Nat) : Int) by omega]
      have q7 : 1000000000 ≤ u * mL M3 (a + 21190) b := by
        by_cases y : u * mL M3 (a + 21190) b < 1000000000
        · exact absurd ((cmpz _ _).2.2.1.2 y) q6
        · omega
      refine ih (b + 1) _ M4 (by omega) X4 ?_ ip (fun z => ?_) (fun z => ?_) (fun _ => Or.inr ⟨by rw [z1], by rw [zm, mq, if_pos q7], h4.2.1, h4.2.2.1⟩)
      · have gs := gs_st (P := fun _ => False) (S := fun x => x = a) w2 hg h4.1 (fun _ z => z.elim) (fun _ z => z.elim) (fun x z => by omega)
        rw [(gs.2.1 25 (by omega) (by omega)).1]
        exact h25
      · rw [h4.2.1] at z
        exact absurd z (by decide)
      · rw [h4.2.1] at z
        exact absurd z (by decide)
theorem x_MM_chances {c nb : Nat} {pc : Int} {cm : cm9} (h : GG M a g T R W C Z E tg) (hn : En M a g R W) (hp : GP ww pl XV ev M g R W C T E tgI cms lo hi) (hx : XVq M a g R W (XV sg)) (z16 : mI M a 16 = 0) (hcm : cms[c]? = some cm) (hc : c < C) (ipl : i32 pc) (hnb : mI M (g + 25) c = (nb : Int)) : Cj G y_MM_chances (d + 6) [vr a, vi c, vi pc] M (fun x M' => i64 x ∧ mOk M' ∧ chQ M a g T R W C Z E tg nb x M' ∧ chY (chq9 ev sg cm.2.2.2) pc nb (XV sg) a g R W x M') := by
  have hg := h.2.2.1.2
  have hBd := h.2.2.2.2.2.2.2.1.1
  have nb8 : nb ≤ 8 := by
    have := (h.2.2.2.2.2.2.2.1.2.2.2.2.1 c hc).2.2.1
    omega
  have ic : i32 (c : Int) := i32s (by omega) (by omega)
  refine k_MM_chances h.1 ic ipl ?_
  suffices H : ∀ (t b : Nat) (M2 : mM), b + t = nb → xg M a g T R W C Z E tg M2 → mI M2 (g + 25) c = (nb : Int) → (mI M2 a 16 = 0 → chk1 M2 a b) → (mI M2 a 16 = 0 → chq9 ev sg cm.2.2.2 = ((chq9 ev sg (cm.2.2.2.drop b)).1, lchR M2 a b ++ (chq9 ev sg (cm.2.2.2.drop b)).2) ∧ XVq M2 a g R W (XV sg)) → (mI M2 a 16 ≠ 0 → chE (chq9 ev sg cm.2.2.2) pc M2 a) → h_MM_chances_2 G (d + 5) a c pc b M2 (fun x M' => i64 x ∧ mOk M' ∧ chQ M a g T R W C Z E tg nb x M' ∧ chY (chq9 ev sg cm.2.2.2) pc nb (XV sg) a g R W x M') from H nb 0 M (by omega) ⟨xe.refl h.1 h.2.1, h, hn⟩ hnb (fun _ b' hb' => absurd hb' (by omega)) (fun _ => ⟨rfl, hx⟩) (fun z => absurd z16 z)
  have hR := h.2.2.2.2.2.2.2.1.1.1
  have hlen : cm.2.2.2.length = nb := by
    have e := (hp.2.2.2.2.2.2 c cm hcm).2.2.2.1
    rw [hnb] at e
    omega
  intro t
  induction t with
  | zero =>
    intro b M2 hb x h25 hch hz hf
    have eb : b = nb := by omega
    subst eb
    have gg := x.2.1
    have w2 := gg.2.1
    have b60 : ((0 : Int) ≤ (c : Int) ∧ (c : Int) < ((60 : Nat) : Int)) := by omega
    refine k_MM_chances_2 gg.1 ic ipl (i32s (by omega) (by omega)) ⟨w2.1.1, ?_⟩
    rw [gg.2.2.1.1, show mR M2 g 22 = g + 25 from (w2.gp hg).2.2.1.2.2.2.2.2.2.2.1, Int.toNat_natCast, h25]
    exact ⟨(w2.gp hg).1, (w2.gp hg).2.2.2.2.2.2.2.2.1.1, by rw [(w2.gp hg).2.2.2.2.2.2.2.2.1.2]; exact b60, fun _ => x_ch129 hc ipl nb8 b 0 1 M2 (by omega) x h25 ⟨by decide, by decide⟩ (fun z => ⟨hch z, by decide, by decide, fun b' hb' => absurd hb' (by omega)⟩) (fun z => by
      obtain ⟨z1, z2⟩ := hz z
      have e9 : chq9 ev sg cm.2.2.2 = ((0, 0), lchR M2 a b) := by
        rw [z1, List.drop_eq_nil_of_le (by omega)]
        show ((0, 0), lchR M2 a b ++ []) = _
        rw [List.append_nil]
      exact ⟨e9, by rw [e9]; rfl, z2⟩) hf, fun q => absurd (Or.inl (Int.le_refl _)) q⟩
  | succ t ih =>
    intro b M2 hb x h25 hch hz hf
    have gg := x.2.1
    have w2 := gg.2.1
    have b60 : ((0 : Int) ≤ (c : Int) ∧ (c : Int) < ((60 : Nat) : Int)) := by omega
    have b8 : ((0 : Int) ≤ (b : Int) ∧ (b : Int) < ((8 : Nat) : Int)) := by omega
    have b480 : ((0 : Int) ≤ ((8 * c + b : Nat) : Int) ∧ ((8 * c + b : Nat) : Int) < ((480 : Nat) : Int)) := by omega
    have ib : i32 (b : Int) := i32s (by omega) (by omega)
    have bc := (gg.2.2.2.2.2.2.2.1.2.2.2.2.1 c hc).2.2.2 b (by rw [h25]; omega)
    refine k_MM_chances_2 gg.1 ic ipl ib ⟨w2.1.1, ?_⟩
    rw [gg.2.2.1.1, show mR M2 g 22 = g + 25 from (w2.gp hg).2.2.1.2.2.2.2.2.2.2.1, show mR M2 g 23 = g + 26 from (w2.gp hg).2.2.1.2.2.2.2.2.2.2.2.1, Int.toNat_natCast, h25, show 8 * (c : Int) + (b : Int) = ((8 * c + b : Nat) : Int) by omega, Int.toNat_natCast, Int.toNat_natCast]
    refine ⟨(w2.gp hg).1, (w2.gp hg).2.2.2.2.2.2.2.2.1.1, by rw [(w2.gp hg).2.2.2.2.2.2.2.2.1.2]; exact b60, fun q => ?_, fun q => ⟨(w2.gp hg).2.2.2.2.2.2.2.2.2.1.1, by rw [(w2.gp hg).2.2.2.2.2.2.2.2.2.1.2]; exact b480, ?_⟩⟩
    · have z2 : ¬ (mI M2 a 16 = 0) := by
        rcases q with q | q
        · omega
        · exact q
      exact x_ch129 hc ipl nb8 nb 0 1 M2 (by omega) x h25 ⟨by decide, by decide⟩ (fun z => absurd z z2) (fun z => absurd z z2) hf
    have z2 : mI M2 a 16 = 0 := Classical.byContradiction (fun z => q (Or.inr z))
    have hch := hch z2
    obtain ⟨zq, zx⟩ := hz z2
    obtain ⟨br, hbr⟩ : ∃ br : br9, cm.2.2.2[b]? = some br := ⟨_, List.getElem?_eq_getElem (by omega)⟩
    have gsM : Gs M M2 g := x.1.gs h.2.1 hg
    have rb := ((hp.2.2.2.2.2.2 c cm hcm).2.2.2.2 b br hbr).gs gsM hR
    have dq : cm.2.2.2.drop b = br :: cm.2.2.2.drop (b + 1) := by
      obtain ⟨hl, he⟩ := List.getElem?_eq_some_iff.mp hbr
      rw [List.drop_eq_getElem_cons hl, he]
    rw [dq] at zq
    have hf2 : ∀ sg, FmX ww pl (XV sg) M2 g R E.1 := (hp.gs gsM hR).1
    refine (x_MM_reach (d := d) gg x.2.2 hf2 zx rb.2.1 z2).mono (fun M3 t3 => ?_)
    obtain ⟨o3, ⟨xr3, gg3, en3, v3⟩, u3⟩ := t3
    have x3 := xr3.xe w2
    have X3 : xg M a g T R W C Z E tg M3 := ⟨x.1.trans x3, gg3, en3⟩
    have w3 := gg3.2.1
    have gs3 := x3.gs w2 hg
    have nw : ∀ o, 21188 ≤ o → ¬ woS a (a + o) := fun o ho z => by
      have z' : a + o = a ∨ a + o = a + 97 ∨ a + o = a + 98 ∨ a + o = a + 102 ∨ a + o = a + 103 ∨ a + o = a + 104 := z
      omega
    have k89 := (xr3.1.cellL w2 in99 (offx (a := a) (o := 21189) (by decide)) (nw _ (by omega))).2
    have k90 := (xr3.1.cellL w2 in99 (offx (a := a) (o := 21190) (by decide)) (nw _ (by omega))).2
    have B3 : mR M3 a 21 = a + 97 ∧ mR M3 a 22 = a + 98 := ⟨w3.1.2.2.2.2.1.2.2.2.2.2.2.1, w3.1.2.2.2.2.1.2.2.2.2.2.2.2.1⟩
    have A3 : (mK M3 (a + 97) = 33 ∧ mN M3 (a + 97) = 16400) ∧ (mK M3 (a + 98) = 33 ∧ mN M3 (a + 98) = 16400) := ⟨w3.1.2.2.2.2.2.2.2.1.1, w3.1.2.2.2.2.2.2.2.1.2.1⟩
    rw [B3.1, (r4546 w3).1.1]
    refine ⟨o3, w3.1.1, A3.1.1, by rw [A3.1.2]; decide, (r4546 w3).2.1.1, by rw [(r4546 w3).2.1.2]; exact b8, fun M4 e4 => ?_⟩
    obtain ⟨m4, f4, n4, i4⟩ := mv_ulx (o3 _ _).2 o3 w3 e4
    have X4 := X3.st m4 (fun _ z => z.elim) (fun y z => Or.inr (Or.inr (by omega))) (fun i _ _ _ => by rw [i4])
    have w4 := X4.2.1.2.1
    have B4 : mR M4 a 21 = a + 97 ∧ mR M4 a 22 = a + 98 := ⟨w4.1.2.2.2.2.1.2.2.2.2.2.2.1, w4.1.2.2.2.2.1.2.2.2.2.2.2.2.1⟩
    have A4 : (mK M4 (a + 97) = 33 ∧ mN M4 (a + 97) = 16400) ∧ (mK M4 (a + 98) = 33 ∧ mN M4 (a + 98) = 16400) := ⟨w4.1.2.2.2.2.2.2.2.1.1, w4.1.2.2.2.2.2.2.2.1.2.1⟩
    rw [B4.2, (r4546 w4).1.2, n4 (a + 98) (by omega)]
    refine ⟨A4.2.1, by rw [A4.2.2]; decide, (r4546 w4).2.2.1, by rw [(r4546 w4).2.2.2]; exact b8, fun M5 e5 => ?_⟩
    obtain ⟨m5, f5, n5', i5⟩ := mv_ulx (o3 _ _).2 m4.1 w4 e5
    have X5 := X4.st m5 (fun _ z => z.elim) (fun y z => Or.inr (Or.inr (by omega))) (fun i _ _ _ => by rw [i5])
    have w5 := X5.2.1.2.1
    have B5 : mR M5 a 21 = a + 97 ∧ mR M5 a 22 = a + 98 := ⟨w5.1.2.2.2.2.1.2.2.2.2.2.2.1, w5.1.2.2.2.2.1.2.2.2.2.2.2.2.1⟩
    have A5 : (mK M5 (a + 97) = 33 ∧ mN M5 (a + 97) = 16400) ∧ (mK M5 (a + 98) = 33 ∧ mN M5 (a + 98) = 16400) := ⟨w5.1.2.2.2.2.2.2.2.1.1, w5.1.2.2.2.2.2.2.2.1.2.1⟩
    have iA : mI M5 = mI M3 := by rw [i5, i4]
    have l97 : mL M5 (a + 97) = mL M3 (a + 97) := by rw [n5' _ (by omega), n4 _ (by omega)]
    have l98 : mL M5 (a + 98) = mL M3 (a + 98) := by rw [n5' _ (by omega), n4 _ (by omega)]
    have q89 : ∀ k, mL M5 (a + 21189) k = if k = b then mL M3 (a + 97) 0 else mL M2 (a + 21189) k := fun k => by rw [n5' _ (by omega), f4, k89]
    have q90 : ∀ k, mL M5 (a + 21190) k = if k = b then mL M3 (a + 98) 0 else mL M2 (a + 21190) k := fun k => by rw [f5, n4 _ (by omega), k90]
    have h25' : mI M5 (g + 25) c = (nb : Int) := by rw [iA, (gs3.2.1 25 (by omega) (by omega)).1]; exact h25
    rw [B5.1, B5.2, l97, l98, X5.2.1.2.2.1.1, show mR M5 g 24 = g + 27 from (w5.gp hg).2.2.1.2.2.2.2.2.2.2.2.2.1]
    have z35 : mI M5 a 16 = 0 → vok 0 (mL M3 (a + 97) 0) (mL M3 (a + 98) 0) := fun z => by
      rw [iA] at z
      rcases v3 with y | ⟨-, y⟩
      · exact absurd z y
      · exact y
    have x35 : Mv (fun _ => False) (fun y => a + 21189 ≤ y ∧ y ≤ a + 21190) M3 a M5 := (m4.mono (fun _ z => z) (fun y z => by omega) (fun _ z => z.elim)).trans (m5.mono (fun _ z => z) (fun y z => by omega) (fun _ z => z.elim))
    have gs35 := gs_st w3 hg x35 (fun _ z => z.elim) (fun _ z => z.elim) (fun y z => by omega)
    have lR : lchR M5 a (b + 1) = lchR M2 a b ++ [(mL M3 (a + 97) 0, mL M3 (a + 98) 0)] := by
      rw [lchR_s, q89, q90, if_pos rfl, if_pos rfl, lchR_cg (M := M2) (fun b' hb' => by rw [q89, q90, if_neg (by omega), if_neg (by omega)]; exact ⟨rfl, rfl⟩)]
    have nx : ∀ M6, xg M a g T R W C Z E tg M6 → mI M6 (g + 25) c = (nb : Int) → (mI M6 a 16 = 0 → chk1 M6 a (b + 1)) → (mI M6 a 16 = 0 → chq9 ev sg cm.2.2.2 = ((chq9 ev sg (cm.2.2.2.drop (b + 1))).1, lchR M6 a (b + 1) ++ (chq9 ev sg (cm.2.2.2.drop (b + 1))).2) ∧ XVq M6 a g R W (XV sg)) → (mI M6 a 16 ≠ 0 → chE (chq9 ev sg cm.2.2.2) pc M6 a) → h_MM_chances_118 G (d + 5) a c pc b M6 (fun x M' => i64 x ∧ mOk M' ∧ chQ M a g T R W C Z E tg nb x M' ∧ chY (chq9 ev sg cm.2.2.2) pc nb (XV sg) a g R W x M') := fun M6 X6 k25 kc kz kf => by
      refine k_MM_chances_118 X6.2.1.1 ic ipl ib ?_
      rw [show (b : Int) + 1 = ((b + 1 : Nat) : Int) by omega]
      exact ih (b + 1) M6 (by omega) X6 k25 kc kz kf
    refine ⟨fun _ => ⟨A5.1.1, by rw [A5.1.2]; decide, fun _ => ⟨by rw [A5.1.2]; decide, A5.2.1, by rw [A5.2.2]; decide⟩⟩, fun q5 => ?_, fun q5 => ?_⟩
    · refine ⟨(w5.gp hg).1, (w5.gp hg).2.2.2.2.2.2.2.2.2.2.1.1, by rw [(w5.gp hg).2.2.2.2.2.2.2.2.2.2.1.2]; exact b480, (s_MM_stop ⟨by decide, by decide⟩ (m5.1 _ _).1 m5.1 w5).mono (fun M6 h6 => ⟨h6.1.1, nx M6 (X5.stp h6) ?_ (fun z => ?_) (fun z => ?_) (fun _ => Or.inl ?_)⟩)⟩
      · have gs := gs_st (P := fun _ => False) (S := fun x => x = a) w5 hg h6.1 (fun _ z => z.elim) (fun _ z => z.elim) (fun x z => by omega)
        rw [(gs.2.1 25 (by omega) (by omega)).1]
        exact h25'
      · rw [h6.2.1] at z
        exact absurd z (by decide)
      · rw [h6.2.1] at z
        exact absurd z (by decide)
      · have z3 : mI M3 a 16 = 0 := by rw [← iA]; exact q5.1
        rcases u3 with u3 | ⟨-, u3, -⟩
        · exact absurd (u3.2.1.symm.trans z3) u3.1
        have c1 := (cmpz (mL M3 (a + 97) 0) 0).2.2.1
        have c2 := (cmpz (mL M3 (a + 97) 0) (mL M3 (a + 98) 0)).2.1
        have q6 := q5.2
        rw [c1, c2] at q6
        have e9 : chq9 ev sg (br :: cm.2.2.2.drop (b + 1)) = ((11, br.1), []) := chq_r (by rw [u3]; rfl) (by rw [u3]; show mL M3 (a + 97) 0 < 0 ∨ (if (0 : Int) = 1 then (1 : Int) else mL M3 (a + 98) 0) < mL M3 (a + 97) 0; rw [if_neg (by decide)]; omega)
        rw [zq, e9]
        refine ⟨by show (11 : Int) ≠ 0; decide, h6.2.1, h6.2.2.1.trans ?_⟩
        have gs25 : Gs M2 M5 g := ((xr3.xe w2).gs w2 hg).trans gs35
        show mI M5 (g + 27) (8 * c + b) = br.1
        rw [(gs25.2.1 27 (by omega) (by omega)).1]
        exact rb.1
    · refine nx M5 X5 h25' (fun z b' hb' => ?_) (fun z => ?_) (fun z => ?_)
      rotate_left
      · have z3 : mI M3 a 16 = 0 := by rw [← iA]; exact z
        have q6 : ¬ (cmpL (mL M3 (a + 97) 0) 0 < 0 ∨ ¬ (cmpL (mL M3 (a + 97) 0) (mL M3 (a + 98) 0) ≤ 0)) := fun y => q5 ⟨z, y⟩
        have c1 := (cmpz (mL M3 (a + 97) 0) 0).2.2.1
        have c2 := (cmpz (mL M3 (a + 97) 0) (mL M3 (a + 98) 0)).2.1
        rw [c1, c2] at q6
        rcases u3 with u3 | ⟨-, u3, u4⟩
        · exact absurd (u3.2.1.symm.trans z3) u3.1
        have e9 : chq9 ev sg (br :: cm.2.2.2.drop (b + 1)) = ((chq9 ev sg (cm.2.2.2.drop (b + 1))).1, (mL M3 (a + 97) 0, mL M3 (a + 98) 0) :: (chq9 ev sg (cm.2.2.2.drop (b + 1))).2) := by
          rw [chq_s (by rw [u3]; rfl) (by rw [u3]; show ¬ (mL M3 (a + 97) 0 < 0 ∨ (if (0 : Int) = 1 then (1 : Int) else mL M3 (a + 98) 0) < mL M3 (a + 97) 0); rw [if_neg (by decide)]; omega), u3]
          rfl
        rw [e9] at zq
        refine ⟨?_, u4.mv w3 x35 (fun _ z => z.elim) gs35 (fun y z => by omega)⟩
        rw [zq, lR, List.append_assoc]
        rfl
      · rw [iA] at z
        rcases u3 with u3 | ⟨u3, -⟩
        · have e9 : chq9 ev sg (br :: cm.2.2.2.drop (b + 1)) = (((ev sg br.2.1.1 br.2.1.2).1, (ev sg br.2.1.1 br.2.1.2).2.1), []) := chq_f u3.1
          rw [zq, e9]
          exact Or.inl ⟨u3.1, by rw [iA]; exact u3.2.1, by rw [iA]; exact u3.2.2⟩
        · exact absurd u3 z
      rw [q89, q90]
      by_cases y : b' = b
      · rw [if_pos y, if_pos y]
        have vk := z35 z
        have q6 : ¬ (cmpL (mL M3 (a + 97) 0) 0 < 0 ∨ ¬ (cmpL (mL M3 (a + 97) 0) (mL M3 (a + 98) 0) ≤ 0)) := fun y => q5 ⟨z, y⟩
        have c1 := (cmpz (mL M3 (a + 97) 0) 0).2.2.1
        have c2 := (cmpz (mL M3 (a + 97) 0) (mL M3 (a + 98) 0)).2.1
        rw [c1, c2] at q6
        unfold vok at vk
        omega
      · rw [if_neg y, if_neg y]
        exact hch b' (by omega)
end CHX
end
section
/-! The reference: a variable's next value, and a state is found or made, exactly. -/
section SEX
variable {G : mG} {d a g T R W C Z n k : Nat} {M M' M2 : mM} {E : Eg9} {tg : Int} {ww pl : Nat → Int} {XV : List Int → Int → vrs} {ev : List Int → Nat → Nat → vrs} {sg : List Int}
/-- what setting comes to: v the rule's value, f the fault of the range -/
def seY9 (v : vrs) (f : Int × Int) (q : Nat) (xv : Int → vrs) (a g R W : Nat) (M M' : mM) : Prop := fvq M' a v ∨ (v.1 = 0 ∧ f.1 ≠ 0 ∧ mI M' a 16 = f.1 ∧ mI M' a 17 = f.2) ∨ (v.1 = 0 ∧ f = (0, 0) ∧ mI M' a 16 = 0 ∧ (∀ v', mI M' (a + 21188) v' = if v' = q then v.2.1 else mI M (a + 21188) v') ∧ XVq M' a g R W xv)
theorem x_MM_set1 {v i9 j9 : Nat} {root pc lv hv9 : Int} (h : GG M a g T R W C Z E tg) (hn : En M a g R W) (hx : Nxv M a g W) (hv : v < W) (hf : ∀ sg, FmX ww pl (XV sg) M g R E.1) (xv : XVq M a g R W (XV sg)) (z0 : mI M a 16 = 0) (elo : mI M (g + 19) v = lv) (ehi : mI M (g + 20) v = hv9) (hr : Rtq ww pl XV ev M g R W T E root (tn M g (100 + (v : Int))) i9 j9) (ipl : i32 pc) : Cv G y_MM_set1 (d + 6) [vr a, vi v, vi root, vi pc] M (fun M' => mOk M' ∧ seQ M a g T R W C Z E tg M' ∧ seY9 (ev sg i9 j9) (stfq (ev sg i9 j9).2.1 (ev sg i9 j9).2.2 lv hv9 pc) v (XV sg) a g R W M M') := by
  have w := h.2.1
  have hg := h.2.2.1.2
  have hD := h.2.2.2.2.2.2.2.1
  have hBd := hD.1
  obtain ⟨v1, v2, v3, v4, v5, v6⟩ := hD.2.2.2.1 v hv
  have e1 : tn M g (100 + (v : Int)) = mI M (g + 18) v := by
    unfold tn
    rw [if_pos (show (100 : Int) ≤ 100 + (v : Int) by omega), show (100 + (v : Int) - 100).toNat = v by omega]
    rcases v6 with y | y <;> rw [y] <;> rfl
  have ir : i32 root := by
    obtain ⟨n', b, f, e, nv, ⟨r1, r2, r3, r4, r5⟩, -⟩ := hr
    have := r4.tn.lt
    have := h.2.2.2.2.1
    rw [r1]
    exact i32s (by omega) (by omega)
  have b12 : ((0 : Int) ≤ (v : Int) ∧ (v : Int) < ((12 : Nat) : Int)) := by omega
  have toS : ∀ {Mx : mM}, Mv (fun x => x = a + 99) (woS a) M a Mx → Mv (fun x => x = a + 99) (sxS a) M a Mx := fun m => m.mono (fun q hq => hq) (fun x z => Or.inl z) (lt99 w)
  refine k_MM_set1 h.1 (i32s (by omega) (by omega)) ir ipl ⟨w.1.1, (x_MM_reach (d := d) h hn hf xv hr z0).mono (fun M2 t2 => ?_)⟩
  obtain ⟨o2, ⟨x2, gg2, en2, v2'⟩, u2⟩ := t2
  have w2 := gg2.2.1
  have gs2 := (x2.xe w).gs w hg
  have c88 : mI M2 (a + 21188) = mI M (a + 21188) := (x2.1.cellL w in99 (offx (a := a) (o := 21188) (by decide)) (fun z => by
    have z' : a + 21188 = a ∨ a + 21188 = a + 97 ∨ a + 21188 = a + 98 ∨ a + 21188 = a + 102 ∨ a + 21188 = a + 103 ∨ a + 21188 = a + 104 := z
    omega)).1
  have nx2 : Nxv M2 a g W := fun v' hv' => by
    rw [(gs2.2.1 19 (by omega) (by omega)).1, (gs2.2.1 20 (by omega) (by omega)).1, c88]
    exact hx v' hv'
  refine ⟨o2, w2.1.1, fun z16 => ?_, fun z16 => ⟨o2, ⟨toS x2.1, x2.2, gg2, en2, fun z => absurd z z16⟩, Or.inl (u2.elim id (fun u => absurd u.1 z16))⟩⟩
  have vk : vok (mI M (g + 18) v) (mL M2 (a + 97) 0) (mL M2 (a + 98) 0) := by
    rcases v2' with y | ⟨-, y⟩
    · exact absurd z16 y
    · rw [e1] at y; exact y
  obtain ⟨u3, u4⟩ : ev sg i9 j9 = vr9 (mI M (g + 18) v) (mL M2 (a + 97) 0) (mL M2 (a + 98) 0) ∧ XVq M2 a g R W (XV sg) := by
    rcases u2 with u | ⟨-, u, y⟩
    · exact absurd (u.2.1.symm.trans z16) u.1
    · rw [e1] at u
      exact ⟨u, y⟩
  have f1 : (ev sg i9 j9).1 = 0 := by rw [u3]; rfl
  have f2 : (ev sg i9 j9).2.1 = mL M2 (a + 97) 0 := by rw [u3]; rfl
  have f3 : (ev sg i9 j9).2.2 = if mI M (g + 18) v = 1 then 1 else mL M2 (a + 98) 0 := by rw [u3]; rfl
  have B2 : mR M2 a 21 = a + 97 ∧ mR M2 a 22 = a + 98 ∧ mR M2 a 44 = a + 21188 := ⟨w2.1.2.2.2.2.1.2.2.2.2.2.2.1, w2.1.2.2.2.2.1.2.2.2.2.2.2.2.1, w2.1.2.2.2.2.2.2.1.2.2.2.1⟩
  have A2 : (mK M2 (a + 97) = 33 ∧ mN M2 (a + 97) = 16400) ∧ (mK M2 (a + 98) = 33 ∧ mN M2 (a + 98) = 16400) ∧ (mK M2 (a + 21188) = 30 ∧ mN M2 (a + 21188) = 12) := ⟨w2.1.2.2.2.2.2.2.2.1.1, w2.1.2.2.2.2.2.2.2.1.2.1, w2.1.2.2.2.2.2.2.2.2.2.1.2.2.2.1⟩
  rw [gg2.2.2.1.1, show mR M2 g 13 = g + 18 from (w2.gp hg).2.2.1.1, show mR M2 g 14 = g + 19 from (w2.gp hg).2.2.1.2.1, show mR M2 g 15 = g + 20 from (w2.gp hg).2.2.1.2.2.1, B2.1, B2.2.1, B2.2.2, Int.toNat_natCast, (gs2.2.1 18 (by omega) (by omega)).1, (gs2.2.1 19 (by omega) (by omega)).1, (gs2.2.1 20 (by omega) (by omega)).1]
  have stp : ∀ c : Int, c ≠ 0 → i32 c → stfq (ev sg i9 j9).2.1 (ev sg i9 j9).2.2 lv hv9 pc = (c, pc) → Cv G y_MM_stop (d + 5) [vr a, vi c, vi pc] M2 (fun M3 => mOk M3 ∧ (mOk M3 ∧ seQ M a g T R W C Z E tg M3 ∧ seY9 (ev sg i9 j9) (stfq (ev sg i9 j9).2.1 (ev sg i9 j9).2.2 lv hv9 pc) v (XV sg) a g R W M M3)) := fun c hc ic ef => by
    refine (s_MM_stop ic ipl o2 w2).mono (fun M3 h3 => ?_)
    have X : xg M a g T R W C Z E tg M2 := ⟨x2.xe w, gg2, en2⟩
    have X3 := X.stp h3
    refine ⟨h3.1.1, h3.1.1, ⟨(toS x2.1).trans (h3.1.mono (fun _ z => z.elim) (fun x z => Or.inl (Or.inl z)) (lt99 w2)), fun i i1 i2 i3 => (h3.2.2.2 i i1 i2).trans (x2.2 i i1 i2 i3), X3.2.1, X3.2.2, fun z => ?_⟩, Or.inr (Or.inl ⟨f1, by rw [ef]; exact hc, by rw [ef]; exact h3.2.1, by rw [ef]; exact h3.2.2.1⟩)⟩
    rw [h3.2.1] at z
    exact absurd z hc
  have hq1 : (¬ mI M (g + 18) v = 0 ∨ cmpL (mL M2 (a + 98) 0) 1 = 0) → (if mI M (g + 18) v = 1 then (1 : Int) else mL M2 (a + 98) 0) = 1 := fun q => by
    rcases q with q | q
    · rw [if_pos (by omega)]
    · have := (cmpz _ _).2.2.2.1.1 q
      split <;> omega
  have hq8 : ¬ (¬ mI M (g + 18) v = 0 ∨ cmpL (mL M2 (a + 98) 0) 1 = 0) → (if mI M (g + 18) v = 1 then (1 : Int) else mL M2 (a + 98) 0) ≠ 1 := fun q u => by
    have q1 : mI M (g + 18) v = 0 := Classical.byContradiction (fun z => q (Or.inl z))
    rw [if_neg (by omega)] at u
    exact q (Or.inr ((cmpz _ _).2.2.2.1.2 u))
  refine ⟨(w2.gp hg).1, (w2.gp hg).2.2.2.2.1.1.1, by rw [(w2.gp hg).2.2.2.2.1.1.2]; exact b12, fun _ => ⟨A2.2.1.1, by rw [A2.2.1.2]; decide⟩, fun q => ⟨A2.1.1, by rw [A2.1.2]; decide, (w2.gp hg).2.2.2.2.1.2.1.1, by rw [(w2.gp hg).2.2.2.2.1.2.1.2]; exact b12, fun _ => ⟨by rw [A2.1.2]; decide, (w2.gp hg).2.2.2.2.1.2.2.1.1, by rw [(w2.gp hg).2.2.2.2.1.2.2.1.2]; exact b12⟩, fun q2 => stp 12 (by decide) ⟨by decide, by decide⟩ (by
      have c1 := (cmpz (mL M2 (a + 97) 0) (mI M (g + 19) v)).2.2.1
      have c2 := (cmpz (mL M2 (a + 97) 0) (mI M (g + 20) v)).2.1
      rw [c1, c2] at q2
      unfold stfq
      rw [f3, f2, if_neg (fun u => u (hq1 q)), if_pos (by omega)]), fun q2 => ?_⟩, fun q => stp 8 (by decide) ⟨by decide, by decide⟩ (by unfold stfq; rw [f3, if_pos (hq8 q)])⟩
  have c1 := (cmpz (mL M2 (a + 97) 0) (mI M (g + 19) v)).2.2.1
  have c2 := (cmpz (mL M2 (a + 97) 0) (mI M (g + 20) v)).2.1
  rw [c1, c2] at q2
  have rng : mI M (g + 19) v ≤ mL M2 (a + 97) 0 ∧ mL M2 (a + 97) 0 ≤ mI M (g + 20) v := by omega
  have i97 : i32 (mL M2 (a + 97) 0) := ⟨by omega, by omega⟩
  refine ⟨by rw [A2.1.2]; decide, A2.2.2.1, by rw [A2.2.2.2]; exact b12, i97, fun M3 e3 => ?_⟩
  obtain ⟨m3, g3, l3⟩ := mv_cell i97 o2 w2 (show a ≤ a + 21188 by omega) (offx (a := a) (o := 21188) (by decide)) e3
  have no : ∀ q : Nat, False → q ∈ nums a := fun _ z => z.elim
  have aI := (m3.fld w2 no (by omega)).1
  have X : xg M a g T R W C Z E tg M2 := ⟨x2.xe w, gg2, en2⟩
  have X3 := X.st m3 (fun _ z => z.elim) (fun x z => Or.inr (Or.inr (by omega))) (fun i _ _ _ => by rw [aI])
  have gs3 := gs_st w2 hg m3 no (fun _ z => z.elim) (fun x z => by omega)
  refine ⟨m3.1, ⟨(toS x2.1).trans (m3.mono (fun _ z => z.elim) (fun x z => Or.inr z) (lt99 w2)), fun i i1 i2 i3 => by rw [aI]; exact x2.2 i i1 i2 i3, X3.2.1, X3.2.2, fun _ v' hv' => ?_⟩, Or.inr (Or.inr ⟨f1, ?_, by rw [aI]; exact z16, fun v' => ?_, u4.mv w2 m3 no gs3 (fun x z => by omega)⟩)⟩
  rotate_left
  · unfold stfq
    rw [f3, f2, if_neg (fun u => u (hq1 q)), if_neg (by omega)]
  · rw [g3, f2, c88]
    by_cases y : v' = v
    · rw [if_pos ⟨rfl, y⟩, if_pos y]
    · rw [if_neg (fun z => y z.2), if_neg y]
  rw [(gs3.2.1 19 (by omega) (by omega)).1, (gs3.2.1 20 (by omega) (by omega)).1, g3]
  by_cases y : v' = v
  · rw [if_pos ⟨rfl, y⟩, y, (gs2.2.1 19 (by omega) (by omega)).1, (gs2.2.1 20 (by omega) (by omega)).1]
    exact rng
  · rw [if_neg (fun z => y z.2)]
    exact nx2 v' hv'
/-- the states -/
def SmR (M : mM) (a W n : Nat) : List (List Int) := (List.range n).map (lsR M a W)
/-- the next state -/
def nxR (M : mM) (a W : Nat) : List Int := (List.range W).map (fun v => mI M (a + 21188) v)
theorem SmR_len : (SmR M a W n).length = n := by
  unfold SmR
  rw [List.length_map, List.length_range]
theorem SmR_get (h : k < n) : (SmR M a W n)[k]? = some (lsR M a W k) := by
  unfold SmR
  rw [List.getElem?_map, List.getElem?_range h]
  rfl
theorem SmR_s : SmR M a W (n + 1) = SmR M a W n ++ [lsR M a W n] := by
  unfold SmR
  rw [List.range_succ, List.map_append]
  rfl
theorem SmR_cg (hW : W ≤ 12) (h : ∀ j, j < 12 * n → mI M' (a + 105) j = mI M (a + 105) j) : SmR M' a W n = SmR M a W n := by
  unfold SmR
  refine List.map_congr_left (fun k hk => ?_)
  unfold lsR
  exact List.map_congr_left (fun v hv => h _ (by have := List.mem_range.mp hk; have := List.mem_range.mp hv; omega))
theorem enR_k {x : List Int} (hk : k < n) (hnf : ∀ j, j < k → lsR M a W j ≠ x) (hq : lsR M a W k = x) : enq9 (SmR M a W n) x = some (k, SmR M a W n) := by
  have f : (SmR M a W n).findIdx? (fun y => y == x) = some k := by
    rw [List.findIdx?_eq_some_iff_getElem]
    have gt : ∀ (j : Nat) (h : j < (SmR M a W n).length), (SmR M a W n)[j] = lsR M a W j := fun j h => by
      have := SmR_get (M := M) (a := a) (W := W) (k := j) (n := n) (by rw [SmR_len] at h; exact h)
      rw [List.getElem?_eq_getElem h] at this
      exact Option.some.inj this
    refine ⟨by rw [SmR_len]; exact hk, ?_, fun j hj => ?_⟩
    · rw [gt k]
      exact beq_iff_eq.mpr hq
    · rw [gt j]
      intro u
      exact hnf j hj (beq_iff_eq.mp u)
  unfold enq9
  rw [f]
theorem enR_n {x : List Int} (h : ∀ k, k < n → lsR M a W k ≠ x) : enq9 (SmR M a W n) x = if n = 512 then none else some (n, SmR M a W n ++ [x]) := by
  have f : (SmR M a W n).findIdx? (fun y => y == x) = none := by
    rw [List.findIdx?_eq_none_iff]
    intro y hy
    unfold SmR at hy
    obtain ⟨k, hk, e⟩ := List.mem_map.mp hy
    rw [← e]
    exact beq_eq_false_iff_ne.mpr (h k (List.mem_range.mp hk))
  unfold enq9
  rw [f]
  show (if (SmR M a W n).length = 512 then none else some ((SmR M a W n).length, SmR M a W n ++ [x])) = _
  rw [SmR_len]
/-- what finding a state comes to -/
def soX (S : List (List Int)) (x : List Int) (r : Int) (a W : Nat) (M' : mM) : Prop := (enq9 S x = none ∧ r = -1) ∨ ∃ (k : Nat) (S' : List (List Int)), enq9 S x = some (k, S') ∧ r = (k : Int) ∧ mI M' a 29 = ((S'.length : Nat) : Int) ∧ SmR M' a W S'.length = S'
theorem x_MM_stateOf (h : GG M a g T R W C Z E tg) (hn : mI M a 29 = (n : Int)) (hn5 : n ≤ 512) (hv : Vx M a g n W) (hx : Nxv M a g W) : Ci G y_MM_stateOf d [vr a] M (fun x M' => i32 x ∧ mOk M' ∧ soQ M a g n W x M' ∧ soX (SmR M a W n) (nxR M a W) x a W M') := by
  have hO := h.1
  have w := h.2.1
  have hg := h.2.2.1.2
  have hBd := h.2.2.2.2.2.2.2.1.1
  have g12 := h.2.2.2.2.2.1.2.1
  have r9 := h.2.2.1.1
  have no : ∀ q : Nat, False → q ∈ nums a := fun _ z => z.elim
  have hW12 := hBd.2.1
  -- a new state is filled in
  have L3 : n < 512 → (∀ k, k < n → lsR M a W k ≠ nxR M a W) → ∀ (c v : Nat) (M2 : mM), v + c = W → Mv (fun _ => False) (fun y => y = a ∨ y = a + 105) M a M2 → mI M2 a = mI M a → mI M2 (a + 21188) = mI M (a + 21188) → (∀ j, (12 * n ≤ j → 12 * n + v ≤ j) → mI M2 (a + 105) j = mI M (a + 105) j) → (∀ v', v' < v → mI M2 (a + 105) (12 * n + v') = mI M (a + 21188) v') → h_MM_stateOf_87 G d a v M2 (fun x M' => i32 x ∧ mOk M' ∧ soQ M a g n W x M' ∧ soX (SmR M a W n) (nxR M a W) x a W M') := by
    intro hn' hnf c
    induction c with
    | zero =>
      intro v M2 hc m2 a2 x2 o2 f2
      have ev : v = W := by omega
      subst ev
      have w2 := m2.2.1
      have gs := gs_st w hg m2 no (fun _ z => z.elim) (fun x z => by omega)
      refine k_MM_stateOf_87 m2.1 (i32s (by omega) (by omega)) ⟨w2.1.1, ?_⟩
      rw [m2.rfl_a w no, r9, gs.1, g12, a2, hn]
      refine ⟨(w2.gp hg).1, fun _ => ⟨i32s (by omega) (by omega), fun M3 e3 => ?_⟩, fun q => absurd (Int.le_refl _) q⟩
      obtain ⟨m3, f3⟩ := mv_fld (v := (n : Int) + 1) (i32s (by omega) (by omega)) m2.1 w2 e3
      have mm := m2.trans (m3.mono (fun _ z => z.elim) (fun x z => Or.inl z) (fun _ z => z.elim))
      have gs3 := gs_st w hg mm no (fun _ z => z.elim) (fun x z => by omega)
      have c105 := m3.cell m2.2.1 no (by omega) (offx (a := a) (o := 105) (by decide)).2.1 (offx (a := a) (o := 105) (by decide)).2.2 (by omega)
      have e29 : mI M3 a 29 = (n : Int) + 1 := by rw [f3, if_pos rfl]
      rw [e29]
      refine ⟨i32s (by omega) (by omega), m3.1, Or.inr ⟨n + 1, Or.inr rfl, by omega, by omega, by omega, mm, by rw [e29]; omega, fun i hi => by rw [f3, if_neg hi, a2], fun k v' hk hv' => ?_⟩, Or.inr ⟨n, SmR M a v n ++ [nxR M a v], ?_, by omega, by rw [e29, List.length_append, SmR_len]; show (n : Int) + 1 = ((n + 1 : Nat) : Int); omega, ?_⟩⟩
      rotate_left
      · rw [enR_n hnf, if_neg (by omega)]
      · rw [List.length_append, SmR_len]
        show SmR M3 a v (n + 1) = _
        rw [SmR_s, SmR_cg (M := M) hW12 (fun j hj => by rw [c105]; exact o2 j (by omega))]
        congr 2
        unfold lsR nxR
        exact List.map_congr_left (fun v' hv' => by rw [c105]; exact f2 v' (List.mem_range.mp hv'))
      rw [(gs3.2.1 19 (by omega) (by omega)).1, (gs3.2.1 20 (by omega) (by omega)).1, c105]
      by_cases y : k = n
      · rw [y, f2 v' hv']
        exact hx v' hv'
      · rw [o2 _ (by omega)]
        exact hv k v' (by omega) hv'
    | succ c ih =>
      intro v M2 hc m2 a2 x2 o2 f2
      have w2 := m2.2.1
      have gs := gs_st w hg m2 no (fun _ z => z.elim) (fun x z => by omega)
      have A5 : mK M2 (a + 105) = 30 ∧ mN M2 (a + 105) = 6144 := w2.1.2.2.2.2.2.2.2.2.1.1
      have A8 : mK M2 (a + 21188) = 30 ∧ mN M2 (a + 21188) = 12 := w2.1.2.2.2.2.2.2.2.2.2.1.2.2.2.1
      have r31 : mR M2 a 31 = a + 105 := w2.1.2.2.2.2.2.1.1
      have r44 : mR M2 a 44 = a + 21188 := w2.1.2.2.2.2.2.2.1.2.2.2.1
      have e9 : mR M2 a 9 = g := by rw [m2.rfl_a w no]; exact r9
      refine k_MM_stateOf_87 m2.1 (i32s (by omega) (by omega)) ⟨w2.1.1, ?_⟩
      rw [e9, gs.1, g12, a2, hn, r31, r44, Int.toNat_natCast, show 12 * (n : Int) + (v : Int) = ((12 * n + v : Nat) : Int) by omega, Int.toNat_natCast, x2]
      refine ⟨(w2.gp hg).1, fun q => absurd q (by omega), fun _ => ⟨A8.1, by rw [A8.2]; omega, A5.1, by rw [A5.2]; omega, fun M3 e3 => ?_⟩⟩
      obtain ⟨m3, f3, l3⟩ := mv_cell (hO _ _).1 m2.1 w2 (show a ≤ a + 105 by omega) (offx (a := a) (o := 105) (by decide)) e3
      have nx := ih (v + 1) M3 (by omega) (m2.trans (m3.mono (fun _ z => z.elim) (fun x z => Or.inr z) (fun _ z => z.elim))) (by rw [(m3.fld w2 no (by omega)).1]; exact a2) (by rw [m3.cell w2 no (by omega) (offx (a := a) (o := 21188) (by decide)).2.1 (offx (a := a) (o := 21188) (by decide)).2.2 (by omega)]; exact x2) (fun j hj => by rw [f3, if_neg (fun z => by omega)]; exact o2 j (by omega)) (fun v' hv' => ?_)
      · rw [show ((v + 1 : Nat) : Int) = (v : Int) + 1 by omega] at nx
        exact nx
      · rw [f3]
        by_cases y : v' = v
        · rw [if_pos ⟨rfl, by omega⟩, y]
        · rw [if_neg (fun z => by omega)]
          exact f2 v' (by omega)
  have A5 : mK M (a + 105) = 30 ∧ mN M (a + 105) = 6144 := w.1.2.2.2.2.2.2.2.2.1.1
  have A8 : mK M (a + 21188) = 30 ∧ mN M (a + 21188) = 12 := w.1.2.2.2.2.2.2.2.2.2.1.2.2.2.1
  have r31 : mR M a 31 = a + 105 := w.1.2.2.2.2.2.1.1
  have r44 : mR M a 44 = a + 21188 := w.1.2.2.2.2.2.2.1.2.2.2.1
  refine k_MM_stateOf hO ?_
  suffices L1 : ∀ (c k : Nat), k + c = n → (∀ k', k' < k → lsR M a W k' ≠ nxR M a W) → h_MM_stateOf_2 G d a k M (fun x M' => i32 x ∧ mOk M' ∧ soQ M a g n W x M' ∧ soX (SmR M a W n) (nxR M a W) x a W M') from L1 n 0 (by omega) (fun k' hk' => absurd hk' (by omega))
  intro c
  induction c with
  | zero =>
    intro k hk hnf
    have ek : k = n := by omega
    subst ek
    refine k_MM_stateOf_2 hO (i32s (by omega) (by omega)) ⟨w.1.1, fun _ => ⟨fun q => ⟨⟨by decide, by decide⟩, hO, Or.inl ⟨rfl, rfl⟩, Or.inl ⟨?_, rfl⟩⟩, fun q => ?_⟩, fun q => absurd (by rw [hn]; exact Int.le_refl _) q⟩
    · rw [hn] at q
      rw [enR_n hnf, if_pos (by omega)]
    rw [hn] at q
    exact L3 (by omega) hnf W 0 M (by omega) (Mv.refl hO w (fun _ z => z.elim)) rfl rfl (fun j _ => rfl) (fun v' hv' => absurd hv' (by omega))
  | succ c ih =>
    intro k hk hnf
    have nx : lsR M a W k ≠ nxR M a W → h_MM_stateOf_2 G d a ((k : Int) + 1) M (fun x M' => i32 x ∧ mOk M' ∧ soQ M a g n W x M' ∧ soX (SmR M a W n) (nxR M a W) x a W M') := fun hne => by
      have nx := ih (k + 1) (by omega) (fun k' hk' => by
        by_cases y : k' = k
        · rw [y]; exact hne
        · exact hnf k' (by omega))
      rw [show ((k + 1 : Nat) : Int) = (k : Int) + 1 by omega] at nx
      exact nx
    refine k_MM_stateOf_2 hO (i32s (by omega) (by omega)) ⟨w.1.1, fun q => by rw [hn] at q; omega, fun _ => ?_⟩
    suffices L2 : ∀ (t v : Nat) (s : Int), v + t = W → ((s = 0 ∧ lsR M a W k ≠ nxR M a W) ∨ (s = 1 ∧ ∀ v', v' < v → mI M (a + 105) (12 * k + v') = mI M (a + 21188) v')) → h_MM_stateOf_14 G d a k s v M (fun x M' => i32 x ∧ mOk M' ∧ soQ M a g n W x M' ∧ soX (SmR M a W n) (nxR M a W) x a W M') from L2 W 0 1 (by omega) (Or.inr ⟨rfl, fun v' hv' => absurd hv' (by omega)⟩)
    have fnd : lsR M a W k = nxR M a W → i32 (k : Int) ∧ mOk M ∧ soQ M a g n W k M ∧ soX (SmR M a W n) (nxR M a W) k a W M := fun hq => ⟨i32s (by omega) (by omega), hO, Or.inr ⟨n, Or.inl rfl, hn5, by omega, by omega, Mv.refl hO w (fun _ z => z.elim), hn, fun _ _ => rfl, hv⟩, Or.inr ⟨k, SmR M a W n, enR_k (by omega) hnf hq, rfl, by rw [SmR_len]; exact hn, by rw [SmR_len]⟩⟩
    intro t
    induction t with
    | zero =>
      intro v s hv' hs
      have ev : v = W := by omega
      subst ev
      refine k_MM_stateOf_14 hO (i32s (by omega) (by omega)) (i32s (by omega) (by omega)) (i32s (by omega) (by omega)) ⟨w.1.1, ?_⟩
      rw [r9, g12]
      refine ⟨(w.gp hg).1, fun _ => ⟨fun q0 => nx ?_, fun q0 => fnd ?_⟩, fun q => absurd (Or.inl (Int.le_refl _)) q⟩
      · rcases hs with ⟨-, y⟩ | ⟨y, -⟩
        · exact y
        · omega
      · rcases hs with ⟨y, -⟩ | ⟨-, y⟩
        · omega
        · unfold lsR nxR
          exact List.map_congr_left (fun v' hv' => y v' (List.mem_range.mp hv'))
    | succ t ih2 =>
      intro v s hv' hs
      refine k_MM_stateOf_14 hO (i32s (by omega) (by omega)) (i32s (by omega) (by omega)) (i32s (by omega) (by omega)) ⟨w.1.1, ?_⟩
      rw [r9, g12, r31, r44]
      refine ⟨(w.gp hg).1, fun q => ⟨fun q0 => nx ?_, fun q0 => absurd q0 (by omega)⟩, fun q => ⟨A5.1, by rw [A5.2]; omega, A8.1, by rw [A8.2]; omega, fun u hu => ?_⟩⟩
      · rcases hs with ⟨-, y⟩ | ⟨y, -⟩
        · exact y
        · omega
      rw [show (v : Int) + 1 = ((v + 1 : Nat) : Int) by omega]
      refine ih2 (v + 1) u (by omega) ?_
      have s1 : s = 1 := by omega
      rcases hs with ⟨y, -⟩ | ⟨-, y⟩
      · omega
      rw [show 12 * (k : Int) + (v : Int) = ((12 * k + v : Nat) : Int) by omega, Int.toNat_natCast, Int.toNat_natCast] at hu
      by_cases e : mI M (a + 105) (12 * k + v) = mI M (a + 21188) v
      · refine Or.inr ⟨by rw [hu, if_pos e], fun v' hv' => ?_⟩
        by_cases e2 : v' = v
        · rw [e2]; exact e
        · exact y v' (by omega)
      · refine Or.inl ⟨by rw [hu, if_neg e], fun hq => e ?_⟩
        unfold lsR nxR at hq
        rw [List.map_inj_left] at hq
        exact hq v (List.mem_range.mpr (by omega))
end SEX
end
section
/-! The reference: ways, exactly. -/
section WYX
variable {G : mG} {d a g T R W C Z n L w w0 i m : Nat} {M M' M2 M3 M4 : mM} {E : Eg9} {tg mul Sm A D : Int} {B : Nat → Nat}
theorem gcd_1 {q x y A' D' : Int} (hq : 1 ≤ q) (e1 : x = q * A') (e2 : y = q * D') (hg : ∀ z : Int, z ∣ x → z ∣ y → z ∣ q) : Int.gcd A' D' = 1 := by
  have d1 : (Int.gcd A' D' : Int) ∣ A' := Int.gcd_dvd_left ..
  have d2 : (Int.gcd A' D' : Int) ∣ D' := Int.gcd_dvd_right ..
  have d3 := hg (q * (Int.gcd A' D' : Int)) (by rw [e1]; exact Int.mul_dvd_mul (Int.dvd_refl q) d1) (by rw [e2]; exact Int.mul_dvd_mul (Int.dvd_refl q) d2)
  obtain ⟨t, ht⟩ := d3
  have t1 : (Int.gcd A' D' : Int) * t = 1 := by
    have : q * ((Int.gcd A' D' : Int) * t) = q * 1 := by rw [Int.mul_one, ← Int.mul_assoc]; exact ht.symm
    exact Int.eq_of_mul_eq_mul_left (show q ≠ 0 by omega) this
  have := Int.eq_one_of_mul_eq_one_right (show (0 : Int) ≤ (Int.gcd A' D' : Int) by omega) t1
  omega
theorem x_MM_add {j : Nat} {A D : Int} (hg : g = a + 13 ∨ g = a + 49) (o : mOk M) (w' : Wd M a) (h : XD M a g n W L w (L + 1) B) (hw0 : B L = w0) (hp : Op M a L w0 w mul Sm) (j0 : w0 ≤ j) (j1 : j < w) (hA : 0 < A ∧ A < 1000000000) (hD : 0 < D ∧ D < 1000000000) (hdm : D ∣ mul) (hle : Sm + A * (mul / D) ≤ mul) : Cv G y_MM_add (d + 1) [vr a, vi j, vl A, vl D] M (fun M' => mOk M' ∧ Mv (fun _ => False) (fun x => a + 21186 ≤ x ∧ x ≤ a + 21187) M a M' ∧ mI M' = mI M ∧ XD M' a g n W L w (L + 1) B ∧ Op M' a L w0 w mul (Sm + A * (mul / D)) ∧ (∀ k, k ≠ j → mL M' (a + 21186) k = mL M (a + 21186) k ∧ mL M' (a + 21187) k = mL M (a + 21187) k) ∧ mL M' (a + 21186) j * (mul / mL M' (a + 21187) j) = mL M (a + 21186) j * (mul / mL M (a + 21187) j) + A * (mul / D) ∧ Int.gcd (mL M' (a + 21186) j) (mL M' (a + 21187) j) = 1) := by
  obtain ⟨y1, y2, y3⟩ := h.2.2.2.1 j j1
  have hw4 := h.2.1.2
  obtain ⟨p1, p2, p3, p4, p5⟩ := id hp
  have r42 : mR M a 42 = a + 21186 := w'.1.2.2.2.2.2.2.1.2.1
  have r43 : mR M a 43 = a + 21187 := w'.1.2.2.2.2.2.2.1.2.2.1
  have A6 : mK M (a + 21186) = 33 ∧ mN M (a + 21186) = 4096 := w'.1.2.2.2.2.2.2.2.2.2.1.2.1
  have A7 : mK M (a + 21187) = 33 ∧ mN M (a + 21187) = 4096 := w'.1.2.2.2.2.2.2.2.2.2.1.2.2.1
  have bj : ((0 : Int) ≤ (j : Int) ∧ (j : Int) < ((4096 : Nat) : Int)) := by omega
  refine k_MM_add o (i32s (by omega) (by omega)) ⟨by omega, by omega⟩ ⟨by omega, by omega⟩ ⟨w'.1.1, ?_⟩
  rw [r42, r43, Int.toNat_natCast]
  generalize hXA : mL M (a + 21186) j = XA at *
  generalize hXD : mL M (a + 21187) j = XDn at *
  have m1 : 0 ≤ XA * D ∧ XA * D ≤ 1000000000 * 1000000000 := ⟨Int.mul_nonneg (by omega) (by omega), Int.mul_le_mul (by omega) (by omega) (by omega) (by omega)⟩
  have m2 : 0 ≤ A * XDn ∧ A * XDn ≤ 1000000000 * 1000000000 := ⟨Int.mul_nonneg (by omega) (by omega), Int.mul_le_mul (by omega) (by omega) (by omega) (by omega)⟩
  have m3 : 0 < XDn * D ∧ XDn * D ≤ 1000000000 * 1000000000 := ⟨Int.mul_pos (by omega) (by omega), Int.mul_le_mul (by omega) (by omega) (by omega) (by omega)⟩
  have is : i64 (XA * D + A * XDn) := ⟨by omega, by omega⟩
  have iy : i64 (XDn * D) := ⟨by omega, by omega⟩
  refine ⟨A6.1, by rw [A6.2]; exact bj, A7.1, by rw [A7.2]; exact bj, by rw [A7.2]; exact bj, (s_MM_divisor2 (by omega) ⟨by omega, iy⟩ o).mono (fun q M1 h1 => ?_)⟩
  obtain ⟨e1, q1, q2, ⟨A', hA'⟩, ⟨D', hD'⟩, hgcd⟩ := h1
  subst e1
  have qn : q ≠ 0 := by omega
  have t1 : Int.tdiv (XA * D + A * XDn) q = A' := by rw [hA']; exact Int.mul_tdiv_cancel_left A' qn
  have t2 : Int.tdiv (XDn * D) q = D' := by rw [hD']; exact Int.mul_tdiv_cancel_left D' qn
  have xdm : XDn ∣ mul := by rw [← hXD]; exact p4 j j0 j1
  obtain ⟨A0, D0, dm, key⟩ := add_math (mul := mul) y3.1 hD.1 y2.1 hA.1 xdm hdm q1 hA' hD' hgcd
  -- the terms of the sum
  have nn : ∀ t, t < w - w0 → 0 ≤ mL M1 (a + 21186) (w0 + t) * (mul / mL M1 (a + 21187) (w0 + t)) := fun t ht => by
    have := h.2.2.2.1 (w0 + t) (by omega)
    exact Int.mul_nonneg (by omega) (Int.ediv_nonneg (by omega) (by omega))
  have le1 := sm_le1 (f := fun t => mL M1 (a + 21186) (w0 + t) * (mul / mL M1 (a + 21187) (w0 + t))) (t0 := j - w0) (w - w0) (by omega) nn
  rw [p5] at le1
  have le1' : XA * (mul / XDn) ≤ Sm := by
    have e : w0 + (j - w0) = j := by omega
    have : mL M1 (a + 21186) (w0 + (j - w0)) * (mul / mL M1 (a + 21187) (w0 + (j - w0))) ≤ Sm := le1
    rw [e, hXA, hXD] at this
    exact this
  obtain ⟨m, hm⟩ := dm
  have mm : mul / D' = m := by rw [hm]; exact Int.mul_ediv_cancel_left m (by omega)
  have m0 : 0 < m := by
    by_cases z : 0 < m
    · exact z
    · have := Int.mul_le_mul_of_nonneg_left (show m ≤ 0 by omega) (show 0 ≤ D' by omega)
      omega
  have AD : A' ≤ D' := by
    by_cases z : A' ≤ D'
    · exact z
    · have k1 := Int.mul_lt_mul_of_pos_right (show D' < A' by omega) m0
      rw [mm] at key
      omega
  have Dm : D' ≤ mul := by
    have := Int.mul_le_mul_of_nonneg_left (show 1 ≤ m by omega) (show 0 ≤ D' by omega)
    omega
  have iA' : i64 A' := ⟨by omega, by omega⟩
  have iD' : i64 D' := ⟨by omega, by omega⟩
  rw [t1, t2]
  refine ⟨⟨by omega, by have := iy.2; omega⟩, o, w'.1.1, is, qn, ?_⟩
  rw [r42]
  refine ⟨A6.1, by rw [A6.2]; exact bj, iA', fun M2 e2 => ⟨iy, qn, ?_⟩⟩
  obtain ⟨k2, f2, n2, i2⟩ := mv_ulx iA' o w' e2
  have w2 := k2.2.1
  rw [show mR M2 a 43 = a + 21187 from w2.1.2.2.2.2.2.2.1.2.2.1]
  have A72 : mK M2 (a + 21187) = 33 ∧ mN M2 (a + 21187) = 4096 := w2.1.2.2.2.2.2.2.2.2.2.1.2.2.1
  refine ⟨A72.1, by rw [A72.2]; exact bj, iD', fun M3 e3 => ?_⟩
  obtain ⟨k3, f3, n3, i3⟩ := mv_ulx iD' k2.1 w2 e3
  have iI : mI M3 = mI M1 := by rw [i3, i2]
  have l86 : ∀ k, mL M3 (a + 21186) k = if k = j then A' else mL M1 (a + 21186) k := fun k => by rw [n3 _ (by omega), f2]
  have l87 : ∀ k, mL M3 (a + 21187) k = if k = j then D' else mL M1 (a + 21187) k := fun k => by rw [f3, n2 _ (by omega)]
  have kk : Mv (fun _ => False) (fun x => a + 21186 ≤ x ∧ x ≤ a + 21187) M1 a M3 := (k2.mono (fun _ z => z) (fun x z => by omega) (fun _ z => z.elim)).trans (k3.mono (fun _ z => z) (fun x z => by omega) (fun _ z => z.elim))
  have no : ∀ q : Nat, False → q ∈ nums a := fun _ z => z.elim
  have gs := gs_st w' hg kk no (fun _ z => z.elim) (fun x z => by omega)
  have s : ∀ {q}, q ∈ nums a → sameN M1 M3 q := fun hq => kk.lst hq (fun z => z)
  obtain ⟨h1, h2, h3, h4, h5, h6, h7⟩ := id h
  have mB := h.mono
  refine ⟨kk.1, kk, iI, ⟨by rw [iI]; exact h1, by rw [iI]; exact h2, fun k v hk hv => ?_, fun i hi => ?_, by rw [(s k109).1, (s k111).1, (s k113).1, (s k115).1]; exact h5, h6, fun i hi => (h7 i hi).cg ((s k111).2.1 i) ((s k113).2.1 i) ((s k115).2.1 i) (fun t _ t2 => ?_)⟩, ⟨p1, by rw [(s k111).2.1, (s k113).2.1, (s k115).2.1]; exact p2, p3, fun i i1 i2' => ?_, ?_⟩, fun k hk => ⟨by rw [l86, if_neg hk], by rw [l87, if_neg hk]⟩, by rw [l86, l87, if_pos rfl, if_pos rfl]; exact key, by rw [l86, l87, if_pos rfl, if_pos rfl]; exact gcd_1 q1 hA' hD' hgcd⟩
  · rw [iI]; exact h3 k v hk hv
  · rw [iI, l86, l87]
    by_cases z : i = j
    · rw [if_pos z, if_pos z]
      exact ⟨(h4 i hi).1, by omega, by omega⟩
    · rw [if_neg z, if_neg z]
      exact h4 i hi
  · have := mB (i + 1) L (by omega) (Nat.le_refl _)
    rw [l86, l87, if_neg (by omega), if_neg (by omega)]
    exact ⟨rfl, rfl⟩
  · rw [l87]
    by_cases z : i = j
    · rw [if_pos z, hm]; exact Int.dvd_mul_right D' m
    · rw [if_neg z]; exact p4 i i1 i2'
  · rw [sm_upd (f := fun t => mL M1 (a + 21186) (w0 + t) * (mul / mL M1 (a + 21187) (w0 + t))) (t0 := j - w0) (w - w0) (by omega) (fun t ht hne => ?_), p5]
    · show Sm - mL M1 (a + 21186) (w0 + (j - w0)) * (mul / mL M1 (a + 21187) (w0 + (j - w0))) + mL M3 (a + 21186) (w0 + (j - w0)) * (mul / mL M3 (a + 21187) (w0 + (j - w0))) = _
      rw [show w0 + (j - w0) = j by omega, l86, l87, if_pos rfl, if_pos rfl, hXA, hXD, key]
      omega
    · show mL M3 (a + 21186) (w0 + t) * (mul / mL M3 (a + 21187) (w0 + t)) = mL M1 (a + 21186) (w0 + t) * (mul / mL M1 (a + 21187) (w0 + t))
      rw [l86, l87, if_neg (by omega), if_neg (by omega)]
/-- a new way is put down -/
theorem way_newx {to A D : Int} {M4 M5 M6 M7 : mM} (o : mOk M2) (wd : Wd M2 a) (hg : g = a + 13 ∨ g = a + 49) (h : XD M2 a g n W L w (L + 1) B) (hw0 : B L = w0) (hp : Op M2 a L w0 w mul Sm) (hw : w < 4096) (ht : 0 ≤ to ∧ to < n) (hA : 0 < A ∧ A < 1000000000) (hD : 0 < D ∧ D < 1000000000) (hdm : D ∣ mul) (e3 : M3 = mUI M2 (a + 21185) w to) (e4 : M4 = mUL M3 (a + 21186) w A) (e5 : M5 = mUL M4 (a + 21187) w D) (e6 : M6 = mUI M5 a 40 ((w : Int) + 1)) (e7 : M7 = mUI M6 (mR M6 (a + 113) 0) L (nt M6 (a + 113) L + 1)) : (Wd M3 a ∧ Wd M4 a ∧ Wd M5 a ∧ Wd M6 a) ∧ (mI M3 a = mI M2 a ∧ mI M4 a = mI M2 a ∧ mI M5 a = mI M2 a) ∧ nt M6 (a + 113) L = ((w - w0 : Nat) : Int) ∧ ln M6 (a + 113) = (L + 1 : Nat) ∧ (mL M3 = mL M2 ∧ (∀ y, y ≠ a + 21186 → mL M4 y = mL M2 y)) ∧ wyF M2 a M7 ∧ Mv (fun x => x = a + 113) (fun x => x = a ∨ (a + 21185 ≤ x ∧ x ≤ a + 21187)) M2 a M7 ∧ mI M7 a 16 = mI M2 a 16 ∧ XD M7 a g n W L (w + 1) (L + 1) B ∧ Op M7 a L w0 (w + 1) mul (Sm + A * (mul / D)) ∧ (∀ k, mI M7 (a + 21185) k = if k = w then to else mI M2 (a + 21185) k) ∧ (∀ k, mL M7 (a + 21186) k = if k = w then A else mL M2 (a + 21186) k) ∧ (∀ k, mL M7 (a + 21187) k = if k = w then D else mL M2 (a + 21187) k) ∧ mI M7 (a + 105) = mI M2 (a + 105) := by
  have hn5 := h.1.2.2
  obtain ⟨m3, f3, l3⟩ := mv_cell (v := to) ⟨by omega, by omega⟩ o wd (show a ≤ a + 21185 by omega) (offx (a := a) (o := 21185) (by decide)) e3
  obtain ⟨m4, f4, n4, i4⟩ := mv_ulx (v := A) ⟨by omega, by omega⟩ m3.1 m3.2.1 e4
  obtain ⟨m5, f5, n5', i5⟩ := mv_ulx (v := D) ⟨by omega, by omega⟩ m4.1 m4.2.1 e5
  obtain ⟨m6, f6⟩ := mv_fld (v := (w : Int) + 1) (i32s (by omega) (by omega)) m5.1 m5.2.1 e6
  have no : ∀ q : Nat, False → q ∈ nums a := fun _ z => z.elim
  have nz : ∀ {Mx : mM} (q : Nat), False → q < mZ Mx := fun _ z => z.elim
  have m26 : Mv (fun _ => False) (fun x => x = a ∨ (a + 21185 ≤ x ∧ x ≤ a + 21187)) M2 a M6 := (((m3.mono (fun _ z => z) (fun x z => Or.inr (by omega)) nz).trans (m4.mono (fun _ z => z) (fun x z => Or.inr (by omega)) nz)).trans (m5.mono (fun _ z => z) (fun x z => Or.inr (by omega)) nz)).trans (m6.mono (fun _ z => z) (fun x z => Or.inl z) nz)
  have s6 : ∀ {q}, q ∈ nums a → sameN M2 M6 q := fun hq => m26.lst hq (fun z => z)
  obtain ⟨p1, p2, p3, p4, p5⟩ := id hp
  have t13 : nt M6 (a + 113) L = ((w - w0 : Nat) : Int) := by rw [(s6 k113).2.1]; exact p2.2.1
  obtain ⟨m7, l7, f7, -⟩ := mv_el (v := nt M6 (a + 113) L + 1) (by rw [t13]; exact i32s (by omega) (by omega)) m6.1 m6.2.1 k113 e7
  have i3a := (m3.fld wd no (by omega)).1
  have aI3 : mI M3 a = mI M2 a := i3a
  have aI4 : mI M4 a = mI M2 a := by rw [i4]; exact i3a
  have aI5 : mI M5 a = mI M2 a := by rw [i5]; exact aI4
  have in13 : ∀ q, q = a + 113 → q ∈ nums a := fun q hq => by rw [hq]; exact k113
  have aI7 : mI M7 a = mI M6 a := (m7.fld m6.2.1 in13 (fun z => z)).1
  have F7 : ∀ i, mI M7 a i = if i = 40 then (w : Int) + 1 else mI M2 a i := fun i => by rw [aI7, f6, aI5]
  have l13 : ∀ q, q = a + 113 → q < mZ M2 := fun q hq => by rw [hq]; exact wd.lt k113
  have m27 : Mv (fun x => x = a + 113) (fun x => x = a ∨ (a + 21185 ≤ x ∧ x ≤ a + 21187)) M2 a M7 := (m26.mono (fun _ z => z.elim) (fun x z => z) l13).trans (m7.mono (fun q hq => hq) (fun _ z => z.elim) (fun q hq => by rw [hq]; exact m6.2.1.lt k113))
  have gs := gs_st wd hg m27 in13 (fun q hq z => by
    have z' : q = g + 1 ∨ q = g + 3 ∨ q = g + 5 ∨ q = g + 7 ∨ q = g + 9 ∨ q = g + 11 ∨ q = g + 30 ∨ q = g + 32 ∨ q = g + 34 := z
    omega) (fun x hx => by omega)
  have W7 : wyF M2 a M7 := wyF.mk wd m27 (fun q hq => Or.inr hq) (fun x hx => by
    rcases hx with z | z
    · exact Or.inl (Or.inl z)
    · exact Or.inr (Or.inr (by omega))) (fun i _ _ _ _ i5 => by rw [F7, if_neg i5])
  have s7 : ∀ {q}, q ∈ nums a → q ≠ a + 113 → sl M2 M7 q := fun hq hne => (m27.lst hq hne).sl
  have c105 := (m27.cellL wd in13 (offx (a := a) (o := 105) (by decide)) (by omega)).1
  have w6 := m6.2.1
  have o85 := offx (a := a) (o := 21185) (by decide)
  have o86 := offx (a := a) (o := 21186) (by decide)
  have o87 := offx (a := a) (o := 21187) (by decide)
  have e85 : ∀ k, mI M7 (a + 21185) k = if k = w then to else mI M2 (a + 21185) k := fun k => by
    rw [(m7.cellL w6 in13 o85 (fun z => z)).1, (m6.cellL m5.2.1 no o85 (by omega)).1, i5, i4, f3]
    by_cases z : k = w
    · rw [if_pos ⟨rfl, z⟩, if_pos z]
    · rw [if_neg (fun y => z y.2), if_neg z]
  have e86 : ∀ k, mL M7 (a + 21186) k = if k = w then A else mL M2 (a + 21186) k := fun k => by
    rw [(m7.cellL w6 in13 o86 (fun z => z)).2, (m6.cellL m5.2.1 no o86 (by omega)).2, n5' _ (by omega), f4, l3]
  have e87 : ∀ k, mL M7 (a + 21187) k = if k = w then D else mL M2 (a + 21187) k := fun k => by
    rw [(m7.cellL w6 in13 o87 (fun z => z)).2, (m6.cellL m5.2.1 no o87 (by omega)).2, f5, n4 _ (by omega), l3]
  have e113 : ∀ k, nt M7 (a + 113) k = if k = L then ((w - w0 : Nat) : Int) + 1 else nt M2 (a + 113) k := fun k => by
    rw [f7, t13, (s6 k113).2.1]
  obtain ⟨h1, h2, h3, h4, h5, h6, h7⟩ := id h
  have mB := h.mono
  refine ⟨⟨m3.2.1, m4.2.1, m5.2.1, w6⟩, ⟨aI3, aI4, aI5⟩, t13, by rw [(s6 k113).1]; exact h5.2.2.1, ⟨l3, fun y hy => by rw [n4 y hy, l3]⟩, W7, m27, by rw [F7, if_neg (by decide)], ⟨by rw [F7, if_neg (by decide)]; exact h1, ⟨by rw [F7, if_pos rfl]; omega, by omega⟩, fun k v hk hv => ?_, fun j hj => ?_, ?_, ⟨h6.1, by omega, h6.2.2⟩, fun i hi => ?_⟩, ⟨by omega, ?_, p3, fun j j0 j1 => ?_, ?_⟩, e85, e86, e87, c105⟩
  · rw [(gs.2.1 19 (by omega) (by omega)).1, (gs.2.1 20 (by omega) (by omega)).1, c105]
    exact h3 k v hk hv
  · rw [e85, e86, e87]
    by_cases z : j = w
    · rw [if_pos z, if_pos z, if_pos z]
      exact ⟨ht, hA, hD⟩
    · rw [if_neg z, if_neg z, if_neg z]
      exact h4 j (by omega)
  · rw [(s7 k109 (by omega)).1, (s7 k111 (by omega)).1, (s7 k115 (by omega)).1, l7, (s6 k113).1]
    exact h5
  · have := mB (i + 1) L (by omega) (Nat.le_refl _)
    refine (h7 i hi).cg ((s7 k111 (by omega)).2 i) (by rw [e113, if_neg (by omega)]) ((s7 k115 (by omega)).2 i) (fun j j0 j1 => ?_)
    rw [e86, e87, if_neg (by omega), if_neg (by omega)]
    exact ⟨rfl, rfl⟩
  · rw [(s7 k111 (by omega)).2, (s7 k115 (by omega)).2, e113, if_pos rfl]
    exact ⟨p2.1, by omega, p2.2.2⟩
  · rw [e87]
    by_cases z : j = w
    · rw [if_pos z]; exact hdm
    · rw [if_neg z]; exact p4 j j0 (by omega)
  · rw [show w + 1 - w0 = (w - w0) + 1 by omega]
    show sm (fun t => mL M7 (a + 21186) (w0 + t) * (mul / mL M7 (a + 21187) (w0 + t))) (w - w0) + mL M7 (a + 21186) (w0 + (w - w0)) * (mul / mL M7 (a + 21187) (w0 + (w - w0))) = _
    rw [show w0 + (w - w0) = w by omega, e86, e87, if_pos rfl, if_pos rfl, ← p5]
    have : sm (fun t => mL M7 (a + 21186) (w0 + t) * (mul / mL M7 (a + 21187) (w0 + t))) (w - w0) = sm (fun t => mL M2 (a + 21186) (w0 + t) * (mul / mL M2 (a + 21187) (w0 + t))) (w - w0) := sm_congr _ (fun t ht => by
      show mL M7 (a + 21186) (w0 + t) * (mul / mL M7 (a + 21187) (w0 + t)) = mL M2 (a + 21186) (w0 + t) * (mul / mL M2 (a + 21187) (w0 + t))
      rw [e86, e87, if_neg (by omega), if_neg (by omega)])
    rw [this]
/-- the ways from w0 on: goals and shares -/
def brR (M : mM) (a w0 : Nat) (mul : Int) (m : Nat) : List (Nat × Int) := (List.range m).map (fun t => ((mI M (a + 21185) (w0 + t)).toNat, mL M (a + 21186) (w0 + t) * (mul / mL M (a + 21187) (w0 + t))))
/-- the ways' chances stand in lowest terms -/
def Wc (M : mM) (a w : Nat) : Prop := ∀ j : Nat, j < w → Int.gcd (mL M (a + 21186) j) (mL M (a + 21187) j) = 1
/-- the ways before w0 are the same -/
def Lw (M M' : mM) (a w0 : Nat) : Prop := ∀ j : Nat, j < w0 → mI M' (a + 21185) j = mI M (a + 21185) j ∧ mL M' (a + 21186) j = mL M (a + 21186) j ∧ mL M' (a + 21187) j = mL M (a + 21187) j
theorem brR_len : (brR M a w0 mul m).length = m := by
  unfold brR
  rw [List.length_map, List.length_range]
theorem brR_s : brR M a w0 mul (m + 1) = brR M a w0 mul m ++ [((mI M (a + 21185) (w0 + m)).toNat, mL M (a + 21186) (w0 + m) * (mul / mL M (a + 21187) (w0 + m)))] := by
  unfold brR
  rw [List.range_succ, List.map_append]
  rfl
theorem brR_cg (h : ∀ i, w0 ≤ i → i < w0 + m → mI M' (a + 21185) i = mI M (a + 21185) i ∧ mL M' (a + 21186) i = mL M (a + 21186) i ∧ mL M' (a + 21187) i = mL M (a + 21187) i) : brR M' a w0 mul m = brR M a w0 mul m := by
  unfold brR
  refine List.map_congr_left (fun t ht => ?_)
  have := List.mem_range.mp ht
  obtain ⟨h1, h2, h3⟩ := h (w0 + t) (by omega) (by omega)
  rw [h1, h2, h3]
theorem brR_mem {x : Nat × Int} (h : x ∈ brR M a w0 mul m) : ∃ i, w0 ≤ i ∧ i < w0 + m ∧ x = ((mI M (a + 21185) i).toNat, mL M (a + 21186) i * (mul / mL M (a + 21187) i)) := by
  unfold brR at h
  obtain ⟨t, ht, e⟩ := List.mem_map.mp h
  have := List.mem_range.mp ht
  exact ⟨w0 + t, by omega, by omega, e.symm⟩
theorem brR_sp : ∀ m, brR M a w0 mul (i + 1 + m) = brR M a w0 mul i ++ ((mI M (a + 21185) (w0 + i)).toNat, mL M (a + 21186) (w0 + i) * (mul / mL M (a + 21187) (w0 + i))) :: brR M a (w0 + i + 1) mul m
  | 0 => by rw [show i + 1 + 0 = i + 1 by omega, brR_s]; rfl
  | m + 1 => by
    rw [show i + 1 + (m + 1) = (i + 1 + m) + 1 by omega, brR_s, brR_sp m, brR_s (w0 := w0 + i + 1), show w0 + (i + 1 + m) = w0 + i + 1 + m by omega, List.append_assoc]
    rfl
/-- what following a branch comes to -/
def foR (fq : List (br9 × (Int × Int)) → List (List Int) → List (Nat × Int) → (Int × Int) × List (List Int) × List (Nat × Int)) (x : br9 × (Int × Int)) (S : List (List Int)) (Bl : List (Nat × Int)) (a W w0 : Nat) (mul : Int) (xv : Int → vrs) (g R : Nat) (M M' : mM) : Prop := (mI M' a 16 ≠ 0 ∧ ∀ rest, (fq (x :: rest) S Bl).1 = (mI M' a 16, mI M' a 17)) ∨ (mI M' a 16 = 0 ∧ ∃ (S' : List (List Int)) (B' : List (Nat × Int)), (∀ rest, fq (x :: rest) S Bl = fq rest S' B') ∧ mI M' a 29 = ((S'.length : Nat) : Int) ∧ SmR M' a W S'.length = S' ∧ ∃ w' : Nat, mI M' a 40 = (w' : Int) ∧ brR M' a w0 mul (w' - w0) = B' ∧ Wc M' a w' ∧ XVq M' a g R W xv ∧ Lw M M' a w0)
/-- the way is looked for among those of this command -/
theorem x_way187 {b tn9 : Nat} {pc to : Int} {fq : List (br9 × (Int × Int)) → List (List Int) → List (Nat × Int) → (Int × Int) × List (List Int) × List (Nat × Int)} {x : br9 × (Int × Int)} {S S2 : List (List Int)} {Bl : List (Nat × Int)} {xv : Int → vrs} (lw : Lw M M2 a w0) (xq : XVq M2 a g R W xv) (eS : S2.length = n ∧ SmR M2 a W n = S2) (hBl : Bl = brR M2 a w0 mul (w - w0)) (wc : Wc M2 a w) (gAD : Int.gcd A D = 1) (etn : to = ((tn9 : Nat) : Int)) (hfq : ∀ rest, fq (x :: rest) S Bl = match jnq9 tn9 (mul / D * A) Bl with | some B' => fq rest S2 B' | none => if w0 + Bl.length = 4096 then ((5, pc), S2, Bl) else fq rest S2 (Bl ++ [(tn9, mul / D * A)])) (ipl : i32 pc) (hb : b < 8) (hw0 : B L = w0) (hA : 0 < A ∧ A < 1000000000) (hD : 0 < D ∧ D < 1000000000) (hdm : D ∣ mul) (hle : Sm + A * (mul / D) ≤ mul) (ht : 0 ≤ to ∧ to < n) (h : wI M a g T R W C Z E tg n L w w0 mul Sm A D B b M2) (z16 : mI M2 a 16 = 0) (hL : L ≤ 4096) : ∀ (t j : Nat), w0 ≤ j → j + t = w → (∀ j', w0 ≤ j' → j' < j → mI M2 (a + 21185) j' ≠ to) → h_MM_way_187 G (d + 6) a b pc to L j M2 (fun M' => mOk M' ∧ wyQ M a g T R W C Z E tg n L w w0 mul (Sm + A * (mul / D)) B M' ∧ foR fq x S Bl a W w0 mul xv g R M M') := by
  obtain ⟨x1, gg, en, xd, op, cA, cD⟩ := id h
  have o2 := gg.1
  have w2 := gg.2.1
  have hg := gg.2.2.1.2
  have hn5 := xd.1.2.2
  have hw4 := xd.2.1.2
  have f40 := xd.2.1.1
  have l13 := xd.2.2.2.2.1.2.2.1
  have ito : i32 to := ⟨by omega, by omega⟩
  have ib : i32 (b : Int) := i32s (by omega) (by omega)
  have iL : i32 (L : Int) := i32s (by omega) (by omega)
  have b8 : ((0 : Int) ≤ (b : Int) ∧ (b : Int) < ((8 : Nat) : Int)) := by omega
  have pr : ∀ {Mx : mM}, Wd Mx a → (mR Mx a 41 = a + 21185 ∧ mR Mx a 42 = a + 21186 ∧ mR Mx a 43 = a + 21187 ∧ mR Mx a 45 = a + 21189 ∧ mR Mx a 46 = a + 21190) := fun w => ⟨w.1.2.2.2.2.2.2.1.1, w.1.2.2.2.2.2.2.1.2.1, w.1.2.2.2.2.2.2.1.2.2.1, w.1.2.2.2.2.2.2.1.2.2.2.2.1, w.1.2.2.2.2.2.2.1.2.2.2.2.2.1⟩
  have ar : ∀ {Mx : mM}, Wd Mx a → ((mK Mx (a + 21185) = 30 ∧ mN Mx (a + 21185) = 4096) ∧ (mK Mx (a + 21186) = 33 ∧ mN Mx (a + 21186) = 4096) ∧ (mK Mx (a + 21187) = 33 ∧ mN Mx (a + 21187) = 4096)) := fun w => ⟨w.1.2.2.2.2.2.2.2.2.2.1.1, w.1.2.2.2.2.2.2.2.2.2.1.2.1, w.1.2.2.2.2.2.2.2.2.2.1.2.2.1⟩
  intro t
  induction t with
  | zero =>
    intro j j0 hj hno
    have ej : j = w := by omega
    subst ej
    have bw : j < 4096 → ((0 : Int) ≤ (j : Int) ∧ (j : Int) < ((4096 : Nat) : Int)) := fun _ => by omega
    have jn : jnq9 tn9 (mul / D * A) Bl = none := jnq_n _ (fun y hy => by
      rw [hBl] at hy
      obtain ⟨i, i1, i2, i3⟩ := brR_mem hy
      have e1 := hno i i1 (by omega)
      have e2 := (xd.2.2.2.1 i (by omega)).1.1
      rw [i3]
      show (mI M2 (a + 21185) i).toNat ≠ tn9
      omega)
    have lB : w0 + Bl.length = j := by rw [hBl, brR_len]; omega
    refine k_MM_way_187 o2 ib ipl ito iL (i32s (by omega) (by omega)) ⟨w2.1.1, ?_⟩
    rw [f40]
    refine ⟨fun _ => ⟨fun q => (s_MM_stop ⟨by decide, by decide⟩ ipl o2 w2).mono (fun M3 h3 => ⟨h3.1.1, h3.1.1, h.stp (by decide) h3, Or.inl ⟨by rw [h3.2.1]; decide, fun rest => ?_⟩⟩), fun q => ?_⟩, fun q => absurd (Int.le_refl _) q⟩
    · rw [hfq rest, jn, h3.2.1, h3.2.2.1]
      show (if w0 + Bl.length = 4096 then ((5, pc), S2, Bl) else _).1 = _
      rw [if_pos (by omega)]
    have hw : j < 4096 := by omega
    have bw := bw hw
    rw [(pr w2).1, Int.toNat_natCast]
    refine ⟨(ar w2).1.1, by rw [(ar w2).1.2]; exact bw, fun M3 e3 => ?_⟩
    have N := fun (M4 M5 M6 M7 : mM) e4 e5 e6 e7 => way_newx (M4 := M4) (M5 := M5) (M6 := M6) (M7 := M7) o2 w2 hg xd hw0 op hw ht hA hD hdm e3 e4 e5 e6 e7
    have N3 := N _ _ _ _ rfl rfl rfl rfl
    have w3 := N3.1.1
    have l3 := N3.2.2.2.2.1.1
    have a3 := N3.2.1.1
    rw [(pr w3).2.2.2.1, (pr w3).2.1, a3, f40, Int.toNat_natCast, Int.toNat_natCast, l3, cA]
    refine ⟨(r4546 w3).2.1.1, by rw [(r4546 w3).2.1.2]; exact b8, (ar w3).2.1.1, by rw [(ar w3).2.1.2]; exact bw, fun M4 e4 => ?_⟩
    have N4 := N M4 _ _ _ e4 rfl rfl rfl
    have w4 := N4.1.2.1
    have a4 := N4.2.1.2.1
    have l4 := N4.2.2.2.2.1.2
    rw [(pr w4).2.2.2.2, (pr w4).2.2.1, a4, f40, Int.toNat_natCast, l4 (a + 21190) (by omega), cD]
    refine ⟨(r4546 w4).2.2.1, by rw [(r4546 w4).2.2.2]; exact b8, (ar w4).2.2.1, by rw [(ar w4).2.2.2]; exact bw, fun M5 e5 => ?_⟩
    have N5 := N M4 M5 _ _ e4 e5 rfl rfl
    have w5 := N5.1.2.2.1
    have a5 := N5.2.1.2.2
    rw [a5, f40]
    refine ⟨i32s (by omega) (by omega), fun M6 e6 => ?_⟩
    have N6 := N M4 M5 M6 _ e4 e5 e6 rfl
    have w6 := N6.1.2.2.2
    have t13 : mI M6 (mR M6 (a + 113) 0) L = ((j - w0 : Nat) : Int) := N6.2.2.1
    have u13 := w6.nu (k113 (a := a))
    have c13 : ((L + 1 : Nat) : Int) ≤ cp M6 (a + 113) := by rw [← N6.2.2.2.1]; exact u13.2.2.2.1.2
    have ecp : mN M6 (mR M6 (a + 113) 0) = cp M6 (a + 113) := rfl
    rw [show mR M6 a 37 = a + 113 from w6.1.2.2.2.2.2.1.2.2.2.2.2.2.1, Int.toNat_natCast]
    refine ⟨u13.1, u13.2.1, by rw [ecp]; omega, by rw [ecp]; omega, by rw [t13]; exact i32s (by omega) (by omega), fun M7 e7 => ?_⟩
    obtain ⟨-, -, -, -, -, W7, m7, e16, X7, O7, y85, y86, y87, y105⟩ := N M4 M5 M6 M7 e4 e5 e6 e7
    have in13 : ∀ q, q = a + 113 → q ∈ nums a := fun q hq => by rw [hq]; exact k113
    have gs := gs_st w2 hg m7 in13 (fun q hq z => by
      have z' : q = g + 1 ∨ q = g + 3 ∨ q = g + 5 ∨ q = g + 7 ∨ q = g + 9 ∨ q = g + 11 ∨ q = g + 30 ∨ q = g + 32 ∨ q = g + 34 := z
      omega) (fun x hx => by omega)
    refine ⟨m7.1, ⟨x1.trans W7, gg.gs m7.1 m7.2.1 (by rw [m7.rfl_a w2 in13]) gs, en.mv w2 m7 in13 gs (fun x hx => by omega), Or.inr ⟨by rw [e16]; exact z16, n, j + 1, Nat.le_refl _, Or.inr rfl, X7, O7⟩⟩, Or.inr ⟨by rw [e16]; exact z16, S2, Bl ++ [(tn9, mul / D * A)], fun rest => ?_, ?_, ?_, j + 1, X7.2.1.1, ?_, ?_, xq.mv w2 m7 in13 gs (fun x hx => by omega), fun i hi => ?_⟩⟩
    · rw [hfq rest, jn]
      show (if w0 + Bl.length = 4096 then ((5, pc), S2, Bl) else _) = _
      rw [if_neg (by omega)]
    · rw [eS.1]
      exact X7.1.1
    · rw [eS.1, SmR_cg (M := M2) gg.2.2.2.2.2.2.2.1.1.2.1 (fun j _ => by rw [y105])]
      exact eS.2
    · rw [show j + 1 - w0 = (j - w0) + 1 by omega, brR_s, brR_cg (M := M2) (fun i i1 i2 => by rw [y85, y86, y87, if_neg (by omega), if_neg (by omega), if_neg (by omega)]; exact ⟨rfl, rfl, rfl⟩), ← hBl, show w0 + (j - w0) = j by omega, y85, y86, y87, if_pos rfl, if_pos rfl, if_pos rfl, etn, Int.toNat_natCast, Int.mul_comm]
    · intro i hi
      rw [y86, y87]
      by_cases y : i = j
      · rw [if_pos y, if_pos y]; exact gAD
      · rw [if_neg y, if_neg y]; exact wc i (by omega)
    · rw [y85, y86, y87, if_neg (by omega), if_neg (by omega), if_neg (by omega)]
      exact lw i hi
  | succ t ih =>
    intro j j0 hj hno
    have bj : ((0 : Int) ≤ (j : Int) ∧ (j : Int) < ((4096 : Nat) : Int)) := by omega
    refine k_MM_way_187 o2 ib ipl ito iL (i32s (by omega) (by omega)) ⟨w2.1.1, ?_⟩
    rw [f40, (pr w2).1, (pr w2).2.2.2.1, (pr w2).2.2.2.2, Int.toNat_natCast, Int.toNat_natCast, cA, cD]
    refine ⟨fun q => absurd q (by omega), fun _ => ⟨(ar w2).1.1, by rw [(ar w2).1.2]; exact bj, fun qt => ⟨(r4546 w2).2.1.1, by rw [(r4546 w2).2.1.2]; exact b8, (r4546 w2).2.2.1, by rw [(r4546 w2).2.2.2]; exact b8, ?_⟩, fun qt => ?_⟩⟩
    · refine (x_MM_add (d := d + 5) hg o2 w2 xd hw0 op j0 (by omega) hA hD hdm hle).mono (fun M3 t3 => ?_)
      obtain ⟨o3, m3, i3, X3, O3, y1, y2, y3⟩ := t3
      have no : ∀ q : Nat, False → q ∈ nums a := fun _ z => z.elim
      have gs := gs_st w2 hg m3 no (fun _ z => z.elim) (fun x z => by omega)
      have W3 : wyF M2 a M3 := wyF.mk w2 m3 (fun _ z => z.elim) (fun x z => Or.inr (Or.inr (by omega))) (fun i _ _ _ _ _ => by rw [i3])
      have qe : mI M2 (a + 21185) j = to := qt
      have sp : Bl = brR M2 a w0 mul (j - w0) ++ ((mI M2 (a + 21185) j).toNat, mL M2 (a + 21186) j * (mul / mL M2 (a + 21187) j)) :: brR M2 a (j + 1) mul (w - (j + 1)) := by
        have := brR_sp (M := M2) (a := a) (w0 := w0) (mul := mul) (i := j - w0) (w - (j + 1))
        rw [show j - w0 + 1 + (w - (j + 1)) = w - w0 by omega, show w0 + (j - w0) = j by omega] at this
        rw [hBl]
        exact this
      have sp3 : brR M3 a w0 mul (w - w0) = brR M2 a w0 mul (j - w0) ++ ((mI M2 (a + 21185) j).toNat, mL M2 (a + 21186) j * (mul / mL M2 (a + 21187) j) + mul / D * A) :: brR M2 a (j + 1) mul (w - (j + 1)) := by
        have := brR_sp (M := M3) (a := a) (w0 := w0) (mul := mul) (i := j - w0) (w - (j + 1))
        rw [show j - w0 + 1 + (w - (j + 1)) = w - w0 by omega, show w0 + (j - w0) = j by omega] at this
        rw [this, y2, i3, Int.mul_comm A, brR_cg (M := M2) (M' := M3) (fun i i1 i2 => by rw [i3]; exact ⟨rfl, y1 i (by omega)⟩), brR_cg (M := M2) (M' := M3) (w0 := j + 1) (fun i i1 i2 => by rw [i3]; exact ⟨rfl, y1 i (by omega)⟩)]
      have jn : jnq9 tn9 (mul / D * A) Bl = some (brR M3 a w0 mul (w - w0)) := by
        rw [sp, sp3]
        refine jnq_s (by show (mI M2 (a + 21185) j).toNat = tn9; rw [qe, etn, Int.toNat_natCast]) _ (fun y hy => ?_)
        obtain ⟨i, i1, i2, i3'⟩ := brR_mem hy
        have e1 := hno i i1 (by omega)
        have e2 := (xd.2.2.2.1 i (by omega)).1.1
        rw [i3']
        show (mI M2 (a + 21185) i).toNat ≠ tn9
        omega
      exact ⟨o3, o3, ⟨x1.trans W3, gg.gs o3 m3.2.1 (by rw [m3.rfl_a w2 no]) gs, en.mv w2 m3 no gs (fun x z => by omega), Or.inr ⟨by rw [i3]; exact z16, n, w, Nat.le_refl _, Or.inl rfl, X3, O3⟩⟩, Or.inr ⟨by rw [i3]; exact z16, S2, brR M3 a w0 mul (w - w0), fun rest => by rw [hfq rest, jn], by rw [i3, eS.1]; exact xd.1.1, by rw [eS.1, SmR_cg (M := M2) gg.2.2.2.2.2.2.2.1.1.2.1 (fun j _ => by rw [i3])]; exact eS.2, w, by rw [i3]; exact f40, rfl, fun i hi => by
        by_cases y : i = j
        · rw [y]; exact y3
        · rw [(y1 i y).1, (y1 i y).2]; exact wc i hi, xq.mv w2 m3 no gs (fun x z => by omega), fun i hi => by rw [i3, (y1 i (by omega)).1, (y1 i (by omega)).2]; exact lw i hi⟩⟩
    · rw [show (j : Int) + 1 = ((j + 1 : Nat) : Int) by omega]
      exact ih (j + 1) (by omega) (by omega) (fun j' h1 h2 => by
        by_cases y : j' = j
        · rw [y]; exact qt
        · exact hno j' h1 (by omega))
end WYX
end
