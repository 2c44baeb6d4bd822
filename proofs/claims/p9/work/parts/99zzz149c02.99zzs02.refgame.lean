section
/-! The reference's game in pure words; rules are reached in a state. -/
section RGP
/-- a root, and the words that it stands for -/
def Rtq (ww pl : Nat → Int) (XV : List Int → Int → vrs) (ev : List Int → Nat → Nat → vrs) (M : mM) (g R W T : Nat) (E : Eg9) (n t : Int) (i j : Nat) : Prop := ∃ (n' b f e : Nat) (nv : Nat → Int), (n = (n' : Int) ∧ b ≤ R ∧ (∀ r : Nat, r < b → mI M (g + 13) r ≠ 0 → E.1 r ≤ n') ∧ Ty (nme True M g b W) (tn M g) M g f 0 n' e (fun _ => t) ∧ e ≤ T) ∧ Eo ww 6 i j ∧ Td ww pl nv (so M g) (pm M g) (va M g) (fp M g) (np M g) 0 0 i j n' e ∧ ∀ sg, vlX ww pl (XV sg) nv (i, j) = ev sg i j
/-- a branch -/
def RBr (ww pl : Nat → Int) (XV : List Int → Int → vrs) (ev : List Int → Nat → Nat → vrs) (M : mM) (g R W T : Nat) (E : Eg9) (x : Nat) (br : br9) : Prop := mI M (g + 27) x = br.1 ∧ Rtq ww pl XV ev M g R W T E (mI M (g + 26) x) 0 br.2.1.1 br.2.1.2 ∧ mI M (g + 29) x = ((br.2.2.length : Nat) : Int) ∧ ∃ fs : Nat, mI M (g + 28) x = (fs : Int) ∧ ∀ (i : Nat) (q : Nat × Nat × Nat × Nat), br.2.2[i]? = some q → nt M (g + 30) (fs + i) = ((q.1 : Nat) : Int) ∧ nt M (g + 32) (fs + i) = pl q.2.2.2 ∧ q.1 < W ∧ Rtq ww pl XV ev M g R W T E (nt M (g + 34) (fs + i)) (tn M g (100 + (q.1 : Int))) q.2.1 q.2.2.1
/-- a command -/
def RCm (ww pl : Nat → Int) (XV : List Int → Int → vrs) (ev : List Int → Nat → Nat → vrs) (M : mM) (g R W T : Nat) (E : Eg9) (c : Nat) (cm : cm9) : Prop := ((cm.1 = 1 ∧ mI M (g + 22) c = 0) ∨ (cm.1 = 2 ∧ mI M (g + 22) c ≠ 0)) ∧ mI M (g + 23) c = cm.2.1 ∧ Rtq ww pl XV ev M g R W T E (mI M (g + 24) c) 1 cm.2.2.1.1 cm.2.2.1.2 ∧ mI M (g + 25) c = ((cm.2.2.2.length : Nat) : Int) ∧ ∀ (b : Nat) (x : br9), cm.2.2.2[b]? = some x → RBr ww pl XV ev M g R W T E (8 * c + b) x
/-- the game -/
def GP (ww pl : Nat → Int) (XV : List Int → Int → vrs) (ev : List Int → Nat → Nat → vrs) (M : mM) (g R W C T : Nat) (E : Eg9) (tgI : Nat × Nat) (cms : List cm9) (lo hi : Nat → Int) : Prop := (∀ sg, FmX ww pl (XV sg) M g R E.1) ∧ (∀ sg (r : Nat), r < R → mI M (g + 13) r = 0 → XV sg (r : Int) = vr9 (tn M g r) (mL M (g + 16) r) (mL M (g + 17) r)) ∧ (∀ sg (v : Nat), v < W → XV sg (100 + (v : Int)) = (0, sg.getD v 0, 1)) ∧ (∀ v : Nat, v < W → mI M (g + 19) v = lo v ∧ mI M (g + 20) v = hi v) ∧ Rtq ww pl XV ev M g R W T E (mI M g 17) 1 tgI.1 tgI.2 ∧ cms.length = C ∧ ∀ (c : Nat) (cm : cm9), cms[c]? = some cm → RCm ww pl XV ev M g R W T E c cm
variable {G : mG} {d a g T R W C Z : Nat} {M M' M2 : mM} {E : Eg9} {tg : Int} {ww pl lo hi : Nat → Int} {XV : List Int → Int → vrs} {ev : List Int → Nat → Nat → vrs} {tgI : Nat × Nat} {cms : List cm9} {sg : List Int}
theorem gs_nt (k : Gs M M' g) {q : Nat} (hq : gL9 g q) : nt M' q = nt M q := funext (fun j => (k.2.2 q hq).2 j)
theorem gs_gn (k : Gs M M' g) : Gn M g R W T M' := ⟨fun n _ => ⟨(k.2.2 (g + 1) (by first | exact tLk1 g | omega)).2 n, (k.2.2 (g + 7) (by first | exact tLk7 g | omega)).2 n, (k.2.2 (g + 9) (by first | exact tLk9 g | omega)).2 n, (k.2.2 (g + 11) (by first | exact tLk11 g | omega)).2 n, (k.2.2 (g + 3) (by first | exact tLk3 g | omega)).2 n⟩, fun r _ => ⟨by rw [(k.2.1 13 (by omega) (by omega)).1], by rw [(k.2.1 14 (by omega) (by omega)).1]⟩, fun v _ => by rw [(k.2.1 18 (by omega) (by omega)).1]⟩
theorem Rtq.gs {n t : Int} {i j : Nat} (h : Rtq ww pl XV ev M g R W T E n t i j) (k : Gs M M' g) (hR : R ≤ 60) : Rtq ww pl XV ev M' g R W T E n t i j := by
  obtain ⟨n', b, f, e, nv, ⟨h1, h2, h3, h4, h5⟩, h6, h7, h8⟩ := h
  refine ⟨n', b, f, e, nv, ⟨h1, h2, fun r hr z => h3 r hr (by rw [← (k.2.1 13 (by omega) (by omega)).1]; exact z), (gs_gn (R := R) (W := W) (T := T) k).ty hR h2 h5 h4, h5⟩, h6, ?_, h8⟩
  show Td ww pl nv (nt M' (g + 1)) (nt M' (g + 3)) (nt M' (g + 7)) (nt M' (g + 9)) (nt M' (g + 11)) 0 0 i j n' e
  rw [gs_nt k (q := g + 1) (by omega), gs_nt k (q := g + 3) (by omega), gs_nt k (q := g + 7) (by omega), gs_nt k (q := g + 9) (by omega), gs_nt k (q := g + 11) (by omega)]
  exact h7
theorem RBr.gs {x : Nat} {br : br9} (h : RBr ww pl XV ev M g R W T E x br) (k : Gs M M' g) (hR : R ≤ 60) : RBr ww pl XV ev M' g R W T E x br := by
  obtain ⟨h1, h2, h3, fs, h4, h5⟩ := h
  unfold RBr
  rw [(k.2.1 27 (by omega) (by omega)).1, (k.2.1 26 (by omega) (by omega)).1, (k.2.1 29 (by omega) (by omega)).1, (k.2.1 28 (by omega) (by omega)).1, gs_nt k (q := g + 30) (by omega), gs_nt k (q := g + 32) (by omega), gs_nt k (q := g + 34) (by omega), gs_tn k]
  exact ⟨h1, h2.gs k hR, h3, fs, h4, fun i q hq => ⟨(h5 i q hq).1, (h5 i q hq).2.1, (h5 i q hq).2.2.1, (h5 i q hq).2.2.2.gs k hR⟩⟩
theorem RCm.gs {c : Nat} {cm : cm9} (h : RCm ww pl XV ev M g R W T E c cm) (k : Gs M M' g) (hR : R ≤ 60) : RCm ww pl XV ev M' g R W T E c cm := by
  obtain ⟨h1, h2, h3, h4, h5⟩ := h
  unfold RCm
  rw [(k.2.1 22 (by omega) (by omega)).1, (k.2.1 23 (by omega) (by omega)).1, (k.2.1 24 (by omega) (by omega)).1, (k.2.1 25 (by omega) (by omega)).1]
  exact ⟨h1, h2, h3.gs k hR, h4, fun b x hb => (h5 b x hb).gs k hR⟩
theorem GP.gs (h : GP ww pl XV ev M g R W C T E tgI cms lo hi) (k : Gs M M' g) (hR : R ≤ 60) : GP ww pl XV ev M' g R W C T E tgI cms lo hi := by
  obtain ⟨h1, h2, h3, h4, h5, h6, h7⟩ := h
  refine ⟨fun sg r hr z => ?_, fun sg r hr z => ?_, h3, ?_, ?_, h6, fun c cm hc => (h7 c cm hc).gs k hR⟩
  · rw [(k.2.1 13 (by omega) (by omega)).1] at z
    obtain ⟨n, nv, i, j, e1, e2, e3, e4⟩ := h1 sg r hr z
    refine ⟨n, nv, i, j, by rw [(k.2.1 15 (by omega) (by omega)).1]; exact e1, e2, ?_, e4⟩
    show Td ww pl nv (nt M' (g + 1)) (nt M' (g + 3)) (nt M' (g + 7)) (nt M' (g + 9)) (nt M' (g + 11)) 0 0 i j n (E.1 r)
    rw [gs_nt k (q := g + 1) (by omega), gs_nt k (q := g + 3) (by omega), gs_nt k (q := g + 7) (by omega), gs_nt k (q := g + 9) (by omega), gs_nt k (q := g + 11) (by omega)]
    exact e3
  · rw [(k.2.1 13 (by omega) (by omega)).1] at z
    rw [gs_tn k, (k.2.1 16 (by omega) (by omega)).2, (k.2.1 17 (by omega) (by omega)).2]
    exact h2 sg r hr z
  · rw [(k.2.1 19 (by omega) (by omega)).1, (k.2.1 20 (by omega) (by omega)).1]
    exact h4
  · rw [k.1]
    exact h5.gs k hR
/-- what reaching comes to -/
def reX (v : vrs) (t : Int) (xv : Int → vrs) (a g R W : Nat) (M' : mM) : Prop := fvq M' a v ∨ (mI M' a 16 = 0 ∧ v = vr9 t (mL M' (a + 97) 0) (mL M' (a + 98) 0) ∧ XVq M' a g R W xv)
theorem x_MM_reach {n t : Int} {i j : Nat} (h : GG M a g T R W C Z E tg) (hn : En M a g R W) (hf : ∀ sg, FmX ww pl (XV sg) M g R E.1) (hx : XVq M a g R W (XV sg)) (hr : Rtq ww pl XV ev M g R W T E n t i j) (z16 : mI M a 16 = 0) : Cv G y_MM_reach (d + 5) [vr a, vi n] M (fun M' => mOk M' ∧ reQ M a g T R W C Z E tg t M' ∧ reX (ev sg i j) t (XV sg) a g R W M') := by
  obtain ⟨n', b, f, e, nv, ⟨r1, r2, r3, r4, r5⟩, r6, r7, r8⟩ := hr
  subst r1
  have ev' := h.ev hn
  have w := h.2.1
  have hg := h.2.2.1.2
  have hT := h.2.2.2.2.1
  have hlt := r4.tn.lt
  refine k_MM_reach h.1 (i32s (by omega) (by omega)) ⟨w.1.1, ?_⟩
  rw [h.2.2.1.1]
  refine (x_MM_workOutT (d := d) hx ev' h.2.2.2.2.2.2.2.1.2.2.1 (hf sg) r2 r3 r6 r7 r4 r5).mono (fun M' t' => ?_)
  obtain ⟨o', ⟨E', v'⟩, u'⟩ := t'
  have xr' : xr M a M' := ⟨E'.1, E'.2.2⟩
  have x : xe M a M' := xr'.xe w
  have gs := x.gs w hg
  rw [r8 sg] at u'
  refine ⟨o', o', ⟨xr', x.gg h, ⟨fun r hr q1 q2 => (E'.2.1.2.2.2.2.2.1 r hr).2 trivial q1 q2, fun v hv => ?_⟩, v'⟩, u' z16⟩
  rw [(gs.2.1 19 (by omega) (by omega)).1, (gs.2.1 20 (by omega) (by omega)).1, (E'.gs w).2.2.2.2.2.2]
  exact hn.2 v hv
end RGP
end
section
/-! The reference: a state is entered, exactly. -/
section ENX
variable {G : mG} {d a g T R W C Z : Nat} {M M' : mM} {E : Eg9} {tg : Int} {P S : Nat → Prop} {ww pl lo hi : Nat → Int} {XV : List Int → Int → vrs} {ev : List Int → Nat → Nat → vrs} {tgI : Nat × Nat} {cms : List cm9} {sg : List Int}
theorem x_MM_enter {k : Nat} (h : GG M a g T R W C Z E tg) (hk : k < 512) (hv : ∀ v : Nat, v < W → mI M (g + 19) v ≤ mI M (a + 105) (12 * k + v) ∧ mI M (a + 105) (12 * k + v) ≤ mI M (g + 20) v) : Cv G y_MM_enter d [vr a, vi k] M (fun M' => mOk M' ∧ Mv (fun _ => False) (fun x => x = a + 101 ∨ x = a + 102) M a M' ∧ En M' a g R W ∧ (∀ v : Nat, v < W → mI M' (a + 101) v = mI M (a + 105) (12 * k + v)) ∧ ∀ r : Nat, r < R → mI M' (a + 102) r = 0) := by
  have hO := h.1
  have w := h.2.1
  have hg := h.2.2.1.2
  have hBd := h.2.2.2.2.2.2.2.1.1
  have g6 := h.2.2.2.2.2.1.1
  have g12 := h.2.2.2.2.2.1.2.1
  have r9 := h.2.2.1.1
  have ik : i32 (k : Int) := i32s (by omega) (by omega)
  have no : ∀ q : Nat, False → q ∈ nums a := fun _ z => z.elim
  have gsl : ∀ {Mx : mM}, Mv (fun _ => False) (fun x => x = a + 101 ∨ x = a + 102) M a Mx → Gs M Mx g := fun m => gs_st w hg m no (fun _ z => z.elim) (fun x hx => by omega)
  -- the formulas are forgotten
  have L2 : ∀ (c r : Nat) (M2 : mM), r + c = R → Mv (fun _ => False) (fun x => x = a + 101 ∨ x = a + 102) M a M2 → (∀ v : Nat, v < W → mI M2 (a + 101) v = mI M (a + 105) (12 * k + v)) → (∀ r' : Nat, r' < r → mI M2 (a + 102) r' = 0) → h_MM_enter_38 G d a r M2 (fun M' => mOk M' ∧ Mv (fun _ => False) (fun x => x = a + 101 ∨ x = a + 102) M a M' ∧ En M' a g R W ∧ (∀ v : Nat, v < W → mI M' (a + 101) v = mI M (a + 105) (12 * k + v)) ∧ ∀ r : Nat, r < R → mI M' (a + 102) r = 0) := by
    intro c
    induction c with
    | zero =>
      intro r M2 hr m2 n2 f2
      have er : r = R := by omega
      subst er
      have w2 := m2.2.1
      have gs := gsl m2
      refine k_MM_enter_38 m2.1 (i32s (by omega) (by omega)) ⟨w2.1.1, ?_⟩
      rw [m2.rfl_a w no, r9, gs.1, g6]
      refine ⟨(w2.gp hg).1, fun _ => ⟨m2.1, m2, ⟨fun r hr _ q => absurd (f2 r hr) q, fun v hv' => ?_⟩, n2, f2⟩, fun q => absurd (Int.le_refl _) q⟩
      rw [(gs.2.1 19 (by omega) (by omega)).1, (gs.2.1 20 (by omega) (by omega)).1, n2 v hv']
      exact hv v hv'
    | succ c ih =>
      intro r M2 hr m2 n2 f2
      have w2 := m2.2.1
      have gs := gsl m2
      have A2 : mK M2 (a + 102) = 31 ∧ mN M2 (a + 102) = 60 := w2.1.2.2.2.2.2.2.2.1.2.2.2.1
      refine k_MM_enter_38 m2.1 (i32s (by omega) (by omega)) ⟨w2.1.1, ?_⟩
      rw [show mR M2 a 26 = a + 102 from w2.1.2.2.2.2.1.2.2.2.2.2.2.2.2.2.2.1, m2.rfl_a w no, r9, gs.1, g6, Int.toNat_natCast]
      refine ⟨(w2.gp hg).1, fun q => absurd q (by omega), fun _ => ⟨A2.1, by rw [A2.2]; omega, fun M3 e3 => ?_⟩⟩
      obtain ⟨m3, f3, l3⟩ := mv_cell (v := 0) ⟨by decide, by decide⟩ m2.1 w2 (show a ≤ a + 102 by omega) (offx (a := a) (o := 102) (by decide)) e3
      have nx := ih (r + 1) M3 (by omega) (m2.trans (m3.mono (fun _ z => z.elim) (fun x z => Or.inr z) (fun _ z => z.elim))) (fun v hv' => by rw [f3, if_neg (fun z => by omega)]; exact n2 v hv') (fun r' hr' => ?_)
      · rw [show ((r + 1 : Nat) : Int) = (r : Int) + 1 by omega] at nx
        exact nx
      · rw [f3]
        by_cases z : r' = r
        · rw [if_pos ⟨rfl, z⟩]
        · rw [if_neg (fun y => z y.2)]
          exact f2 r' (by omega)
  refine k_MM_enter hO ik ?_
  suffices L1 : ∀ (c v : Nat) (M2 : mM), v + c = W → Mv (fun _ => False) (fun x => x = a + 101 ∨ x = a + 102) M a M2 → mI M2 (a + 105) = mI M (a + 105) → (∀ v' : Nat, v' < v → mI M2 (a + 101) v' = mI M (a + 105) (12 * k + v')) → h_MM_enter_2 G d a k v M2 (fun M' => mOk M' ∧ Mv (fun _ => False) (fun x => x = a + 101 ∨ x = a + 102) M a M' ∧ En M' a g R W ∧ (∀ v : Nat, v < W → mI M' (a + 101) v = mI M (a + 105) (12 * k + v)) ∧ ∀ r : Nat, r < R → mI M' (a + 102) r = 0) from L1 W 0 M (by omega) (Mv.refl hO w (fun _ z => z.elim)) rfl (fun v hv' => absurd hv' (by omega))
  intro c
  induction c with
  | zero =>
    intro v M2 hc m2 e105 n2
    have ev : v = W := by omega
    subst ev
    have w2 := m2.2.1
    have gs := gsl m2
    refine k_MM_enter_2 m2.1 ik (i32s (by omega) (by omega)) ⟨w2.1.1, ?_⟩
    rw [m2.rfl_a w no, r9, gs.1, g12]
    exact ⟨(w2.gp hg).1, fun _ => L2 R 0 M2 (by omega) m2 n2 (fun r hr => absurd hr (by omega)), fun q => absurd (Int.le_refl _) q⟩
  | succ c ih =>
    intro v M2 hc m2 e105 n2
    have w2 := m2.2.1
    have gs := gsl m2
    have A1 : mK M2 (a + 101) = 30 ∧ mN M2 (a + 101) = 12 := w2.1.2.2.2.2.2.2.2.1.2.2.1
    have A5 : mK M2 (a + 105) = 30 ∧ mN M2 (a + 105) = 6144 := w2.1.2.2.2.2.2.2.2.2.1.1
    have r31 : mR M2 a 31 = a + 105 := w2.1.2.2.2.2.2.1.1
    have r25 : mR M2 a 25 = a + 101 := w2.1.2.2.2.2.1.2.2.2.2.2.2.2.2.2.1
    have e9 : mR M2 a 9 = g := by rw [m2.rfl_a w no]; exact r9
    refine k_MM_enter_2 m2.1 ik (i32s (by omega) (by omega)) ⟨w2.1.1, ?_⟩
    rw [r31, r25, e9, gs.1, g12, Int.toNat_natCast, show 12 * (k : Int) + (v : Int) = ((12 * k + v : Nat) : Int) by omega, Int.toNat_natCast, e105]
    refine ⟨(w2.gp hg).1, fun q => absurd q (by omega), fun _ => ⟨A5.1, by rw [A5.2]; omega, A1.1, by rw [A1.2]; omega, fun M3 e3 => ?_⟩⟩
    obtain ⟨m3, f3, l3⟩ := mv_cell (hO _ _).1 m2.1 w2 (show a ≤ a + 101 by omega) (offx (a := a) (o := 101) (by decide)) e3
    have nx := ih (v + 1) M3 (by omega) (m2.trans (m3.mono (fun _ z => z.elim) (fun x z => Or.inl z) (fun _ z => z.elim))) (by rw [← e105]; exact m3.cell w2 no (by omega) (offx (a := a) (o := 105) (by decide)).2.1 (offx (a := a) (o := 105) (by decide)).2.2 (by omega)) (fun v' hv' => ?_)
    · rw [show ((v + 1 : Nat) : Int) = (v : Int) + 1 by omega] at nx
      exact nx
    · rw [f3]
      by_cases z : v' = v
      · rw [if_pos ⟨rfl, z⟩, z]
      · rw [if_neg (fun y => z y.2)]
        exact n2 v' (by omega)
/-- a state's values -/
def lsR (M : mM) (a W k : Nat) : List Int := (List.range W).map (fun v => mI M (a + 105) (12 * k + v))
theorem getD_mp {V v : Nat} {f : Nat → Int} (h : v < V) : ((List.range V).map f).getD v 0 = f v := by
  rw [List.getD_eq_getElem?_getD, List.getElem?_map, List.getElem?_range h]
  rfl
/-- the state is entered: names are worth what they are worth there -/
theorem xv_ent (h : GG M' a g T R W C Z E tg) (hp : GP ww pl XV ev M' g R W C T E tgI cms lo hi) (h1 : ∀ v : Nat, v < W → mI M' (a + 101) v = sg.getD v 0) (h2 : ∀ r : Nat, r < R → mI M' (a + 102) r = 0) : XVq M' a g R W (XV sg) := by
  refine ⟨fun r hr => ⟨fun z => hp.2.1 sg r hr z, fun _ z => absurd (h2 r hr) z⟩, fun v hv => ?_⟩
  obtain ⟨v1, v2, v3, v4, v5, v6⟩ := h.2.2.2.2.2.2.2.1.2.2.2.1 v hv
  have e : tn M' g (100 + (v : Int)) = mI M' (g + 18) v := by
    unfold tn
    rw [if_pos (show (100 : Int) ≤ 100 + (v : Int) by omega), show (100 + (v : Int) - 100).toNat = v by omega]
    rcases v6 with y | y <;> rw [y] <;> rfl
  rw [hp.2.2.1 sg v hv, e, h1 v hv]
  unfold vr9
  rcases v6 with y | y
  · rw [y]; rfl
  · rw [y]; rfl
/-- a step elsewhere leaves the names' values -/
theorem XVq.mv {xv : Int → vrs} (h : XVq M a g R W xv) (w : Wd M a) (m : Mv P S M a M') (hin : ∀ q, P q → q ∈ nums a) (gs : Gs M M' g) (hS : ∀ x, S x → ¬ (a + 101 ≤ x ∧ x ≤ a + 104)) : XVq M' a g R W xv := by
  have c101 := m.cellL w hin (offx (a := a) (o := 101) (by decide)) (fun z => hS _ z (by omega))
  have c102 := m.cellL w hin (offx (a := a) (o := 102) (by decide)) (fun z => hS _ z (by omega))
  have c103 := m.cellL w hin (offx (a := a) (o := 103) (by decide)) (fun z => hS _ z (by omega))
  have c104 := m.cellL w hin (offx (a := a) (o := 104) (by decide)) (fun z => hS _ z (by omega))
  unfold XVq
  rw [gs_tn gs, c101.1, c102.1, c103.2, c104.2, (gs.2.1 13 (by omega) (by omega)).1, (gs.2.1 16 (by omega) (by omega)).2, (gs.2.1 17 (by omega) (by omega)).2, (gs.2.1 18 (by omega) (by omega)).1]
  exact h
end ENX
end
section
/-! The reference: the chances of a command, exactly. -/
section CHX
variable {G : mG} {d a g T R W C Z nb : Nat} {M M' : mM} {E : Eg9} {tg : Int} {ww pl lo hi : Nat → Int} {XV : List Int → Int → vrs} {ev : List Int → Nat → Nat → vrs} {tgI : Nat × Nat} {cms : List cm9} {sg : List Int}
/-- the first n chances -/
def lchR (M : mM) (a n : Nat) : List (Int × Int) := (List.range n).map (fun b => (mL M (a + 21189) b, mL M (a + 21190) b))
theorem lchR_len {n : Nat} : (lchR M a n).length = n := by
  unfold lchR
  rw [List.length_map, List.length_range]
theorem lchR_s {n : Nat} : lchR M a (n + 1) = lchR M a n ++ [(mL M (a + 21189) n, mL M (a + 21190) n)] := by
  unfold lchR
  rw [List.range_succ, List.map_append]
  rfl
theorem lchR_cg {n : Nat} (h : ∀ b, b < n → mL M' (a + 21189) b = mL M (a + 21189) b ∧ mL M' (a + 21190) b = mL M (a + 21190) b) : lchR M' a n = lchR M a n := by
  unfold lchR
  exact List.map_congr_left (fun b hb => by rw [(h b (List.mem_range.mp hb)).1, (h b (List.mem_range.mp hb)).2])
theorem lchR_get {n b : Nat} (h : b < n) : (lchR M a n)[b]? = some (mL M (a + 21189) b, mL M (a + 21190) b) := by
  unfold lchR
  rw [List.getElem?_map, List.getElem?_range h]
  rfl
theorem lchR_drop {n b : Nat} (h : b < n) : (lchR M a n).drop b = (mL M (a + 21189) b, mL M (a + 21190) b) :: (lchR M a n).drop (b + 1) := by
  obtain ⟨hl, he⟩ := List.getElem?_eq_some_iff.mp (lchR_get (M := M) (a := a) h)
  rw [List.drop_eq_getElem_cons hl, he]
theorem gcd_un {x A B : Int} (h1 : 1 ≤ x) (h2 : x ∣ A) (h3 : x ∣ B) (h4 : ∀ z : Int, z ∣ A → z ∣ B → z ∣ x) : x = (Int.gcd A B : Int) := by
  have d1 : x ∣ (Int.gcd A B : Int) := Int.dvd_coe_gcd h2 h3
  have d2 : (Int.gcd A B : Int) ∣ x := h4 _ (Int.gcd_dvd_left ..) (Int.gcd_dvd_right ..)
  exact Int.dvd_antisymm (by omega) (by omega) d1 d2
theorem Gs.trans {M2 : mM} (h : Gs M M2 g) (k : Gs M2 M' g) : Gs M M' g := ⟨k.1.trans h.1, fun i i1 i2 => ⟨(k.2.1 i i1 i2).1.trans (h.2.1 i i1 i2).1, (k.2.1 i i1 i2).2.trans (h.2.1 i i1 i2).2⟩, fun q hq => ⟨(k.2.2 q hq).1.trans (h.2.2 q hq).1, fun j => ((k.2.2 q hq).2 j).trans ((h.2.2 q hq).2 j)⟩⟩
/-- a fault of chances -/
def chE (ch : (Int × Int) × List (Int × Int)) (pc : Int) (M' : mM) (a : Nat) : Prop := (ch.1.1 ≠ 0 ∧ mI M' a 16 = ch.1.1 ∧ mI M' a 17 = ch.1.2) ∨ (ch.1.1 = 0 ∧ muq9 ch.2 1 = 0 ∧ mI M' a 16 = 6 ∧ mI M' a 17 = pc)
/-- what chances come to -/
def chY (ch : (Int × Int) × List (Int × Int)) (pc : Int) (nb : Nat) (xv : Int → vrs) (a g R W : Nat) (x : Int) (M' : mM) : Prop := chE ch pc M' a ∨ (ch.1.1 = 0 ∧ muq9 ch.2 1 ≠ 0 ∧ mI M' a 16 = 0 ∧ x = muq9 ch.2 1 ∧ lchR M' a nb = ch.2 ∧ XVq M' a g R W xv)
theorem x_ch129 {c nb : Nat} {pc : Int} {xv : Int → vrs} {ch : (Int × Int) × List (Int × Int)} (hc : c < C) (ipl : i32 pc) (hnb : nb ≤ 8) : ∀ (t b : Nat) (j : Int) (M2 : mM), b + t = nb → xg M a g T R W C Z E tg M2 → mI M2 (g + 25) c = (nb : Int) → i64 j → (mI M2 a 16 = 0 → chk1 M2 a nb ∧ 1 ≤ j ∧ j < 1000000000 ∧ ∀ b' : Nat, b' < b → mL M2 (a + 21190) b' ∣ j) → (mI M2 a 16 = 0 → ch = ((0, 0), lchR M2 a nb) ∧ muq9 ch.2 1 = muq9 (ch.2.drop b) j ∧ XVq M2 a g R W xv) → (mI M2 a 16 ≠ 0 → chE ch pc M2 a) → h_MM_chances_129 G d a c pc j b M2 (fun x M' => i64 x ∧ mOk M' ∧ chQ M a g T R W C Z E tg nb x M' ∧ chY ch pc nb xv a g R W x M') := by
  intro t
  induction t with
  | zero =>
    intro b j M2 hb h h25 ij hj hz hf
    have eb : b = nb := by omega
    subst eb
    have gg := h.2.1
    have w2 := gg.2.1
    have hg := gg.2.2.1.2
    have hBd := gg.2.2.2.2.2.2.2.1.1
    refine k_MM_chances_129 gg.1 (i32s (by omega) (by omega)) ipl ij (i32s (by omega) (by omega)) ⟨w2.1.1, ?_⟩
    rw [gg.2.2.1.1, show mR M2 g 22 = g + 25 from (w2.gp hg).2.2.1.2.2.2.2.2.2.2.1, Int.toNat_natCast, h25]
    have b60 : ((0 : Int) ≤ (c : Int) ∧ (c : Int) < ((60 : Nat) : Int)) := by omega
    refine ⟨(w2.gp hg).1, (w2.gp hg).2.2.2.2.2.2.2.2.1.1, by rw [(w2.gp hg).2.2.2.2.2.2.2.2.1.2]; exact b60, fun _ => ⟨ij, gg.1, ⟨ij, h, ?_⟩, ?_⟩, fun q => absurd (Or.inl (Int.le_refl _)) q⟩
    · by_cases z : mI M2 a 16 = 0
      · exact Or.inr ⟨z, hj z⟩
      · exact Or.inl z
    · by_cases z : mI M2 a 16 = 0
      · obtain ⟨z1, z2, z3⟩ := hz z
        obtain ⟨-, j1, -⟩ := hj z
        have e2 : ch.2 = lchR M2 a b := by rw [z1]
        have e3 : muq9 ch.2 1 = j := by
          rw [z2, e2, List.drop_eq_nil_of_le (by rw [lchR_len]; exact Nat.le_refl _)]
          rfl
        exact Or.inr ⟨by rw [z1], by rw [e3]; omega, z, e3.symm, e2.symm, z3⟩
      · exact Or.inl (hf z)
  | succ t ih =>
    intro b j M2 hb h h25 ij hj hz hf
    have gg := h.2.1
    have w2 := gg.2.1
    have hg := gg.2.2.1.2
    have hBd := gg.2.2.2.2.2.2.2.1.1
    have b60 : ((0 : Int) ≤ (c : Int) ∧ (c : Int) < ((60 : Nat) : Int)) := by omega
    have b8 : ((0 : Int) ≤ (b : Int) ∧ (b : Int) < ((8 : Nat) : Int)) := by omega
    have ib : i32 (b : Int) := i32s (by omega) (by omega)
    have ic : i32 (c : Int) := i32s (by omega) (by omega)
    have hbn : b < nb := by omega
    refine k_MM_chances_129 gg.1 ic ipl ij ib ⟨w2.1.1, ?_⟩
    rw [gg.2.2.1.1, show mR M2 g 22 = g + 25 from (w2.gp hg).2.2.1.2.2.2.2.2.2.2.1, Int.toNat_natCast, h25, (r4546 w2).1.2, Int.toNat_natCast]
    refine ⟨(w2.gp hg).1, (w2.gp hg).2.2.2.2.2.2.2.2.1.1, by rw [(w2.gp hg).2.2.2.2.2.2.2.2.1.2]; exact b60, fun q => ⟨ij, gg.1, ⟨ij, h, Or.inl ?_⟩, Or.inl (hf ?_)⟩, fun q => ?_⟩
    · rcases q with q | q
      · omega
      · exact q
    · rcases q with q | q
      · omega
      · exact q
    have z2 : mI M2 a 16 = 0 := Classical.byContradiction (fun z => q (Or.inr z))
    obtain ⟨c1, j1, j2, j3⟩ := hj z2
    obtain ⟨z1, zm, zx⟩ := hz z2
    obtain ⟨e1, e2, e3, e4⟩ := c1 b hbn
    refine ⟨(r4546 w2).2.2.1, by rw [(r4546 w2).2.2.2]; exact b8, (s_MM_divisor2 (by omega) ⟨by omega, by omega, by omega⟩ gg.1).mono (fun x M3 h3 => ?_)⟩
    obtain ⟨em, x1, x2, hxa, hxb, hxc⟩ := h3
    have xg9 : x = (Int.gcd j (mL M2 (a + 21190) b) : Int) := gcd_un x1 hxa hxb hxc
    obtain ⟨u, hu⟩ := hxa
    obtain ⟨v, hv⟩ := hxb
    subst em
    have xne : x ≠ 0 := by omega
    have td : Int.tdiv j x = u := by rw [hu]; exact Int.mul_tdiv_cancel_left u xne
    have u0 : 0 < u := by
      by_cases y : 0 < u
      · exact y
      · have := Int.mul_le_mul_of_nonneg_left (show u ≤ 0 by omega) (show 0 ≤ x by omega)
        rw [← hu] at this
        omega
    have u1 : u ≤ j := by
      have := Int.mul_le_mul_of_nonneg_right x1 (show 0 ≤ u by omega)
      rw [← hu] at this
      omega
    have pr : 0 ≤ u * mL M3 (a + 21190) b ∧ u * mL M3 (a + 21190) b ≤ 1000000000 * 1000000000 := ⟨Int.mul_nonneg (by omega) (by omega), Int.mul_le_mul (by omega) (by omega) (by omega) (by omega)⟩
    have p1 : 1 ≤ u * mL M3 (a + 21190) b := by
      have := Int.mul_le_mul (show 1 ≤ u by omega) e3 (by omega) (by omega)
      omega
    have ip : i64 (u * mL M3 (a + 21190) b) := ⟨by omega, by omega⟩
    have dv : ∀ b' : Nat, b' < b + 1 → mL M3 (a + 21190) b' ∣ u * mL M3 (a + 21190) b := fun b' hb' => by
      by_cases y : b' = b
      · rw [y]; exact Int.dvd_mul_left u _
      · refine Int.dvd_trans (j3 b' (by omega)) ?_
        rw [hu, hv, show u * (x * v) = x * u * v by rw [← Int.mul_assoc, Int.mul_comm u x]]
        exact Int.dvd_mul_right (x * u) v
    have uq : j / x = u := by rw [hu]; exact Int.mul_ediv_cancel_left u xne
    have mq : muq9 (ch.2.drop b) j = if 1000000000 ≤ u * mL M3 (a + 21190) b then 0 else muq9 (ch.2.drop (b + 1)) (u * mL M3 (a + 21190) b) := by
      have e2 : ch.2 = lchR M3 a nb := by rw [z1]
      rw [e2, lchR_drop hbn]
      show (if 1000000000 ≤ j / (Int.gcd j (mL M3 (a + 21190) b) : Int) * mL M3 (a + 21190) b then 0 else muq9 ((lchR M3 a nb).drop (b + 1)) (j / (Int.gcd j (mL M3 (a + 21190) b) : Int) * mL M3 (a + 21190) b)) = _
      rw [← xg9, uq]
    rw [(r4546 w2).1.2, td]
    refine ⟨⟨by omega, by omega⟩, gg.1, xne, w2.1.1, (r4546 w2).2.2.1, by rw [(r4546 w2).2.2.2]; exact b8, ip, fun q6 => ?_, fun q6 => ?_⟩
    · refine k_MM_chances_187 gg.1 ic ipl ip ib ?_
      rw [show (b : Int) + 1 = ((b + 1 : Nat) : Int) by omega]
      have q7 := (cmpz _ _).2.2.1.1 q6
      exact ih (b + 1) _ M3 (by omega) h h25 ip (fun _ => ⟨c1, p1, q7, dv⟩) (fun _ => ⟨z1, by rw [zm, mq, if_neg (by omega)], zx⟩) hf
    · refine (s_MM_stop ⟨by decide, by decide⟩ ipl gg.1 w2).mono (fun M4 h4 => ⟨h4.1.1, ?_⟩)
      have X4 := h.stp h4
      refine k_MM_chances_187 h4.1.1 ic ipl ip ib ?_
      rw [show (b : Int) + 1 = ((b + 1 : Nat) : Int) by omega]
      have q7 : 1000000000 ≤ u * mL M3 (a + 21190) b := by
        by_cases y : u * mL M3 (a + 21190) b < 1000000000
        · exact absurd ((cmpz _ _).2.2.1.2 y) q6
        · omega
      refine ih (b + 1) _ M4 (by omega) X4 ?_ ip (fun z => ?_) (fun z => ?_) (fun _ => Or.inr ⟨by rw [z1], by rw [zm, mq, if_pos q7], h4.2.1, h4.2.2.1⟩)
      · have gs := gs_st (P := fun _ => False) (S := fun x => x = a) w2 hg h4.1 (fun _ z => z.elim) (fun _ z => z.elim) (fun x z => by omega)
        rw [(gs.2.1 25 (by omega) (by omega)).1]
        exact h25
      · rw [h4.2.1] at z
        exact absurd z (by decide)
      · rw [h4.2.1] at z
        exact absurd z (by decide)
theorem x_MM_chances {c nb : Nat} {pc : Int} {cm : cm9} (h : GG M a g T R W C Z E tg) (hn : En M a g R W) (hp : GP ww pl XV ev M g R W C T E tgI cms lo hi) (hx : XVq M a g R W (XV sg)) (z16 : mI M a 16 = 0) (hcm : cms[c]? = some cm) (hc : c < C) (ipl : i32 pc) (hnb : mI M (g + 25) c = (nb : Int)) : Cj G y_MM_chances (d + 6) [vr a, vi c, vi pc] M (fun x M' => i64 x ∧ mOk M' ∧ chQ M a g T R W C Z E tg nb x M' ∧ chY (chq9 ev sg cm.2.2.2) pc nb (XV sg) a g R W x M') := by
  have hg := h.2.2.1.2
  have hBd := h.2.2.2.2.2.2.2.1.1
  have nb8 : nb ≤ 8 := by
    have := (h.2.2.2.2.2.2.2.1.2.2.2.2.1 c hc).2.2.1
    omega
  have ic : i32 (c : Int) := i32s (by omega) (by omega)
  refine k_MM_chances h.1 ic ipl ?_
  suffices H : ∀ (t b : Nat) (M2 : mM), b + t = nb → xg M a g T R W C Z E tg M2 → mI M2 (g + 25) c = (nb : Int) → (mI M2 a 16 = 0 → chk1 M2 a b) → (mI M2 a 16 = 0 → chq9 ev sg cm.2.2.2 = ((chq9 ev sg (cm.2.2.2.drop b)).1, lchR M2 a b ++ (chq9 ev sg (cm.2.2.2.drop b)).2) ∧ XVq M2 a g R W (XV sg)) → (mI M2 a 16 ≠ 0 → chE (chq9 ev sg cm.2.2.2) pc M2 a) → h_MM_chances_2 G (d + 5) a c pc b M2 (fun x M' => i64 x ∧ mOk M' ∧ chQ M a g T R W C Z E tg nb x M' ∧ chY (chq9 ev sg cm.2.2.2) pc nb (XV sg) a g R W x M') from H nb 0 M (by omega) ⟨xe.refl h.1 h.2.1, h, hn⟩ hnb (fun _ b' hb' => absurd hb' (by omega)) (fun _ => ⟨rfl, hx⟩) (fun z => absurd z16 z)
  have hR := h.2.2.2.2.2.2.2.1.1.1
  have hlen : cm.2.2.2.length = nb := by
    have e := (hp.2.2.2.2.2.2 c cm hcm).2.2.2.1
    rw [hnb] at e
    omega
  intro t
  induction t with
  | zero =>
    intro b M2 hb x h25 hch hz hf
    have eb : b = nb := by omega
    subst eb
    have gg := x.2.1
    have w2 := gg.2.1
    have b60 : ((0 : Int) ≤ (c : Int) ∧ (c : Int) < ((60 : Nat) : Int)) := by omega
    refine k_MM_chances_2 gg.1 ic ipl (i32s (by omega) (by omega)) ⟨w2.1.1, ?_⟩
    rw [gg.2.2.1.1, show mR M2 g 22 = g + 25 from (w2.gp hg).2.2.1.2.2.2.2.2.2.2.1, Int.toNat_natCast, h25]
    exact ⟨(w2.gp hg).1, (w2.gp hg).2.2.2.2.2.2.2.2.1.1, by rw [(w2.gp hg).2.2.2.2.2.2.2.2.1.2]; exact b60, fun _ => x_ch129 hc ipl nb8 b 0 1 M2 (by omega) x h25 ⟨by decide, by decide⟩ (fun z => ⟨hch z, by decide, by decide, fun b' hb' => absurd hb' (by omega)⟩) (fun z => by
      obtain ⟨z1, z2⟩ := hz z
      have e9 : chq9 ev sg cm.2.2.2 = ((0, 0), lchR M2 a b) := by
        rw [z1, List.drop_eq_nil_of_le (by omega)]
        show ((0, 0), lchR M2 a b ++ []) = _
        rw [List.append_nil]
      exact ⟨e9, by rw [e9]; rfl, z2⟩) hf, fun q => absurd (Or.inl (Int.le_refl _)) q⟩
  | succ t ih =>
    intro b M2 hb x h25 hch hz hf
    have gg := x.2.1
    have w2 := gg.2.1
    have b60 : ((0 : Int) ≤ (c : Int) ∧ (c : Int) < ((60 : Nat) : Int)) := by omega
    have b8 : ((0 : Int) ≤ (b : Int) ∧ (b : Int) < ((8 : Nat) : Int)) := by omega
    have b480 : ((0 : Int) ≤ ((8 * c + b : Nat) : Int) ∧ ((8 * c + b : Nat) : Int) < ((480 : Nat) : Int)) := by omega
    have ib : i32 (b : Int) := i32s (by omega) (by omega)
    have bc := (gg.2.2.2.2.2.2.2.1.2.2.2.2.1 c hc).2.2.2 b (by rw [h25]; omega)
    refine k_MM_chances_2 gg.1 ic ipl ib ⟨w2.1.1, ?_⟩
    rw [gg.2.2.1.1, show mR M2 g 22 = g + 25 from (w2.gp hg).2.2.1.2.2.2.2.2.2.2.1, show mR M2 g 23 = g + 26 from (w2.gp hg).2.2.1.2.2.2.2.2.2.2.2.1, Int.toNat_natCast, h25, show 8 * (c : Int) + (b : Int) = ((8 * c + b : Nat) : Int) by omega, Int.toNat_natCast, Int.toNat_natCast]
    refine ⟨(w2.gp hg).1, (w2.gp hg).2.2.2.2.2.2.2.2.1.1, by rw [(w2.gp hg).2.2.2.2.2.2.2.2.1.2]; exact b60, fun q => ?_, fun q => ⟨(w2.gp hg).2.2.2.2.2.2.2.2.2.1.1, by rw [(w2.gp hg).2.2.2.2.2.2.2.2.2.1.2]; exact b480, ?_⟩⟩
    · have z2 : ¬ (mI M2 a 16 = 0) := by
        rcases q with q | q
        · omega
        · exact q
      exact x_ch129 hc ipl nb8 nb 0 1 M2 (by omega) x h25 ⟨by decide, by decide⟩ (fun z => absurd z z2) (fun z => absurd z z2) hf
    have z2 : mI M2 a 16 = 0 := Classical.byContradiction (fun z => q (Or.inr z))
    have hch := hch z2
    obtain ⟨zq, zx⟩ := hz z2
    obtain ⟨br, hbr⟩ : ∃ br : br9, cm.2.2.2[b]? = some br := ⟨_, List.getElem?_eq_getElem (by omega)⟩
    have gsM : Gs M M2 g := x.1.gs h.2.1 hg
    have rb := ((hp.2.2.2.2.2.2 c cm hcm).2.2.2.2 b br hbr).gs gsM hR
    have dq : cm.2.2.2.drop b = br :: cm.2.2.2.drop (b + 1) := by
      obtain ⟨hl, he⟩ := List.getElem?_eq_some_iff.mp hbr
      rw [List.drop_eq_getElem_cons hl, he]
    rw [dq] at zq
    have hf2 : ∀ sg, FmX ww pl (XV sg) M2 g R E.1 := (hp.gs gsM hR).1
    refine (x_MM_reach (d := d) gg x.2.2 hf2 zx rb.2.1 z2).mono (fun M3 t3 => ?_)
    obtain ⟨o3, ⟨xr3, gg3, en3, v3⟩, u3⟩ := t3
    have x3 := xr3.xe w2
    have X3 : xg M a g T R W C Z E tg M3 := ⟨x.1.trans x3, gg3, en3⟩
    have w3 := gg3.2.1
    have gs3 := x3.gs w2 hg
    have nw : ∀ o, 21188 ≤ o → ¬ woS a (a + o) := fun o ho z => by
      have z' : a + o = a ∨ a + o = a + 97 ∨ a + o = a + 98 ∨ a + o = a + 102 ∨ a + o = a + 103 ∨ a + o = a + 104 := z
      omega
    have k89 := (xr3.1.cellL w2 in99 (offx (a := a) (o := 21189) (by decide)) (nw _ (by omega))).2
    have k90 := (xr3.1.cellL w2 in99 (offx (a := a) (o := 21190) (by decide)) (nw _ (by omega))).2
    have B3 : mR M3 a 21 = a + 97 ∧ mR M3 a 22 = a + 98 := ⟨w3.1.2.2.2.2.1.2.2.2.2.2.2.1, w3.1.2.2.2.2.1.2.2.2.2.2.2.2.1⟩
    have A3 : (mK M3 (a + 97) = 33 ∧ mN M3 (a + 97) = 16400) ∧ (mK M3 (a + 98) = 33 ∧ mN M3 (a + 98) = 16400) := ⟨w3.1.2.2.2.2.2.2.2.1.1, w3.1.2.2.2.2.2.2.2.1.2.1⟩
    rw [B3.1, (r4546 w3).1.1]
    refine ⟨o3, w3.1.1, A3.1.1, by rw [A3.1.2]; decide, (r4546 w3).2.1.1, by rw [(r4546 w3).2.1.2]; exact b8, fun M4 e4 => ?_⟩
    obtain ⟨m4, f4, n4, i4⟩ := mv_ulx (o3 _ _).2 o3 w3 e4
    have X4 := X3.st m4 (fun _ z => z.elim) (fun y z => Or.inr (Or.inr (by omega))) (fun i _ _ _ => by rw [i4])
    have w4 := X4.2.1.2.1
    have B4 : mR M4 a 21 = a + 97 ∧ mR M4 a 22 = a + 98 := ⟨w4.1.2.2.2.2.1.2.2.2.2.2.2.1, w4.1.2.2.2.2.1.2.2.2.2.2.2.2.1⟩
    have A4 : (mK M4 (a + 97) = 33 ∧ mN M4 (a + 97) = 16400) ∧ (mK M4 (a + 98) = 33 ∧ mN M4 (a + 98) = 16400) := ⟨w4.1.2.2.2.2.2.2.2.1.1, w4.1.2.2.2.2.2.2.2.1.2.1⟩
    rw [B4.2, (r4546 w4).1.2, n4 (a + 98) (by omega)]
    refine ⟨A4.2.1, by rw [A4.2.2]; decide, (r4546 w4).2.2.1, by rw [(r4546 w4).2.2.2]; exact b8, fun M5 e5 => ?_⟩
    obtain ⟨m5, f5, n5', i5⟩ := mv_ulx (o3 _ _).2 m4.1 w4 e5
    have X5 := X4.st m5 (fun _ z => z.elim) (fun y z => Or.inr (Or.inr (by omega))) (fun i _ _ _ => by rw [i5])
    have w5 := X5.2.1.2.1
    have B5 : mR M5 a 21 = a + 97 ∧ mR M5 a 22 = a + 98 := ⟨w5.1.2.2.2.2.1.2.2.2.2.2.2.1, w5.1.2.2.2.2.1.2.2.2.2.2.2.2.1⟩
    have A5 : (mK M5 (a + 97) = 33 ∧ mN M5 (a + 97) = 16400) ∧ (mK M5 (a + 98) = 33 ∧ mN M5 (a + 98) = 16400) := ⟨w5.1.2.2.2.2.2.2.2.1.1, w5.1.2.2.2.2.2.2.2.1.2.1⟩
    have iA : mI M5 = mI M3 := by rw [i5, i4]
    have l97 : mL M5 (a + 97) = mL M3 (a + 97) := by rw [n5' _ (by omega), n4 _ (by omega)]
    have l98 : mL M5 (a + 98) = mL M3 (a + 98) := by rw [n5' _ (by omega), n4 _ (by omega)]
    have q89 : ∀ k, mL M5 (a + 21189) k = if k = b then mL M3 (a + 97) 0 else mL M2 (a + 21189) k := fun k => by rw [n5' _ (by omega), f4, k89]
    have q90 : ∀ k, mL M5 (a + 21190) k = if k = b then mL M3 (a + 98) 0 else mL M2 (a + 21190) k := fun k => by rw [f5, n4 _ (by omega), k90]
    have h25' : mI M5 (g + 25) c = (nb : Int) := by rw [iA, (gs3.2.1 25 (by omega) (by omega)).1]; exact h25
    rw [B5.1, B5.2, l97, l98, X5.2.1.2.2.1.1, show mR M5 g 24 = g + 27 from (w5.gp hg).2.2.1.2.2.2.2.2.2.2.2.2.1]
    have z35 : mI M5 a 16 = 0 → vok 0 (mL M3 (a + 97) 0) (mL M3 (a + 98) 0) := fun z => by
      rw [iA] at z
      rcases v3 with y | ⟨-, y⟩
      · exact absurd z y
      · exact y
    have x35 : Mv (fun _ => False) (fun y => a + 21189 ≤ y ∧ y ≤ a + 21190) M3 a M5 := (m4.mono (fun _ z => z) (fun y z => by omega) (fun _ z => z.elim)).trans (m5.mono (fun _ z => z) (fun y z => by omega) (fun _ z => z.elim))
    have gs35 := gs_st w3 hg x35 (fun _ z => z.elim) (fun _ z => z.elim) (fun y z => by omega)
    have lR : lchR M5 a (b + 1) = lchR M2 a b ++ [(mL M3 (a + 97) 0, mL M3 (a + 98) 0)] := by
      rw [lchR_s, q89, q90, if_pos rfl, if_pos rfl, lchR_cg (M := M2) (fun b' hb' => by rw [q89, q90, if_neg (by omega), if_neg (by omega)]; exact ⟨rfl, rfl⟩)]
    have nx : ∀ M6, xg M a g T R W C Z E tg M6 → mI M6 (g + 25) c = (nb : Int) → (mI M6 a 16 = 0 → chk1 M6 a (b + 1)) → (mI M6 a 16 = 0 → chq9 ev sg cm.2.2.2 = ((chq9 ev sg (cm.2.2.2.drop (b + 1))).1, lchR M6 a (b + 1) ++ (chq9 ev sg (cm.2.2.2.drop (b + 1))).2) ∧ XVq M6 a g R W (XV sg)) → (mI M6 a 16 ≠ 0 → chE (chq9 ev sg cm.2.2.2) pc M6 a) → h_MM_chances_118 G (d + 5) a c pc b M6 (fun x M' => i64 x ∧ mOk M' ∧ chQ M a g T R W C Z E tg nb x M' ∧ chY (chq9 ev sg cm.2.2.2) pc nb (XV sg) a g R W x M') := fun M6 X6 k25 kc kz kf => by
      refine k_MM_chances_118 X6.2.1.1 ic ipl ib ?_
      rw [show (b : Int) + 1 = ((b + 1 : Nat) : Int) by omega]
      exact ih (b + 1) M6 (by omega) X6 k25 kc kz kf
    refine ⟨fun _ => ⟨A5.1.1, by rw [A5.1.2]; decide, fun _ => ⟨by rw [A5.1.2]; decide, A5.2.1, by rw [A5.2.2]; decide⟩⟩, fun q5 => ?_, fun q5 => ?_⟩
    · refine ⟨(w5.gp hg).1, (w5.gp hg).2.2.2.2.2.2.2.2.2.2.1.1, by rw [(w5.gp hg).2.2.2.2.2.2.2.2.2.2.1.2]; exact b480, (s_MM_stop ⟨by decide, by decide⟩ (m5.1 _ _).1 m5.1 w5).mono (fun M6 h6 => ⟨h6.1.1, nx M6 (X5.stp h6) ?_ (fun z => ?_) (fun z => ?_) (fun _ => Or.inl ?_)⟩)⟩
      · have gs := gs_st (P := fun _ => False) (S := fun x => x = a) w5 hg h6.1 (fun _ z => z.elim) (fun _ z => z.elim) (fun x z => by omega)
        rw [(gs.2.1 25 (by omega) (by omega)).1]
        exact h25'
      · rw [h6.2.1] at z
        exact absurd z (by decide)
      · rw [h6.2.1] at z
        exact absurd z (by decide)
      · have z3 : mI M3 a 16 = 0 := by rw [← iA]; exact q5.1
        rcases u3 with u3 | ⟨-, u3, -⟩
        · exact absurd (u3.2.1.symm.trans z3) u3.1
        have c1 := (cmpz (mL M3 (a + 97) 0) 0).2.2.1
        have c2 := (cmpz (mL M3 (a + 97) 0) (mL M3 (a + 98) 0)).2.1
        have q6 := q5.2
        rw [c1, c2] at q6
        have e9 : chq9 ev sg (br :: cm.2.2.2.drop (b + 1)) = ((11, br.1), []) := chq_r (by rw [u3]; rfl) (by rw [u3]; show mL M3 (a + 97) 0 < 0 ∨ (if (0 : Int) = 1 then (1 : Int) else mL M3 (a + 98) 0) < mL M3 (a + 97) 0; rw [if_neg (by decide)]; omega)
        rw [zq, e9]
        refine ⟨by show (11 : Int) ≠ 0; decide, h6.2.1, h6.2.2.1.trans ?_⟩
        have gs25 : Gs M2 M5 g := ((xr3.xe w2).gs w2 hg).trans gs35
        show mI M5 (g + 27) (8 * c + b) = br.1
        rw [(gs25.2.1 27 (by omega) (by omega)).1]
        exact rb.1
    · refine nx M5 X5 h25' (fun z b' hb' => ?_) (fun z => ?_) (fun z => ?_)
      rotate_left
      · have z3 : mI M3 a 16 = 0 := by rw [← iA]; exact z
        have q6 : ¬ (cmpL (mL M3 (a + 97) 0) 0 < 0 ∨ ¬ (cmpL (mL M3 (a + 97) 0) (mL M3 (a + 98) 0) ≤ 0)) := fun y => q5 ⟨z, y⟩
        have c1 := (cmpz (mL M3 (a + 97) 0) 0).2.2.1
        have c2 := (cmpz (mL M3 (a + 97) 0) (mL M3 (a + 98) 0)).2.1
        rw [c1, c2] at q6
        rcases u3 with u3 | ⟨-, u3, u4⟩
        · exact absurd (u3.2.1.symm.trans z3) u3.1
        have e9 : chq9 ev sg (br :: cm.2.2.2.drop (b + 1)) = ((chq9 ev sg (cm.2.2.2.drop (b + 1))).1, (mL M3 (a + 97) 0, mL M3 (a + 98) 0) :: (chq9 ev sg (cm.2.2.2.drop (b + 1))).2) := by
          rw [chq_s (by rw [u3]; rfl) (by rw [u3]; show ¬ (mL M3 (a + 97) 0 < 0 ∨ (if (0 : Int) = 1 then (1 : Int) else mL M3 (a + 98) 0) < mL M3 (a + 97) 0); rw [if_neg (by decide)]; omega), u3]
          rfl
        rw [e9] at zq
        refine ⟨?_, u4.mv w3 x35 (fun _ z => z.elim) gs35 (fun y z => by omega)⟩
        rw [zq, lR, List.append_assoc]
        rfl
      · rw [iA] at z
        rcases u3 with u3 | ⟨u3, -⟩
        · have e9 : chq9 ev sg (br :: cm.2.2.2.drop (b + 1)) = (((ev sg br.2.1.1 br.2.1.2).1, (ev sg br.2.1.1 br.2.1.2).2.1), []) := chq_f u3.1
          rw [zq, e9]
          exact Or.inl ⟨u3.1, by rw [iA]; exact u3.2.1, by rw [iA]; exact u3.2.2⟩
        · exact absurd u3 z
      rw [q89, q90]
      by_cases y : b' = b
      · rw [if_pos y, if_pos y]
        have vk := z35 z
        have q6 : ¬ (cmpL (mL M3 (a + 97) 0) 0 < 0 ∨ ¬ (cmpL (mL M3 (a + 97) 0) (mL M3 (a + 98) 0) ≤ 0)) := fun y => q5 ⟨z, y⟩
        have c1 := (cmpz (mL M3 (a + 97) 0) 0).2.2.1
        have c2 := (cmpz (mL M3 (a + 97) 0) (mL M3 (a + 98) 0)).2.1
        rw [c1, c2] at q6
        unfold vok at vk
        omega
      · rw [if_neg y, if_neg y]
        exact hch b' (by omega)
end CHX
end
