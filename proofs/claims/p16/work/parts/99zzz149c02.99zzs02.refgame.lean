/-! The reference's game in pure words; rules are reached in a state. -/
section RGP
/-- a root, and the words that it stands for -/
def Rtq (ww pl : Nat → Int) (XV : List Int → Int → vrs) (ev : List Int → Nat → Nat → vrs) (M : mM) (g R W T : Nat) (E : Eg9) (n t : Int) (i j : Nat) : Prop := ∃ (n' b f e : Nat) (nv : Nat → Int), (n = (n' : Int) ∧ b ≤ R ∧ (∀ r : Nat, r < b → mI M (g + 13) r ≠ 0 → E.1 r ≤ n') ∧ Ty (nme True M g b W) (tn M g) M g f 0 n' e (fun _ => t) ∧ e ≤ T) ∧ Eo ww 6 i j ∧ Td ww pl nv (so M g) (pm M g) (va M g) (fp M g) (np M g) 0 0 i j n' e ∧ ∀ sg, vlX ww pl (XV sg) nv (i, j) = ev sg i j
/-- a branch -/
def RBr (ww pl : Nat → Int) (XV : List Int → Int → vrs) (ev : List Int → Nat → Nat → vrs) (M : mM) (g R W T : Nat) (E : Eg9) (x : Nat) (br : br9) : Prop := mI M (g + 27) x = br.1 ∧ Rtq ww pl XV ev M g R W T E (mI M (g + 26) x) 0 br.2.1.1 br.2.1.2 ∧ mI M (g + 29) x = ((br.2.2.length : Nat) : Int) ∧ ∃ fs : Nat, mI M (g + 28) x = (fs : Int) ∧ ∀ (i : Nat) (q : Nat × Nat × Nat × Nat), br.2.2[i]? = some q → nt M (g + 30) (fs + i) = ((q.1 : Nat) : Int) ∧ nt M (g + 32) (fs + i) = pl q.2.2.2 ∧ q.1 < W ∧ Rtq ww pl XV ev M g R W T E (nt M (g + 34) (fs + i)) (tn M g (100 + (q.1 : Int))) q.2.1 q.2.2.1
/-- a command -/
def RCm (ww pl : Nat → Int) (XV : List Int → Int → vrs) (ev : List Int → Nat → Nat → vrs) (M : mM) (g R W T : Nat) (E : Eg9) (c : Nat) (cm : cm9) : Prop := ((cm.1 = 1 ∧ mI M (g + 22) c = 0) ∨ (cm.1 = 2 ∧ mI M (g + 22) c ≠ 0)) ∧ mI M (g + 23) c = cm.2.1 ∧ Rtq ww pl XV ev M g R W T E (mI M (g + 24) c) 1 cm.2.2.1.1 cm.2.2.1.2 ∧ mI M (g + 25) c = ((cm.2.2.2.length : Nat) : Int) ∧ ∀ (b : Nat) (x : br9), cm.2.2.2[b]? = some x → RBr ww pl XV ev M g R W T E (8 * c + b) x
/-- the game -/
def GP (ww pl : Nat → Int) (XV : List Int → Int → vrs) (ev : List Int → Nat → Nat → vrs) (M : mM) (g R W C T : Nat) (E : Eg9) (tgI : Nat × Nat) (cms : List cm9) (lo hi : Nat → Int) : Prop := (∀ sg, FmX ww pl (XV sg) M g R E.1) ∧ (∀ sg (r : Nat), r < R → mI M (g + 13) r = 0 → XV sg (r : Int) = vr9 (tn M g r) (mL M (g + 16) r) (mL M (g + 17) r)) ∧ (∀ sg (v : Nat), v < W → XV sg (100 + (v : Int)) = (0, sg.getD v 0, 1)) ∧ (∀ v : Nat, v < W → mI M (g + 19) v = lo v ∧ mI M (g + 20) v = hi v) ∧ Rtq ww pl XV ev M g R W T E (mI M g 17) 1 tgI.1 tgI.2 ∧ cms.length = C ∧ ∀ (c : Nat) (cm : cm9), cms[c]? = some cm → RCm ww pl XV ev M g R W T E c cm
variable {G : mG} {d a g T R W C Z : Nat} {M M' M2 : mM} {E : Eg9} {tg : Int} {ww pl lo hi : Nat → Int} {XV : List Int → Int → vrs} {ev : List Int → Nat → Nat → vrs} {tgI : Nat × Nat} {cms : List cm9} {sg : List Int}
theorem gs_nt (k : Gs M M' g) {q : Nat} (hq : gL9 g q) : nt M' q = nt M q := funext (fun j => (k.2.2 q hq).2 j)
theorem gs_gn (k : Gs M M' g) : Gn M g R W T M' := ⟨fun n _ => ⟨(k.2.2 (g + 1) (by first | exact tLk1 g | exact gLk1 g | omega)).2 n, (k.2.2 (g + 7) (by first | exact tLk7 g | exact gLk7 g | omega)).2 n, (k.2.2 (g + 9) (by first | exact tLk9 g | exact gLk9 g | omega)).2 n, (k.2.2 (g + 11) (by first | exact tLk11 g | exact gLk11 g | omega)).2 n, (k.2.2 (g + 3) (by first | exact tLk3 g | exact gLk3 g | omega)).2 n⟩, fun r _ => ⟨by rw [(k.2.1 13 (by omega) (by omega)).1], by rw [(k.2.1 14 (by omega) (by omega)).1]⟩, fun v _ => by rw [(k.2.1 18 (by omega) (by omega)).1]⟩
theorem Rtq.gs {n t : Int} {i j : Nat} (h : Rtq ww pl XV ev M g R W T E n t i j) (k : Gs M M' g) (hR : R ≤ 60) : Rtq ww pl XV ev M' g R W T E n t i j := by
  obtain ⟨n', b, f, e, nv, ⟨h1, h2, h3, h4, h5⟩, h6, h7, h8⟩ := h
  refine ⟨n', b, f, e, nv, ⟨h1, h2, fun r hr z => h3 r hr (by rw [← (k.2.1 13 (by omega) (by omega)).1]; exact z), (gs_gn (R := R) (W := W) (T := T) k).ty hR h2 h5 h4, h5⟩, h6, ?_, h8⟩
  show Td ww pl nv (nt M' (g + 1)) (nt M' (g + 3)) (nt M' (g + 7)) (nt M' (g + 9)) (nt M' (g + 11)) 0 0 i j n' e
  rw [gs_nt k (q := g + 1) (by omega), gs_nt k (q := g + 3) (by omega), gs_nt k (q := g + 7) (by omega), gs_nt k (q := g + 9) (by omega), gs_nt k (q := g + 11) (by omega)]
  exact h7
theorem RBr.gs {x : Nat} {br : br9} (h : RBr ww pl XV ev M g R W T E x br) (k : Gs M M' g) (hR : R ≤ 60) : RBr ww pl XV ev M' g R W T E x br := by
  obtain ⟨h1, h2, h3, fs, h4, h5⟩ := h
  unfold RBr
  rw [(k.2.1 27 (by omega) (by omega)).1, (k.2.1 26 (by omega) (by omega)).1, (k.2.1 29 (by omega) (by omega)).1, (k.2.1 28 (by omega) (by omega)).1, gs_nt k (q := g + 30) (by omega), gs_nt k (q := g + 32) (by omega), gs_nt k (q := g + 34) (by omega), gs_tn k]
  exact ⟨h1, h2.gs k hR, h3, fs, h4, fun i q hq => ⟨(h5 i q hq).1, (h5 i q hq).2.1, (h5 i q hq).2.2.1, (h5 i q hq).2.2.2.gs k hR⟩⟩
theorem RCm.gs {c : Nat} {cm : cm9} (h : RCm ww pl XV ev M g R W T E c cm) (k : Gs M M' g) (hR : R ≤ 60) : RCm ww pl XV ev M' g R W T E c cm := by
  obtain ⟨h1, h2, h3, h4, h5⟩ := h
  unfold RCm
  rw [(k.2.1 22 (by omega) (by omega)).1, (k.2.1 23 (by omega) (by omega)).1, (k.2.1 24 (by omega) (by omega)).1, (k.2.1 25 (by omega) (by omega)).1]
  exact ⟨h1, h2, h3.gs k hR, h4, fun b x hb => (h5 b x hb).gs k hR⟩
theorem GP.gs (h : GP ww pl XV ev M g R W C T E tgI cms lo hi) (k : Gs M M' g) (hR : R ≤ 60) : GP ww pl XV ev M' g R W C T E tgI cms lo hi := by
  obtain ⟨h1, h2, h3, h4, h5, h6, h7⟩ := h
  refine ⟨fun sg r hr z => ?_, fun sg r hr z => ?_, h3, ?_, ?_, h6, fun c cm hc => (h7 c cm hc).gs k hR⟩
  · rw [(k.2.1 13 (by omega) (by omega)).1] at z
    obtain ⟨n, nv, i, j, e1, e2, e3, e4⟩ := h1 sg r hr z
    refine ⟨n, nv, i, j, by rw [(k.2.1 15 (by omega) (by omega)).1]; exact e1, e2, ?_, e4⟩
    show Td ww pl nv (nt M' (g + 1)) (nt M' (g + 3)) (nt M' (g + 7)) (nt M' (g + 9)) (nt M' (g + 11)) 0 0 i j n (E.1 r)
    rw [gs_nt k (q := g + 1) (by omega), gs_nt k (q := g + 3) (by omega), gs_nt k (q := g + 7) (by omega), gs_nt k (q := g + 9) (by omega), gs_nt k (q := g + 11) (by omega)]
    exact e3
  · rw [(k.2.1 13 (by omega) (by omega)).1] at z
    rw [gs_tn k, (k.2.1 16 (by omega) (by omega)).2, (k.2.1 17 (by omega) (by omega)).2]
    exact h2 sg r hr z
  · rw [(k.2.1 19 (by omega) (by omega)).1, (k.2.1 20 (by omega) (by omega)).1]
    exact h4
  · rw [k.1]
    exact h5.gs k hR
/-- what reaching comes to -/
def reX (v : vrs) (t : Int) (xv : Int → vrs) (a g R W : Nat) (M' : mM) : Prop := fvq M' a v ∨ (mI M' a 16 = 0 ∧ v = vr9 t (mL M' (a + 97) 0) (mL M' (a + 98) 0) ∧ XVq M' a g R W xv)
theorem x_MM_reach {n t : Int} {i j : Nat} (h : GG M a g T R W C Z E tg) (hn : En M a g R W) (hf : ∀ sg, FmX ww pl (XV sg) M g R E.1) (hx : XVq M a g R W (XV sg)) (hr : Rtq ww pl XV ev M g R W T E n t i j) (z16 : mI M a 16 = 0) : Cv G y_MM_reach (d + 5) [vr a, vi n] M (fun M' => mOk M' ∧ reQ M a g T R W C Z E tg t M' ∧ reX (ev sg i j) t (XV sg) a g R W M') := by
  obtain ⟨n', b, f, e, nv, ⟨r1, r2, r3, r4, r5⟩, r6, r7, r8⟩ := hr
  subst r1
  have ev' := h.ev hn
  have w := h.2.1
  have hg := h.2.2.1.2
  have hT := h.2.2.2.2.1
  have hlt := r4.tn.lt
  refine k_MM_reach h.1 (i32s (by omega) (by omega)) ⟨w.1.1, ?_⟩
  rw [h.2.2.1.1]
  refine (x_MM_workOutT (d := d) hx ev' h.2.2.2.2.2.2.2.1.2.2.1 (hf sg) r2 r3 r6 r7 r4 r5).mono (fun M' t' => ?_)
  obtain ⟨o', ⟨E', v'⟩, u'⟩ := t'
  have xr' : xr M a M' := ⟨E'.1, E'.2.2⟩
  have x : xe M a M' := xr'.xe w
  have gs := x.gs w hg
  rw [r8 sg] at u'
  refine ⟨o', o', ⟨xr', x.gg h, ⟨fun r hr q1 q2 => (E'.2.1.2.2.2.2.2.1 r hr).2 trivial q1 q2, fun v hv => ?_⟩, v'⟩, u' z16⟩
  rw [(gs.2.1 19 (by omega) (by omega)).1, (gs.2.1 20 (by omega) (by omega)).1, (E'.gs w).2.2.2.2.2.2]
  exact hn.2 v hv
end RGP
