/-! The reference: explore, exactly. -/
section EXX
variable {G : mG} {d a g T R W C Z : Nat} {M M' M1 M2 M3 : mM} {E : Eg9} {tg : Int} {Nt9 : tP9} {ww pl lo hi : Nat → Int} {XV : List Int → Int → vrs} {ev : List Int → Nat → Nat → vrs} {cvS : List Int → Nat → vrs} {stp : List Int → List (Nat × Nat × Nat × Nat) → (Int × Int) × List Int} {tgI : Nat × Nat} {cms : List cm9}
/-- the states that were found -/
def XTr (M : mM) (a g W : Nat) (S : List (List Int)) (T : xt9) : Prop := mI M a 29 = ((S.length : Nat) : Int) ∧ SmR M a W S.length = S ∧ xtR M a S.length = T ∧ ∃ w9 : Nat, mI M a 40 = (w9 : Int) ∧ Wc M a w9 ∧ ∃ (L w : Nat) (B : Nat → Nat), XD M a g S.length W L w L B ∧ B L = w
/-- what explore comes to -/
def xpR (X : (Int × Int) × Nat × List (List Int) × xt9) (a g W : Nat) (r : Int) (M' : mM) : Prop := (X.1.1 ≠ 0 ∧ r = X.1.1 ∧ mI M' a 12 = X.1.2 ∧ mI M' a 30 = ((X.2.1 : Nat) : Int) ∧ mI M' a 29 = 0 ∧ mI M' (a + 117 + 30) 0 = 0) ∨ (X.1 = (0, 0) ∧ r = 0 ∧ mI M' a 12 = -1 ∧ mI M' a 30 = -1 ∧ XTr M' a g W X.2.2.1 X.2.2.2 ∧ SvT M' (a + 117) X.2.2.2 ∧ kdT X.2.2.2 ∧ mI M' (a + 117 + 30) 0 = 0)
/-- nothing but the sign of a throw has changed -/
def xU (M M' : mM) (a : Nat) : Prop := mR M' = mR M ∧ mL M' = mL M ∧ (∀ x, x ≠ a → mI M' x = mI M x) ∧ ∀ i, i ≠ 0 → mI M' a i = mI M a i
theorem xU.one {v : Int} (e : M' = mUI M a 0 v) : xU M M' a := by
  subst e
  refine ⟨rfl, rfl, fun x hx => ?_, fun i hi => ?_⟩
  · funext k
    rw [mI_UI, if_neg (fun z => hx z.1)]
  · rw [mI_UI, if_neg (fun z => hi z.2)]
/-- the game of a text, with its words -/
def GdX (ww pl : Nat → Int) (XV : List Int → Int → vrs) (ev : List Int → Nat → Nat → vrs) (i9 : tI9) (M : mM) (g W : Nat) (tgI : Nat × Nat) (cms : List cm9) (lo hi : Nat → Int) (s0 : List Int) : Prop := ∃ (T R C Z : Nat) (E : Eg9) (tg : Int), nd M g T ∧ (T ≤ 16384 ∧ Z ≤ 16384) ∧ (mI M g 6 = R ∧ mI M g 12 = W ∧ mI M g 18 = C ∧ mI M g 17 = tg) ∧ (ln M (g + 30) = Z ∧ ln M (g + 32) = Z ∧ ln M (g + 34) = Z) ∧ Dg M g R W C Z T E tg ∧ 0 ≤ tg ∧ (mI M g 12 = i9.2.1 ∧ mI M g 6 = i9.2.2.1 ∧ mI M g 18 = i9.2.2.2.1 ∧ GaO E.2 ∧ i9.2.2.2.2.1 = XpG E.2) ∧ GP ww pl XV ev M g R W C T E tgI cms lo hi ∧ s0 = (List.range W).map (fun v => mI M (g + 21) v)
theorem GdX.gs {i9 : tI9} {s0 : List Int} (h : GdX ww pl XV ev i9 M g W tgI cms lo hi s0) (k : Gs M M' g) : GdX ww pl XV ev i9 M' g W tgI cms lo hi s0 := by
  obtain ⟨T, R, C, Z, E, tg, h1, h2, h3, h4, h5, h6, h7, h8, h9⟩ := h
  obtain ⟨hI, hc, hl⟩ := id k
  have G : Ge M g R W C Z T M' := ⟨⟨fun n _ => ⟨(hl (g + 1) (by first | exact tLk1 g | exact gLk1 g | omega)).2 n, (hl (g + 7) (by first | exact tLk7 g | exact gLk7 g | omega)).2 n, (hl (g + 9) (by first | exact tLk9 g | exact gLk9 g | omega)).2 n, (hl (g + 11) (by first | exact tLk11 g | exact gLk11 g | omega)).2 n, (hl (g + 3) (by first | exact tLk3 g | exact gLk3 g | omega)).2 n⟩, fun r _ => ⟨by rw [(hc 13 (by omega) (by omega)).1], by rw [(hc 14 (by omega) (by omega)).1]⟩, fun v _ => by rw [(hc 18 (by omega) (by omega)).1]⟩, fun r _ => ⟨by rw [(hc 15 (by omega) (by omega)).1], by rw [(hc 16 (by omega) (by omega)).2], by rw [(hc 17 (by omega) (by omega)).2]⟩, fun v _ => ⟨by rw [(hc 19 (by omega) (by omega)).1], by rw [(hc 20 (by omega) (by omega)).1], by rw [(hc 21 (by omega) (by omega)).1]⟩, fun c _ => ⟨by rw [(hc 24 (by omega) (by omega)).1], by rw [(hc 25 (by omega) (by omega)).1], fun b _ => ⟨by rw [(hc 26 (by omega) (by omega)).1], by rw [(hc 28 (by omega) (by omega)).1], by rw [(hc 29 (by omega) (by omega)).1], by rw [(hc 27 (by omega) (by omega)).1], by rw [(hc 22 (by omega) (by omega)).1], by rw [(hc 23 (by omega) (by omega)).1]⟩⟩, fun i _ => ⟨(hl (g + 30) (by first | exact gLk30 g | omega)).2 i, (hl (g + 34) (by first | exact gLk34 g | omega)).2 i, (hl (g + 32) (by first | exact gLk32 g | omega)).2 i⟩⟩
  refine ⟨T, R, C, Z, E, tg, fun q hq => ?_, h2, by rw [hI]; exact h3, ⟨by rw [(hl (g + 30) (by first | exact gLk30 g | omega)).1]; exact h4.1, by rw [(hl (g + 32) (by first | exact gLk32 g | omega)).1]; exact h4.2.1, by rw [(hl (g + 34) (by first | exact gLk34 g | omega)).1]; exact h4.2.2⟩, h5.ge G, h6, by rw [hI]; exact h7, h8.gs k h5.1.1, by rw [(hc 21 (by omega) (by omega)).1]; exact h9⟩
  have hq' : q = g + 1 ∨ q = g + 3 ∨ q = g + 5 ∨ q = g + 7 ∨ q = g + 9 ∨ q = g + 11 := hq
  rw [(hl q (by omega)).1]
  exact h1 q hq
/-- the solver's step leaves them -/
theorem XTr.sol {S : List (List Int)} {T9 : xt9} {S' : Nat → Prop} (h : XTr M a g W S T9) (w : Wd M a) (m : Mv (fun _ => False) S' M a M') (hS : ∀ x, S' x → a + 117 ≤ x ∧ x ≤ a + 117 + 21067) (hW : W ≤ 12) (aI : mI M' a = mI M a) (hx : ∃ (L w : Nat) (B : Nat → Nat), XD M' a g S.length W L w L B ∧ B L = w) : XTr M' a g W S T9 := by
  obtain ⟨h1, h2, h3, w9, h4, h5, -⟩ := h
  have no : ∀ q : Nat, False → q ∈ nums a := fun _ z => z.elim
  have c : ∀ o, frO o → (o = 105 ∨ o = 106 ∨ o = 107 ∨ o = 108 ∨ o = 21185 ∨ o = 21186 ∨ o = 21187) → mI M' (a + o) = mI M (a + o) ∧ mL M' (a + o) = mL M (a + o) := fun o fo ho => m.cellL w no (offx fo) (fun z => by have := hS _ z; omega)
  have c5 := (c 105 (by decide) (by omega)).1
  have c6 := (c 106 (by decide) (by omega)).1
  have c7 := (c 107 (by decide) (by omega)).1
  have c8 := (c 108 (by decide) (by omega)).1
  have c85 := (c 21185 (by decide) (by omega)).1
  have c86 := (c 21186 (by decide) (by omega)).2
  have c87 := (c 21187 (by decide) (by omega)).2
  have cm : ∀ i, cmQ M' a i = cmQ M a i := fun i => by
    unfold cmQ
    rw [show nt M' (a + 109) = nt M (a + 109) from funext (fun j => (m.lst k109 (fun z => z)).2.1 j), show nt M' (a + 111) = nt M (a + 111) from funext (fun j => (m.lst k111 (fun z => z)).2.1 j), show nt M' (a + 113) = nt M (a + 113) from funext (fun j => (m.lst k113 (fun z => z)).2.1 j), show nt M' (a + 115) = nt M (a + 115) from funext (fun j => (m.lst k115 (fun z => z)).2.1 j), brR_cg (M := M) (M' := M') (fun _ _ _ => by rw [c85, c86, c87]; exact ⟨rfl, rfl, rfl⟩)]
  refine ⟨by rw [aI]; exact h1, by rw [SmR_cg (M := M) hW (fun j _ => by rw [c5])]; exact h2, ?_, w9, by rw [aI]; exact h4, fun j hj => by rw [c86, c87]; exact h5 j hj, hx⟩
  rw [← h3]
  unfold xtR stR
  refine List.map_congr_left (fun k hk => ?_)
  rw [c6, c7, c8, cmL_cg (M := M) (fun i _ _ => cm i)]
/-- before state k -/
def pX (ev : List Int → Nat → Nat → vrs) (stp : List Int → List (Nat × Nat × Nat × Nat) → (Int × Int) × List Int) (tgI : Nat × Nat) (cms : List cm9) (Ok : List Int → Prop) (X : (Int × Int) × Nat × List (List Int) × xt9) (a W k : Nat) (M2 : mM) : Prop := (mI M2 a 16 = 0 → ∃ (S : List (List Int)) (T9 : xt9), X = exq9 ev stp tgI cms (513 - k) k S T9 ∧ mI M2 a 29 = ((S.length : Nat) : Int) ∧ SmR M2 a W S.length = S ∧ xtR M2 a k = T9 ∧ S.length ≤ 512 ∧ ∃ w9 : Nat, mI M2 a 40 = (w9 : Int) ∧ nbx9 T9 = w9 ∧ Wc M2 a w9 ∧ ∀ s, s ∈ S → Ok s) ∧ (mI M2 a 16 ≠ 0 → X.1 = (mI M2 a 16, mI M2 a 17) ∧ X.2.1 + 1 = k)
theorem enq_ok {Ok : List Int → Prop} {S S' : List (List Int)} {x : List Int} {k : Nat} (h : enq9 S x = some (k, S')) (hx : Ok x) (hS : ∀ s, s ∈ S → Ok s) : ∀ s, s ∈ S' → Ok s := by
  unfold enq9 at h
  split at h
  · have := Option.some.inj h
    have e : S = S' := congrArg Prod.snd this
    rw [← e]
    exact hS
  · split at h
    · exact absurd h (by simp)
    · have := Option.some.inj h
      have e : S ++ [x] = S' := congrArg Prod.snd this
      rw [← e]
      intro s hs
      rcases List.mem_append.mp hs with q | q
      · exact hS s q
      · rw [List.mem_singleton.mp q]; exact hx
theorem flq_ok {Ok : List Int → Prop} {sg : List Int} {pc m : Int} {nb : Nat} (hok1 : ∀ sg l, Ok sg → (stp sg l).1.1 = 0 → Ok (stp sg l).2) (hsg : Ok sg) : ∀ (l : List (br9 × (Int × Int))) (S : List (List Int)) (Bl : List (Nat × Int)), (∀ s, s ∈ S → Ok s) → ∀ s, s ∈ (flq9 stp sg pc m nb l S Bl).2.1 → Ok s
  | [], S, Bl, hS => hS
  | x :: l, S, Bl, hS => by
    by_cases c0 : x.2.1 = 0
    · rw [flq_0 c0]
      exact flq_ok hok1 hsg l S Bl hS
    by_cases c1 : (stp sg x.1.2.2).1.1 = 0
    rotate_left
    · rw [flq_f c0 c1]
      exact hS
    cases c2 : enq9 S (stp sg x.1.2.2).2 with
    | none =>
      rw [flq_n c0 c1 c2]
      exact hS
    | some q =>
      obtain ⟨to, S2⟩ := q
      have hS2 := enq_ok c2 (hok1 sg _ hsg c1) hS
      rw [flq_e c0 c1 c2]
      cases c3 : jnq9 to (m / x.2.2 * x.2.1) Bl with
      | some B' => exact flq_ok hok1 hsg l S2 B' hS2
      | none =>
        show ∀ s, s ∈ (if nb + Bl.length = 4096 then ((5, pc), S2, Bl) else flq9 stp sg pc m nb l S2 (Bl ++ [(to, m / x.2.2 * x.2.1)])).2.1 → Ok s
        by_cases c4 : nb + Bl.length = 4096
        · rw [if_pos c4]
          exact hS2
        · rw [if_neg c4]
          exact flq_ok hok1 hsg l S2 _ hS2
theorem tcq_ok {Ok : List Int → Prop} {sg : List Int} {nb c : Nat} {cm : cm9} {s : sl9} (hok1 : ∀ sg l, Ok sg → (stp sg l).1.1 = 0 → Ok (stp sg l).2) (hsg : Ok sg) (hS : ∀ x, x ∈ s.2.1 → Ok x) : ∀ x, x ∈ (tcq9 ev stp sg nb c cm s).2.1 → Ok x := by
  unfold tcq9
  split
  · exact hS
  split
  · exact hS
  split
  · exact hS
  split
  · exact hS
  split
  · exact hS
  split
  · exact hS
  exact flq_ok hok1 hsg _ _ _ hS
theorem tsq_ok {Ok : List Int → Prop} {sg : List Int} {nb : Nat} (hok1 : ∀ sg l, Ok sg → (stp sg l).1.1 = 0 → Ok (stp sg l).2) (hsg : Ok sg) : ∀ (l : List cm9) (c : Nat) (s : sl9), (∀ x, x ∈ s.2.1 → Ok x) → ∀ x, x ∈ (tsq9 ev stp sg nb l c s).2.1 → Ok x
  | [], c, s, hS => hS
  | cm :: l, c, s, hS => by
    show ∀ x, x ∈ (if s.1.1 ≠ 0 then s else tsq9 ev stp sg nb l (c + 1) (tcq9 ev stp sg nb c cm s)).2.1 → Ok x
    by_cases h : s.1.1 ≠ 0
    · rw [if_pos h]
      exact hS
    · rw [if_neg h]
      exact tsq_ok hok1 hsg l (c + 1) _ (tcq_ok hok1 hsg hS)
theorem ssq_ok {Ok : List Int → Prop} {sg : List Int} {nb : Nat} {tg : Nat × Nat} {S : List (List Int)} (hok1 : ∀ sg l, Ok sg → (stp sg l).1.1 = 0 → Ok (stp sg l).2) (hsg : Ok sg) (hS : ∀ x, x ∈ S → Ok x) : ∀ x, x ∈ (ssq9 ev stp tg cms sg nb S).2.1 → Ok x := by
  unfold ssq9
  split
  · exact hS
  split
  · exact hS
  exact tsq_ok hok1 hsg _ _ _ hS
end EXX
