section
/-! The reference: the solver's tables are those of what was explored. -/
section TSV
variable {a n L w : Nat} {M : mM} {F B : Nat → Nat} {mu to up dn : Nat → Int}
theorem rgetR {α : Type} (f : Nat → α) (n k : Nat) : ((List.range n).map f)[k]? = if k < n then some (f k) else none := by
  by_cases h : k < n
  · rw [if_pos h, List.getElem?_map, List.getElem?_range h]
    all_goals rfl
  · rw [if_neg h]
    exact List.getElem?_eq_none (by rw [List.length_map, List.length_range]; omega)
theorem wsL_app {x : Nat → Rat} : ∀ l r : List (Nat × Int), wsL9 x (l ++ r) = wsL9 x l + wsL9 x r
  | [], r => by
    show wsL9 x r = 0 + wsL9 x r
    grind
  | b :: l, r => by
    show (b.2 : Rat) * x b.1 + wsL9 x (l ++ r) = (b.2 : Rat) * x b.1 + wsL9 x l + wsL9 x r
    rw [wsL_app l r]
    grind
theorem wsL_map {x : Nat → Rat} {p : Nat → Nat} {q : Nat → Int} : ∀ m, wsL9 x ((List.range m).map (fun t => (p t, q t))) = sr (fun t => (q t : Rat) * x (p t)) m
  | 0 => rfl
  | m + 1 => by
    rw [List.range_succ, List.map_append, wsL_app, wsL_map m]
    show _ + ((q m : Rat) * x (p m) + 0) = sr (fun t => (q t : Rat) * x (p t)) m + (q m : Rat) * x (p m)
    grind
theorem sr_cq {g h : Nat → Rat} {y : Rat} : ∀ n, (∀ t, t < n → g t = h t * y) → sr g n = sr h n * y
  | 0, _ => by
    show (0 : Rat) = 0 * y
    grind
  | n + 1, e => by
    show sr g n + g n = (sr h n + h n) * y
    rw [sr_cq n (fun t ht => e t (by omega)), e n (by omega)]
    grind
theorem inv_q {m c q : Rat} (h : m * c = q) (m0 : m ≠ 0) : c = q * m⁻¹ := by
  have e := Rat.mul_inv_cancel _ m0
  grind
theorem tl_svt (tt : TT M a n L w F B mu to up dn) (tl : TL M (a + 117) F B mu to up dn n L w) (hB : B L = w) (gb : GB M (a + 117)) (hto : ∀ j, j < w → 0 ≤ to j ∧ to j < n) : SvT M (a + 117) (xtR M a n) := by
  have lenT : (xtR M a n).length = n := by unfold xtR; rw [List.length_map, List.length_range]
  obtain ⟨⟨t0, t1, t2⟩, ⟨fn, fk⟩, -, bk, wk⟩ := tt
  obtain ⟨-, ⟨n1, n2, n3⟩, ⟨f1, f2⟩, ⟨b1, b2⟩, m1, w1, -, -, kd⟩ := tl
  have eF : ∀ j, j ≤ n → mI M (a + 117 + 23) j = (F j : Int) := fun j hj => by
    by_cases z : j = n
    · rw [z, f2, fn]
    · exact f1 j (by omega)
  have eB : ∀ j, j ≤ L → mI M (a + 117 + 25) j = (B j : Int) := fun j hj => by
    by_cases z : j = L
    · rw [z, b2, hB]
    · exact b1 j (by omega)
  refine ⟨by rw [n1]; unfold xtR; rw [List.length_map, List.length_range], fun k x hx => ?_⟩
  unfold xtR at hx
  rw [rgetR] at hx
  by_cases hk : k < n
  · rw [if_pos hk] at hx
    have ex := Option.some.inj hx
    subst ex
    obtain ⟨g7, g8, g9, g10⟩ := fk k hk
    have e23 := eF k (by omega)
    have e24 := eF (k + 1) (by omega)
    refine ⟨?_, ?_, fun i c hc => ?_⟩
    · rw [kd k hk, show a + 117 - 11 = a + 106 by omega]
      all_goals rfl
    · unfold mny stR cmL
      rw [List.length_map, List.length_range, e23, e24, g8, Int.toNat_natCast]
      omega
    · have hc' : ((List.range (mI M (a + 108) k).toNat).map (fun t => cmQ M a ((mI M (a + 107) k).toNat + t)))[i]? = some c := hc
      rw [rgetR, g7, g8, Int.toNat_natCast, Int.toNat_natCast] at hc'
      by_cases hi : i < F (k + 1) - F k
      · rw [if_pos hi] at hc'
        have ec := Option.some.inj hc'
        obtain ⟨q1, q2, q3, q4, q5⟩ := bk (F k + i) (by omega)
        have e25 := eB (F k + i) (by omega)
        have e26 := eB (F k + i + 1) (by omega)
        have bl : c.2.2 = (List.range (B (F k + i + 1) - B (F k + i))).map (fun t => ((mI M (a + 21185) (B (F k + i) + t)).toNat, mL M (a + 21186) (B (F k + i) + t) * (nt M (a + 115) (F k + i) / mL M (a + 21187) (B (F k + i) + t)))) := by
          rw [← ec]
          unfold cmQ brR
          rw [q1, q2, Int.toNat_natCast, Int.toNat_natCast]
        rw [e23, Int.toNat_natCast]
        refine ⟨by rw [m1 (F k + i) (by omega), ← q5, ← ec]; rfl, fun J => ?_, fun b hb => ?_, fun f => ?_⟩
        rotate_left
        · rw [bl] at hb
          obtain ⟨t, t3, t4⟩ := List.mem_map.mp hb
          have t5 := List.mem_range.mp t3
          rw [← t4, lenT]
          show (mI M (a + 21185) (B (F k + i) + t)).toNat < n
          have h1 := (wk (B (F k + i) + t) (by omega)).1
          have h2 := hto (B (F k + i) + t) (by omega)
          omega
        · have ecx : cx M (a + 117) k i = F k + i := by
            unfold cx
            rw [e23, Int.toNat_natCast]
          have ebg : bg M (a + 117) (F k + i) = B (F k + i) := by
            unfold bg
            rw [e25, Int.toNat_natCast]
          have enb : nb M (a + 117) (F k + i) = B (F k + i + 1) - B (F k + i) := by
            unfold nb
            rw [e25, e26]
            omega
          have c21 : c.2.1 = nt M (a + 115) (F k + i) := by rw [← ec]; rfl
          have hc2 : ((F k + i : Nat) : Int) < mI M (a + 117) 2 := by rw [n2]; omega
          have gk := (gb (F k + i) hc2).1.1
          have em : mI M (a + 117 + 24) (F k + i) = nt M (a + 115) (F k + i) := by rw [m1 (F k + i) (by omega), ← q5]
          unfold wr9 cw
          rw [bl, wsL_map, c21, ecx, ebg, enb]
          refine sr_cq _ (fun t ht => ?_)
          have w9 := w1 (B (F k + i) + t) (by omega)
          have k9 := wk (B (F k + i) + t) (by omega)
          have ci := gb.chq_int hc2 (b := t) (by rw [enb]; exact ht)
          rw [ebg, em] at ci
          rw [w9.2.1, w9.2.2] at ci
          have m0 : ((nt M (a + 115) (F k + i) : Int) : Rat) ≠ 0 := ic_ne (by rw [← em]; omega)
          show chq M (a + 117) (B (F k + i) + t) * f (mI M (a + 117 + 26) (B (F k + i) + t)).toNat = ((mL M (a + 21186) (B (F k + i) + t) * (nt M (a + 115) (F k + i) / mL M (a + 21187) (B (F k + i) + t)) : Int) : Rat) * f (mI M (a + 21185) (B (F k + i) + t)).toNat * ((nt M (a + 115) (F k + i) : Int) : Rat)⁻¹
          rw [inv_q ci m0, k9.2.1, k9.2.2.1, k9.1, w9.1]
          generalize ((up (B (F k + i) + t) * (nt M (a + 115) (F k + i) / dn (B (F k + i) + t)) : Int) : Rat) = A
          generalize f (to (B (F k + i) + t)).toNat = Y
          generalize ((nt M (a + 115) (F k + i) : Int) : Rat)⁻¹ = Z
          grind
        unfold leadQ ldA9
        rw [e23, Int.toNat_natCast, e25, e26, bl]
        constructor
        · rintro ⟨b, u1, u2, u3⟩
          refine ⟨_, List.mem_map.mpr ⟨b - B (F k + i), List.mem_range.mpr (by omega), rfl⟩, ?_⟩
          show J (mI M (a + 21185) (B (F k + i) + (b - B (F k + i)))).toNat
          rw [show B (F k + i) + (b - B (F k + i)) = b by omega, (wk b (by omega)).1, ← (w1 b (by omega)).1]
          exact u3
        · rintro ⟨y, y1, y2⟩
          obtain ⟨t, t3, t4⟩ := List.mem_map.mp y1
          have t5 := List.mem_range.mp t3
          rw [← t4] at y2
          have y3 : J (mI M (a + 21185) (B (F k + i) + t)).toNat := y2
          refine ⟨B (F k + i) + t, by omega, by omega, ?_⟩
          rw [(w1 _ (by omega)).1, ← (wk _ (by omega)).1]
          exact y3
      · rw [if_neg hi] at hc'
        cases hc'
  · rw [if_neg hk] at hx
    cases hx
end TSV
end
section
/-! The reference: explore, exactly, its loops. -/
section EXY
variable {G : mG} {d a g T R W C Z : Nat} {M M' M1 M2 M3 : mM} {E : Eg9} {tg : Int} {Nt9 : tP9} {ww pl lo hi : Nat → Int} {XV : List Int → Int → vrs} {ev : List Int → Nat → Nat → vrs} {cvS : List Int → Nat → vrs} {stp : List Int → List (Nat × Nat × Nat × Nat) → (Int × Int) × List Int} {tgI : Nat × Nat} {cms : List cm9}
theorem x_ex199 {xX : Int → mM → Prop} {n L w : Nat} {B F : Nat → Nat} {mu to up dn : Nat → Int} (hxX : ∀ M', FI (vF (a + 117)) M1 M' → mOk M' → Wd M' a → SvT M' (a + 117) (xtR M' a n) → mI M' (a + 117 + 30) 0 = 0 → xX (mI M1 a 16) M') (hb : bE Nt9 M a g T R W C Z E tg M1) (h29 : mI M1 a 29 = (n : Int)) (hn1 : 1 ≤ n) (xd : XD M1 a g n W L w L B) (hw : B L = w) (hF : F 0 = 0 ∧ F n = L ∧ ∀ k, k < n → F k ≤ F (k + 1) ∧ mI M1 (a + 107) k = (F k : Int) ∧ mI M1 (a + 108) k = ((F (k + 1) - F k : Nat) : Int)) (e1 : mu = nt M1 (a + 115)) (e2 : to = mI M1 (a + 21185)) (e3 : up = mL M1 (a + 21186)) (e4 : dn = mL M1 (a + 21187)) : ∀ (t k : Nat) (M2 : mM), k + t = n → tI M1 a n L w F B mu to up dn k (F k) (B (F k)) M2 → h_MM_explore_199 G (d + 1) a k M2 (fun r M' => i32 r ∧ RI0 Nt9 M' a ∧ FR M a M' ∧ xX r M') := by
  have hn5 := xd.1.2.2
  have w1 := hb.2.1.2.1
  have hg := hb.2.1.2.2.1.2
  have no : ∀ q : Nat, False → q ∈ nums a := fun _ z => z.elim
  have fl : ∀ {Mx : mM}, mOk Mx → FI (vF (a + 117)) M1 Mx → mI Mx a = mI M1 a := fun o f => f.2.2.2.2.2.2 a (fun z => by
    have z' : a + 117 ≤ a ∧ a ≤ a + 117 + 21067 := z
    omega)
  intro t
  induction t with
  | zero =>
    intro k M2 hk h
    have ek : k = n := by omega
    subst ek
    obtain ⟨o2, w2, f2, tt, tl⟩ := h
    have a2 := fl o2 f2
    rw [hF.2.1, hw] at tl
    obtain ⟨sv, my⟩ := exp_sv xd hw hF e1 e2 e3 e4 tl
    have svt := tl_svt tt tl hw sv.2.2.1 (fun j hj => by rw [e2]; exact (xd.2.2.2.1 j hj).1)
    refine k_MM_explore_199 o2 (i32s (by omega) (by omega)) ⟨w2.1.1, ?_⟩
    rw [a2, h29]
    refine ⟨fun _ => ⟨(hb.2.1.1 _ _).1, ?_, hb.1.trans (FR.fi f2 (fun x z => by
      have z' : a + 117 ≤ x ∧ x ≤ a + 117 + 21067 := z
      omega)), hxX M2 f2 o2 w2 svt (tl.1.2.2.2.2 0 (by decide))⟩, fun q => absurd (Int.le_refl _) q⟩
    have m2 := mv_sol o2 w1 f2
    have nv : ∀ x, vF (a + 117) x → ¬ (x = g ∨ (g + 13 ≤ x ∧ x ≤ g + 29)) := fun x z => by
      have z' : a + 117 ≤ x ∧ x ≤ a + 117 + 21067 := z
      omega
    have gd := gd_mv (hb.2.1.gd hb.2.2.2.2.1.2) w1 hg m2 no (fun _ z => z.elim) nv
    have R2 := m2.rfl_a w1 no
    have tp := w1.tape
    have l9 : ln M2 (a + 109) = (L : Int) := by rw [(m2.lst k109 (fun z => z)).1]; exact xd.2.2.2.2.1.1
    refine ⟨o2, w2, ⟨by rw [R2]; exact hb.2.2.1.1.sm (m2.lst tp.1 (fun z => z)), by rw [R2, (m2.lst tp.2.1 (fun z => z)).1]; exact hb.2.2.1.2⟩, ?_⟩
    rw [R2, hb.2.1.2.2.1.1]
    unfold RX
    rw [a2, h29, Int.toNat_natCast]
    refine ⟨by omega, sv, fun _ => gd, fun _ => ⟨hb.2.2.2.2.1.1, fun k' hk' => ?_, by rw [l9]; exact tt.2.2.1.1, by rw [l9]; exact tt.2.2.1.2.1, fun i hi => ?_⟩, hb.2.2.2.1⟩
    · rw [a2, h29] at hk'
      obtain ⟨t7, t8, t9, t10⟩ := tt.2.1.2 k' (by omega)
      rw [t7, t8, l9, my k' (by omega)]
      exact ⟨by omega, by omega, by omega, rfl⟩
    · rw [l9] at hi
      obtain ⟨i1, i2, i3, i4, -⟩ := tt.2.2.2.1 i (by omega)
      have := tt.1.2.2
      rw [i1, i2]
      exact ⟨by omega, by omega, by omega⟩
  | succ t ih =>
    intro k M2 hk h
    have o2 := h.1
    have w2 := h.2.1
    have a2 := fl o2 h.2.2.1
    refine k_MM_explore_199 o2 (i32s (by omega) (by omega)) ⟨w2.1.1, ?_⟩
    rw [a2, h29, show (k : Int) + 1 = ((k + 1 : Nat) : Int) by omega]
    refine ⟨fun q => absurd q (by omega), fun _ => (s_MM_tellState (d := d) h (by omega) (fun i hi => ?_)).mono (fun M3 t3 => ⟨t3.1, ih (k + 1) M3 (by omega) t3.2⟩)⟩
    rw [e1]
    have := (xd.2.2.2.2.2.2 i hi).2.2.1
    exact ⟨by omega, by omega⟩
theorem x_ex115 {xX : Int → mM → Prop} {X : (Int × Int) × Nat × List (List Int) × xt9} {Ok : List Int → Prop} (hev : ∀ sg i j, ev sg i j = vlq ww (cvS sg) pl 0 0 i j) (hstp : ∀ sg l, stp sg l = ((stq9 ww (cvS sg) pl lo hi l (fun v => sg.getD v 0)).1, (List.range W).map (stq9 ww (cvS sg) pl lo hi l (fun v => sg.getD v 0)).2)) (hok1 : ∀ sg l, Ok sg → (stp sg l).1.1 = 0 → Ok (stp sg l).2) (hok2 : ∀ sg, Ok sg → GOk ev cms sg) (hp : GP ww pl XV ev M1 g R W C T E tgI cms lo hi) (hkd : kdT X.2.2.2) (hxX : ∀ r M', xpR X a g W r M' → mI M' a 0 = mI M1 a 0 → xX r M') (hb : bE Nt9 M a g T R W C Z E tg M1) : ∀ (t k : Nat) (M2 : mM), 512 ≤ k + t → pI M1 a g T R W C Z E tg k M2 → k ≤ 512 → pX ev stp tgI cms Ok X a W k M2 → h_MM_explore_115 G (d + 9) a k M2 (fun r M' => i32 r ∧ RI0 Nt9 M' a ∧ FR M a M' ∧ xX r M') := by
  -- the loop has ended
  have fin : ∀ (k : Nat) (M2 : mM), k ≤ 512 → pI M1 a g T R W C Z E tg k M2 → pX ev stp tgI cms Ok X a W k M2 → ((mI M2 a 29 ≤ k) ∨ ¬ (mI M2 a 16 = 0)) → ∀ v56 : Int, v56 = (if mI M2 a 16 = 0 then (-1) else (k : Int) - 1) → i32 v56 ∧ ∀ M60, M60 = mUI M2 a 30 v56 → ∀ v63 : Int, v63 = (if mI M60 a 16 = 0 then (-1) else mI M60 a 17) → i32 v63 ∧ ∀ M67, M67 = mUI M60 a 12 v63 → ∀ v70 : Int, v70 = (if mI M67 a 16 = 0 then mI M67 a 29 else 0) → i32 v70 ∧ ∀ M74, M74 = mUI M67 a 29 v70 → h_MM_explore_199 G (d + 9) a 0 M74 (fun r M' => i32 r ∧ RI0 Nt9 M' a ∧ FR M a M' ∧ xX r M') := by
    intro k M2 hk h px hend v56 e56
    obtain ⟨x1, gg, hh⟩ := h
    have w2 := gg.2.1
    have i56 : i32 v56 := by rw [e56]; split <;> exact i32s (by omega) (by omega)
    refine ⟨i56, fun M60 e60 v63 e63 => ?_⟩
    obtain ⟨m60, f60⟩ := mv_fld i56 gg.1 w2 e60
    have i63 : i32 v63 := by
      rw [e63]
      split
      · exact ⟨by decide, by decide⟩
      · exact (m60.1 _ _).1
    refine ⟨i63, fun M67 e67 v70 e70 => ?_⟩
    obtain ⟨m67, f67⟩ := mv_fld i63 m60.1 m60.2.1 e67
    have i70 : i32 v70 := by
      rw [e70]
      split
      · exact (m67.1 _ _).1
      · exact ⟨by decide, by decide⟩
    refine ⟨i70, fun M74 e74 => ?_⟩
    obtain ⟨m74, f74⟩ := mv_fld i70 m67.1 m67.2.1 e74
    have mm := (m60.trans m67).trans m74
    have no : ∀ q : Nat, False → q ∈ nums a := fun _ z => z.elim
    have F74 : ∀ i, i ≠ 29 → i ≠ 12 → i ≠ 30 → mI M74 a i = mI M2 a i := fun i i1 i2 i3 => by rw [f74, if_neg i1, f67, if_neg i2, f60, if_neg i3]
    have b2 := hb.st x1.1 (fun q hq => hq) (fun x hx => hx) (fun i _ _ i16 i17 i23 i29 _ i40 => x1.2 i i16 i17 i23 i29 i40)
    have b74 := b2.st mm (fun _ z => z.elim) (fun x z => Or.inl z) (fun i _ i12 _ _ _ i29 i30 _ => F74 i i29 i12 i30)
    have w74 := b74.2.1.2.1
    have z0 : mI M74 a 0 = mI M1 a 0 := by rw [F74 0 (by decide) (by decide) (by decide)]; exact x1.2 0 (by decide) (by decide) (by decide) (by decide) (by decide)
    have z67 : mI M67 a 16 = mI M2 a 16 := by rw [f67, if_neg (by decide), f60, if_neg (by decide)]
    by_cases z : mI M2 a 16 = 0
    · have e29 : mI M74 a 29 = mI M2 a 29 := by rw [f74, if_pos rfl, e70, if_pos (by rw [z67]; exact z), f67, if_neg (by decide), f60, if_neg (by decide)]
      obtain ⟨n, L, w, B, F, y1, y2, y3, y4⟩ := hh z
      have h29 : mI M2 a 29 = (n : Int) := y1.1.1
      have kn : k = n := by
        rcases hend with q | q
        · omega
        · exact absurd z q
      subst kn
      have hg := gg.2.2.1.2
      have gs := gs_st w2 hg mm no (fun _ z => z.elim) (fun x z => by omega)
      have xd := y1.mv w2 mm no (fun _ z => z.elim) (fun x z => by omega) gs e29 (F74 40 (by decide) (by decide) (by decide))
      have c7 := (mm.cellL w2 no (offx (a := a) (o := 107) (by decide)) (by omega)).1
      have c8 := (mm.cellL w2 no (offx (a := a) (o := 108) (by decide)) (by omega)).1
      have hF : F 0 = 0 ∧ F k = L ∧ ∀ k', k' < k → F k' ≤ F (k' + 1) ∧ mI M74 (a + 107) k' = (F k' : Int) ∧ mI M74 (a + 108) k' = ((F (k' + 1) - F k' : Nat) : Int) := by rw [c7, c8]; exact y4
      have tz : TL M74 (a + 117) F B (nt M74 (a + 115)) (mI M74 (a + 21185)) (mL M74 (a + 21186)) (mL M74 (a + 21187)) 0 0 0 := tl_zero b74.2.2.2.2.2.1 b74.2.2.2.2.2.2.1 b74.2.2.2.2.2.2.2.1 b74.2.2.2.2.2.2.2.2 (by omega)
      have hW12 := gg.2.2.2.2.2.2.2.1.1.2.1
      have c5 := (mm.cellL w2 no (offx (a := a) (o := 105) (by decide)) (by omega)).1
      have c6 := (mm.cellL w2 no (offx (a := a) (o := 106) (by decide)) (by omega)).1
      have c85 := (mm.cellL w2 no (offx (a := a) (o := 21185) (by decide)) (by omega)).1
      have c86 := (mm.cellL w2 no (offx (a := a) (o := 21186) (by decide)) (by omega)).2
      have c87 := (mm.cellL w2 no (offx (a := a) (o := 21187) (by decide)) (by omega)).2
      obtain ⟨S, T9, x1', x2, x3, x4, x5, w9, x6, x7, x8, x9⟩ := px.1 z
      have lS : S.length = k := by omega
      have eX : X = ((0, 0), k, S, T9) := by
        rw [x1', show 513 - k = (512 - k) + 1 by omega]
        exact exq_n (List.getElem?_eq_none (by omega))
      have ew : w9 = w := by
        have := y1.2.1.1
        omega
      have z16 : mI M74 a 16 = 0 := by rw [F74 16 (by decide) (by decide) (by decide)]; exact z
      have hxx : ∀ M', FI (vF (a + 117)) M74 M' → mOk M' → Wd M' a → SvT M' (a + 117) (xtR M' a k) → mI M' (a + 117 + 30) 0 = 0 → xX (mI M74 a 16) M' := fun M' f' o' w' svt hs0 => by
        have sT : XTr M' a g W X.2.2.1 X.2.2.2 → SvT M' (a + 117) X.2.2.2 := fun xt => by
          have e := xt.2.2.1
          rw [← e, eX]
          show SvT M' (a + 117) (xtR M' a S.length)
          rw [lS]
          exact svt
        refine hxX _ _ (Or.inr ⟨by rw [eX], z16, ?_, ?_, (fun xt => ⟨xt, sT xt, hkd, hs0⟩) ?_⟩) (by rw [f'.2.2.2.2.2.2 a (fun z => by have z' : a + 117 ≤ a ∧ a ≤ a + 117 + 21067 := z; omega)]; exact z0)
        · rw [f'.2.2.2.2.2.2 a (fun z => by have z' : a + 117 ≤ a ∧ a ≤ a + 117 + 21067 := z; omega), f74, if_neg (by decide), f67, if_pos rfl, e63, if_pos (by rw [f60, if_neg (by decide)]; exact z)]
        · rw [f'.2.2.2.2.2.2 a (fun z => by have z' : a + 117 ≤ a ∧ a ≤ a + 117 + 21067 := z; omega), f74, if_neg (by decide), f67, if_neg (by decide), f60, if_pos rfl, e56, if_pos z]
        · have mv' := mv_sol o' w74 f'
          have nv : ∀ x, vF (a + 117) x → a + 117 ≤ x ∧ x ≤ a + 117 + 21067 := fun x z => z
          have gs' := gs_st w74 hg mv' no (fun _ z => z.elim) (fun x z => by have := nv x z; omega)
          have aI' := (mv'.fld w74 no (fun z => by have := nv _ z; omega)).1
          have xd' := xd.mv w74 mv' no (fun _ z => z.elim) (fun x z => by have := nv x z; omega) gs' (by rw [aI']) (by rw [aI'])
          rw [eX]
          refine XTr.sol (M := M74) ?_ w74 mv' nv hW12 aI' ⟨L, w, B, by rw [lS]; exact xd', y2⟩
          refine ⟨by rw [e29]; exact x2, by rw [SmR_cg (M := M2) hW12 (fun j _ => by rw [c5])]; exact x3, ?_, w9, by rw [F74 40 (by decide) (by decide) (by decide)]; exact x6, fun j hj => by rw [c86, c87]; exact x8 j hj, ⟨L, w, B, by rw [lS]; exact xd, y2⟩⟩
          rw [lS, ← x4]
          refine xtR_cg (L := L) (fun k' _ => by rw [c6]) (fun k' _ => by rw [c7, c8]; exact ⟨rfl, rfl⟩) (fun k' hk' => ?_) (fun i hi => ?_)
          · have mF : ∀ j, k' + 1 + j ≤ k → F (k' + 1) ≤ F (k' + 1 + j) := fun j => by
              induction j with
              | zero => intro _; exact Nat.le_refl _
              | succ j ih =>
                intro hj
                have a1 := ih (by omega)
                have a2 := (y4.2.2 (k' + 1 + j) (by omega)).1
                have e : k' + 1 + (j + 1) = k' + 1 + j + 1 := by omega
                rw [e]
                omega
            have m1 := mF (k - (k' + 1)) (by omega)
            rw [show k' + 1 + (k - (k' + 1)) = k by omega, y4.2.1] at m1
            obtain ⟨q1, q2, q3⟩ := y4.2.2 k' hk'
            rw [q2, q3]
            omega
          · unfold cmQ
            rw [show nt M74 (a + 109) = nt M2 (a + 109) from funext (fun j => (mm.lst k109 (fun z => z)).2.1 j), show nt M74 (a + 111) = nt M2 (a + 111) from funext (fun j => (mm.lst k111 (fun z => z)).2.1 j), show nt M74 (a + 113) = nt M2 (a + 113) from funext (fun j => (mm.lst k113 (fun z => z)).2.1 j), show nt M74 (a + 115) = nt M2 (a + 115) from funext (fun j => (mm.lst k115 (fun z => z)).2.1 j), brR_cg (M := M2) (M' := M74) (fun _ _ _ => by rw [c85, c86, c87]; exact ⟨rfl, rfl, rfl⟩)]
      refine x_ex199 hxx b74 (by rw [e29]; exact h29) y1.1.2.1 xd y2 hF rfl rfl rfl rfl k 0 M74 (by omega) ⟨b74.2.1.1, w74, FI.refl, xd.tt y2 hF, ?_⟩
      rw [y4.1, y1.2.2.2.2.2.1.1]
      exact tz
    · have e29 : mI M74 a 29 = 0 := by rw [f74, if_pos rfl, e70, if_neg (by rw [z67]; exact z)]
      have key := b74.ri0 e29
      refine k_MM_explore_199 b74.2.1.1 ⟨by decide, by decide⟩ ⟨w74.1.1, fun _ => ⟨(b74.2.1.1 _ _).1, key.1, key.2, hxX _ _ (Or.inl ?_) z0⟩, fun q => absurd (by rw [e29]; exact Int.le_refl _) q⟩
      obtain ⟨x1', x2⟩ := px.2 z
      have z60 : ¬ mI M60 a 16 = 0 := by rw [f60, if_neg (by decide)]; exact z
      rw [x1']
      refine ⟨z, by rw [F74 16 (by decide) (by decide) (by decide)], ?_, ?_, e29, b74.2.2.2.2.2.2.2.2 0 (by decide)⟩
      · rw [f74, if_neg (by decide), f67, if_pos rfl, e63, if_neg z60, f60, if_neg (by decide)]
      · rw [f74, if_neg (by decide), f67, if_neg (by decide), f60, if_pos rfl, e56, if_neg z]
        omega
  intro t
  induction t with
  | zero =>
    intro k M2 hk h hk5 px
    have w2 := h.2.1.2.1
    refine k_MM_explore_115 h.2.1.1 (i32s (by omega) (by omega)) ⟨w2.1.1, fun q => fin k M2 hk5 h px q, fun q => ?_⟩
    have z : mI M2 a 16 = 0 := Classical.byContradiction (fun y => q (Or.inr y))
    have q1 : ¬ (mI M2 a 29 ≤ k) := fun y => q (Or.inl y)
    obtain ⟨n, L, w, B, F, y1, y2, y3, y4⟩ := h.2.2 z
    have := y1.1
    omega
  | succ t ih =>
    intro k M2 hk h hk5 px
    have w2 := h.2.1.2.1
    refine k_MM_explore_115 h.2.1.1 (i32s (by omega) (by omega)) ⟨w2.1.1, fun q => fin k M2 hk5 h px q, fun q => ?_⟩
    have z : mI M2 a 16 = 0 := Classical.byContradiction (fun y => q (Or.inr y))
    have q1 : ¬ (mI M2 a 29 ≤ k) := fun y => q (Or.inl y)
    obtain ⟨n, L, w, B, F, y1, y2, y3, y4⟩ := h.2.2 z
    have hn := y1.1
    have kn : k < n := by omega
    obtain ⟨S, T9, x1', x2, x3, x4, x5, w9, x6, x7, x8, x9⟩ := px.1 z
    have hR := h.2.1.2.2.2.2.2.2.2.1.1.1
    have gs12 : Gs M1 M2 g := h.1.gs hb.2.1.2.1 hb.2.1.2.2.1.2
    have lS : S.length = n := by omega
    have ew : w9 = w := by
      have := y1.2.1.1
      omega
    subst ew
    have gk : S[k]? = some (lsR M2 a W k) := by
      rw [← x3, lS]
      exact SmR_get kn
    have okk : Ok (lsR M2 a W k) := x9 _ (List.mem_of_getElem? gk)
    have eL : (∀ k', k' < k → (mI M2 (a + 107) k').toNat + (mI M2 (a + 108) k').toNat ≤ L) := fun k' hk' => by
      have mF : ∀ j, k' + 1 + j ≤ k → F (k' + 1) ≤ F (k' + 1 + j) := fun j => by
        induction j with
        | zero => intro _; exact Nat.le_refl _
        | succ j ih =>
          intro hj
          have a1 := ih (by omega)
          have a2 := (y4.2.2 (k' + 1 + j) (by omega)).1
          have e : k' + 1 + (j + 1) = k' + 1 + j + 1 := by omega
          rw [e]
          omega
      have m1 := mF (k - (k' + 1)) (by omega)
      rw [show k' + 1 + (k - (k' + 1)) = k by omega, y4.2.1] at m1
      obtain ⟨q1, q2, q3⟩ := y4.2.2 k' hk'
      rw [q2, q3]
      omega
    refine (x_MM_state0 (d := d) (S9 := S) (T9 := T9) hev hstp (hp.gs gs12 hR) rfl (hok2 _ okk) x2 x3 x4 eL x7 x8 h.2.1 y1 y2 z kn).mono (fun M3 t3 => ⟨t3.1, ?_⟩)
    rw [show (k : Int) + 1 = ((k + 1 : Nat) : Int) by omega]
    have fu : 513 - k = (512 - k) + 1 := by omega
    rw [fu] at x1'
    refine ih (k + 1) M3 (by omega) (pI.next h.1 t3.2.1 y1 y2 kn y4) (by omega) ⟨fun z3 => ?_, fun z3 => ?_⟩
    · rcases t3.2.2 with ⟨q, -⟩ | ⟨-, gq, -, -⟩
      · exact absurd z3 q
      have g1 := gq.1
      have okS := ssq_ok (tg := tgI) (cms := cms) (nb := nbx9 T9) (ev := ev) hok1 okk x9
      obtain ⟨i1, i2, i3, i4, i5, i6, L2, w2, i7, i8, i9, i10, i11, i12, i13⟩ := gq
      refine ⟨_, T9 ++ [((ssq9 ev stp tgI cms (lsR M2 a W k) (nbx9 T9) S).2.2.1, (ssq9 ev stp tgI cms (lsR M2 a W k) (nbx9 T9) S).2.2.2)], ?_, i2, i3, ?_, ?_, w2, i10, ?_, i13, okS⟩
      · rw [x1', exq_s gk (by rw [g1]), show 513 - (k + 1) = 512 - k by omega]
      · rw [xtR_s, i4]
        unfold stR
        rw [i5, i7, i8.2, Int.toNat_natCast, Int.toNat_natCast, i11]
      · have := t3.2.1.2.2.2 z3
        obtain ⟨-, n2, L3, w3, B3, hn2, -, -, -, -, hx2⟩ := this
        have := hx2.1
        omega
      · rw [nbx_app]
        show nbx9 T9 + (nbq9 _ + 0) = w2
        omega
    · rcases t3.2.2 with ⟨q, e⟩ | ⟨q, -⟩
      · rw [x1', exq_f gk (by rw [e]; exact q), e]
        exact ⟨rfl, rfl⟩
      · exact absurd q z3
theorem x_ex81 {xX : Int → mM → Prop} {X : (Int × Int) × Nat × List (List Int) × xt9} {Ok : List Int → Prop} {s0 : List Int} (hev : ∀ sg i j, ev sg i j = vlq ww (cvS sg) pl 0 0 i j) (hstp : ∀ sg l, stp sg l = ((stq9 ww (cvS sg) pl lo hi l (fun v => sg.getD v 0)).1, (List.range W).map (stq9 ww (cvS sg) pl lo hi l (fun v => sg.getD v 0)).2)) (hok1 : ∀ sg l, Ok sg → (stp sg l).1.1 = 0 → Ok (stp sg l).2) (hok2 : ∀ sg, Ok sg → GOk ev cms sg) (hp : GP ww pl XV ev M1 g R W C T E tgI cms lo hi) (hkd : kdT X.2.2.2) (hxX : ∀ r M', xpR X a g W r M' → mI M' a 0 = mI M1 a 0 → xX r M') (hX : X = xpl9 ev stp tgI cms s0) (hs0 : s0 = (List.range W).map (fun v => mI M1 (g + 21) v)) (hok0 : Ok s0) (hb : bE Nt9 M a g T R W C Z E tg M1) (z16 : mI M1 a 16 = 0) (h29 : mI M1 a 29 = 1) (h40 : mI M1 a 40 = 0) (hl : ln M1 (a + 109) = 0 ∧ ln M1 (a + 111) = 0 ∧ ln M1 (a + 113) = 0 ∧ ln M1 (a + 115) = 0) : ∀ (t v : Nat) (M2 : mM), v + t = W → Mv (fun _ => False) (fun x => x = a + 105) M1 a M2 → (∀ v', v' < v → mI M2 (a + 105) v' = mI M1 (g + 21) v') → h_MM_explore_81 G (d + 9) a v M2 (fun r M' => i32 r ∧ RI0 Nt9 M' a ∧ FR M a M' ∧ xX r M') := by
  have gg1 := hb.2.1
  have w1 := gg1.2.1
  have hg := gg1.2.2.1.2
  have hD := gg1.2.2.2.2.2.2.2.1
  have hBd := hD.1
  have no : ∀ q : Nat, False → q ∈ nums a := fun _ z => z.elim
  intro t
  induction t with
  | zero =>
    intro v M2 hv m hn
    have ev : v = W := by omega
    subst ev
    have w2 := m.2.1
    have aI := (m.fld w1 no (by omega)).1
    have b2 := hb.st m (fun _ z => z.elim) (fun x z => Or.inr (Or.inl (by omega))) (fun i _ _ _ _ _ _ _ _ => by rw [aI])
    have gg2 := b2.2.1
    have gs := gs_st w1 hg m no (fun _ z => z.elim) (fun x z => by omega)
    refine k_MM_explore_81 gg2.1 (i32s (by omega) (by omega)) ⟨w2.1.1, ?_⟩
    rw [gg2.2.2.1.1, gg2.2.2.2.2.2.1.2.1]
    refine ⟨(w2.gp hg).1, fun _ => ?_, fun q => absurd (Int.le_refl _) q⟩
    have l : ∀ {q}, q ∈ nums a → ln M1 q = 0 → ln M2 q = ((0 : Nat) : Int) := fun hq hz => by rw [(m.lst hq (fun z => z)).1, hz]; rfl
    have xd : XD M2 a g 1 v 0 0 0 (fun _ => 0) := ⟨⟨by rw [aI, h29]; rfl, by omega, by omega⟩, ⟨by rw [aI, h40]; rfl, by omega⟩, fun k u hk hu => ?_, fun j hj => absurd hj (by omega), ⟨l k109 hl.1, l k111 hl.2.1, l k113 hl.2.2.1, l k115 hl.2.2.2⟩, ⟨rfl, Nat.le_refl _, Nat.le_refl _⟩, fun i hi => absurd hi (by omega)⟩
    · refine x_ex115 hev hstp hok1 hok2 (hp.gs gs hBd.1) hkd (fun r M' u v => hxX r M' u (v.trans (by rw [aI]))) b2 512 0 M2 (by omega) ⟨xF.refl gg2.1 w2, gg2, fun _ => ⟨1, 0, 0, fun _ => 0, fun _ => 0, xd, rfl, by omega, rfl, rfl, fun k' hk' => absurd hk' (by omega)⟩⟩ (by omega) ⟨fun _ => ⟨[s0], [], hX, by rw [aI, h29]; rfl, ?_, rfl, by show (1 : Nat) ≤ 512; omega, 0, by rw [aI, h40]; rfl, rfl, fun j hj => absurd hj (by omega), fun s hs => by rw [List.mem_singleton.mp hs]; exact hok0⟩, fun z => absurd (by rw [aI]; exact z16) z⟩
      show SmR M2 a v 1 = [s0]
      rw [SmR_s]
      show [] ++ [lsR M2 a v 0] = [s0]
      rw [hs0, List.nil_append]
      unfold lsR
      exact congrArg (fun x => [x]) (List.map_congr_left (fun u hu => by rw [show 12 * 0 + u = u by omega]; exact hn u (List.mem_range.mp hu)))
    · have k0 : k = 0 := by omega
      subst k0
      obtain ⟨v1, v2, v3, -⟩ := hD.2.2.2.1 u hu
      rw [(gs.2.1 19 (by omega) (by omega)).1, (gs.2.1 20 (by omega) (by omega)).1, show 12 * 0 + u = u by omega, hn u hu]
      exact ⟨v2, v3⟩
  | succ t ih =>
    intro v M2 hv m hn
    have w2 := m.2.1
    have aI := (m.fld w1 no (by omega)).1
    have b2 := hb.st m (fun _ z => z.elim) (fun x z => Or.inr (Or.inl (by omega))) (fun i _ _ _ _ _ _ _ _ => by rw [aI])
    have gg2 := b2.2.1
    have gs := gs_st w1 hg m no (fun _ z => z.elim) (fun x z => by omega)
    have A5 : mK M2 (a + 105) = 30 ∧ mN M2 (a + 105) = 6144 := w2.1.2.2.2.2.2.2.2.2.1.1
    have b12 : ((0 : Int) ≤ (v : Int) ∧ (v : Int) < ((12 : Nat) : Int)) := by omega
    refine k_MM_explore_81 gg2.1 (i32s (by omega) (by omega)) ⟨w2.1.1, ?_⟩
    rw [gg2.2.2.1.1, gg2.2.2.2.2.2.1.2.1, show mR M2 a 31 = a + 105 from w2.1.2.2.2.2.2.1.1, show mR M2 g 16 = g + 21 from (w2.gp hg).2.2.1.2.2.2.1, Int.toNat_natCast, (gs.2.1 21 (by omega) (by omega)).1]
    refine ⟨(w2.gp hg).1, fun q => absurd q (by omega), fun _ => ⟨(w2.gp hg).2.2.2.2.1.2.2.2.1, by rw [(w2.gp hg).2.2.2.2.1.2.2.2.2]; exact b12, A5.1, by rw [A5.2]; omega, fun M3 e3 => ?_⟩⟩
    obtain ⟨m3, f3, l3⟩ := mv_cell (gg1.1 _ _).1 gg2.1 w2 (show a ≤ a + 105 by omega) (offx (a := a) (o := 105) (by decide)) e3
    rw [show (v : Int) + 1 = ((v + 1 : Nat) : Int) by omega]
    refine ih (v + 1) M3 (by omega) (m.trans m3) (fun v' hv' => ?_)
    rw [f3]
    by_cases y : v' = v
    · rw [if_pos ⟨rfl, y⟩, y]
    · rw [if_neg (fun z => y z.2)]
      exact hn v' (by omega)
theorem x_MM_explore {X : (Int × Int) × Nat × List (List Int) × xt9} {Ok : List Int → Prop} {s0 : List Int} (hev : ∀ sg i j, ev sg i j = vlq ww (cvS sg) pl 0 0 i j) (hstp : ∀ sg l, stp sg l = ((stq9 ww (cvS sg) pl lo hi l (fun v => sg.getD v 0)).1, (List.range W).map (stq9 ww (cvS sg) pl lo hi l (fun v => sg.getD v 0)).2)) (hok1 : ∀ sg l, Ok sg → (stp sg l).1.1 = 0 → Ok (stp sg l).2) (hok2 : ∀ sg, Ok sg → GOk ev cms sg) (hX : X = xpl9 ev stp tgI cms s0) (hok0 : Ok s0) (hG : mI M a 11 ≠ 0 → GdX ww pl XV ev Nt9.2.2 M (mR M a 9) W tgI cms lo hi s0) (h : RI0 Nt9 M a) : Ci G y_MM_explore (d + 10) [vr a] M (fun r M' => i32 r ∧ RI0 Nt9 M' a ∧ FR M a M' ∧ ((mI M a 11 = 0 ∧ r = 0 ∧ xU M M' a ∧ mI M' a 0 = 1) ∨ (mI M a 11 ≠ 0 ∧ xpR X a (mR M a 9) W r M' ∧ mI M' a 0 = 0))) := by
  have wd := h.2.1
  refine k_MM_explore h.1 ⟨wd.1.1, fun v3 e3 M8 e8 => ?_⟩
  have i3 : i32 v3 := by rw [e3]; split <;> exact ⟨by decide, by decide⟩
  obtain ⟨r8, F8, f8⟩ := h.step i3 ⟨by decide, by decide, by decide⟩ e8
  obtain ⟨o8, w8, t8, x8⟩ := id r8
  refine ⟨fun q M12 e12 M14 e14 => ?_, fun q => ⟨⟨by decide, by decide⟩, r8, F8.1, Or.inl ?_⟩⟩
  rotate_left
  · have z : mI M8 a 0 = v3 := by rw [f8, if_pos rfl]
    rw [z] at q
    by_cases y : mI M a 11 = 0
    · exact ⟨y, rfl, xU.one e8, by rw [z, e3, if_pos y]⟩
    · rw [if_neg y] at e3
      omega
  have kn : mI M8 a 11 ≠ 0 := fun z => by
    rw [f8, if_pos rfl] at q
    rw [f8, if_neg (by decide)] at z
    rw [if_pos z] at e3
    omega
  have hg := w8.g9
  have kn0 : mI M a 11 ≠ 0 := fun z => kn (by rw [f8, if_neg (by decide)]; exact z)
  have gs8 : Gs M M8 (mR M a 9) := by
    have m8 := (mv_fld i3 h.1 wd e8).1
    exact gs_st wd wd.g9 m8 (fun _ z => z.elim) (fun _ z => z.elim) (fun x z => by have := wd.g9; omega)
  have r98 : mR M8 a 9 = mR M a 9 := by rw [e8]; rfl
  obtain ⟨T, R, C, Z, E, tg, g1, g2, g3, g4, g5, g6, g7, gp0, gi0⟩ := (hG kn0).gs gs8
  rw [← r98] at g1 g3 g4 g5 g7 gp0 gi0
  generalize hgm : mR M8 a 9 = g at *
  have gg8 : GG M8 a g T R W C Z E tg := ⟨o8, w8, ⟨hgm, hg⟩, g1, g2, g3, g4, g5, g6⟩
  have no : ∀ q : Nat, False → q ∈ nums a := fun _ z => z.elim
  obtain ⟨m12, f12⟩ := mv_fld (v := 1) ⟨by decide, by decide⟩ o8 w8 e12
  obtain ⟨m14, f14⟩ := mv_fld (v := 0) ⟨by decide, by decide⟩ m12.1 m12.2.1 e14
  have up0 : ∀ {Mx My : mM}, Wd Mx a → Mv (fun _ => False) (fun x => x = a) Mx a My → Mv (xP a) (fun x => x = a) Mx a My := fun wx m => m.mono (fun _ z => z.elim) (fun x z => z) (fun q hq => wx.lt (xP_in hq))
  have m814 := (up0 w8 m12).trans (up0 m12.2.1 m14)
  -- the lists are emptied
  have emp : ∀ {p : Nat} {Mx My : mM}, p ∈ nums a → xP a p → Mv (xP a) (fun x => x = a) M8 a Mx → My = mUI Mx p 1 0 → Mv (xP a) (fun x => x = a) M8 a My ∧ mI My a = mI Mx a ∧ ln My p = 0 ∧ ∀ q, q ∈ nums a → q ≠ p → ln My q = ln Mx q := fun {p Mx My} hp hx mx e => by
    have wx := mx.2.1
    have b : 0 ≤ ln Mx p := (wx.nu hp).2.2.2.1.1
    obtain ⟨my, ly, -, -⟩ := mv_set mx.1 wx hp (v := 0) (by omega) b e
    exact ⟨mx.trans (my.mono (fun q hq => by rw [hq]; exact hx) (fun _ z => z.elim) (fun q hq => wx.lt (xP_in hq))), (my.fld wx (fun q hq => by rw [hq]; exact hp) (fun z => z)).1, ly, fun q hq hne => (my.lst hq hne).1⟩
  have R6 : ∀ {Mx : mM}, Wd Mx a → mR Mx a 35 = a + 109 ∧ mR Mx a 36 = a + 111 ∧ mR Mx a 37 = a + 113 ∧ mR Mx a 38 = a + 115 ∧ mR Mx a 39 = a + 117 := fun w => ⟨w.1.2.2.2.2.2.1.2.2.2.2.1, w.1.2.2.2.2.2.1.2.2.2.2.2.1, w.1.2.2.2.2.2.1.2.2.2.2.2.2.1, w.1.2.2.2.2.2.1.2.2.2.2.2.2.2.1, w.1.2.2.2.2.2.1.2.2.2.2.2.2.2.2⟩
  have w14 := m814.2.1
  rw [(R6 w14).1]
  refine ⟨(w14.nu k109).1, fun M17 e17 => ?_⟩
  obtain ⟨m17, a17, l17, u17⟩ := emp k109 (by show a + 109 = a + 99 ∨ a + 109 = a + 109 ∨ a + 109 = a + 111 ∨ a + 109 = a + 113 ∨ a + 109 = a + 115; omega) m814 e17
  have w17 := m17.2.1
  rw [(R6 w17).2.1]
  refine ⟨(w17.nu k111).1, fun M20 e20 => ?_⟩
  obtain ⟨m20, a20, l20, u20⟩ := emp k111 (by show a + 111 = a + 99 ∨ a + 111 = a + 109 ∨ a + 111 = a + 111 ∨ a + 111 = a + 113 ∨ a + 111 = a + 115; omega) m17 e20
  have w20 := m20.2.1
  rw [(R6 w20).2.2.1]
  refine ⟨(w20.nu k113).1, fun M23 e23 => ?_⟩
  obtain ⟨m23, a23, l23, u23⟩ := emp k113 (by show a + 113 = a + 99 ∨ a + 113 = a + 109 ∨ a + 113 = a + 111 ∨ a + 113 = a + 113 ∨ a + 113 = a + 115; omega) m20 e23
  have w23 := m23.2.1
  rw [(R6 w23).2.2.2.1]
  refine ⟨(w23.nu k115).1, fun M26 e26 => ?_⟩
  obtain ⟨m26, a26, l26, u26⟩ := emp k115 (by show a + 115 = a + 99 ∨ a + 115 = a + 109 ∨ a + 115 = a + 111 ∨ a + 115 = a + 113 ∨ a + 115 = a + 115; omega) m23 e26
  have w26 := m26.2.1
  have hin : ∀ q, xP a q → q ∈ nums a := fun q hq => xP_in hq
  have unP : ∀ q, xP a q → q = a + 99 ∨ q = a + 109 ∨ q = a + 111 ∨ q = a + 113 ∨ q = a + 115 := fun q hq => hq
  have ag26 := ag_mv w8 m26 hin (fun x z => by omega)
  have S26 := x8.2.1.ag ag26
  have F26 : ∀ i, i ≠ 29 → i ≠ 40 → mI M26 a i = mI M8 a i := fun i i1 i2 => by rw [a26, a23, a20, a17, f14, if_neg i2, f12, if_neg i1]
  have v29 : mI M26 a 29 = 1 := by rw [a26, a23, a20, a17, f14, if_neg (by decide), f12, if_pos rfl]
  have v40 : mI M26 a 40 = 0 := by rw [a26, a23, a20, a17, f14, if_pos rfl]
  have gs26 := gs_st w8 hg m26 hin (fun q hq z => by
    have z' : q = g + 1 ∨ q = g + 3 ∨ q = g + 5 ∨ q = g + 7 ∨ q = g + 9 ∨ q = g + 11 ∨ q = g + 30 ∨ q = g + 32 ∨ q = g + 34 := z
    have := unP q hq
    omega) (fun x z => by omega)
  have R26 := m26.rfl_a w8 hin
  have gg26 := gg8.gs m26.1 w26 (by rw [R26]) gs26
  have FR26 := F8.1.trans (FR.mv m26 hin (fun x z => by omega))
  have k109z : ln M26 (a + 109) = 0 := by rw [u26 _ k109 (by omega), u23 _ k109 (by omega), u20 _ k109 (by omega), l17]
  have k111z : ln M26 (a + 111) = 0 := by rw [u26 _ k111 (by omega), u23 _ k111 (by omega), l20]
  have k113z : ln M26 (a + 113) = 0 := by rw [u26 _ k113 (by omega), l23]
  have tp := w8.tape
  have s13 := w8.1.2.1
  have t26 : Tpl Nt9 M26 (mR M26 a 1) ∧ ln M26 (mR M26 a 2) ≤ 16384 := ⟨by rw [R26]; exact t8.1.sm (m26.lst tp.1 (fun z => by have := unP _ z; omega)), by rw [R26, (m26.lst tp.2.1 (fun z => by have := unP _ z; omega)).1]; exact t8.2⟩
  rw [(R6 w26).2.2.2.2]
  refine ⟨S26.1.1, (s_MS_clear m26.1 S26).mono (fun M29 t29 => ?_)⟩
  obtain ⟨o29, f29, S29, s2, s3, s30⟩ := t29
  have m29 := mv_sol o29 w26 f29
  have w29 := m29.2.1
  have R29 := m29.rfl_a w26 no
  have nv : ∀ x, vF (a + 117) x → a + 117 ≤ x ∧ x ≤ a + 117 + 21067 := fun x z => z
  have a29 := (m29.fld w26 no (fun z => by have := nv _ z; omega)).1
  have gs29 := gs_st w26 hg m29 no (fun _ z => z.elim) (fun x z => by have := nv x z; omega)
  have gg29 := gg26.gs o29 w29 (by rw [R29]) gs29
  have tp26 := w26.tape
  have b29 : bE Nt9 M a g T R W C Z E tg M29 := ⟨FR26.trans (FR.fi f29 (fun x z => by have := nv x z; omega)), gg29, ⟨by rw [R29]; exact t26.1.sm (m29.lst tp26.1 (fun z => z)), by rw [R29, (m29.lst tp26.2.1 (fun z => z)).1]; exact t26.2⟩, by rw [a29, F26 48 (by decide) (by decide), F26 11 (by decide) (by decide)]; exact x8.2.2.2.2, ⟨by rw [a29, F26 11 (by decide) (by decide)]; exact kn, g3.2.1.symm.trans g7.1, g3.1.symm.trans g7.2.1, g3.2.2.1.symm.trans g7.2.2.1, g7.2.2.2⟩, S29, s2, s3, s30⟩
  refine ⟨o29, w29.1.1, fun M33 e33 => ?_⟩
  obtain ⟨m33, f33⟩ := mv_fld (v := 0) ⟨by decide, by decide⟩ o29 w29 e33
  have b33 := b29.st m33 (fun _ z => z.elim) (fun x z => Or.inl z) (fun i _ _ i16 _ _ _ _ _ => by rw [f33, if_neg i16])
  have ls : ∀ {q}, q ∈ nums a → ln M33 q = ln M26 q := fun hq => by rw [(m33.lst hq (fun z => z)).1, (m29.lst hq (fun z => z)).1]
  have gs829 : Gs M8 M33 g := (gs26.trans gs29).trans (gs_st w29 hg m33 no (fun _ z => z.elim) (fun x z => by omega))
  have gp33 := gp0.gs gs829 g5.1.1
  have key := x_ex81 (G := G) (d := d) (xX := fun r M' => (mI M a 11 = 0 ∧ r = 0 ∧ xU M M' a ∧ mI M' a 0 = 1) ∨ (mI M a 11 ≠ 0 ∧ xpR X a (mR M a 9) W r M' ∧ mI M' a 0 = 0)) hev hstp hok1 hok2 gp33 (by rw [hX]; exact xpl_kd (fun cm hc => by
    obtain ⟨i, hi⟩ := List.getElem?_of_mem hc
    rcases (gp33.2.2.2.2.2.2 i cm hi).1 with y | y
    · exact Or.inl y.1
    · exact Or.inr y.1)) (fun r M' u v => Or.inr ⟨kn0, by rw [← r98]; exact u, v.trans (by rw [f33, if_neg (by decide), a29, F26 0 (by decide) (by decide), f8, if_pos rfl, e3, if_neg kn0])⟩) hX (by rw [(gs829.2.1 21 (by omega) (by omega)).1]; exact gi0) hok0 b33 (by rw [f33, if_pos rfl]) (by rw [f33, if_neg (by decide), a29]; exact v29) (by rw [f33, if_neg (by decide), a29]; exact v40) ⟨by rw [ls k109]; exact k109z, by rw [ls k111]; exact k111z, by rw [ls k113]; exact k113z, by rw [ls k115]; exact l26⟩ W 0 M33 (by omega) (Mv.refl b33.2.1.1 b33.2.1.2.1 (fun _ z => z.elim)) (fun v' hv' => absurd hv' (by omega))
  exact key
end EXY
end
section
/-! The reference's draft is the game: exploring it comes to what the words tell. -/
section GPO
variable {G : mG} {d a g R W C Z T n : Nat} {M : mM} {E : Eg9} {tg : Int} {γ : gW9} {sg : List Int}
/-- what a resolved name is worth in a state -/
noncomputable def XVg (γ : gW9) (sg : List Int) (x : Int) : vrs := if x < 100 then fvs γ.1 γ.2.1 γ.2.2.1 γ.2.2.2.1 γ.2.2.2.2.1 (fun v => sg.getD v 0) γ.2.2.2.2.2.1.reverse x.toNat else (0, sg.getD (x - 100).toNat 0, 1)
/-- what a rule is worth in a state -/
noncomputable abbrev evG (γ : gW9) : List Int → Nat → Nat → vrs := evq γ.1 γ.2.1 γ.2.2.1 γ.2.2.2.1 γ.2.2.2.2.1 γ.2.2.2.2.2.1
theorem xvg_fv {l1 l2 : List nm9} {e : nm9} (h : γ.2.2.2.2.2.1 = l1 ++ e :: l2) (h3 : e.2.1 ≠ 3) (hr : rcn l1 < 100) : XVg γ sg ((rcn l1 : Nat) : Int) = nvs γ.1 γ.2.1 γ.2.2.1 γ.2.2.2.1 γ.2.2.2.2.1 (fun v => sg.getD v 0) e l1.reverse := by
  unfold XVg
  rw [if_pos (show ((rcn l1 : Nat) : Int) < 100 by omega), Int.toNat_natCast, h]
  have e9 : (l1 ++ e :: l2).reverse = l2.reverse ++ e :: l1.reverse := by simp
  have e8 := fvs_at (w := γ.1) (pl := γ.2.1) (nq := γ.2.2.1) (sm := γ.2.2.2.1) (N := γ.2.2.2.2.1) (sg := fun v => sg.getD v 0) (r := l1.reverse) h3 l2.reverse
  rw [rcn_rev] at e8
  rw [e9]
  exact e8
theorem xvg_v {v : Nat} : XVg γ sg (100 + (v : Int)) = (0, sg.getD v 0, 1) := by
  unfold XVg
  rw [if_neg (show ¬ (100 + (v : Int) < 100) by omega), show (100 + (v : Int) - 100).toNat = v by omega]
theorem leaf_xv {r l : List nm9} {nv : Nat → Int} (hr : γ.2.2.2.2.2.1 = r ++ l) (hR : rcn γ.2.2.2.2.2.1 ≤ 60) (hnv : Nvq γ.1 γ.2.2.1 γ.2.2.2.1 r nv) : ∀ k, (γ.1 k = 1 ∨ γ.1 k = 2 ∨ γ.1 k = 12 ∨ γ.1 k = 13) → (γ.1 k = 1 → E9 γ.2.2.2.1 r 0 k ≠ -1) → cvn9 γ.1 (XVg γ sg) nv k = cvs γ.1 γ.2.1 γ.2.2.1 γ.2.2.2.1 γ.2.2.2.2.1 (fun v => sg.getD v 0) γ.2.2.2.2.2.1.reverse k := by
  intro k hk hne
  unfold cvn9
  by_cases h1 : γ.1 k = 1
  · obtain ⟨l1, e, l2, q1, q2, q3, -⟩ := E9_sp (hne h1)
    have hn := hnv.2 k h1 l1 e l2 q1 q2 q3
    have full : γ.2.2.2.2.2.1 = l1 ++ e :: (l2 ++ l) := by rw [hr, q1]; simp
    have old := cvs_old (pl := γ.2.1) (nq := γ.2.2.1) (N := γ.2.2.2.2.1) (sg := fun v => sg.getD v 0) (l := l) h1 q1 q2 q3
    rw [← hr] at old
    rw [if_pos h1, old, hn]
    by_cases h3 : e.2.1 = 3
    · rw [if_pos h3, xvg_v]
      unfold nvs
      rw [if_neg (show ¬ e.2.1 = 1 by omega), if_pos h3, vcn_rev]
    · rw [if_neg h3]
      have lt : rcn l1 < 100 := by
        have := congrArg rcn full
        rw [rcn_app] at this
        omega
      exact xvg_fv full h3 lt
  · rw [if_neg h1, cvs_no h1]
    by_cases h2 : γ.1 k = 2
    · rw [if_pos h2, if_pos h2, hnv.1 k h2]
    · rw [if_neg h2, if_neg h2]
theorem vlx_eq {r l : List nm9} {nv : Nat → Int} {i j : Nat} (hr : γ.2.2.2.2.2.1 = r ++ l) (hR : rcn γ.2.2.2.2.2.1 ≤ 60) (hnv : Nvq γ.1 γ.2.2.1 γ.2.2.2.1 r nv) (he : Eo γ.1 6 i j) (hf : (fl γ.1 (E9 γ.2.2.2.1 r 0) γ.2.1 0 i j).1 = 0) : vlq γ.1 (cvn9 γ.1 (XVg γ sg) nv) γ.2.1 0 0 i j = evG γ sg i j := vl_cg0 (E := E9 γ.2.2.2.1 r 0) (leaf_xv hr hR hnv) he hf
theorem Rtw.rtq {m t : Int} {i j : Nat} (h : Rtw E.2 M g R W T E.1 m t i j) (hR : rcn E.2.2.2.2.2.2.1 ≤ 60) : Rtq E.2.1 E.2.2.1 (XVg E.2) (evG E.2) M g R W T E m t i j := by
  obtain ⟨r, l, n', b, f, e, nv, h1, h2, ⟨h3, -, h5⟩, h6, h7⟩ := h
  exact ⟨n', b, f, e, nv, h2, h3, h7, fun sg => vlx_eq h1 hR h6 h3 h5⟩
theorem RBw.rbr {x : Nat} {br : br9} (h : RBw E.2 M g R W T E.1 Z x br) (hR : rcn E.2.2.2.2.2.2.1 ≤ 60) : RBr E.2.1 E.2.2.1 (XVg E.2) (evG E.2) M g R W T E x br := by
  obtain ⟨h1, h2, h3, fs, h4, h5, h6⟩ := h
  exact ⟨h1, h2.rtq hR, h3, fs, h4, fun i q hq => ⟨(h6 i q hq).1, (h6 i q hq).2.1, (h6 i q hq).2.2.1, (h6 i q hq).2.2.2.rtq hR⟩⟩
theorem two9 {x : Nat} (h : 1 ≤ x ∧ x ≤ 3) (h3 : ¬ x = 3) (h1 : ¬ x = 1) : x = 2 := by omega
theorem RGq.gp (h : RGq E.2 M g R W C Z T E.1 tg) (hn : NmO E.2.1 E.2.2.1 E.2.2.2.2.1 E.2.2.2.2.2.1 n E.2.2.2.2.2.2.1) (hR : R ≤ 60) (e17 : mI M g 17 = tg) (t0 : 0 ≤ tg) : GP E.2.1 E.2.2.1 (XVg E.2) (evG E.2) M g R W C T E (E.2.2.2.2.2.2.2.2.1.getD (0, 0)) E.2.2.2.2.2.2.2.2.2 (fun v => (E.2.2.2.2.2.2.2.1.getD v (0, 0, 0)).1) (fun v => (E.2.2.2.2.2.2.2.1.getD v (0, 0, 0)).2.1) := by
  obtain ⟨⟨hr, hw⟩, hN, ⟨hv, hv'⟩, ht, hc, hcm⟩ := h
  have hR' : rcn E.2.2.2.2.2.2.1 ≤ 60 := by rw [hr]; exact hR
  refine ⟨fun sg r hlt z => ?_, fun sg r hlt z => ?_, fun sg v _ => xvg_v, fun v hlt => ?_, ?_, hc, fun c cm hcc => ?_⟩
  · rw [← hr] at hlt
    obtain ⟨l1, e, l2, q1, q2, q3⟩ := rcn_sp _ r hlt
    subst q3
    obtain ⟨a0, a1, a2⟩ := hN l1 e l2 q1 q2
    obtain ⟨b1, -, -, b4⟩ := hn l1 e l2 q1
    have e2 : e.2.1 = 2 := by
      by_cases y : e.2.1 = 1
      · exact absurd (a1 y).1 z
      · exact two9 b1 q2 y
    obtain ⟨c1, nn, nv, c2, c3, c4, c5⟩ := a2 e2
    obtain ⟨d1, d2, d3, d4⟩ := b4 e2
    refine ⟨nn, nv, _, _, c2, c3, c5, ?_⟩
    rw [xvg_fv q1 q2 (by omega)]
    unfold nvs
    rw [if_neg (show ¬ e.2.1 = 1 by omega), if_neg q2]
    exact vl_cg0 (E := E9 _ l1 0) (fun k hk hne => ((leaf_xv (sg := sg) q1 hR' c4 k hk hne).trans (by rw [q1]; exact cvs_pre hne)).symm) c3 d3
  · rw [← hr] at hlt
    obtain ⟨l1, e, l2, q1, q2, q3⟩ := rcn_sp _ r hlt
    subst q3
    obtain ⟨a0, a1, a2⟩ := hN l1 e l2 q1 q2
    obtain ⟨b1, -, -, -⟩ := hn l1 e l2 q1
    have e1 : e.2.1 = 1 := by
      by_cases y : e.2.1 = 2
      · exact absurd z (a2 y).1
      · omega
    rw [xvg_fv q1 q2 (by omega)]
    unfold nvs
    rw [if_pos e1]
    exact (a1 e1).2
  · have hx := List.getElem?_eq_getElem (l := E.2.2.2.2.2.2.2.1) (i := v) (by rw [hv]; exact hlt)
    obtain ⟨y1, y2, y3⟩ := hv' v _ hx
    have gd : E.2.2.2.2.2.2.2.1.getD v (0, 0, 0) = E.2.2.2.2.2.2.2.1[v]'(by rw [hv]; exact hlt) := by
      rw [List.getD_eq_getElem?_getD, hx]
      rfl
    show mI M (g + 19) v = (E.2.2.2.2.2.2.2.1.getD v (0, 0, 0)).1 ∧ mI M (g + 20) v = (E.2.2.2.2.2.2.2.1.getD v (0, 0, 0)).2.1
    rw [gd]
    exact ⟨y1, y2⟩
  · rcases ht with ⟨u, -⟩ | ⟨ij, u1, u2⟩
    · omega
    · rw [e17, u1]
      exact u2.rtq hR'
  · obtain ⟨k1, k2, k3, ⟨k4, -⟩, k5⟩ := hcm c cm hcc
    exact ⟨k1, k2, k3.rtq hR', k4, fun b x hb => (k5 b x hb).rbr hR'⟩
theorem RGq.gok (h : RGq E.2 M g R W C Z T E.1 tg) (hq : NqO E.2.1 E.2.2.2.1 (E.2.2.2.2.2.1 - 1)) (hn : NmO E.2.1 E.2.2.1 E.2.2.2.2.1 E.2.2.2.2.2.1 (E.2.2.2.2.2.1 - 1) E.2.2.2.2.2.2.1) (hs : SgO (fun v => sg.getD v 0) E.2.2.2.2.2.2.1) : GOk (evG E.2) E.2.2.2.2.2.2.2.2.2 sg := fun c cm hc b br hb h0 => by
  obtain ⟨-, -, -, -, k5⟩ := h.2.2.2.2.2 c cm hc
  obtain ⟨-, ⟨r, l, n', b', f, e, nv, h1, -, ⟨h3, h4, h5⟩, -, -⟩, -⟩ := k5 b br hb
  have g := vls_ok hq hn hs h1 h3 (by omega) h5
  exact (vgd.un g h0).2.2
theorem Gd.gdx {i9 : tI9} (h : Gd i9 M g) : ∃ E : Eg9, GaO E.2 ∧ i9.2.2.2.2.1 = XpG E.2 ∧ vcn E.2.2.2.2.2.2.1 = E.2.2.2.2.2.2.2.1.length ∧ GdX E.2.1 E.2.2.1 (XVg E.2) (evG E.2) i9 M g E.2.2.2.2.2.2.2.1.length (E.2.2.2.2.2.2.2.2.1.getD (0, 0)) E.2.2.2.2.2.2.2.2.2 (fun v => (E.2.2.2.2.2.2.2.1.getD v (0, 0, 0)).1) (fun v => (E.2.2.2.2.2.2.2.1.getD v (0, 0, 0)).2.1) (E.2.2.2.2.2.2.2.1.map (fun x => x.2.2)) ∧ ∀ sg, SgO (fun v => sg.getD v 0) E.2.2.2.2.2.2.1 → GOk (evG E.2) E.2.2.2.2.2.2.2.2.2 sg := by
  obtain ⟨T, R, W, C, Z, E, tg, h1, h2, h3, h4, h5, h6, c1, c2, c3, ga, hX⟩ := h
  have hG := h5.2.2.2.2.2.2.2
  have hR := h5.1.1
  have hw := hG.1.2
  have hv := hG.2.2.1.1
  have gp := hG.gp ga.2.1 hR h3.2.2.2 h6
  have s0 : E.2.2.2.2.2.2.2.1.map (fun x => x.2.2) = (List.range W).map (fun v => mI M (g + 21) v) := by
    refine List.ext_getElem? (fun v => ?_)
    by_cases y : v < W
    · have hx := List.getElem?_eq_getElem (l := E.2.2.2.2.2.2.2.1) (i := v) (by rw [hv]; exact y)
      rw [List.getElem?_map, hx, List.getElem?_map, List.getElem?_range y]
      exact congrArg some (hG.2.2.1.2 v _ hx).2.2.symm
    · rw [List.getElem?_eq_none (by rw [List.length_map, hv]; omega), List.getElem?_eq_none (by rw [List.length_map, List.length_range]; omega)]
  subst hv
  exact ⟨E, ga, hX, hw, ⟨T, R, C, Z, E, tg, h1, h2, h3, h4, h5, h6, ⟨c1, c2, c3, ga, hX⟩, gp, s0⟩, fun sg hs => hG.gok ga.1 ga.2.1 hs⟩
theorem x_MM_expl {Nt9 : tP9} (h : RI0 Nt9 M a) : Ci G y_MM_explore (d + 10) [vr a] M (fun r M' => (i32 r ∧ RI0 Nt9 M' a ∧ FR M a M') ∧ ((Nt9.2.2.1 = 0 ∧ mI M' a 0 = 1 ∧ xU M M' a) ∨ (Nt9.2.2.1 ≠ 0 ∧ (∃ W : Nat, (W : Int) = Nt9.2.2.2.1 ∧ xpR Nt9.2.2.2.2.2.2.1 a (mR M a 9) W r M') ∧ mI M' a 0 = 0))) := by
  have e11 := h.2.2.2.2.2.2.2.2.2
  by_cases z : mI M a 11 = 0
  · refine (x_MM_explore (G := G) (d := d) (W := 0) (ww := fun _ => 0) (pl := fun _ => 0) (lo := fun _ => 0) (hi := fun _ => 0) (XV := fun _ _ => (0, 0, 1)) (cvS := fun _ _ => (0, 0, 1)) (ev := fun sg i j => vlq (fun _ => 0) (fun _ => (0, 0, 1)) (fun _ => 0) 0 0 i j) (stp := fun sg l => ((stq9 (fun _ => 0) (fun _ => (0, 0, 1)) (fun _ => 0) (fun _ => 0) (fun _ => 0) l (fun v => sg.getD v 0)).1, (List.range 0).map (stq9 (fun _ => 0) (fun _ => (0, 0, 1)) (fun _ => 0) (fun _ => 0) (fun _ => 0) l (fun v => sg.getD v 0)).2)) (tgI := (0, 0)) (cms := []) (Ok := fun _ => True) (s0 := []) (fun _ _ _ => rfl) (fun _ _ => rfl) (fun _ _ _ _ => trivial) (fun _ _ c cm hc => absurd hc (by simp)) rfl trivial (fun u => absurd z u) h).mono (fun r M' q => ?_)
    obtain ⟨q1, q2, q3, q4⟩ := q
    refine ⟨⟨q1, q2, q3⟩, Or.inl ?_⟩
    rcases q4 with ⟨-, -, y2, y⟩ | ⟨y, -⟩
    · exact ⟨by rw [← e11]; exact z, y, y2⟩
    · exact absurd z y
  · obtain ⟨E, ga, hX, hw, gx, gok⟩ := (h.2.2.2.2.2.1 z).gdx
    refine (x_MM_explore (G := G) (d := d) (cvS := fun sg => cvs E.2.1 E.2.2.1 E.2.2.2.1 E.2.2.2.2.1 E.2.2.2.2.2.1 (fun v => sg.getD v 0) E.2.2.2.2.2.2.1.reverse) (stp := stpq E.2.1 E.2.2.1 E.2.2.2.1 E.2.2.2.2.1 E.2.2.2.2.2.1 E.2.2.2.2.2.2.1 E.2.2.2.2.2.2.2.1.length (fun v => (E.2.2.2.2.2.2.2.1.getD v (0, 0, 0)).1) (fun v => (E.2.2.2.2.2.2.2.1.getD v (0, 0, 0)).2.1)) (Ok := fun sg => SgO (fun v => sg.getD v 0) E.2.2.2.2.2.2.1) (X := XpG E.2) (fun _ _ _ => rfl) (fun _ _ => rfl) (fun sg l so h0 => stp_ok hw (vlo_vr ga.2.2) so h0) gok rfl (vlo_s0 ga.2.2) (fun _ => gx) h).mono (fun r M' q => ?_)
    obtain ⟨q1, q2, q3, q4⟩ := q
    refine ⟨⟨q1, q2, q3⟩, Or.inr ?_⟩
    rcases q4 with ⟨y, -⟩ | ⟨-, y, y0⟩
    · exact absurd y z
    · obtain ⟨T, R, C, Z, E', tg, -, -, g3, -, -, -, g7, -⟩ := gx
      refine ⟨by rw [← e11]; exact z, ⟨_, g3.2.1.symm.trans g7.1, ?_⟩, y0⟩
      have hX' : Nt9.2.2.2.2.2.2.1 = XpG E.2 := hX
      rw [hX']
      exact y
end GPO
end
section
/-! What exploring a text comes to hangs on its own words alone: pure. -/
section XCA
variable {ev ev' : List Int → Nat → Nat → vrs} {stp stp' : List Int → List (Nat × Nat × Nat × Nat) → (Int × Int) × List Int} {sg : List Int}
theorem chq_cg : ∀ (l : List br9), (∀ b, b ∈ l → ev sg b.2.1.1 b.2.1.2 = ev' sg b.2.1.1 b.2.1.2) → chq9 ev sg l = chq9 ev' sg l
  | [], _ => rfl
  | b :: r, h => by
    have hb := h b List.mem_cons_self
    have ih := chq_cg r (fun x hx => h x (List.mem_cons_of_mem _ hx))
    unfold chq9
    rw [hb, ih]
theorem flq_cg {pc m : Int} {nb : Nat} : ∀ (l : List (br9 × (Int × Int))), (∀ x, x ∈ l → stp sg x.1.2.2 = stp' sg x.1.2.2) → ∀ S B, flq9 stp sg pc m nb l S B = flq9 stp' sg pc m nb l S B
  | [], _ => fun _ _ => rfl
  | x :: r, h => fun S B => by
    have hx := h x List.mem_cons_self
    have ih := flq_cg (pc := pc) (m := m) (nb := nb) r (fun y hy => h y (List.mem_cons_of_mem _ hy))
    simp only [flq9, hx, ih]
theorem tcq_cg {nb c : Nat} {cm : cm9} {s : sl9} (hg : ev sg cm.2.2.1.1 cm.2.2.1.2 = ev' sg cm.2.2.1.1 cm.2.2.1.2) (hb : ∀ b, b ∈ cm.2.2.2 → ev sg b.2.1.1 b.2.1.2 = ev' sg b.2.1.1 b.2.1.2 ∧ stp sg b.2.2 = stp' sg b.2.2) : tcq9 ev stp sg nb c cm s = tcq9 ev' stp' sg nb c cm s := by
  have hch := chq_cg (ev := ev) (ev' := ev') (sg := sg) cm.2.2.2 (fun b hx => (hb b hx).1)
  have hf : ∀ (pc m : Int) (n9 : Nat) (l : List (Int × Int)) S B, flq9 stp sg pc m n9 (cm.2.2.2.zip l) S B = flq9 stp' sg pc m n9 (cm.2.2.2.zip l) S B := fun pc m n9 l S B => flq_cg _ (fun x hx => (hb x.1 (List.of_mem_zip hx).1).2) S B
  unfold tcq9
  rw [hg, hch]
  simp only [hf]
theorem tsq_cg {nb : Nat} : ∀ (l : List cm9), (∀ cm, cm ∈ l → ev sg cm.2.2.1.1 cm.2.2.1.2 = ev' sg cm.2.2.1.1 cm.2.2.1.2 ∧ ∀ b, b ∈ cm.2.2.2 → ev sg b.2.1.1 b.2.1.2 = ev' sg b.2.1.1 b.2.1.2 ∧ stp sg b.2.2 = stp' sg b.2.2) → ∀ (c : Nat) (s : sl9), tsq9 ev stp sg nb l c s = tsq9 ev' stp' sg nb l c s
  | [], _ => fun _ _ => rfl
  | cm :: r, h => fun c s => by
    have h1 := h cm List.mem_cons_self
    have ih := tsq_cg (nb := nb) r (fun y hy => h y (List.mem_cons_of_mem _ hy))
    show (if s.1.1 ≠ 0 then s else tsq9 ev stp sg nb r (c + 1) (tcq9 ev stp sg nb c cm s)) = (if s.1.1 ≠ 0 then s else tsq9 ev' stp' sg nb r (c + 1) (tcq9 ev' stp' sg nb c cm s))
    rw [tcq_cg h1.1 h1.2, ih]
theorem ssq_cg {nb : Nat} {tg : Nat × Nat} {cms : List cm9} {S : List (List Int)} (ht : ev sg tg.1 tg.2 = ev' sg tg.1 tg.2) (h : ∀ cm, cm ∈ cms → ev sg cm.2.2.1.1 cm.2.2.1.2 = ev' sg cm.2.2.1.1 cm.2.2.1.2 ∧ ∀ b, b ∈ cm.2.2.2 → ev sg b.2.1.1 b.2.1.2 = ev' sg b.2.1.1 b.2.1.2 ∧ stp sg b.2.2 = stp' sg b.2.2) : ssq9 ev stp tg cms sg nb S = ssq9 ev' stp' tg cms sg nb S := by
  unfold ssq9
  rw [ht, tsq_cg cms h]
theorem exq_cg {tg : Nat × Nat} {cms : List cm9} (ht : ∀ sg, ev sg tg.1 tg.2 = ev' sg tg.1 tg.2) (h : ∀ cm, cm ∈ cms → (∀ sg, ev sg cm.2.2.1.1 cm.2.2.1.2 = ev' sg cm.2.2.1.1 cm.2.2.1.2) ∧ ∀ b, b ∈ cm.2.2.2 → (∀ sg, ev sg b.2.1.1 b.2.1.2 = ev' sg b.2.1.1 b.2.1.2) ∧ ∀ sg, stp sg b.2.2 = stp' sg b.2.2) : ∀ (f k : Nat) (S : List (List Int)) (T : xt9), exq9 ev stp tg cms f k S T = exq9 ev' stp' tg cms f k S T := by
  have hs : ∀ (sg : List Int) (nb : Nat) (S : List (List Int)), ssq9 ev stp tg cms sg nb S = ssq9 ev' stp' tg cms sg nb S := fun sg nb S => ssq_cg (ht sg) (fun cm hc => ⟨(h cm hc).1 sg, fun b hb => ⟨((h cm hc).2 b hb).1 sg, ((h cm hc).2 b hb).2 sg⟩⟩)
  intro f
  induction f with
  | zero => intro k S T; rfl
  | succ f ih =>
    intro k S T
    simp only [exq9, hs, ih]
theorem xpl_cg {tg : Nat × Nat} {cms : List cm9} {s0 : List Int} (ht : ∀ sg, ev sg tg.1 tg.2 = ev' sg tg.1 tg.2) (h : ∀ cm, cm ∈ cms → (∀ sg, ev sg cm.2.2.1.1 cm.2.2.1.2 = ev' sg cm.2.2.1.1 cm.2.2.1.2) ∧ ∀ b, b ∈ cm.2.2.2 → (∀ sg, ev sg b.2.1.1 b.2.1.2 = ev' sg b.2.1.1 b.2.1.2) ∧ ∀ sg, stp sg b.2.2 = stp' sg b.2.2) : xpl9 ev stp tg cms s0 = xpl9 ev' stp' tg cms s0 := exq_cg ht h _ _ _ _
end XCA
section XCB
variable {w w' pl pl' nq nq' lo lo' hi hi' : Nat → Int} {sm sm' : Nat → Nat → Prop} {N i j k V : Nat} {nms : List nm9} {sg : List Int} {cv cv' : Nat → vrs} {sf : Nat → Int}
theorem nxq_ge {x : Int} : ∀ (f k : Nat), k ≤ nxq w x f k
  | 0, k => Nat.le_refl k
  | f + 1, k => by
    unfold nxq
    by_cases c : w k = x
    · rw [if_pos c]; exact Nat.le_refl k
    · rw [if_neg c]
      exact Nat.le_trans (Nat.le_succ k) (nxq_ge f (k + 1))
theorem nxq_ag (hw : ∀ j, j < N → w j = w' j) {x : Int} : ∀ (f k e : Nat), nxq w x f k = e → e < N → nxq w' x f k = e
  | 0, k, e, h, _ => h
  | f + 1, k, e, h, he => by
    unfold nxq at h ⊢
    by_cases c : w k = x
    · rw [if_pos c] at h
      rw [if_pos (by rw [← hw k (by omega)]; exact c)]
      exact h
    · rw [if_neg c] at h
      have := nxq_ge (w := w) (x := x) f (k + 1)
      rw [if_neg (by rw [← hw k (by omega)]; exact c)]
      exact nxq_ag hw f (k + 1) e h he
/-- the formulas' words stand among the words -/
def NmF (w : Nat → Int) (N : Nat) (l : List nm9) : Prop := ∀ e, e ∈ l → (e.1 < N ∧ w e.1 = 1) ∧ (e.2.1 ≠ 1 → e.2.1 ≠ 3 → Eo w 6 (e.1 + 2) (nxq w 34 N e.1) ∧ nxq w 34 N e.1 < N)
theorem rl_v (ag : AgW w w' pl pl' nq nq' sm sm' N) (eo : Eo w 6 i j) (hj : j ≤ N) (hc : ∀ k, k < N → cv k = cv' k) : vlq w cv pl 0 0 i j = vlq w' cv' pl' 0 0 i j := (rl_cg0 (E := fun _ => 0) (E' := fun _ => 0) eo (fun k _ k2 => ⟨(ag.1 k (by omega)).1, (ag.1 k (by omega)).2.1, fun _ => rfl, fun _ => hc k (by omega)⟩)).2.2
theorem cvs_cg (ag : AgW w w' pl pl' nq nq' sm sm' N) : ∀ (l : List nm9), NmF w N l → ∀ k, k < N → cvs w pl nq sm N sf l k = cvs w' pl' nq' sm' N sf l k
  | [], _, k, hk => by
    obtain ⟨a1, -, a3⟩ := ag.1 k hk
    show (if w k = 2 then ((0, nq k, 1) : vrs) else if w k = 12 then (0, 1, 1) else (0, 0, 1)) = (if w' k = 2 then ((0, nq' k, 1) : vrs) else if w' k = 12 then (0, 1, 1) else (0, 0, 1))
    rw [← a1]
    by_cases h2 : w k = 2
    · rw [if_pos h2, if_pos h2, a3 h2]
    · rw [if_neg h2, if_neg h2]
  | e :: r, h, k, hk => by
    have ih := cvs_cg ag r (fun x hx => h x (List.mem_cons_of_mem _ hx))
    obtain ⟨⟨e1, e2⟩, e3⟩ := h e List.mem_cons_self
    have a1 := (ag.1 k hk).1
    have hc : (w k = 1 ∧ sm e.1 k ∧ ∀ e', e' ∈ r → ¬ sm e'.1 k) ↔ (w' k = 1 ∧ sm' e.1 k ∧ ∀ e', e' ∈ r → ¬ sm' e'.1 k) := by
      rw [← a1]
      refine ⟨fun u => ⟨u.1, (ag.2 e.1 k e1 hk e2 u.1).mp u.2.1, fun e' he' y => u.2.2 e' he' ?_⟩, fun u => ⟨u.1, (ag.2 e.1 k e1 hk e2 u.1).mpr u.2.1, fun e' he' y => u.2.2 e' he' ?_⟩⟩
      · obtain ⟨⟨y1, y2⟩, -⟩ := h e' (List.mem_cons_of_mem _ he')
        exact (ag.2 e'.1 k y1 hk y2 u.1).mpr y
      · obtain ⟨⟨y1, y2⟩, -⟩ := h e' (List.mem_cons_of_mem _ he')
        exact (ag.2 e'.1 k y1 hk y2 u.1).mp y
    by_cases c : w k = 1 ∧ sm e.1 k ∧ ∀ e', e' ∈ r → ¬ sm e'.1 k
    · rw [cvs, if_pos c, cvs, if_pos (hc.mp c)]
      by_cases y1 : e.2.1 = 1
      · rw [if_pos y1, if_pos y1]
      rw [if_neg y1, if_neg y1]
      by_cases y3 : e.2.1 = 3
      · rw [if_pos y3, if_pos y3]
      rw [if_neg y3, if_neg y3]
      obtain ⟨z1, z2⟩ := e3 y1 y3
      rw [nxq_ag (fun j hj => (ag.1 j hj).1) N e.1 _ rfl z2]
      exact rl_v ag z1 (Nat.le_of_lt z2) (fun k hk => ih k hk)
    · rw [cvs, if_neg c, cvs, if_neg (fun u => c (hc.mpr u))]
      exact ih k hk
theorem cvr_cg (ag : AgW w w' pl pl' nq nq' sm sm' N) (nf : NmF w N nms) : ∀ k, k < N → cvs w pl nq sm N sf nms.reverse k = cvs w' pl' nq' sm' N sf nms.reverse k := cvs_cg ag _ (fun e he => nf e (List.mem_reverse.mp he))
theorem evq_cg (ag : AgW w w' pl pl' nq nq' sm sm' N) (nf : NmF w N nms) (eo : Eo w 6 i j) (hj : j ≤ N) : evq w pl nq sm N nms sg i j = evq w' pl' nq' sm' N nms sg i j := rl_v ag eo hj (cvr_cg ag nf)
theorem stq_ag (ag : AgW w w' pl pl' nq nq' sm sm' N) (hc : ∀ k, k < N → cv k = cv' k) : ∀ (l : List (Nat × Nat × Nat × Nat)), (∀ q, q ∈ l → (Eo w 6 q.2.1 q.2.2.1 ∧ q.2.2.1 ≤ N ∧ q.2.2.2 < N) ∧ lo q.1 = lo' q.1 ∧ hi q.1 = hi' q.1) → ∀ nx, stq9 w cv pl lo hi l nx = stq9 w' cv' pl' lo' hi' l nx
  | [], _ => fun _ => rfl
  | q :: r, h => fun nx => by
    obtain ⟨⟨a1, a2, a3⟩, a4, a5⟩ := h q List.mem_cons_self
    have ih := stq_ag ag hc r (fun x hx => h x (List.mem_cons_of_mem _ hx))
    rw [stq9, stq9, rl_v ag a1 a2 hc, a4, a5, (ag.1 q.2.2.2 a3).2.1, ih]
/-- other bounds, the same where sets look at them -/
theorem stq_lo : ∀ (l : List (Nat × Nat × Nat × Nat)), (∀ q, q ∈ l → lo q.1 = lo' q.1 ∧ hi q.1 = hi' q.1) → ∀ nx, stq9 w cv pl lo hi l nx = stq9 w cv pl lo' hi' l nx
  | [], _ => fun _ => rfl
  | q :: r, h => fun nx => by
    obtain ⟨a4, a5⟩ := h q List.mem_cons_self
    have ih := stq_lo r (fun x hx => h x (List.mem_cons_of_mem _ hx))
    rw [stq9, stq9, a4, a5, ih]
theorem stpq_lo {l : List (Nat × Nat × Nat × Nat)} (h : ∀ q, q ∈ l → lo q.1 = lo' q.1 ∧ hi q.1 = hi' q.1) : stpq w pl nq sm N nms V lo hi sg l = stpq w pl nq sm N nms V lo' hi' sg l := by
  unfold stpq
  rw [stq_lo l h]
theorem stpq_cg (ag : AgW w w' pl pl' nq nq' sm sm' N) (nf : NmF w N nms) {l : List (Nat × Nat × Nat × Nat)} (h : ∀ q, q ∈ l → Eo w 6 q.2.1 q.2.2.1 ∧ q.2.2.1 ≤ N ∧ q.2.2.2 < N) : stpq w pl nq sm N nms V lo hi sg l = stpq w' pl' nq' sm' N nms V lo hi sg l := by
  unfold stpq
  rw [stq_ag ag (cvr_cg ag nf) l (fun q hq => ⟨h q hq, rfl, rfl⟩)]
/-- the game's words stand among the words -/
def GmO (w : Nat → Int) (N : Nat) (g : gm9) : Prop := (∀ tg, g.2.1 = some tg → Eo w 6 tg.1 tg.2 ∧ tg.2 < N) ∧ ∀ cm, cm ∈ g.2.2 → (Eo w 6 cm.2.2.1.1 cm.2.2.1.2 ∧ cm.2.2.1.2 < N) ∧ ∀ b, b ∈ cm.2.2.2 → (Eo w 6 b.2.1.1 b.2.1.2 ∧ b.2.1.2 < N) ∧ ∀ q, q ∈ b.2.2 → Eo w 6 q.2.1 q.2.2.1 ∧ q.2.2.1 ≤ N ∧ q.2.2.2 < N
theorem xpg_cg {g : gm9} (ag : AgW w w' pl pl' nq nq' sm sm' N) (nf : NmF w N nms) (go : GmO w N g) (hg : g.2.1 ≠ none) : XpG (w, pl, nq, sm, N, nms, g) = XpG (w', pl', nq', sm', N, nms, g) := by
  unfold XpG
  refine xpl_cg (fun sg => ?_) (fun cm hc => ⟨fun sg => ?_, fun b hb => ⟨fun sg => ?_, fun sg => ?_⟩⟩)
  · show evq w pl nq sm N nms sg (g.2.1.getD (0, 0)).1 (g.2.1.getD (0, 0)).2 = evq w' pl' nq' sm' N nms sg (g.2.1.getD (0, 0)).1 (g.2.1.getD (0, 0)).2
    cases e : g.2.1 with
    | none => exact absurd e hg
    | some tg =>
      obtain ⟨a, b⟩ := go.1 tg e
      exact evq_cg ag nf a (Nat.le_of_lt b)
  · obtain ⟨⟨a, b⟩, -⟩ := go.2 cm hc
    exact evq_cg ag nf a (Nat.le_of_lt b)
  · obtain ⟨⟨a, b'⟩, -⟩ := (go.2 cm hc).2 b hb
    exact evq_cg ag nf a (Nat.le_of_lt b')
  · exact stpq_cg ag nf ((go.2 cm hc).2 b hb).2
end XCB
end
section
/-! The game that a text tells hangs on its own words alone: pure. -/
theorem tw_cg {α : Type} {p q : α → Bool} : ∀ (l : List α), (∀ x, x ∈ l → p x = q x) → l.takeWhile p = l.takeWhile q
  | [], _ => rfl
  | a :: t, h => by
    rw [List.takeWhile_cons, List.takeWhile_cons, h a List.mem_cons_self, tw_cg t (fun x hx => h x (List.mem_cons_of_mem _ hx))]
section XCC
variable {w w' pl pl' nq nq' : Nat → Int} {sm sm' : Nat → Nat → Prop} {N i j k e q : Nat} {nms : List nm9} {s : st9} {g : gm9}
theorem vix_cg (ag : AgW w w' pl pl' nq nq' sm sm' N) (nm : NmW w N nms) (hk : k < N) (h1 : w k = 1) : vix9 sm nms k = vix9 sm' nms k := by
  unfold vix9
  refine congrArg vcn (tw_cg nms (fun e he => ?_))
  have eq : sm e.1 k = sm' e.1 k := propext (ag.2 e.1 k (nm e he).1 hk (nm e he).2 h1)
  show (!@decide (sm e.1 k) (Classical.propDecidable _)) = (!@decide (sm' e.1 k) (Classical.propDecidable _))
  rw [eq]
theorem sel_cg (ag : AgW w w' pl pl' nq nq' sm sm' N) (nm : NmW w N nms) : ∀ (f0 k q : Nat), Se w f0 k q → q < N → ∀ (f : Nat), sel9 w sm N nms f k = sel9 w' sm' N nms f k ∧ ∀ x, x ∈ sel9 w sm N nms f k → Eo w 6 x.2.1 x.2.2.1 ∧ x.2.2.1 ≤ N ∧ x.2.2.2 < N := by
  intro f0
  induction f0 with
  | zero => intro k q h; exact h.elim
  | succ f0 ih =>
    intro k q h hq f
    have sg := h.sg.1
    obtain ⟨h0, h1, h2, h3, c, eo, h5, h6⟩ := h
    have lt := eo.pr.1
    have cq : c + 1 ≤ q := by
      rcases h6 with ⟨y, -⟩ | ⟨-, y⟩
      · omega
      · have := y.sg.1
        omega
    cases f with
    | zero => exact ⟨rfl, fun x hx => absurd hx (by simp [sel9])⟩
    | succ f =>
      have c1 : cpq w (k + 4) N = c := cpq_at eo h5 (by omega)
      have c2 : cpq w' (k + 4) N = c := cpq_at (ag.eo eo (by omega)) (by rw [← (ag.1 c (by omega)).1]; exact h5) (by omega)
      have vx := vix_cg (k := k + 1) ag nm (by omega) h1
      rw [sel9, sel9, c1, c2, vx, ← (ag.1 (c + 1) (by omega)).1]
      by_cases w29 : w (c + 1) = 29
      · rw [if_pos w29, if_pos w29]
        have y := (h6.resolve_left (fun u => u.2 w29)).2
        obtain ⟨i1, i2⟩ := ih (c + 2) q y hq f
        refine ⟨by rw [i1], fun x hx => ?_⟩
        rcases List.mem_cons.mp hx with u | u
        · rw [u]
          exact ⟨eo, by show c ≤ N; omega, by show k < N; omega⟩
        · exact i2 x u
      · rw [if_neg w29, if_neg w29]
        refine ⟨rfl, fun x hx => ?_⟩
        rw [List.mem_singleton.mp hx]
        exact ⟨eo, by show c ≤ N; omega, by show k < N; omega⟩
theorem brs_cg (ag : AgW w w' pl pl' nq nq' sm sm' N) (nm : NmW w N nms) (he : e < N) : ∀ (f0 p : Nat), Br w f0 p e → 1 ≤ p → ∀ (f b : Nat), (brf w pl sm N nms e f p b).1 = 0 → brs9 w pl sm N nms e f p = brs9 w' pl' sm' N nms e f p ∧ ∀ x, x ∈ brs9 w pl sm N nms e f p → (Eo w 6 x.2.1.1 x.2.1.2 ∧ x.2.1.2 < N) ∧ ∀ q, q ∈ x.2.2 → Eo w 6 q.2.1 q.2.2.1 ∧ q.2.2.1 ≤ N ∧ q.2.2.2 < N := by
  intro f0
  induction f0 with
  | zero => intro p h; exact h.elim
  | succ f0 ih =>
    intro p h hp f b h0
    have sg := h.sg.1
    obtain ⟨q, s, eo5, w33, ss, h4⟩ := h
    have eo := eo5.one (show 5 ≤ 6 by omega)
    have lt := eo.pr.1
    have sgs := ss.sg.1
    have se : s ≤ e := by
      rcases h4 with ⟨y, -⟩ | ⟨-, y⟩
      · omega
      · have := y.sg.1
        omega
    cases f with
    | zero => exact ⟨rfl, fun x hx => absurd hx (by simp [brs9])⟩
    | succ f =>
      have c1 : clq w (p - 1) N = q := clq_eo (by rw [show p - 1 + 1 = p by omega]; exact eo) w33 (by omega)
      have c2 : clq w' (p - 1) N = q := clq_eo (by rw [show p - 1 + 1 = p by omega]; exact ag.eo eo (by omega)) (by rw [← (ag.1 q (by omega)).1]; exact w33) (by omega)
      have nl : ¬ e ≤ p := by omega
      have nxt : ∀ b, (brf w pl sm N nms e f (s + 1) b).1 = 0 → brs9 w pl sm N nms e f (s + 1) = brs9 w' pl' sm' N nms e f (s + 1) ∧ ∀ x, x ∈ brs9 w pl sm N nms e f (s + 1) → (Eo w 6 x.2.1.1 x.2.1.2 ∧ x.2.1.2 < N) ∧ ∀ q, q ∈ x.2.2 → Eo w 6 q.2.1 q.2.2.1 ∧ q.2.2.1 ≤ N ∧ q.2.2.2 < N := fun b hb => by
        rcases h4 with ⟨y, -⟩ | ⟨-, y⟩
        · rw [brs_e (by omega), brs_e (by omega)]
          exact ⟨rfl, fun x hx => absurd hx (by simp)⟩
        · exact ih (s + 1) y (by omega) f b hb
      rw [brf, if_neg nl] at h0
      by_cases b8 : b = 8
      · rw [if_pos b8] at h0
        exact absurd h0 (by simp)
      rw [if_neg b8, c1] at h0
      by_cases r0 : (rf9 w pl sm nms 0 0 p q).1 ≠ 0
      · rw [if_pos r0] at h0
        exact absurd h0 r0
      rw [if_neg r0] at h0
      rw [brs9, if_neg nl, brs9, if_neg nl, c1, c2, ← (ag.1 (q + 1) (by omega)).1, ← (ag.1 p (by omega)).2.1]
      rcases ss with ⟨w10, es⟩ | ⟨w10, f1, hse⟩
      · rw [if_pos w10] at h0
        rw [if_pos w10, if_pos w10]
        have e3 : q + 3 = s + 1 := by omega
        rw [e3] at h0 ⊢
        obtain ⟨n1, n2⟩ := nxt (b + 1) h0
        refine ⟨by rw [n1], fun x hx => ?_⟩
        rcases List.mem_cons.mp hx with u | u
        · rw [u]
          exact ⟨⟨eo, by show q < N; omega⟩, fun y hy => absurd hy (by simp)⟩
        · exact n2 x u
      · rw [if_neg w10] at h0
        rw [if_neg w10, if_neg w10]
        have s1 := sef_cg ag nm f1 (q + 1) s hse (by omega) N []
        by_cases z : (sef w pl sm N nms N (q + 1) []).1.1 ≠ 0
        · rw [if_pos z] at h0
          exact absurd h0 z
        rw [if_neg z] at h0
        have s2 := sef_at (pl := pl) (sm := sm) (nms := nms) f1 (q + 1) s hse (by omega) N [] (by omega) (Decidable.not_not.mp z)
        rw [s2] at h0
        rw [← s1, s2]
        obtain ⟨n1, n2⟩ := nxt (b + 1) h0
        obtain ⟨l1, l2⟩ := sel_cg ag nm f1 (q + 1) s hse (by omega) N
        refine ⟨by rw [n1, l1], fun x hx => ?_⟩
        rcases List.mem_cons.mp hx with u | u
        · rw [u]
          exact ⟨⟨eo, by show q < N; omega⟩, l2⟩
        · exact n2 x u
theorem var_cg (ag : AgW w w' pl pl' nq nq' sm sm' N) (nm : NmW w N nms) (he : e < N) (vs : Vs w (k + 3) i) (hi : (w i ≠ 9 ∧ i = e) ∨ (w i = 9 ∧ Eo w 6 (i + 1) e)) : var9 w pl nq sm N nms k e = var9 w' pl' nq' sm' N nms k e := by
  have ie : i ≤ e := by
    rcases hi with ⟨-, y⟩ | ⟨-, y⟩
    · omega
    · have := y.pr.1
      omega
  have ki := vs.sg.1
  have wk := (ag.1 (k + 3) (by omega)).1
  have wi := (ag.1 i (by omega)).1
  have ini : (if w (k + 3) = 5 then k + 4 else nxq w 9 (e - (k + 3)) (k + 3)) = i ∧ (if w' (k + 3) = 5 then k + 4 else nxq w' 9 (e - (k + 3)) (k + 3)) = i := by
    rcases vs with ⟨w5, ei⟩ | ⟨w5, j, eo0, w16, eo1⟩
    · rw [if_pos w5, if_pos (by rw [← wk]; exact w5)]
      omega
    · have a0 := eo0.pr.1
      have a1 := eo1.pr.1
      have no9 : ∀ t, k + 3 ≤ t → t < i → w t ≠ 9 := fun t t1 t2 => by
        by_cases c1 : t < j
        · exact eo0.no9 (Or.inl rfl) t1 c1
        · by_cases c2 : t = j
          · rw [c2, w16]; decide
          · exact eo1.no9 (Or.inl rfl) (by omega) t2
      have no9' : ∀ t, k + 3 ≤ t → t < i → w' t ≠ 9 := fun t t1 t2 => by
        rw [← (ag.1 t (by omega)).1]
        exact no9 t t1 t2
      rw [if_neg w5, if_neg (by rw [← wk]; exact w5)]
      rcases hi with ⟨-, ei⟩ | ⟨w9, eo2⟩
      · rw [nxq_no (fun t t1 t2 => no9 t t1 (by omega)), nxq_no (fun t t1 t2 => no9' t t1 (by omega))]
        omega
      · have := eo2.pr.1
        exact ag.nx (by omega) (by omega) (by omega) w9 no9
  have r2 : w i = 9 → vlq w (cv9 w nq sm nms) pl 0 0 (i + 1) e = vlq w' (cv9 w' nq' sm' nms) pl' 0 0 (i + 1) e := fun w9 => by
    have eo := (hi.resolve_left (fun u => u.1 w9)).2
    exact vq_cg ag nm eo (by omega)
  have r01 : w (k + 3) ≠ 5 → ∃ j, (nxq w 16 N (k + 3) = j ∧ nxq w' 16 N (k + 3) = j) ∧ vlq w (cv9 w nq sm nms) pl 0 0 (k + 3) j = vlq w' (cv9 w' nq' sm' nms) pl' 0 0 (k + 3) j ∧ vlq w (cv9 w nq sm nms) pl 0 0 (j + 1) i = vlq w' (cv9 w' nq' sm' nms) pl' 0 0 (j + 1) i := fun w5 => by
    obtain ⟨-, j, eo0, w16, eo1⟩ := vs.resolve_left (fun u => w5 u.1)
    have a0 := eo0.pr.1
    have a1 := eo1.pr.1
    exact ⟨j, ag.nx (by omega) (by omega) (by omega) w16 (fun t t1 t2 => eo0.no9 (Or.inr (Or.inl rfl)) t1 t2), vq_cg ag nm eo0 (by omega), vq_cg ag nm eo1 (by omega)⟩
  unfold var9
  simp only []
  rw [ini.1, ini.2, ← wk, ← wi]
  by_cases w5 : w (k + 3) = 5
  · simp only [if_pos w5]
    by_cases w9 : w i = 9
    · simp only [if_pos w9]
      rw [r2 w9]
    · simp only [if_neg w9]
  · obtain ⟨j, ⟨j1, j2⟩, j3, j4⟩ := r01 w5
    simp only [if_neg w5]
    rw [j1, j2, j3, j4]
    by_cases w9 : w i = 9
    · simp only [if_pos w9]
      rw [r2 w9]
    · simp only [if_neg w9]
theorem ite_cg (ag : AgW w w' pl pl' nq nq' sm sm' N) (nm : NmW w N s.1) (hit : It w k e) (eN : e < N) (n1 : nxq w 34 N k = e) (n2 : nxq w' 34 N k = e) : ite9 w pl nq sm N 60 k s = ite9 w' pl' nq' sm' N 60 k s := by
  have kN : k < N := by
    have := hit.2.1
    omega
  have wk := (ag.1 k kN).1
  unfold ite9
  simp only [n1, n2]
  rw [← wk]
  rcases hit.2.2 with ⟨h0, h1, h2, eo⟩ | ⟨h0, h1, h2, i, vs, hi⟩ | ⟨h0, j, f1, eo, w17, br⟩ | ⟨h0, eo⟩
  · rw [if_pos h0, if_pos h0, itr_cg ag nm (by omega) h1 eo]
  · rw [if_neg (show ¬ (w k = 3 ∨ w k = 6) by omega), if_neg (show ¬ (w k = 3 ∨ w k = 6) by omega), if_pos h0, if_pos h0, itv_cg ag nm (by omega) h1 vs hi]
  · rw [if_neg (show ¬ (w k = 3 ∨ w k = 6) by omega), if_neg (show ¬ (w k = 3 ∨ w k = 6) by omega), if_neg (show ¬ (w k = 4) by omega), if_neg (show ¬ (w k = 4) by omega), if_neg (show ¬ (w k = 11) by omega), if_neg (show ¬ (w k = 11) by omega), itc_cg ag nm (by omega) eo w17 br]
  · rw [if_neg (show ¬ (w k = 3 ∨ w k = 6) by omega), if_neg (show ¬ (w k = 3 ∨ w k = 6) by omega), if_neg (show ¬ (w k = 4) by omega), if_neg (show ¬ (w k = 4) by omega), if_pos h0, if_pos h0, itt_cg ag nm (by omega) eo]
theorem itc_0 (h : (itc w pl sm N 60 k e s).2.2.1 = 0) (hj : nxq w 17 N (k + 1) = j) : (brf w pl sm N s.1 e N (j + 1) 0).1 = 0 := by
  unfold itc at h
  simp only [hj] at h
  by_cases c1 : s.2.1.2.2.1 = 60
  · rw [if_pos c1] at h
    exact absurd h (by simp)
  rw [if_neg c1] at h
  by_cases c2 : (fst9 (rf9 w pl sm s.1 0 1 (k + 1) j) (brf w pl sm N s.1 e N (j + 1) 0)).1 ≠ 0
  · rw [if_pos c2] at h
    exact absurd h c2
  exact (fst9_1.mp (Decidable.not_not.mp c2)).2
theorem igm_cg (ag : AgW w w' pl pl' nq nq' sm sm' N) (nm : NmW w N s.1) (hit : It w k e) (eN : e < N) (n1 : nxq w 34 N k = e) (n2 : nxq w' 34 N k = e) (z : (ite9 w pl nq sm N 60 k s).2.2.1 = 0) (go : GmO w N g) : igm9 w pl nq sm N s.1 k g = igm9 w' pl' nq' sm' N s.1 k g ∧ GmO w N (igm9 w pl nq sm N s.1 k g) := by
  have kN : k < N := by
    have := hit.2.1
    omega
  have wk := (ag.1 k kN).1
  unfold ite9 at z
  simp only [n1] at z
  unfold igm9
  rw [← wk, n1, n2]
  rcases hit.2.2 with ⟨h0, h1, h2, eo⟩ | ⟨h0, h1, h2, i, vs, hi⟩ | ⟨h0, j, f1, eo, w17, br⟩ | ⟨h0, eo⟩
  · rw [if_pos h0, if_pos h0]
    exact ⟨rfl, go⟩
  · rw [if_neg (show ¬ (w k = 3 ∨ w k = 6) by omega), if_neg (show ¬ (w k = 3 ∨ w k = 6) by omega), if_pos h0, if_pos h0, var_cg ag nm eN vs hi]
    exact ⟨rfl, go.1, go.2⟩
  · have h36 : ¬ (w k = 3 ∨ w k = 6) := by omega
    have h4 : ¬ w k = 4 := by omega
    have h11 : ¬ w k = 11 := by omega
    rw [if_neg h36, if_neg h4, if_neg h11] at z
    rw [if_neg h36, if_neg h36, if_neg h4, if_neg h4, if_neg h11, if_neg h11]
    have lt := eo.pr.1
    have je := br.sg.1
    obtain ⟨a1, a2⟩ := ag.nx (x := 17) (f := N) (k := k + 1) (e := j) (by omega) (by omega) (by omega) w17 (fun t t1 t2 => eo.no9 (Or.inr (Or.inr rfl)) t1 t2)
    obtain ⟨b1, b2⟩ := brs_cg ag nm eN f1 (j + 1) br (by omega) N 0 (itc_0 z a1)
    have ec : cmd9 w pl sm N s.1 k e = cmd9 w' pl' sm' N s.1 k e := by
      unfold cmd9
      rw [a1, a2, b1, ← wk, (ag.1 k kN).2.1]
    refine ⟨by rw [ec], go.1, fun cm hc => ?_⟩
    rcases List.mem_append.mp hc with u | u
    · exact go.2 cm u
    · rw [List.mem_singleton.mp u]
      unfold cmd9
      rw [a1]
      exact ⟨⟨eo, by show j < N; omega⟩, b2⟩
  · have h36 : ¬ (w k = 3 ∨ w k = 6) := by omega
    have h4 : ¬ w k = 4 := by omega
    rw [if_neg h36, if_neg h36, if_neg h4, if_neg h4, if_pos h0, if_pos h0]
    refine ⟨rfl, fun tg ht => ?_, go.2⟩
    have : (k + 1, e) = tg := Option.some.inj ht
    rw [← this]
    exact ⟨eo, eN⟩
theorem igs_cg (ag : AgW w w' pl pl' nq nq' sm sm' N) : ∀ (f f' k : Nat) (s : st9) (g : gm9), Ac w N f [50] k → NmW w N s.1 → GmO w N g → igs9 w pl nq sm N 60 f' k s g = igs9 w' pl' nq' sm' N 60 f' k s g ∧ GmO w N (igs9 w pl nq sm N 60 f' k s g) := by
  intro f
  induction f using Nat.strongRecOn with
  | ind f ih =>
    intro f' k s g hac nm go
    cases f' with
    | zero => exact ⟨rfl, go⟩
    | succ f' =>
      rw [igs9, igs9]
      by_cases f0 : s.2.2.1 = 0
      · rw [if_neg (show ¬ s.2.2.1 ≠ 0 from fun u => u f0), if_neg (show ¬ s.2.2.1 ≠ 0 from fun u => u f0)]
        rcases ac_item hac with ⟨c0, c1⟩ | ⟨c0, e, g', hg, hit, hac'⟩
        · rw [if_pos c0, if_pos (show w' k = 0 by rw [← (ag.1 k (by omega)).1]; exact c0)]
          exact ⟨rfl, go⟩
        · have eN := ac_le hac'
          have sg := hit.sg
          have kN : k < N := by
            have := hit.2.1
            omega
          obtain ⟨n1, n2⟩ := ag.nx (x := 34) (f := N) (k := k) (e := e) sg.1 (by omega) (by omega) hit.1 sg.2.2.2
          have wk := (ag.1 k kN).1
          have es := ite_cg ag nm hit (by omega) n1 n2
          have nm' : NmW w N (ite9 w pl nq sm N 60 k s).1 := ite_nm nm (by have := hit.2.1; omega) (fun u => by
            rcases hit.2.2 with ⟨h0, h1, -⟩ | ⟨h0, h1, -⟩ | ⟨h0, -⟩ | ⟨h0, -⟩
            · exact h1
            · exact h1
            · omega
            · omega)
          rw [if_neg c0, if_neg (show ¬ w' k = 0 by rw [← wk]; exact c0), n1, n2, ← es]
          by_cases z : (ite9 w pl nq sm N 60 k s).2.2.1 ≠ 0
          · rw [if_pos z, if_pos z]
            exact ih g' hg f' (e + 1) _ g hac' nm' go
          · obtain ⟨m1, m2⟩ := igm_cg (g := g) ag nm hit (by omega) n1 n2 (Decidable.not_not.mp z) go
            rw [if_neg z, if_neg z, ← m1]
            exact ih g' hg f' (e + 1) _ _ hac' nm' m2
      · rw [if_pos f0, if_pos f0]
        exact ⟨rfl, go⟩
theorem NmF.add (h : NmF w N nms) {y : nm9} (h1 : y.1 < N ∧ w y.1 = 1) (h2 : y.2.1 ≠ 1 → y.2.1 ≠ 3 → Eo w 6 (y.1 + 2) (nxq w 34 N y.1) ∧ nxq w 34 N y.1 < N) : NmF w N (nms ++ [y]) := fun e he => by
  rcases List.mem_append.mp he with u | u
  · exact h e u
  · rw [List.mem_singleton.mp u]
    exact ⟨h1, h2⟩
theorem ite_nmf (nf : NmF w N s.1) (it : It w k e) (nx : nxq w 34 N k = e) (he : e < N) : NmF w N (ite9 w pl nq sm N 60 k s).1 := by
  have lt := it.2.1
  have nx1 : nxq w 34 N (k + 1) = e := nxq_at (by omega) (by omega) it.1 (fun m m1 m2 => it.sg.2.2.2 m (by omega) m2)
  unfold ite9
  simp only [nx]
  rcases it.2.2 with ⟨h0, h1, h2, eo⟩ | ⟨h0, h1, h2, i, vs, hi⟩ | ⟨h0, j, f1, eo, w17, br⟩ | ⟨h0, eo⟩
  · have ad : ∀ y : Nat × Int × vrs, NmF w N (s.1 ++ [(k + 1, y)]) := fun y => nf.add ⟨by show k + 1 < N; omega, h1⟩ (fun _ _ => by
      show Eo w 6 (k + 1 + 2) (nxq w 34 N (k + 1)) ∧ nxq w 34 N (k + 1) < N
      rw [nx1]
      exact ⟨eo, he⟩)
    rw [if_pos h0]
    unfold itr
    simp only []
    repeat' split
    all_goals first | exact nf | exact ad _
  · have ad : ∀ y : Int × vrs, NmF w N (s.1 ++ [(k + 1, 3, y)]) := fun y => nf.add ⟨by show k + 1 < N; omega, h1⟩ (fun _ u => absurd rfl u)
    rw [if_neg (show ¬ (w k = 3 ∨ w k = 6) by omega), if_pos h0]
    unfold itv
    simp only []
    repeat' split
    all_goals first | exact nf | exact ad _
  · rw [if_neg (show ¬ (w k = 3 ∨ w k = 6) by omega), if_neg (show ¬ (w k = 4) by omega), if_neg (show ¬ (w k = 11) by omega)]
    unfold itc
    simp only []
    repeat' split
    all_goals exact nf
  · rw [if_neg (show ¬ (w k = 3 ∨ w k = 6) by omega), if_neg (show ¬ (w k = 4) by omega), if_pos h0]
    unfold itt
    simp only []
    repeat' split
    all_goals exact nf
theorem its_nmf : ∀ (f f' k : Nat) (s : st9), Ac w N f [50] k → NmF w N s.1 → NmF w N (its9 w pl nq sm N 60 f' k s).1 := by
  intro f
  induction f using Nat.strongRecOn with
  | ind f ih =>
    intro f' k s hac nf
    cases f' with
    | zero => exact nf
    | succ f' =>
      rw [its9]
      by_cases f0 : s.2.2.1 = 0
      · rw [if_neg (show ¬ s.2.2.1 ≠ 0 from fun u => u f0)]
        rcases ac_item hac with ⟨c0, c1⟩ | ⟨c0, e, g, hg, hit, hac'⟩
        · rw [if_pos c0]
          split
          · exact nf
          · exact nf
        · have eN := ac_le hac'
          have lt := hit.2.1
          have nx : nxq w 34 N k = e := nxq_at (by omega) (by omega) hit.1 (fun m m1 m2 => hit.sg.2.2.2 m m1 m2)
          rw [if_neg c0, nx]
          exact ih g hg f' (e + 1) _ hac' (ite_nmf nf hit nx (by omega))
      · rw [if_pos f0]
        exact nf
/-- two readings of the same words: exploring comes to the same -/
theorem xpg_same {f : Nat} (ag : AgW w w' pl pl' nq nq' sm sm' N) (hac : Ac w N f [50] 0) (hg : (igs9 w pl nq sm N 60 N 0 ([], (0, 0, 0, 0), (0, 0)) ([], none, [])).2.1 ≠ none) : XpG (w, pl, nq, sm, N, (its9 w pl nq sm N 60 N 0 ([], (0, 0, 0, 0), (0, 0))).1, igs9 w pl nq sm N 60 N 0 ([], (0, 0, 0, 0), (0, 0)) ([], none, [])) = XpG (w', pl', nq', sm', N, (its9 w pl nq sm N 60 N 0 ([], (0, 0, 0, 0), (0, 0))).1, igs9 w' pl' nq' sm' N 60 N 0 ([], (0, 0, 0, 0), (0, 0)) ([], none, [])) := by
  have nf := its_nmf (pl := pl) (nq := nq) (sm := sm) f N 0 ([], (0, 0, 0, 0), (0, 0)) hac (fun e he => absurd he (by simp))
  obtain ⟨g1, g2⟩ := igs_cg ag f N 0 ([], (0, 0, 0, 0), (0, 0)) ([], none, []) hac (fun e he => absurd he (by simp)) ⟨fun tg h => absurd h (by simp), fun cm h => absurd h (by simp)⟩
  rw [← g1]
  exact xpg_cg ag nf g2 hg
end XCC
end
section
/-! The reference keeps what was explored. -/
section XEA
variable {a g W : Nat} {M M' : mM} {S : List (List Int)} {T : xt9} {i9 : tI9} {r : Int}
/-- the tables of what was explored: states S, kinds and commands T -/
def XF (M : mM) (a W : Nat) (S : List (List Int)) (T : xt9) : Prop := ∃ (L w : Nat) (B : Nat → Nat), (1 ≤ S.length ∧ S.length ≤ 512) ∧ (mI M a 40 = (w : Int) ∧ w ≤ 4096) ∧ Wy M a S.length w ∧ (ln M (a + 109) = L ∧ ln M (a + 111) = L ∧ ln M (a + 113) = L ∧ ln M (a + 115) = L) ∧ (B 0 = 0 ∧ B L = w) ∧ (∀ i, i < L → okc M a B i) ∧ Wc M a w ∧ SmR M a W S.length = S ∧ xtR M a S.length = T
theorem sl.nt {q : Nat} (h : sl M M' q) : nt M' q = nt M q := funext (fun j => h.2 j)
theorem XF.xe (h : XF M a W S T) (k : xeF M M' a) : XF M' a W S T := by
  obtain ⟨⟨a1, a2, a3⟩, ⟨b1, b2, b3, b4, b5⟩, ⟨c1, c2⟩, d1, d2, d3, d4, -⟩ := k
  obtain ⟨L, w, B, h1, h2, h3, h4, h5, h6, h7, h8, h9⟩ := h
  refine ⟨L, w, B, h1, by rw [a3]; exact h2, ?_, by rw [d1.1, d2.1, d3.1, d4.1]; exact h4, h5, fun i hi => ?_, ?_, ?_, ?_⟩
  · unfold Wy
    rw [b5, c1, c2]
    exact h3
  · unfold okc
    rw [d2.nt, d3.nt, d4.nt, c1, c2]
    exact h6 i hi
  · unfold Wc
    rw [c1, c2]
    exact h7
  · unfold SmR lsR
    rw [b1]
    exact h8
  · unfold xtR stR cmL cmQ brR
    rw [b2, b3, b4, b5, c1, c2, d1.nt, d2.nt, d3.nt, d4.nt]
    exact h9
theorem SvT.xe (h : SvT M (a + 117) T) (k : xeF M M' a) : SvT M' (a + 117) T := h.sv k.2.2.2.2.2.2.2.1 k.2.2.2.2.2.2.2.2
/-- the latest fault's place, explore's state, and what was explored -/
def XE (i9 : tI9) (M : mM) (a : Nat) : Prop := mI M a 12 = i9.2.2.2.2.2.1.1 ∧ (mI M a 30 = i9.2.2.2.2.2.1.2.1 ∧ mI M (a + 117 + 30) 0 = i9.2.2.2.2.2.1.2.2) ∧ mI M a 29 = ((i9.2.2.2.2.2.2.1.length : Nat) : Int) ∧ (i9.2.2.2.2.2.2.1 = [] → i9.2.2.2.2.2.2.2 = []) ∧ (i9.2.2.2.2.2.2.1 ≠ [] → ∃ W : Nat, (W : Int) = i9.2.1 ∧ XF M a W i9.2.2.2.2.2.2.1 i9.2.2.2.2.2.2.2 ∧ SvT M (a + 117) i9.2.2.2.2.2.2.2 ∧ kdT i9.2.2.2.2.2.2.2)
theorem XE.xe (h : XE i9 M a) (k : xeF M M' a) (e : mI M' a 12 = mI M a 12) (e' : mI M' (a + 117 + 30) 0 = mI M (a + 117 + 30) 0) : XE i9 M' a := by
  obtain ⟨h1, h2, h3, h4, h5⟩ := h
  refine ⟨by rw [e]; exact h1, ⟨by rw [k.1.2.1]; exact h2.1, e'.trans h2.2⟩, by rw [k.1.1]; exact h3, h4, fun u => ?_⟩
  obtain ⟨W, w1, w2, w3, w4⟩ := h5 u
  exact ⟨W, w1, w2.xe k, w3.xe k, w4⟩
theorem XE.fx (h : XE i9 M a) (k : FX M a M') : XE i9 M' a := h.xe k.2.1 k.2.2.1 k.2.2.2
/-- what exploring leaves, by what it comes to -/
def exG (X : xR9) : tE9 := if X.1.1 ≠ 0 then ((X.1.2, ((X.2.1 : Nat) : Int), 0), [], []) else ((-1, -1, 0), X.2.2.1, X.2.2.2)
theorem XTr.xf (h : XTr M a g W S T) : S ≠ [] ∧ XF M a W S T := by
  obtain ⟨h1, h2, h3, w9, h4, h5, L, w, B, xd, hw⟩ := h
  obtain ⟨⟨x1, x2, x3⟩, ⟨x4, x5⟩, x6, x7, x8, ⟨x9, x10, x11⟩, x12⟩ := xd
  have ew : w9 = w := by omega
  subst ew
  refine ⟨fun u => ?_, L, w9, B, ⟨x2, x3⟩, ⟨x4, x5⟩, x7, x8, ⟨x9, hw⟩, x12, h5, h2, h3⟩
  rw [u] at x2
  exact absurd x2 (by decide)
theorem xpR.xe {X : xR9} (h : xpR X a g W r M') (hw : (W : Int) = i9.2.1) (he : i9.2.2.2.2.2 = exG X) : XE i9 M' a ∧ r = X.1.1 := by
  unfold XE
  rw [he]
  unfold exG
  rcases h with ⟨h1, h2, h3, h4, h5, h6⟩ | ⟨h1, h2, h3, h4, h5, h6, h7, h8⟩
  · rw [if_pos h1]
    exact ⟨⟨h3, ⟨h4, h6⟩, h5, fun _ => rfl, fun u => absurd rfl u⟩, h2⟩
  · have n0 : ¬ (X.1.1 ≠ 0) := fun u => u (by rw [h1])
    rw [if_neg n0]
    obtain ⟨f1, f2⟩ := h5.xf
    exact ⟨⟨h3, ⟨h4, h8⟩, h5.1, fun u => absurd u f1, fun _ => ⟨W, hw, f2, h6, h7⟩⟩, by rw [h1]; exact h2⟩
end XEA
end
section
/-! What the questions about the states answer: pure. -/
section ASQ
variable {α : Type} {M : mM} {a g : Nat}
theorem rget (f : Nat → α) (n k : Nat) : ((List.range n).map f)[k]? = if k < n then some (f k) else none := by
  by_cases h : k < n
  · rw [if_pos h, List.getElem?_map, List.getElem?_range h]
    all_goals rfl
  · rw [if_neg h]
    exact List.getElem?_eq_none (by rw [List.length_map, List.length_range]; omega)
/-- state l: its kind and commands -/
def stA9 (T : xt9) (l : Int) : Option (Int × List sc9) := if l < 0 then none else T[l.toNat]?
def kdA9 (T : xt9) (l : Int) : Int := ((stA9 T l).map (fun x => x.1)).getD (-1)
def cnA9 (T : xt9) (l : Int) : Int := ((stA9 T l).map (fun x => ((x.2.length : Nat) : Int))).getD (-1)
/-- command l2 of state l1 -/
def cmA9 (T : xt9) (l1 l2 : Int) : Option sc9 := (stA9 T l1).bind (fun x => if l2 < 0 then none else x.2[l2.toNat]?)
def caA9 (T : xt9) (l1 l2 : Int) : Int := ((cmA9 T l1 l2).map (fun c => (c.1 : Int))).getD (-1)
def bnA9 (T : xt9) (l1 l2 : Int) : Int := ((cmA9 T l1 l2).map (fun c => ((c.2.2.length : Nat) : Int))).getD (-1)
/-- branch l3 of it -/
def bqA9 (c : sc9) (l3 : Int) : Option (Nat × Int) := if l3 < 0 then none else c.2.2[l3.toNat]?
def b1A9 (mu : Int) (l4 : Int) (b : Nat × Int) : Int := if l4 = 0 then (b.1 : Int) else if l4 = 1 then b.2 / (Int.gcd b.2 mu : Int) else if l4 = 2 then mu / (Int.gcd b.2 mu : Int) else -1
def brA9 (T : xt9) (l1 l2 l3 l4 : Int) : Int := ((cmA9 T l1 l2).map (fun c => ((bqA9 c l3).map (b1A9 c.2.1 l4)).getD (-1))).getD (-1)
/-- var l2 in state l1 -/
def vaA9 (S : List (List Int)) (l1 l2 : Int) : Int := ((S[l1.toNat]?).bind (fun x => x[l2.toNat]?)).getD 0
theorem cml_map {m : Nat} : cml M g a m = (List.range m).map (fun t => cmm M g (a + t)) := by
  induction m with
  | zero => rfl
  | succ m ih =>
    rw [List.range_succ, List.map_append, ← ih]
    all_goals rfl
theorem brl_map {m : Nat} : brl M g a m = (List.range m).map (fun t => ((mI M (g + 8) (a + t)).toNat, mI M (g + 9) (a + t))) := by
  induction m with
  | zero => rfl
  | succ m ih =>
    rw [List.range_succ, List.map_append, ← ih]
    all_goals rfl
theorem xtm_map {m : Nat} : xtm M g m = (List.range m).map (stm M g) := by
  induction m with
  | zero => rfl
  | succ m ih =>
    rw [List.range_succ, List.map_append, ← ih]
    all_goals rfl
/-- a share and its multiple, in lowest terms -/
theorem low9 {x y mu : Int} (hx : 0 < x) (hy : 0 < y) (hm : 0 < mu) (g1 : Int.gcd x y = 1) (hd : y ∣ mu) : x * (mu / y) / (Int.gcd (x * (mu / y)) mu : Int) = x ∧ mu / (Int.gcd (x * (mu / y)) mu : Int) = y := by
  obtain ⟨k, hk⟩ := hd
  have k0 : 0 < k := by
    rcases Int.lt_or_le 0 k with u | u
    · exact u
    · have h9 : y * k ≤ y * 0 := Int.mul_le_mul_of_nonneg_left u (Int.le_of_lt hy)
      rw [Int.mul_zero, ← hk] at h9
      omega
  have e1 : mu / y = k := by rw [hk]; exact Int.mul_ediv_cancel_left _ (by omega)
  rw [e1]
  have e2 : Int.gcd (x * k) mu = k.natAbs := by rw [hk, Int.gcd_mul_right, g1, Nat.one_mul]
  have e3 : ((k.natAbs : Nat) : Int) = k := Int.natAbs_of_nonneg (by omega)
  rw [e2, e3]
  exact ⟨Int.mul_ediv_cancel _ (by omega), by rw [hk]; exact Int.mul_ediv_cancel _ (by omega)⟩
end ASQ
end
section
/-! The reference between two calls: what the solver's calls leave; the methods that read. -/
section PUB
variable {G : mG} {d a s n k w : Nat} {M M' M2 : mM} {S : Nat → Prop} {Nt9 : tP9}
/-- the reference between two calls, with what was explored -/
def RI (Nt9 : tP9) (M : mM) (a : Nat) : Prop := mOk M ∧ Wd M a ∧ (Tpl Nt9 M (mR M a 1) ∧ ln M (mR M a 2) ≤ 16384) ∧ (0 ≤ mI M a 29 ∧ mI M a 29 ≤ 512) ∧ Sv M (a + 117) (mI M a 29).toNat ∧ (mI M a 11 ≠ 0 → Gd Nt9.2.2 M (mR M a 9)) ∧ (0 < mI M a 29 → mI M a 11 ≠ 0 ∧ XL M a) ∧ (0 ≤ mI M a 48 ∧ mI M a 48 ≤ 900 ∧ mI M a 11 = Nt9.2.2.1 ∧ XE Nt9.2.2 M a)
theorem RI.r0 (h : RI Nt9 M a) : RI0 Nt9 M a := ⟨h.1, h.2.1, h.2.2.1, h.2.2.2.1, h.2.2.2.2.1, h.2.2.2.2.2.1, h.2.2.2.2.2.2.1, h.2.2.2.2.2.2.2.1, h.2.2.2.2.2.2.2.2.1, h.2.2.2.2.2.2.2.2.2.1⟩
theorem RI.xe (h : RI Nt9 M a) : XE Nt9.2.2 M a := h.2.2.2.2.2.2.2.2.2.2
theorem RI0.ri (h : RI0 Nt9 M a) (x : XE Nt9.2.2 M a) : RI Nt9 M a := ⟨h.1, h.2.1, h.2.2.1, h.2.2.2.1, h.2.2.2.2.1, h.2.2.2.2.2.1, h.2.2.2.2.2.2.1, h.2.2.2.2.2.2.2.1, h.2.2.2.2.2.2.2.2.1, h.2.2.2.2.2.2.2.2.2, x⟩
theorem RI.step {j : Nat} {v : Int} (h : RI Nt9 M a) (hv : i32 v) (hj : j ≠ 11 ∧ j ≠ 29 ∧ j ≠ 48) (e : M' = mUI M a j v) (h0 : j < 12 := by decide) : RI Nt9 M' a ∧ FX M a M' ∧ (∀ i, mI M' a i = if i = j then v else mI M a i) := by
  obtain ⟨a1, a2, a3⟩ := h.r0.step hv hj e h0
  exact ⟨a1.ri (h.xe.fx a2), a2, a3⟩
/-- an answer, and the reference at rest -/
def rQ (Nt9 : tP9) (M : mM) (a : Nat) (r : Int) (M' : mM) : Prop := i32 r ∧ RI Nt9 M' a ∧ FX M a M'
theorem Wd.pl3 (w : Wd M a) : mR M a 31 = a + 105 ∧ mR M a 32 = a + 106 ∧ mR M a 33 = a + 107 ∧ mR M a 34 = a + 108 ∧ mR M a 35 = a + 109 ∧ mR M a 36 = a + 111 ∧ mR M a 37 = a + 113 ∧ mR M a 38 = a + 115 ∧ mR M a 39 = a + 117 := w.1.2.2.2.2.2.1
theorem Wd.pl4 (w : Wd M a) : (mK M (a + 105) = 30 ∧ mN M (a + 105) = 6144) ∧ (mK M (a + 106) = 30 ∧ mN M (a + 106) = 512) ∧ (mK M (a + 107) = 30 ∧ mN M (a + 107) = 512) ∧ (mK M (a + 108) = 30 ∧ mN M (a + 108) = 512) := w.1.2.2.2.2.2.2.2.2.1
theorem Wd.pl5 (w : Wd M a) : (mR M a 41 = a + 21185 ∧ mR M a 42 = a + 21186 ∧ mR M a 43 = a + 21187) ∧ mR M a 47 = a + 21191 := ⟨⟨w.1.2.2.2.2.2.2.1.1, w.1.2.2.2.2.2.2.1.2.1, w.1.2.2.2.2.2.2.1.2.2.1⟩, w.1.2.2.2.2.2.2.1.2.2.2.2.2.2⟩
theorem Wd.pl6 (w : Wd M a) : (mK M (a + 21185) = 30 ∧ mN M (a + 21185) = 4096) ∧ (mK M (a + 21186) = 33 ∧ mN M (a + 21186) = 4096) ∧ (mK M (a + 21187) = 33 ∧ mN M (a + 21187) = 4096) ∧ (mK M (a + 21191) = 30 ∧ mN M (a + 21191) = 900) := ⟨w.1.2.2.2.2.2.2.2.2.2.1.1, w.1.2.2.2.2.2.2.2.2.2.1.2.1, w.1.2.2.2.2.2.2.2.2.2.1.2.2.1, w.1.2.2.2.2.2.2.2.2.2.1.2.2.2.2.2.2⟩
/-- the solver alone has changed, and what is printed -/
theorem RI0.sol (h : RI0 Nt9 M a) (o : mOk M') (f : FI S M M') (hS : ∀ x, S x → vH (a + 117) x ∨ x = a + 21191) (hv : Sv M' (a + 117) (mI M a 29).toNat) : RI0 Nt9 M' a ∧ FX0 M a M' ∧ mI M' a = mI M a := by
  obtain ⟨hO, w, ht, h1, h2, h3, h4, h5⟩ := h
  have hg := w.g9
  have no : ∀ q : Nat, False → q ∈ nums a := fun _ z => z.elim
  have hS' : ∀ x, S x → a + 117 ≤ x ∧ x ≤ a + 21191 ∧ (x < a + 117 + 22 ∨ a + 117 + 28 < x) := fun x z => by
    rcases hS x z with y | y
    · have y' : a + 117 ≤ x ∧ x ≤ a + 117 + 21067 ∧ (x < a + 117 + 22 ∨ a + 117 + 28 < x) := y
      omega
    · omega
  have m : Mv (fun _ => False) S M a M' := mv_fi o w f (fun x z => by
    have z' := hS' x z
    rcases hS x z with y | y
    · have y' : a + 117 ≤ x ∧ x ≤ a + 117 + 21067 ∧ (x < a + 117 + 22 ∨ a + 117 + 28 < x) := y
      exact ⟨by omega, by omega, fun u => by have := nums_in u; omega, fun q hq u => by have := nums_in hq; omega⟩
    · have e := offx (a := a) (o := 21191) (by decide)
      rw [y]
      exact ⟨by omega, by omega, e.2.1, e.2.2⟩)
  have aI := (m.fld w no (fun z => by have := hS' _ z; omega)).1
  have aR := m.rfl_a w no
  have tp := w.tape
  have cI : ∀ x, ¬ S x → mI M' x = mI M x := f.2.2.2.2.2.2
  have xe : xeF M M' a := ⟨by rw [aI]; exact ⟨rfl, rfl, rfl⟩, ⟨cI _ (fun z => by have := hS' _ z; omega), cI _ (fun z => by have := hS' _ z; omega), cI _ (fun z => by have := hS' _ z; omega), cI _ (fun z => by have := hS' _ z; omega), cI _ (fun z => by
    rcases hS _ z with y | y
    · have y' : a + 117 ≤ a + 21185 ∧ a + 21185 ≤ a + 117 + 21067 ∧ (a + 21185 < a + 117 + 22 ∨ a + 117 + 28 < a + 21185) := y
      omega
    · omega)⟩, ⟨by rw [f.2.2.2.1], by rw [f.2.2.2.1]⟩, (m.lst (nums_o (by decide)) (fun z => z)).sl, (m.lst (nums_o (by decide)) (fun z => z)).sl, (m.lst (nums_o (by decide)) (fun z => z)).sl, (m.lst (nums_o (by decide)) (fun z => z)).sl, hv.2.2.2.1.trans h2.2.2.2.1.symm, fun i p q => cI _ (fun z => by have := hS' _ z; omega)⟩
  refine ⟨⟨o, m.2.1, ⟨by rw [aR]; exact ht.1.sm (m.lst tp.1 (fun z => z)), by rw [aR, (m.lst tp.2.1 (fun z => z)).1]; exact ht.2⟩, ?_⟩, ⟨FR.fi f (fun x z => by have := hS' x z; omega), xe, by rw [aI]⟩, aI⟩
  unfold RX
  rw [aR, aI]
  refine ⟨h1, hv, fun q => gd_mv (h3 q) w hg m no (fun _ z => z.elim) (fun x z => by have := hS' x z; omega), fun q => ⟨(h4 q).1, ?_⟩, h5⟩
  obtain ⟨x1, x2, x3, x4⟩ := (h4 q).2
  have s9 := m.lst (q := a + 109) (nums_o (by decide)) (fun z => z)
  have s11 := m.lst (q := a + 111) (nums_o (by decide)) (fun z => z)
  have s13 := m.lst (q := a + 113) (nums_o (by decide)) (fun z => z)
  unfold XL mny
  rw [aI, s9.1, s11.1, s13.1, cI (a + 107) (fun z => by have := hS' _ z; omega), cI (a + 108) (fun z => by have := hS' _ z; omega), cI (a + 117 + 23) (fun z => by have := hS' _ z; omega)]
  refine ⟨x1, x2, x3, fun i hi => ?_⟩
  rw [s11.2.1, s13.2.1]
  exact x4 i hi
theorem RI.sol (h : RI Nt9 M a) (o : mOk M') (f : FI S M M') (hS : ∀ x, S x → vH (a + 117) x ∨ x = a + 21191) (hv : Sv M' (a + 117) (mI M a 29).toNat) (hk : mI M' (a + 117 + 30) 0 = mI M (a + 117 + 30) 0) : RI Nt9 M' a ∧ FX M a M' ∧ mI M' a = mI M a := by
  obtain ⟨a1, a2, a3⟩ := h.r0.sol o f hS hv
  exact ⟨a1.ri (h.xe.fx (a2.fx hk)), a2.fx hk, a3⟩
/-- are values worked out -/
def kn9 (i : tI9) (k : Int) : tI9 := (i.1, i.2.1, i.2.2.1, i.2.2.2.1, i.2.2.2.2.1, (i.2.2.2.2.2.1.1, i.2.2.2.2.2.1.2.1, k), i.2.2.2.2.2.2)
theorem RI0.e8 {l : Int} {c : Nat → Int} {i : tI9} {e : tE9} (h : RI0 (l, c, i) M a) : RI0 (l, c, i.1, i.2.1, i.2.2.1, i.2.2.2.1, i.2.2.2.2.1, e) M a := by
  obtain ⟨h1, h2, h3, h4, h5, h6, h7, h8⟩ := h
  exact ⟨h1, h2, h3, h4, h5, h6, h7, h8⟩
theorem RI.solv {k : Int} (h : RI Nt9 M a) (o : mOk M') (f : FI S M M') (hS : ∀ x, S x → vH (a + 117) x ∨ x = a + 21191) (hv : Sv M' (a + 117) (mI M a 29).toNat) (hk : mI M' (a + 117 + 30) 0 = k) : RI (Nt9.1, Nt9.2.1, kn9 Nt9.2.2 k) M' a ∧ FR M a M' ∧ mI M' a = mI M a := by
  obtain ⟨a1, a2, a3⟩ := h.r0.sol o f hS hv
  obtain ⟨x1, x2, x3, x4, x5⟩ := h.xe
  refine ⟨RI0.ri (RI0.e8 (l := Nt9.1) (c := Nt9.2.1) (i := Nt9.2.2) a1) ⟨by rw [a3]; exact x1, ⟨by rw [a3]; exact x2.1, hk⟩, by rw [a3]; exact x3, x4, fun u => ?_⟩, a2.1, a3⟩
  obtain ⟨W, w1, w2, w3, w4⟩ := x5 u
  exact ⟨W, w1, w2.xe a2.2.1, w3.xe a2.2.1, w4⟩
/-- a step that only touches the tape and the fault -/
theorem RI0.mv {P : Nat → Prop} (h : RI0 Nt9 M a) (m : Mv P S M a M') (hP : ∀ q, P q → q = mR M a 1) (hS : ∀ x, S x → x = a) (hf : ∀ i, i ≠ 0 → mI M' a i = mI M a i) {n1 : tP9} (hl : Tpl n1 M' (mR M a 1)) (hn : n1.2.2 = Nt9.2.2) : RI0 n1 M' a ∧ FX M a M' := by
  obtain ⟨hO, w, ht, hx⟩ := h
  have tp := w.tape
  have hin : ∀ q, P q → q ∈ nums a := fun q z => by rw [hP q z]; exact tp.1
  have aR := m.rfl_a w hin
  have s1 := w.1.2.1
  have hg := w.g9
  have ra := ra_mv w hg m hin (fun q z => by
    have := hP q z
    refine ⟨fun y => ?_, by omega, by omega, by omega, by omega⟩
    have y' : q = mR M a 9 + 1 ∨ q = mR M a 9 + 3 ∨ q = mR M a 9 + 5 ∨ q = mR M a 9 + 7 ∨ q = mR M a 9 + 9 ∨ q = mR M a 9 + 11 ∨ q = mR M a 9 + 30 ∨ q = mR M a 9 + 32 ∨ q = mR M a 9 + 34 := y
    omega) (fun x z => by have := hS x z; omega) ⟨hf 11 (by decide), hf 29 (by decide), hf 48 (by decide), hf 30 (by decide), hf 40 (by decide)⟩
  refine ⟨⟨m.1, m.2.1, ⟨by rw [aR]; exact hl, by rw [aR, (m.lst tp.2.1 (fun z => tp.2.2 (hP _ z).symm)).1]; exact ht.2⟩, by rw [aR, hn]; exact hx.ra ra⟩, FR.mv m hin (fun x z => by have := hS x z; omega), ra.2.2.2.2.2.2.2, hf 12 (by decide), by rw [(ra.2.1 (a + 117 + 30) (by omega) (by omega)).2.2.2]⟩
theorem RI.mv {P : Nat → Prop} (h : RI Nt9 M a) (m : Mv P S M a M') (hP : ∀ q, P q → q = mR M a 1) (hS : ∀ x, S x → x = a) (hf : ∀ i, i ≠ 0 → mI M' a i = mI M a i) {n1 : tP9} (hl : Tpl n1 M' (mR M a 1)) (hn : n1.2.2 = Nt9.2.2) : RI n1 M' a ∧ FX M a M' := by
  obtain ⟨a1, a2⟩ := h.r0.mv m hP hS hf hl hn
  exact ⟨a1.ri (by rw [hn]; exact h.xe.fx a2), a2⟩
theorem r_MM_feed {v : Nat → Int} (hv : ∀ i, i32 (v i)) (h : RI Nt9 M a) : Ci G y_MM_feed (d + 2) [vr a, vi (v 0), vi (v 1), vi (v 2), vi (v 3), vi (v 4)] M (fun r M' => ∃ n1, rQ n1 M a r M' ∧ ((Nt9.1 + 20 ≤ 16384 ∧ r = Nt9.1 + 20 ∧ n1 = (r, fdc Nt9.2.1 Nt9.1.toNat (v 0) (v 1) (v 2) (v 3) (v 4), Nt9.2.2)) ∨ (16384 < Nt9.1 + 20 ∧ r = -1 ∧ n1 = Nt9))) := by
  have bN := h.2.2.1.1
  refine (s_MM_feed hv h.1 h.2.1 (by rw [bN.1]; exact bN.2.1)).mono (fun r M1 q => ?_)
  have b0 : 0 ≤ ln M (mR M a 1) := (h.2.1.nu h.2.1.tape.1).2.2.2.1.1
  obtain ⟨m, hf, f0, hh⟩ := id q
  have e : i32 r ∧ ∃ n1, Tpl n1 M1 (mR M a 1) ∧ ((Nt9.1 + 20 ≤ 16384 ∧ r = Nt9.1 + 20 ∧ n1 = (r, fdc Nt9.2.1 Nt9.1.toNat (v 0) (v 1) (v 2) (v 3) (v 4), Nt9.2.2)) ∨ (16384 < Nt9.1 + 20 ∧ r = -1 ∧ n1 = Nt9)) := by
    obtain ⟨c1, c2, c3⟩ := bN
    rcases hh with ⟨y1, y2, y3, y4, y5⟩ | ⟨y1, y2, y3⟩
    · rw [c1] at y1 y2 y4 y5 b0
      refine ⟨i32s (by omega) (by omega), _, ⟨y3, by show r ≤ 16384; omega, fun j hj => ?_⟩, Or.inl ⟨by omega, by omega, rfl⟩⟩
      have hj : (j : Int) < r := hj
      obtain ⟨m, hm⟩ : ∃ m : Nat, Nt9.1 = m := ⟨Nt9.1.toNat, by omega⟩
      rw [hm] at y4 y5 c3 y2
      rw [Int.toNat_natCast] at y5
      show nt M1 (mR M a 1) j = fdc Nt9.2.1 Nt9.1.toNat (v 0) (v 1) (v 2) (v 3) (v 4) j
      rw [hm, Int.toNat_natCast]
      unfold fdc f4
      by_cases d0 : j < m
      · rw [if_pos (by omega), if_pos (by omega), if_pos (by omega), if_pos (by omega), if_pos d0, y4 j (by omega)]
        exact c3 j (by omega)
      · have key : ∀ i, i < 5 → m + 4 * i ≤ j → j < m + 4 * i + 4 → nt M1 (mR M a 1) j = byt (v i) (j - (m + 4 * i)) := fun i hi h1 h2 => by
          have := y5 i (j - (m + 4 * i)) hi (by omega)
          rw [show m + 4 * i + (j - (m + 4 * i)) = j by omega] at this
          exact this
        by_cases d1 : j < m + 4
        · rw [if_pos (by omega), if_pos (by omega), if_pos (by omega), if_pos (by omega), if_neg d0]
          exact key 0 (by decide) (by omega) (by omega)
        by_cases d2 : j < m + 8
        · rw [if_pos (by omega), if_pos (by omega), if_pos (by omega), if_neg d1]
          exact key 1 (by decide) (by omega) (by omega)
        by_cases d3 : j < m + 12
        · rw [if_pos (by omega), if_pos (by omega), if_neg d2]
          exact key 2 (by decide) (by omega) (by omega)
        by_cases d4 : j < m + 16
        · rw [if_pos (by omega), if_neg d3]
          exact key 3 (by decide) (by omega) (by omega)
        · rw [if_neg d4]
          exact key 4 (by decide) (by omega) (by omega)
    · have y4 := y3.1
      rw [c1] at y1
      exact ⟨i32s (by omega) (by omega), Nt9, (show Tpl Nt9 M (mR M a 1) from ⟨c1, c2, c3⟩).sm y3, Or.inr ⟨by omega, y2, rfl⟩⟩
  obtain ⟨ir, n1, hl, hd⟩ := e
  obtain ⟨r1, F1⟩ := h.mv m (fun q z => z) (fun x z => z) hf hl (by rcases hd with ⟨-, -, y⟩ | ⟨-, -, y⟩ <;> rw [y])
  exact ⟨n1, ⟨ir, r1, F1⟩, hd⟩
theorem r_MM_end {l : Int} (hl : i32 l) (h : RI Nt9 M a) : Ci G y_MM_end d [vr a, vi l] M (fun r M' => ∃ n1, rQ n1 M a r M' ∧ ((0 ≤ l ∧ l ≤ 20 ∧ 20 ≤ Nt9.1 ∧ n1 = (Nt9.1 - 20 + l, Nt9.2)) ∨ (¬ (0 ≤ l ∧ l ≤ 20 ∧ 20 ≤ Nt9.1) ∧ n1 = Nt9))) := by
  have bN := h.2.2.1.1
  refine (s_MM_end hl h.1 h.2.1 (by rw [bN.1]; exact bN.2.1)).mono (fun r M1 q => ?_)
  have b0 : 0 ≤ ln M (mR M a 1) := (h.2.1.nu h.2.1.tape.1).2.2.2.1.1
  obtain ⟨m, hf, hh⟩ := id q
  have e : i32 r ∧ ∃ n1, Tpl n1 M1 (mR M a 1) ∧ ((0 ≤ l ∧ l ≤ 20 ∧ 20 ≤ Nt9.1 ∧ n1 = (Nt9.1 - 20 + l, Nt9.2)) ∨ (¬ (0 ≤ l ∧ l ≤ 20 ∧ 20 ≤ Nt9.1) ∧ n1 = Nt9)) := by
    obtain ⟨c1, c2, c3⟩ := bN
    rcases hh with ⟨y1, y2, y3, y4, y5, y6, y7⟩ | ⟨y1, y2, y3, y4⟩
    · rw [c1] at y3 y5
      exact ⟨i32s (by omega) (by omega), _, ⟨by rw [y6, y5], by show Nt9.1 - 20 + l ≤ 16384; omega, fun j hj => by
        have hj : (j : Int) < Nt9.1 - 20 + l := hj
        rw [y7]
        exact c3 j (by omega)⟩, Or.inl ⟨y1, y2, y3, rfl⟩⟩
    · rw [c1] at y1
      exact ⟨i32s (by omega) (by omega), Nt9, (show Tpl Nt9 M (mR M a 1) from ⟨c1, c2, c3⟩).sm y4, Or.inr ⟨y1, rfl⟩⟩
  obtain ⟨ir, n1, hl', hd⟩ := e
  obtain ⟨r1, F1⟩ := h.mv m (fun q z => z) (fun x z => z) hf hl' (by rcases hd with ⟨-, -, -, y⟩ | ⟨-, y⟩ <;> rw [y])
  exact ⟨n1, ⟨ir, r1, F1⟩, hd⟩
theorem r_MM_place1 (h : RI Nt9 M a) : Ci G y_MM_place1 d [vr a] M (fun r M' => rQ Nt9 M a r M' ∧ r = Nt9.2.2.2.2.2.2.2.1.1) := by
  refine k_MM_place1 h.1 ⟨h.2.1.1.1, fun M2 e2 => ?_⟩
  obtain ⟨r2, F2, -⟩ := h.step ⟨by decide, by decide⟩ ⟨by decide, by decide, by decide⟩ e2
  exact ⟨⟨(r2.1 _ _).1, r2, F2⟩, r2.xe.1⟩
theorem r_MM_state1 (h : RI Nt9 M a) : Ci G y_MM_state1 d [vr a] M (fun r M' => rQ Nt9 M a r M' ∧ r = Nt9.2.2.2.2.2.2.2.1.2.1) := by
  refine k_MM_state1 h.1 ⟨h.2.1.1.1, fun M2 e2 => ?_⟩
  obtain ⟨r2, F2, -⟩ := h.step ⟨by decide, by decide⟩ ⟨by decide, by decide, by decide⟩ e2
  exact ⟨⟨(r2.1 _ _).1, r2, F2⟩, r2.xe.2.1.1⟩
theorem r_MM_states (h : RI Nt9 M a) : Ci G y_MM_states d [vr a] M (fun r M' => rQ Nt9 M a r M' ∧ r = ((Nt9.2.2.2.2.2.2.2.2.1.length : Nat) : Int)) := by
  refine k_MM_states h.1 ⟨h.2.1.1.1, fun M2 e2 => ?_⟩
  obtain ⟨r2, F2, -⟩ := h.step ⟨by decide, by decide⟩ ⟨by decide, by decide, by decide⟩ e2
  exact ⟨⟨(r2.1 _ _).1, r2, F2⟩, r2.xe.2.2.1⟩
/-- what items answers -/
def itq (i : tI9) (l : Int) : Int := if i.1 = 0 then -1 else if l = 0 then i.2.1 else if l = 1 then i.2.2.1 else if l = 2 then i.2.2.2.1 else -1
theorem r_MM_items1 {l : Int} (hl : i32 l) (h : RI Nt9 M a) : Ci G y_MM_items1 d [vr a, vi l] M (fun r M' => rQ Nt9 M a r M' ∧ r = itq Nt9.2.2 l) := by
  refine k_MM_items1 h.1 hl ⟨h.2.1.1.1, fun M2 e2 => ?_⟩
  obtain ⟨r2, F2, -⟩ := h.step ⟨by decide, by decide⟩ ⟨by decide, by decide, by decide⟩ e2
  have k9 := (r2.2.1.gp r2.2.1.g9).1
  refine ⟨fun _ => ⟨fun _ => k9, fun _ => ⟨fun _ => k9, fun _ _ => k9⟩⟩, fun v e => ⟨⟨?_, r2, F2⟩, ?_⟩⟩
  · rw [e]
    (repeat' split) <;> first | exact (r2.1 _ _).1 | exact ⟨by decide, by decide⟩
  · obtain ⟨-, -, -, -, -, x3, -, -, -, fl, -⟩ := r2
    unfold itq
    by_cases z : mI M2 a 11 = 0
    · rw [e, if_pos z, ← fl, if_pos z]
    · obtain ⟨_, _, _, _, _, _, _, -, -, -, -, -, -, q1, q2, q3, -⟩ := x3 z
      rw [e, if_neg z, q1, q2, q3, ← fl, if_neg z]
theorem r_MM_isState {l : Int} (hl : i32 l) (h : RI Nt9 M a) : Ci G y_MM_isState d [vr a, vi l] M (fun r M' => rQ Nt9 M a r M' ∧ (r ≠ 0 → 0 ≤ l ∧ l < mI M' a 29)) := by
  refine k_MM_isState h.1 hl ⟨h.2.1.1.1, fun M2 e2 v e => ?_⟩
  obtain ⟨r2, F2, -⟩ := h.step ⟨by decide, by decide⟩ ⟨by decide, by decide, by decide⟩ e2
  by_cases y : l < 0 ∨ mI M2 a 29 ≤ l
  · rw [if_pos y] at e
    exact ⟨⟨by rw [e]; exact ⟨by decide, by decide⟩, r2, F2⟩, fun z => absurd e z⟩
  · rw [if_neg y] at e
    exact ⟨⟨by rw [e]; exact ⟨by decide, by decide⟩, r2, F2⟩, fun _ => by omega⟩
end PUB
end
