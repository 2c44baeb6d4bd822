/-! The reference: explore, exactly, its loops. -/
section EXY
variable {G : mG} {d a g T R W C Z : Nat} {M M' M1 M2 M3 : mM} {E : Eg9} {tg : Int} {Nt9 : tP9} {ww pl lo hi : Nat → Int} {XV : List Int → Int → vrs} {ev : List Int → Nat → Nat → vrs} {cvS : List Int → Nat → vrs} {stp : List Int → List (Nat × Nat × Nat × Nat) → (Int × Int) × List Int} {tgI : Nat × Nat} {cms : List cm9}
theorem x_ex199 {xX : Int → mM → Prop} {n L w : Nat} {B F : Nat → Nat} {mu to up dn : Nat → Int} (hxX : ∀ M', FI (vF (a + 117)) M1 M' → mOk M' → Wd M' a → SvT M' (a + 117) (xtR M' a n) → mI M' (a + 117 + 30) 0 = 0 → xX (mI M1 a 16) M') (hb : bE Nt9 M a g T R W C Z E tg M1) (h29 : mI M1 a 29 = (n : Int)) (hn1 : 1 ≤ n) (xd : XD M1 a g n W L w L B) (hw : B L = w) (hF : F 0 = 0 ∧ F n = L ∧ ∀ k, k < n → F k ≤ F (k + 1) ∧ mI M1 (a + 107) k = (F k : Int) ∧ mI M1 (a + 108) k = ((F (k + 1) - F k : Nat) : Int)) (e1 : mu = nt M1 (a + 115)) (e2 : to = mI M1 (a + 21185)) (e3 : up = mL M1 (a + 21186)) (e4 : dn = mL M1 (a + 21187)) : ∀ (t k : Nat) (M2 : mM), k + t = n → tI M1 a n L w F B mu to up dn k (F k) (B (F k)) M2 → h_MM_explore_199 G (d + 1) a k M2 (fun r M' => i32 r ∧ RI0 Nt9 M' a ∧ FR M a M' ∧ xX r M') := by
  have hn5 := xd.1.2.2
  have w1 := hb.2.1.2.1
  have hg := hb.2.1.2.2.1.2
  have no : ∀ q : Nat, False → q ∈ nums a := fun _ z => z.elim
  have fl : ∀ {Mx : mM}, mOk Mx → FI (vF (a + 117)) M1 Mx → mI Mx a = mI M1 a := fun o f => f.2.2.2.2.2.2 a (fun z => by
    have z' : a + 117 ≤ a ∧ a ≤ a + 117 + 21067 := z
    omega)
  intro t
  induction t with
  | zero =>
    intro k M2 hk h
    have ek : k = n := by omega
    subst ek
    obtain ⟨o2, w2, f2, tt, tl⟩ := h
    have a2 := fl o2 f2
    rw [hF.2.1, hw] at tl
    obtain ⟨sv, my⟩ := exp_sv xd hw hF e1 e2 e3 e4 tl
    have svt := tl_svt tt tl hw sv.2.2.1 (fun j hj => by rw [e2]; exact (xd.2.2.2.1 j hj).1)
    refine k_MM_explore_199 o2 (i32s (by omega) (by omega)) ⟨w2.1.1, ?_⟩
    rw [a2, h29]
    refine ⟨fun _ => ⟨(hb.2.1.1 _ _).1, ?_, hb.1.trans (FR.fi f2 (fun x z => by
      have z' : a + 117 ≤ x ∧ x ≤ a + 117 + 21067 := z
      omega)), hxX M2 f2 o2 w2 svt (tl.1.2.2.2.2 0 (by decide))⟩, fun q => absurd (Int.le_refl _) q⟩
    have m2 := mv_sol o2 w1 f2
    have nv : ∀ x, vF (a + 117) x → ¬ (x = g ∨ (g + 13 ≤ x ∧ x ≤ g + 29)) := fun x z => by
      have z' : a + 117 ≤ x ∧ x ≤ a + 117 + 21067 := z
      omega
    have gd := gd_mv (hb.2.1.gd hb.2.2.2.2.1.2) w1 hg m2 no (fun _ z => z.elim) nv
    have R2 := m2.rfl_a w1 no
    have tp := w1.tape
    have l9 : ln M2 (a + 109) = (L : Int) := by rw [(m2.lst k109 (fun z => z)).1]; exact xd.2.2.2.2.1.1
    refine ⟨o2, w2, ⟨by rw [R2]; exact hb.2.2.1.1.sm (m2.lst tp.1 (fun z => z)), by rw [R2, (m2.lst tp.2.1 (fun z => z)).1]; exact hb.2.2.1.2⟩, ?_⟩
    rw [R2, hb.2.1.2.2.1.1]
    unfold RX
    rw [a2, h29, Int.toNat_natCast]
    refine ⟨by omega, sv, fun _ => gd, fun _ => ⟨hb.2.2.2.2.1.1, fun k' hk' => ?_, by rw [l9]; exact tt.2.2.1.1, by rw [l9]; exact tt.2.2.1.2.1, fun i hi => ?_⟩, hb.2.2.2.1⟩
    · rw [a2, h29] at hk'
      obtain ⟨t7, t8, t9, t10⟩ := tt.2.1.2 k' (by omega)
      rw [t7, t8, l9, my k' (by omega)]
      exact ⟨by omega, by omega, by omega, rfl⟩
    · rw [l9] at hi
      obtain ⟨i1, i2, i3, i4, -⟩ := tt.2.2.2.1 i (by omega)
      have := tt.1.2.2
      rw [i1, i2]
      exact ⟨by omega, by omega, by omega⟩
  | succ t ih =>
    intro k M2 hk h
    have o2 := h.1
    have w2 := h.2.1
    have a2 := fl o2 h.2.2.1
    refine k_MM_explore_199 o2 (i32s (by omega) (by omega)) ⟨w2.1.1, ?_⟩
    rw [a2, h29, show (k : Int) + 1 = ((k + 1 : Nat) : Int) by omega]
    refine ⟨fun q => absurd q (by omega), fun _ => (s_MM_tellState (d := d) h (by omega) (fun i hi => ?_)).mono (fun M3 t3 => ⟨t3.1, ih (k + 1) M3 (by omega) t3.2⟩)⟩
    rw [e1]
    have := (xd.2.2.2.2.2.2 i hi).2.2.1
    exact ⟨by omega, by omega⟩
theorem x_ex115 {xX : Int → mM → Prop} {X : (Int × Int) × Nat × List (List Int) × xt9} {Ok : List Int → Prop} (hev : ∀ sg i j, ev sg i j = vlq ww (cvS sg) pl 0 0 i j) (hstp : ∀ sg l, stp sg l = ((stq9 ww (cvS sg) pl lo hi l (fun v => sg.getD v 0)).1, (List.range W).map (stq9 ww (cvS sg) pl lo hi l (fun v => sg.getD v 0)).2)) (hok1 : ∀ sg l, Ok sg → (stp sg l).1.1 = 0 → Ok (stp sg l).2) (hok2 : ∀ sg, Ok sg → GOk ev cms sg) (hp : GP ww pl XV ev M1 g R W C T E tgI cms lo hi) (hkd : kdT X.2.2.2) (hxX : ∀ r M', xpR X a g W r M' → mI M' a 0 = mI M1 a 0 → xX r M') (hb : bE Nt9 M a g T R W C Z E tg M1) : ∀ (t k : Nat) (M2 : mM), 512 ≤ k + t → pI M1 a g T R W C Z E tg k M2 → k ≤ 512 → pX ev stp tgI cms Ok X a W k M2 → h_MM_explore_115 G (d + 9) a k M2 (fun r M' => i32 r ∧ RI0 Nt9 M' a ∧ FR M a M' ∧ xX r M') := by
  -- the loop has ended
  have fin : ∀ (k : Nat) (M2 : mM), k ≤ 512 → pI M1 a g T R W C Z E tg k M2 → pX ev stp tgI cms Ok X a W k M2 → ((mI M2 a 29 ≤ k) ∨ ¬ (mI M2 a 16 = 0)) → ∀ v56 : Int, v56 = (if mI M2 a 16 = 0 then (-1) else (k : Int) - 1) → i32 v56 ∧ ∀ M60, M60 = mUI M2 a 30 v56 → ∀ v63 : Int, v63 = (if mI M60 a 16 = 0 then (-1) else mI M60 a 17) → i32 v63 ∧ ∀ M67, M67 = mUI M60 a 12 v63 → ∀ v70 : Int, v70 = (if mI M67 a 16 = 0 then mI M67 a 29 else 0) → i32 v70 ∧ ∀ M74, M74 = mUI M67 a 29 v70 → h_MM_explore_199 G (d + 9) a 0 M74 (fun r M' => i32 r ∧ RI0 Nt9 M' a ∧ FR M a M' ∧ xX r M') := by
    intro k M2 hk h px hend v56 e56
    obtain ⟨x1, gg, hh⟩ := h
    have w2 := gg.2.1
    have i56 : i32 v56 := by rw [e56]; split <;> exact i32s (by omega) (by omega)
    refine ⟨i56, fun M60 e60 v63 e63 => ?_⟩
    obtain ⟨m60, f60⟩ := mv_fld i56 gg.1 w2 e60
    have i63 : i32 v63 := by
      rw [e63]
      split
      · exact ⟨by decide, by decide⟩
      · exact (m60.1 _ _).1
    refine ⟨i63, fun M67 e67 v70 e70 => ?_⟩
    obtain ⟨m67, f67⟩ := mv_fld i63 m60.1 m60.2.1 e67
    have i70 : i32 v70 := by
      rw [e70]
      split
      · exact (m67.1 _ _).1
      · exact ⟨by decide, by decide⟩
    refine ⟨i70, fun M74 e74 => ?_⟩
    obtain ⟨m74, f74⟩ := mv_fld i70 m67.1 m67.2.1 e74
    have mm := (m60.trans m67).trans m74
    have no : ∀ q : Nat, False → q ∈ nums a := fun _ z => z.elim
    have F74 : ∀ i, i ≠ 29 → i ≠ 12 → i ≠ 30 → mI M74 a i = mI M2 a i := fun i i1 i2 i3 => by rw [f74, if_neg i1, f67, if_neg i2, f60, if_neg i3]
    have b2 := hb.st x1.1 (fun q hq => hq) (fun x hx => hx) (fun i _ _ i16 i17 i23 i29 _ i40 => x1.2 i i16 i17 i23 i29 i40)
    have b74 := b2.st mm (fun _ z => z.elim) (fun x z => Or.inl z) (fun i _ i12 _ _ _ i29 i30 _ => F74 i i29 i12 i30)
    have w74 := b74.2.1.2.1
    have z0 : mI M74 a 0 = mI M1 a 0 := by rw [F74 0 (by decide) (by decide) (by decide)]; exact x1.2 0 (by decide) (by decide) (by decide) (by decide) (by decide)
    have z67 : mI M67 a 16 = mI M2 a 16 := by rw [f67, if_neg (by decide), f60, if_neg (by decide)]
    by_cases z : mI M2 a 16 = 0
    · have e29 : mI M74 a 29 = mI M2 a 29 := by rw [f74, if_pos rfl, e70, if_pos (by rw [z67]; exact z), f67, if_neg (by decide), f60, if_neg (by decide)]
      obtain ⟨n, L, w, B, F, y1, y2, y3, y4⟩ := hh z
      have h29 : mI M2 a 29 = (n : Int) := y1.1.1
      have kn : k = n := by
        rcases hend with q | q
        · omega
        · exact absurd z q
      subst kn
      have hg := gg.2.2.1.2
      have gs := gs_st w2 hg mm no (fun _ z => z.elim) (fun x z => by omega)
      have xd := y1.mv w2 mm no (fun _ z => z.elim) (fun x z => by omega) gs e29 (F74 40 (by decide) (by decide) (by decide))
      have c7 := (mm.cellL w2 no (offx (a := a) (o := 107) (by decide)) (by omega)).1
      have c8 := (mm.cellL w2 no (offx (a := a) (o := 108) (by decide)) (by omega)).1
      have hF : F 0 = 0 ∧ F k = L ∧ ∀ k', k' < k → F k' ≤ F (k' + 1) ∧ mI M74 (a + 107) k' = (F k' : Int) ∧ mI M74 (a + 108) k' = ((F (k' + 1) - F k' : Nat) : Int) := by rw [c7, c8]; exact y4
      have tz : TL M74 (a + 117) F B (nt M74 (a + 115)) (mI M74 (a + 21185)) (mL M74 (a + 21186)) (mL M74 (a + 21187)) 0 0 0 := tl_zero b74.2.2.2.2.2.1 b74.2.2.2.2.2.2.1 b74.2.2.2.2.2.2.2.1 b74.2.2.2.2.2.2.2.2 (by omega)
      have hW12 := gg.2.2.2.2.2.2.2.1.1.2.1
      have c5 := (mm.cellL w2 no (offx (a := a) (o := 105) (by decide)) (by omega)).1
      have c6 := (mm.cellL w2 no (offx (a := a) (o := 106) (by decide)) (by omega)).1
      have c85 := (mm.cellL w2 no (offx (a := a) (o := 21185) (by decide)) (by omega)).1
      have c86 := (mm.cellL w2 no (offx (a := a) (o := 21186) (by decide)) (by omega)).2
      have c87 := (mm.cellL w2 no (offx (a := a) (o := 21187) (by decide)) (by omega)).2
      obtain ⟨S, T9, x1', x2, x3, x4, x5, w9, x6, x7, x8, x9⟩ := px.1 z
      have lS : S.length = k := by omega
      have eX : X = ((0, 0), k, S, T9) := by
        rw [x1', show 513 - k = (512 - k) + 1 by omega]
        exact exq_n (List.getElem?_eq_none (by omega))
      have ew : w9 = w := by
        have := y1.2.1.1
        omega
      have z16 : mI M74 a 16 = 0 := by rw [F74 16 (by decide) (by decide) (by decide)]; exact z
      have hxx : ∀ M', FI (vF (a + 117)) M74 M' → mOk M' → Wd M' a → SvT M' (a + 117) (xtR M' a k) → mI M' (a + 117 + 30) 0 = 0 → xX (mI M74 a 16) M' := fun M' f' o' w' svt hs0 => by
        have sT : XTr M' a g W X.2.2.1 X.2.2.2 → SvT M' (a + 117) X.2.2.2 := fun xt => by
          have e := xt.2.2.1
          rw [← e, eX]
          show SvT M' (a + 117) (xtR M' a S.length)
          rw [lS]
          exact svt
        refine hxX _ _ (Or.inr ⟨by rw [eX], z16, ?_, ?_, (fun xt => ⟨xt, sT xt, hkd, hs0⟩) ?_⟩) (by rw [f'.2.2.2.2.2.2 a (fun z => by have z' : a + 117 ≤ a ∧ a ≤ a + 117 + 21067 := z; omega)]; exact z0)
        · rw [f'.2.2.2.2.2.2 a (fun z => by have z' : a + 117 ≤ a ∧ a ≤ a + 117 + 21067 := z; omega), f74, if_neg (by decide), f67, if_pos rfl, e63, if_pos (by rw [f60, if_neg (by decide)]; exact z)]
        · rw [f'.2.2.2.2.2.2 a (fun z => by have z' : a + 117 ≤ a ∧ a ≤ a + 117 + 21067 := z; omega), f74, if_neg (by decide), f67, if_neg (by decide), f60, if_pos rfl, e56, if_pos z]
        · have mv' := mv_sol o' w74 f'
          have nv : ∀ x, vF (a + 117) x → a + 117 ≤ x ∧ x ≤ a + 117 + 21067 := fun x z => z
          have gs' := gs_st w74 hg mv' no (fun _ z => z.elim) (fun x z => by have := nv x z; omega)
          have aI' := (mv'.fld w74 no (fun z => by have := nv _ z; omega)).1
          have xd' := xd.mv w74 mv' no (fun _ z => z.elim) (fun x z => by have := nv x z; omega) gs' (by rw [aI']) (by rw [aI'])
          rw [eX]
          refine XTr.sol (M := M74) ?_ w74 mv' nv hW12 aI' ⟨L, w, B, by rw [lS]; exact xd', y2⟩
          refine ⟨by rw [e29]; exact x2, by rw [SmR_cg (M := M2) hW12 (fun j _ => by rw [c5])]; exact x3, ?_, w9, by rw [F74 40 (by decide) (by decide) (by decide)]; exact x6, fun j hj => by rw [c86, c87]; exact x8 j hj, ⟨L, w, B, by rw [lS]; exact xd, y2⟩⟩
          rw [lS, ← x4]
          refine xtR_cg (L := L) (fun k' _ => by rw [c6]) (fun k' _ => by rw [c7, c8]; exact ⟨rfl, rfl⟩) (fun k' hk' => ?_) (fun i hi => ?_)
          · have mF : ∀ j, k' + 1 + j ≤ k → F (k' + 1) ≤ F (k' + 1 + j) := fun j => by
              induction j with
              | zero => intro _; exact Nat.le_refl _
              | succ j ih =>
                intro hj
                have a1 := ih (by omega)
                have a2 := (y4.2.2 (k' + 1 + j) (by omega)).1
                have e : k' + 1 + (j + 1) = k' + 1 + j + 1 := by omega
                rw [e]
                omega
            have m1 := mF (k - (k' + 1)) (by omega)
            rw [show k' + 1 + (k - (k' + 1)) = k by omega, y4.2.1] at m1
            obtain ⟨q1, q2, q3⟩ := y4.2.2 k' hk'
            rw [q2, q3]
            omega
          · unfold cmQ
            rw [show nt M74 (a + 109) = nt M2 (a + 109) from funext (fun j => (mm.lst k109 (fun z => z)).2.1 j), show nt M74 (a + 111) = nt M2 (a + 111) from funext (fun j => (mm.lst k111 (fun z => z)).2.1 j), show nt M74 (a + 113) = nt M2 (a + 113) from funext (fun j => (mm.lst k113 (fun z => z)).2.1 j), show nt M74 (a + 115) = nt M2 (a + 115) from funext (fun j => (mm.lst k115 (fun z => z)).2.1 j), brR_cg (M := M2) (M' := M74) (fun _ _ _ => by rw [c85, c86, c87]; exact ⟨rfl, rfl, rfl⟩)]
      refine x_ex199 hxx b74 (by rw [e29]; exact h29) y1.1.2.1 xd y2 hF rfl rfl rfl rfl k 0 M74 (by omega) ⟨b74.2.1.1, w74, FI.refl, xd.tt y2 hF, ?_⟩
      rw [y4.1, y1.2.2.2.2.2.1.1]
      exact tz
    · have e29 : mI M74 a 29 = 0 := by rw [f74, if_pos rfl, e70, if_neg (by rw [z67]; exact z)]
      have key := b74.ri0 e29
      refine k_MM_explore_199 b74.2.1.1 ⟨by decide, by decide⟩ ⟨w74.1.1, fun _ => ⟨(b74.2.1.1 _ _).1, key.1, key.2, hxX _ _ (Or.inl ?_) z0⟩, fun q => absurd (by rw [e29]; exact Int.le_refl _) q⟩
      obtain ⟨x1', x2⟩ := px.2 z
      have z60 : ¬ mI M60 a 16 = 0 := by rw [f60, if_neg (by decide)]; exact z
      rw [x1']
      refine ⟨z, by rw [F74 16 (by decide) (by decide) (by decide)], ?_, ?_, e29, b74.2.2.2.2.2.2.2.2 0 (by decide)⟩
      · rw [f74, if_neg (by decide), f67, if_pos rfl, e63, if_neg z60, f60, if_neg (by decide)]
      · rw [f74, if_neg (by decide), f67, if_neg (by decide), f60, if_pos rfl, e56, if_neg z]
        omega
  intro t
  induction t with
  | zero =>
    intro k M2 hk h hk5 px
    have w2 := h.2.1.2.1
    refine k_MM_explore_115 h.2.1.1 (i32s (by omega) (by omega)) ⟨w2.1.1, fun q => fin k M2 hk5 h px q, fun q => ?_⟩
    have z : mI M2 a 16 = 0 := Classical.byContradiction (fun y => q (Or.inr y))
    have q1 : ¬ (mI M2 a 29 ≤ k) := fun y => q (Or.inl y)
    obtain ⟨n, L, w, B, F, y1, y2, y3, y4⟩ := h.2.2 z
    have := y1.1
    omega
  | succ t ih =>
    intro k M2 hk h hk5 px
    have w2 := h.2.1.2.1
    refine k_MM_explore_115 h.2.1.1 (i32s (by omega) (by omega)) ⟨w2.1.1, fun q => fin k M2 hk5 h px q, fun q => ?_⟩
    have z : mI M2 a 16 = 0 := Classical.byContradiction (fun y => q (Or.inr y))
    have q1 : ¬ (mI M2 a 29 ≤ k) := fun y => q (Or.inl y)
    obtain ⟨n, L, w, B, F, y1, y2, y3, y4⟩ := h.2.2 z
    have hn := y1.1
    have kn : k < n := by omega
    obtain ⟨S, T9, x1', x2, x3, x4, x5, w9, x6, x7, x8, x9⟩ := px.1 z
    have hR := h.2.1.2.2.2.2.2.2.2.1.1.1
    have gs12 : Gs M1 M2 g := h.1.gs hb.2.1.2.1 hb.2.1.2.2.1.2
    have lS : S.length = n := by omega
    have ew : w9 = w := by
      have := y1.2.1.1
      omega
    subst ew
    have gk : S[k]? = some (lsR M2 a W k) := by
      rw [← x3, lS]
      exact SmR_get kn
    have okk : Ok (lsR M2 a W k) := x9 _ (List.mem_of_getElem? gk)
    have eL : (∀ k', k' < k → (mI M2 (a + 107) k').toNat + (mI M2 (a + 108) k').toNat ≤ L) := fun k' hk' => by
      have mF : ∀ j, k' + 1 + j ≤ k → F (k' + 1) ≤ F (k' + 1 + j) := fun j => by
        induction j with
        | zero => intro _; exact Nat.le_refl _
        | succ j ih =>
          intro hj
          have a1 := ih (by omega)
          have a2 := (y4.2.2 (k' + 1 + j) (by omega)).1
          have e : k' + 1 + (j + 1) = k' + 1 + j + 1 := by omega
          rw [e]
          omega
      have m1 := mF (k - (k' + 1)) (by omega)
      rw [show k' + 1 + (k - (k' + 1)) = k by omega, y4.2.1] at m1
      obtain ⟨q1, q2, q3⟩ := y4.2.2 k' hk'
      rw [q2, q3]
      omega
    refine (x_MM_state0 (d := d) (S9 := S) (T9 := T9) hev hstp (hp.gs gs12 hR) rfl (hok2 _ okk) x2 x3 x4 eL x7 x8 h.2.1 y1 y2 z kn).mono (fun M3 t3 => ⟨t3.1, ?_⟩)
    rw [show (k : Int) + 1 = ((k + 1 : Nat) : Int) by omega]
    have fu : 513 - k = (512 - k) + 1 := by omega
    rw [fu] at x1'
    refine ih (k + 1) M3 (by omega) (pI.next h.1 t3.2.1 y1 y2 kn y4) (by omega) ⟨fun z3 => ?_, fun z3 => ?_⟩
    · rcases t3.2.2 with ⟨q, -⟩ | ⟨-, gq, -, -⟩
      · exact absurd z3 q
      have g1 := gq.1
      have okS := ssq_ok (tg := tgI) (cms := cms) (nb := nbx9 T9) (ev := ev) hok1 okk x9
      obtain ⟨i1, i2, i3, i4, i5, i6, L2, w2, i7, i8, i9, i10, i11, i12, i13⟩ := gq
      refine ⟨_, T9 ++ [((ssq9 ev stp tgI cms (lsR M2 a W k) (nbx9 T9) S).2.2.1, (ssq9 ev stp tgI cms (lsR M2 a W k) (nbx9 T9) S).2.2.2)], ?_, i2, i3, ?_, ?_, w2, i10, ?_, i13, okS⟩
      · rw [x1', exq_s gk (by rw [g1]), show 513 - (k + 1) = 512 - k by omega]
      · rw [xtR_s, i4]
        unfold stR
        rw [i5, i7, i8.2, Int.toNat_natCast, Int.toNat_natCast, i11]
      · have := t3.2.1.2.2.2 z3
        obtain ⟨-, n2, L3, w3, B3, hn2, -, -, -, -, hx2⟩ := this
        have := hx2.1
        omega
      · rw [nbx_app]
        show nbx9 T9 + (nbq9 _ + 0) = w2
        omega
    · rcases t3.2.2 with ⟨q, e⟩ | ⟨q, -⟩
      · rw [x1', exq_f gk (by rw [e]; exact q), e]
        exact ⟨rfl, rfl⟩
      · exact absurd q z3
theorem x_ex81 {xX : Int → mM → Prop} {X : (Int × Int) × Nat × List (List Int) × xt9} {Ok : List Int → Prop} {s0 : List Int} (hev : ∀ sg i j, ev sg i j = vlq ww (cvS sg) pl 0 0 i j) (hstp : ∀ sg l, stp sg l = ((stq9 ww (cvS sg) pl lo hi l (fun v => sg.getD v 0)).1, (List.range W).map (stq9 ww (cvS sg) pl lo hi l (fun v => sg.getD v 0)).2)) (hok1 : ∀ sg l, Ok sg → (stp sg l).1.1 = 0 → Ok (stp sg l).2) (hok2 : ∀ sg, Ok sg → GOk ev cms sg) (hp : GP ww pl XV ev M1 g R W C T E tgI cms lo hi) (hkd : kdT X.2.2.2) (hxX : ∀ r M', xpR X a g W r M' → mI M' a 0 = mI M1 a 0 → xX r M') (hX : X = xpl9 ev stp tgI cms s0) (hs0 : s0 = (List.range W).map (fun v => mI M1 (g + 21) v)) (hok0 : Ok s0) (hb : bE Nt9 M a g T R W C Z E tg M1) (z16 : mI M1 a 16 = 0) (h29 : mI M1 a 29 = 1) (h40 : mI M1 a 40 = 0) (hl : ln M1 (a + 109) = 0 ∧ ln M1 (a + 111) = 0 ∧ ln M1 (a + 113) = 0 ∧ ln M1 (a + 115) = 0) : ∀ (t v : Nat) (M2 : mM), v + t = W → Mv (fun _ => False) (fun x => x = a + 105) M1 a M2 → (∀ v', v' < v → mI M2 (a + 105) v' = mI M1 (g + 21) v') → h_MM_explore_81 G (d + 9) a v M2 (fun r M' => i32 r ∧ RI0 Nt9 M' a ∧ FR M a M' ∧ xX r M') := by
  have gg1 := hb.2.1
  have w1 := gg1.2.1
  have hg := gg1.2.2.1.2
  have hD := gg1.2.2.2.2.2.2.2.1
  have hBd := hD.1
  have no : ∀ q : Nat, False → q ∈ nums a := fun _ z => z.elim
  intro t
  induction t with
  | zero =>
    intro v M2 hv m hn
    have ev : v = W := by omega
    subst ev
    have w2 := m.2.1
    have aI := (m.fld w1 no (by omega)).1
    have b2 := hb.st m (fun _ z => z.elim) (fun x z => Or.inr (Or.inl (by omega))) (fun i _ _ _ _ _ _ _ _ => by rw [aI])
    have gg2 := b2.2.1
    have gs := gs_st w1 hg m no (fun _ z => z.elim) (fun x z => by omega)
    refine k_MM_explore_81 gg2.1 (i32s (by omega) (by omega)) ⟨w2.1.1, ?_⟩
    rw [gg2.2.2.1.1, gg2.2.2.2.2.2.1.2.1]
    refine ⟨(w2.gp hg).1, fun _ => ?_, fun q => absurd (Int.le_refl _) q⟩
    have l : ∀ {q}, q ∈ nums a → ln M1 q = 0 → ln M2 q = ((0 : Nat) : Int) := fun hq hz => by rw [(m.lst hq (fun z => z)).1, hz]; rfl
    have xd : XD M2 a g 1 v 0 0 0 (fun _ => 0) := ⟨⟨by rw [aI, h29]; rfl, by omega, by omega⟩, ⟨by rw [aI, h40]; rfl, by omega⟩, fun k u hk hu => ?_, fun j hj => absurd hj (by omega), ⟨l k109 hl.1, l k111 hl.2.1, l k113 hl.2.2.1, l k115 hl.2.2.2⟩, ⟨rfl, Nat.le_refl _, Nat.le_refl _⟩, fun i hi => absurd hi (by omega)⟩
    · refine x_ex115 hev hstp hok1 hok2 (hp.gs gs hBd.1) hkd (fun r M' u v => hxX r M' u (v.trans (by rw [aI]))) b2 512 0 M2 (by omega) ⟨xF.refl gg2.1 w2, gg2, fun _ => ⟨1, 0, 0, fun _ => 0, fun _ => 0, xd, rfl, by omega, rfl, rfl, fun k' hk' => absurd hk' (by omega)⟩⟩ (by omega) ⟨fun _ => ⟨[s0], [], hX, by rw [aI, h29]; rfl, ?_, rfl, by show (1 : Nat) ≤ 512; omega, 0, by rw [aI, h40]; rfl, rfl, fun j hj => absurd hj (by omega), fun s hs => by rw [List.mem_singleton.mp hs]; exact hok0⟩, fun z => absurd (by rw [aI]; exact z16) z⟩
      show SmR M2 a v 1 = [s0]
      rw [SmR_s]
      show [] ++ [lsR M2 a v 0] = [s0]
      rw [hs0, List.nil_append]
      unfold lsR
      exact congrArg (fun x => [x]) (List.map_congr_left (fun u hu => by rw [show 12 * 0 + u = u by omega]; exact hn u (List.mem_range.mp hu)))
    · have k0 : k = 0 := by omega
      subst k0
      obtain ⟨v1, v2, v3, -⟩ := hD.2.2.2.1 u hu
      rw [(gs.2.1 19 (by omega) (by omega)).1, (gs.2.1 20 (by omega) (by omega)).1, show 12 * 0 + u = u by omega, hn u hu]
      exact ⟨v2, v3⟩
  | succ t ih =>
    intro v M2 hv m hn
    have w2 := m.2.1
    have aI := (m.fld w1 no (by omega)).1
    have b2 := hb.st m (fun _ z => z.elim) (fun x z => Or.inr (Or.inl (by omega))) (fun i _ _ _ _ _ _ _ _ => by rw [aI])
    have gg2 := b2.2.1
    have gs := gs_st w1 hg m no (fun _ z => z.elim) (fun x z => by omega)
    have A5 : mK M2 (a + 105) = 30 ∧ mN M2 (a + 105) = 6144 := w2.1.2.2.2.2.2.2.2.2.1.1
    have b12 : ((0 : Int) ≤ (v : Int) ∧ (v : Int) < ((12 : Nat) : Int)) := by omega
    refine k_MM_explore_81 gg2.1 (i32s (by omega) (by omega)) ⟨w2.1.1, ?_⟩
    rw [gg2.2.2.1.1, gg2.2.2.2.2.2.1.2.1, show mR M2 a 31 = a + 105 from w2.1.2.2.2.2.2.1.1, show mR M2 g 16 = g + 21 from (w2.gp hg).2.2.1.2.2.2.1, Int.toNat_natCast, (gs.2.1 21 (by omega) (by omega)).1]
    refine ⟨(w2.gp hg).1, fun q => absurd q (by omega), fun _ => ⟨(w2.gp hg).2.2.2.2.1.2.2.2.1, by rw [(w2.gp hg).2.2.2.2.1.2.2.2.2]; exact b12, A5.1, by rw [A5.2]; omega, fun M3 e3 => ?_⟩⟩
    obtain ⟨m3, f3, l3⟩ := mv_cell (gg1.1 _ _).1 gg2.1 w2 (show a ≤ a + 105 by omega) (offx (a := a) (o := 105) (by decide)) e3
    rw [show (v : Int) + 1 = ((v + 1 : Nat) : Int) by omega]
    refine ih (v + 1) M3 (by omega) (m.trans m3) (fun v' hv' => ?_)
    rw [f3]
    by_cases y : v' = v
    · rw [if_pos ⟨rfl, y⟩, y]
    · rw [if_neg (fun z => y z.2)]
      exact hn v' (by omega)
theorem x_MM_explore {X : (Int × Int) × Nat × List (List Int) × xt9} {Ok : List Int → Prop} {s0 : List Int} (hev : ∀ sg i j, ev sg i j = vlq ww (cvS sg) pl 0 0 i j) (hstp : ∀ sg l, stp sg l = ((stq9 ww (cvS sg) pl lo hi l (fun v => sg.getD v 0)).1, (List.range W).map (stq9 ww (cvS sg) pl lo hi l (fun v => sg.getD v 0)).2)) (hok1 : ∀ sg l, Ok sg → (stp sg l).1.1 = 0 → Ok (stp sg l).2) (hok2 : ∀ sg, Ok sg → GOk ev cms sg) (hX : X = xpl9 ev stp tgI cms s0) (hok0 : Ok s0) (hG : mI M a 11 ≠ 0 → GdX ww pl XV ev Nt9.2.2 M (mR M a 9) W tgI cms lo hi s0) (h : RI0 Nt9 M a) : Ci G y_MM_explore (d + 10) [vr a] M (fun r M' => i32 r ∧ RI0 Nt9 M' a ∧ FR M a M' ∧ ((mI M a 11 = 0 ∧ r = 0 ∧ xU M M' a ∧ mI M' a 0 = 1) ∨ (mI M a 11 ≠ 0 ∧ xpR X a (mR M a 9) W r M' ∧ mI M' a 0 = 0))) := by
  have wd := h.2.1
  refine k_MM_explore h.1 ⟨wd.1.1, fun v3 e3 M8 e8 => ?_⟩
  have i3 : i32 v3 := by rw [e3]; split <;> exact ⟨by decide, by decide⟩
  obtain ⟨r8, F8, f8⟩ := h.step i3 ⟨by decide, by decide, by decide⟩ e8
  obtain ⟨o8, w8, t8, x8⟩ := id r8
  refine ⟨fun q M12 e12 M14 e14 => ?_, fun q => ⟨⟨by decide, by decide⟩, r8, F8.1, Or.inl ?_⟩⟩
  rotate_left
  · have z : mI M8 a 0 = v3 := by rw [f8, if_pos rfl]
    rw [z] at q
    by_cases y : mI M a 11 = 0
    · exact ⟨y, rfl, xU.one e8, by rw [z, e3, if_pos y]⟩
    · rw [if_neg y] at e3
      omega
  have kn : mI M8 a 11 ≠ 0 := fun z => by
    rw [f8, if_pos rfl] at q
    rw [f8, if_neg (by decide)] at z
    rw [if_pos z] at e3
    omega
  have hg := w8.g9
  have kn0 : mI M a 11 ≠ 0 := fun z => kn (by rw [f8, if_neg (by decide)]; exact z)
  have gs8 : Gs M M8 (mR M a 9) := by
    have m8 := (mv_fld i3 h.1 wd e8).1
    exact gs_st wd wd.g9 m8 (fun _ z => z.elim) (fun _ z => z.elim) (fun x z => by have := wd.g9; omega)
  have r98 : mR M8 a 9 = mR M a 9 := by rw [e8]; rfl
  obtain ⟨T, R, C, Z, E, tg, g1, g2, g3, g4, g5, g6, g7, gp0, gi0⟩ := (hG kn0).gs gs8
  rw [← r98] at g1 g3 g4 g5 g7 gp0 gi0
  generalize hgm : mR M8 a 9 = g at *
  have gg8 : GG M8 a g T R W C Z E tg := ⟨o8, w8, ⟨hgm, hg⟩, g1, g2, g3, g4, g5, g6⟩
  have no : ∀ q : Nat, False → q ∈ nums a := fun _ z => z.elim
  obtain ⟨m12, f12⟩ := mv_fld (v := 1) ⟨by decide, by decide⟩ o8 w8 e12
  obtain ⟨m14, f14⟩ := mv_fld (v := 0) ⟨by decide, by decide⟩ m12.1 m12.2.1 e14
  have up0 : ∀ {Mx My : mM}, Wd Mx a → Mv (fun _ => False) (fun x => x = a) Mx a My → Mv (xP a) (fun x => x = a) Mx a My := fun wx m => m.mono (fun _ z => z.elim) (fun x z => z) (fun q hq => wx.lt (xP_in hq))
  have m814 := (up0 w8 m12).trans (up0 m12.2.1 m14)
  -- the lists are emptied
  have emp : ∀ {p : Nat} {Mx My : mM}, p ∈ nums a → xP a p → Mv (xP a) (fun x => x = a) M8 a Mx → My = mUI Mx p 1 0 → Mv (xP a) (fun x => x = a) M8 a My ∧ mI My a = mI Mx a ∧ ln My p = 0 ∧ ∀ q, q ∈ nums a → q ≠ p → ln My q = ln Mx q := fun {p Mx My} hp hx mx e => by
    have wx := mx.2.1
    have b : 0 ≤ ln Mx p := (wx.nu hp).2.2.2.1.1
    obtain ⟨my, ly, -, -⟩ := mv_set mx.1 wx hp (v := 0) (by omega) b e
    exact ⟨mx.trans (my.mono (fun q hq => by rw [hq]; exact hx) (fun _ z => z.elim) (fun q hq => wx.lt (xP_in hq))), (my.fld wx (fun q hq => by rw [hq]; exact hp) (fun z => z)).1, ly, fun q hq hne => (my.lst hq hne).1⟩
  have R6 : ∀ {Mx : mM}, Wd Mx a → mR Mx a 35 = a + 109 ∧ mR Mx a 36 = a + 111 ∧ mR Mx a 37 = a + 113 ∧ mR Mx a 38 = a + 115 ∧ mR Mx a 39 = a + 117 := fun w => ⟨w.1.2.2.2.2.2.1.2.2.2.2.1, w.1.2.2.2.2.2.1.2.2.2.2.2.1, w.1.2.2.2.2.2.1.2.2.2.2.2.2.1, w.1.2.2.2.2.2.1.2.2.2.2.2.2.2.1, w.1.2.2.2.2.2.1.2.2.2.2.2.2.2.2⟩
  have w14 := m814.2.1
  rw [(R6 w14).1]
  refine ⟨(w14.nu k109).1, fun M17 e17 => ?_⟩
  obtain ⟨m17, a17, l17, u17⟩ := emp k109 (by show a + 109 = a + 99 ∨ a + 109 = a + 109 ∨ a + 109 = a + 111 ∨ a + 109 = a + 113 ∨ a + 109 = a + 115; omega) m814 e17
  have w17 := m17.2.1
  rw [(R6 w17).2.1]
  refine ⟨(w17.nu k111).1, fun M20 e20 => ?_⟩
  obtain ⟨m20, a20, l20, u20⟩ := emp k111 (by show a + 111 = a + 99 ∨ a + 111 = a + 109 ∨ a + 111 = a + 111 ∨ a + 111 = a + 113 ∨ a + 111 = a + 115; omega) m17 e20
  have w20 := m20.2.1
  rw [(R6 w20).2.2.1]
  refine ⟨(w20.nu k113).1, fun M23 e23 => ?_⟩
  obtain ⟨m23, a23, l23, u23⟩ := emp k113 (by show a + 113 = a + 99 ∨ a + 113 = a + 109 ∨ a + 113 = a + 111 ∨ a + 113 = a + 113 ∨ a + 113 = a + 115; omega) m20 e23
  have w23 := m23.2.1
  rw [(R6 w23).2.2.2.1]
  refine ⟨(w23.nu k115).1, fun M26 e26 => ?_⟩
  obtain ⟨m26, a26, l26, u26⟩ := emp k115 (by show a + 115 = a + 99 ∨ a + 115 = a + 109 ∨ a + 115 = a + 111 ∨ a + 115 = a + 113 ∨ a + 115 = a + 115; omega) m23 e26
  have w26 := m26.2.1
  have hin : ∀ q, xP a q → q ∈ nums a := fun q hq => xP_in hq
  have unP : ∀ q, xP a q → q = a + 99 ∨ q = a + 109 ∨ q = a + 111 ∨ q = a + 113 ∨ q = a + 115 := fun q hq => hq
  have ag26 := ag_mv w8 m26 hin (fun x z => by omega)
  have S26 := x8.2.1.ag ag26
  have F26 : ∀ i, i ≠ 29 → i ≠ 40 → mI M26 a i = mI M8 a i := fun i i1 i2 => by rw [a26, a23, a20, a17, f14, if_neg i2, f12, if_neg i1]
  have v29 : mI M26 a 29 = 1 := by rw [a26, a23, a20, a17, f14, if_neg (by decide), f12, if_pos rfl]
  have v40 : mI M26 a 40 = 0 := by rw [a26, a23, a20, a17, f14, if_pos rfl]
  have gs26 := gs_st w8 hg m26 hin (fun q hq z => by
    have z' : q = g + 1 ∨ q = g + 3 ∨ q = g + 5 ∨ q = g + 7 ∨ q = g + 9 ∨ q = g + 11 ∨ q = g + 30 ∨ q = g + 32 ∨ q = g + 34 := z
    have := unP q hq
    omega) (fun x z => by omega)
  have R26 := m26.rfl_a w8 hin
  have gg26 := gg8.gs m26.1 w26 (by rw [R26]) gs26
  have FR26 := F8.1.trans (FR.mv m26 hin (fun x z => by omega))
  have k109z : ln M26 (a + 109) = 0 := by rw [u26 _ k109 (by omega), u23 _ k109 (by omega), u20 _ k109 (by omega), l17]
  have k111z : ln M26 (a + 111) = 0 := by rw [u26 _ k111 (by omega), u23 _ k111 (by omega), l20]
  have k113z : ln M26 (a + 113) = 0 := by rw [u26 _ k113 (by omega), l23]
  have tp := w8.tape
  have s13 := w8.1.2.1
  have t26 : Tpl Nt9 M26 (mR M26 a 1) ∧ ln M26 (mR M26 a 2) ≤ 16384 := ⟨by rw [R26]; exact t8.1.sm (m26.lst tp.1 (fun z => by have := unP _ z; omega)), by rw [R26, (m26.lst tp.2.1 (fun z => by have := unP _ z; omega)).1]; exact t8.2⟩
  rw [(R6 w26).2.2.2.2]
  refine ⟨S26.1.1, (s_MS_clear m26.1 S26).mono (fun M29 t29 => ?_)⟩
  obtain ⟨o29, f29, S29, s2, s3, s30⟩ := t29
  have m29 := mv_sol o29 w26 f29
  have w29 := m29.2.1
  have R29 := m29.rfl_a w26 no
  have nv : ∀ x, vF (a + 117) x → a + 117 ≤ x ∧ x ≤ a + 117 + 21067 := fun x z => z
  have a29 := (m29.fld w26 no (fun z => by have := nv _ z; omega)).1
  have gs29 := gs_st w26 hg m29 no (fun _ z => z.elim) (fun x z => by have := nv x z; omega)
  have gg29 := gg26.gs o29 w29 (by rw [R29]) gs29
  have tp26 := w26.tape
  have b29 : bE Nt9 M a g T R W C Z E tg M29 := ⟨FR26.trans (FR.fi f29 (fun x z => by have := nv x z; omega)), gg29, ⟨by rw [R29]; exact t26.1.sm (m29.lst tp26.1 (fun z => z)), by rw [R29, (m29.lst tp26.2.1 (fun z => z)).1]; exact t26.2⟩, by rw [a29, F26 48 (by decide) (by decide), F26 11 (by decide) (by decide)]; exact x8.2.2.2.2, ⟨by rw [a29, F26 11 (by decide) (by decide)]; exact kn, g3.2.1.symm.trans g7.1, g3.1.symm.trans g7.2.1, g3.2.2.1.symm.trans g7.2.2.1, g7.2.2.2⟩, S29, s2, s3, s30⟩
  refine ⟨o29, w29.1.1, fun M33 e33 => ?_⟩
  obtain ⟨m33, f33⟩ := mv_fld (v := 0) ⟨by decide, by decide⟩ o29 w29 e33
  have b33 := b29.st m33 (fun _ z => z.elim) (fun x z => Or.inl z) (fun i _ _ i16 _ _ _ _ _ => by rw [f33, if_neg i16])
  have ls : ∀ {q}, q ∈ nums a → ln M33 q = ln M26 q := fun hq => by rw [(m33.lst hq (fun z => z)).1, (m29.lst hq (fun z => z)).1]
  have gs829 : Gs M8 M33 g := (gs26.trans gs29).trans (gs_st w29 hg m33 no (fun _ z => z.elim) (fun x z => by omega))
  have gp33 := gp0.gs gs829 g5.1.1
  have key := x_ex81 (G := G) (d := d) (xX := fun r M' => (mI M a 11 = 0 ∧ r = 0 ∧ xU M M' a ∧ mI M' a 0 = 1) ∨ (mI M a 11 ≠ 0 ∧ xpR X a (mR M a 9) W r M' ∧ mI M' a 0 = 0)) hev hstp hok1 hok2 gp33 (by rw [hX]; exact xpl_kd (fun cm hc => by
    obtain ⟨i, hi⟩ := List.getElem?_of_mem hc
    rcases (gp33.2.2.2.2.2.2 i cm hi).1 with y | y
    · exact Or.inl y.1
    · exact Or.inr y.1)) (fun r M' u v => Or.inr ⟨kn0, by rw [← r98]; exact u, v.trans (by rw [f33, if_neg (by decide), a29, F26 0 (by decide) (by decide), f8, if_pos rfl, e3, if_neg kn0])⟩) hX (by rw [(gs829.2.1 21 (by omega) (by omega)).1]; exact gi0) hok0 b33 (by rw [f33, if_pos rfl]) (by rw [f33, if_neg (by decide), a29]; exact v29) (by rw [f33, if_neg (by decide), a29]; exact v40) ⟨by rw [ls k109]; exact k109z, by rw [ls k111]; exact k111z, by rw [ls k113]; exact k113z, by rw [ls k115]; exact l26⟩ W 0 M33 (by omega) (Mv.refl b33.2.1.1 b33.2.1.2.1 (fun _ z => z.elim)) (fun v' hv' => absurd hv' (by omega))
  exact key
end EXY
