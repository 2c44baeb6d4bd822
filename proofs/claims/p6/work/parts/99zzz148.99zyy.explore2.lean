/-! The reference: explore, its loops. -/
section EXP2
variable {G : mG} {d a g T R W C Z : Nat} {M M1 M2 M3 : mM} {E : Nat → Nat} {tg : Int} {Nt9 : tP9}
theorem ag_mv {P S : Nat → Prop} (w : Wd M2 a) (m : Mv P S M2 a M3) (hin : ∀ q, P q → q ∈ nums a) (hS : ∀ x, S x → x < a + 117 ∨ a + 21184 < x) : Ag M2 M3 (a + 117) (a + 117 + 21067) := fun x x1 x2 => by
  have hz := w.2.2.2
  have f := m.2.2.2.1
  have np : ¬ P x := fun z => by have := nums_in (hin x z); omega
  refine ⟨(f.2.1 x (by omega)).1, (f.2.1 x (by omega)).2, f.2.2.1 x (by omega) np, (f.2.2.2.1 x (by omega) np (fun q hq z => ?_) (fun z => by have := hS x z; omega)).1⟩
  rcases (w.arr (hin q hq)).2 with y | y
  · have := nums_in (hin q hq); omega
  · omega
/-- explore's start: the solver is empty -/
def bE (Nt9 : tP9) (M : mM) (a g T R W C Z : Nat) (E : Nat → Nat) (tg : Int) (M1 : mM) : Prop := FR M a M1 ∧ GG M1 a g T R W C Z E tg ∧ (Tpl Nt9 M1 (mR M1 a 1) ∧ ln M1 (mR M1 a 2) ≤ 16384) ∧ (0 ≤ mI M1 a 48 ∧ mI M1 a 48 ≤ 900 ∧ mI M1 a 11 = Nt9.2.2.1) ∧ (mI M1 a 11 ≠ 0 ∧ ((W : Int) = Nt9.2.2.2.1 ∧ (R : Int) = Nt9.2.2.2.2.1 ∧ (C : Int) = Nt9.2.2.2.2.2)) ∧ Sv M1 (a + 117) 0 ∧ mI M1 (a + 117) 2 = 0 ∧ mI M1 (a + 117) 3 = 0 ∧ ∀ v, v < 3 → mI M1 (a + 117 + 30) v = 0
theorem bE.st {P S : Nat → Prop} (h : bE Nt9 M a g T R W C Z E tg M1) (m : Mv P S M1 a M2) (hP : ∀ q, P q → xP a q) (hS : ∀ x, S x → xS a x) (hf : ∀ i, i ≠ 0 → i ≠ 12 → i ≠ 16 → i ≠ 17 → i ≠ 23 → i ≠ 29 → i ≠ 30 → i ≠ 40 → mI M2 a i = mI M1 a i) : bE Nt9 M a g T R W C Z E tg M2 := by
  obtain ⟨h1, h2, h3, h4, h5, h6, h7, h8, h9⟩ := h
  have w1 := h2.2.1
  have hg := h2.2.2.1.2
  have hin : ∀ q, P q → q ∈ nums a := fun q hq => xP_in (hP q hq)
  have unS : ∀ x, S x → x = a ∨ (a + 97 ≤ x ∧ x ≤ a + 108) ∨ (a + 21185 ≤ x ∧ x ≤ a + 21190) := fun x hx => hS x hx
  have unP : ∀ q, P q → q = a + 99 ∨ q = a + 109 ∨ q = a + 111 ∨ q = a + 113 ∨ q = a + 115 := fun q hq => hP q hq
  have ag := ag_mv w1 m hin (fun x hx => by have := unS x hx; omega)
  have R' := m.rfl_a w1 hin
  have tp := w1.tape
  have s13 := w1.1.2.1
  have gs := gs_st w1 hg m hin (fun q hq z => by
    have z' : q = g + 1 ∨ q = g + 3 ∨ q = g + 5 ∨ q = g + 7 ∨ q = g + 9 ∨ q = g + 11 ∨ q = g + 30 ∨ q = g + 32 ∨ q = g + 34 := z
    have := unP q hq
    omega) (fun x hx => by have := unS x hx; omega)
  refine ⟨h1.trans (FR.mv m hin (fun x hx => by have := unS x hx; omega)), h2.gs m.1 m.2.1 (by rw [R']) gs, ⟨by rw [R']; exact h3.1.sm (m.lst tp.1 (fun z => by have := unP _ z; omega)), by rw [R', (m.lst tp.2.1 (fun z => by have := unP _ z; omega)).1]; exact h3.2⟩, by rw [hf 48 (by decide) (by decide) (by decide) (by decide) (by decide) (by decide) (by decide) (by decide), hf 11 (by decide) (by decide) (by decide) (by decide) (by decide) (by decide) (by decide) (by decide)]; exact h4, by rw [hf 11 (by decide) (by decide) (by decide) (by decide) (by decide) (by decide) (by decide) (by decide)]; exact h5, h6.ag ag, ?_, ?_, fun v hv => ?_⟩
  · rw [(ag (a + 117) (by omega) (by omega)).2.2.2]; exact h7
  · rw [(ag (a + 117) (by omega) (by omega)).2.2.2]; exact h8
  · rw [(ag (a + 117 + 30) (by omega) (by omega)).2.2.2]; exact h9 v hv
theorem GG.gd {i9 : tI9} (h : GG M2 a g T R W C Z E tg) (e : (W : Int) = i9.2.1 ∧ (R : Int) = i9.2.2.1 ∧ (C : Int) = i9.2.2.2) : Gd i9 M2 g := ⟨T, R, W, C, Z, E, tg, h.2.2.2.1, h.2.2.2.2.1, h.2.2.2.2.2.1, h.2.2.2.2.2.2.1, h.2.2.2.2.2.2.2.1, h.2.2.2.2.2.2.2.2, h.2.2.2.2.2.1.2.1.trans e.1, h.2.2.2.2.2.1.1.trans e.2.1, h.2.2.2.2.2.1.2.2.1.trans e.2.2⟩
/-- no states -/
theorem bE.ri0 (h : bE Nt9 M a g T R W C Z E tg M1) (z : mI M1 a 29 = 0) : RI Nt9 M1 a ∧ FR M a M1 := by
  obtain ⟨h1, h2, h3, h4, h5, h6, h7, h8, h9⟩ := h
  refine ⟨⟨h2.1, h2.2.1, h3, ?_⟩, h1⟩
  rw [h2.2.2.1.1]
  exact ⟨by rw [z]; decide, by rw [z]; exact h6, fun _ => h2.gd h5.2, fun q => by rw [z] at q; exact absurd q (by decide), h4⟩
theorem s_ex199 {n L w : Nat} {B F : Nat → Nat} {mu to up dn : Nat → Int} (hb : bE Nt9 M a g T R W C Z E tg M1) (h29 : mI M1 a 29 = (n : Int)) (hn1 : 1 ≤ n) (xd : XD M1 a g n W L w L B) (hw : B L = w) (hF : F 0 = 0 ∧ F n = L ∧ ∀ k, k < n → F k ≤ F (k + 1) ∧ mI M1 (a + 107) k = (F k : Int) ∧ mI M1 (a + 108) k = ((F (k + 1) - F k : Nat) : Int)) (e1 : mu = nt M1 (a + 115)) (e2 : to = mI M1 (a + 21185)) (e3 : up = mL M1 (a + 21186)) (e4 : dn = mL M1 (a + 21187)) : ∀ (t k : Nat) (M2 : mM), k + t = n → tI M1 a n L w F B mu to up dn k (F k) (B (F k)) M2 → h_MM_explore_199 G (d + 1) a k M2 (fun r M' => i32 r ∧ RI Nt9 M' a ∧ FR M a M') := by
  have hn5 := xd.1.2.2
  have w1 := hb.2.1.2.1
  have hg := hb.2.1.2.2.1.2
  have no : ∀ q : Nat, False → q ∈ nums a := fun _ z => z.elim
  have fl : ∀ {Mx : mM}, mOk Mx → FI (vF (a + 117)) M1 Mx → mI Mx a = mI M1 a := fun o f => f.2.2.2.2.2.2 a (fun z => by
    have z' : a + 117 ≤ a ∧ a ≤ a + 117 + 21067 := z
    omega)
  intro t
  induction t with
  | zero =>
    intro k M2 hk h
    have ek : k = n := by omega
    subst ek
    obtain ⟨o2, w2, f2, tt, tl⟩ := h
    have a2 := fl o2 f2
    refine k_MM_explore_199 o2 (i32s (by omega) (by omega)) ⟨w2.1.1, ?_⟩
    rw [a2, h29]
    refine ⟨fun _ => ⟨(hb.2.1.1 _ _).1, ?_, hb.1.trans (FR.fi f2 (fun x z => by
      have z' : a + 117 ≤ x ∧ x ≤ a + 117 + 21067 := z
      omega))⟩, fun q => absurd (Int.le_refl _) q⟩
    rw [hF.2.1, hw] at tl
    obtain ⟨sv, my⟩ := exp_sv xd hw hF e1 e2 e3 e4 tl
    have m2 := mv_sol o2 w1 f2
    have nv : ∀ x, vF (a + 117) x → ¬ (x = g ∨ (g + 13 ≤ x ∧ x ≤ g + 29)) := fun x z => by
      have z' : a + 117 ≤ x ∧ x ≤ a + 117 + 21067 := z
      omega
    have gd := gd_mv (hb.2.1.gd hb.2.2.2.2.1.2) w1 hg m2 no (fun _ z => z.elim) nv
    have R2 := m2.rfl_a w1 no
    have tp := w1.tape
    have l9 : ln M2 (a + 109) = (L : Int) := by rw [(m2.lst k109 (fun z => z)).1]; exact xd.2.2.2.2.1.1
    refine ⟨o2, w2, ⟨by rw [R2]; exact hb.2.2.1.1.sm (m2.lst tp.1 (fun z => z)), by rw [R2, (m2.lst tp.2.1 (fun z => z)).1]; exact hb.2.2.1.2⟩, ?_⟩
    rw [R2, hb.2.1.2.2.1.1]
    unfold RX
    rw [a2, h29, Int.toNat_natCast]
    refine ⟨by omega, sv, fun _ => gd, fun _ => ⟨hb.2.2.2.2.1.1, fun k' hk' => ?_, by rw [l9]; exact tt.2.2.1.1, by rw [l9]; exact tt.2.2.1.2.1, fun i hi => ?_⟩, hb.2.2.2.1⟩
    · rw [a2, h29] at hk'
      obtain ⟨t7, t8, t9, t10⟩ := tt.2.1.2 k' (by omega)
      rw [t7, t8, l9, my k' (by omega)]
      exact ⟨by omega, by omega, by omega, rfl⟩
    · rw [l9] at hi
      obtain ⟨i1, i2, i3, i4, -⟩ := tt.2.2.2.1 i (by omega)
      have := tt.1.2.2
      rw [i1, i2]
      exact ⟨by omega, by omega, by omega⟩
  | succ t ih =>
    intro k M2 hk h
    have o2 := h.1
    have w2 := h.2.1
    have a2 := fl o2 h.2.2.1
    refine k_MM_explore_199 o2 (i32s (by omega) (by omega)) ⟨w2.1.1, ?_⟩
    rw [a2, h29, show (k : Int) + 1 = ((k + 1 : Nat) : Int) by omega]
    refine ⟨fun q => absurd q (by omega), fun _ => (s_MM_tellState (d := d) h (by omega) (fun i hi => ?_)).mono (fun M3 t3 => ⟨t3.1, ih (k + 1) M3 (by omega) t3.2⟩)⟩
    rw [e1]
    have := (xd.2.2.2.2.2.2 i hi).2.2.1
    exact ⟨by omega, by omega⟩
theorem s_ex115 (hb : bE Nt9 M a g T R W C Z E tg M1) : ∀ (t k : Nat) (M2 : mM), 512 ≤ k + t → pI M1 a g T R W C Z E tg k M2 → k ≤ 512 → h_MM_explore_115 G (d + 9) a k M2 (fun r M' => i32 r ∧ RI Nt9 M' a ∧ FR M a M') := by
  -- the loop has ended
  have fin : ∀ (k : Nat) (M2 : mM), k ≤ 512 → pI M1 a g T R W C Z E tg k M2 → ((mI M2 a 29 ≤ k) ∨ ¬ (mI M2 a 16 = 0)) → ∀ v56 : Int, v56 = (if mI M2 a 16 = 0 then (-1) else (k : Int) - 1) → i32 v56 ∧ ∀ M60, M60 = mUI M2 a 30 v56 → ∀ v63 : Int, v63 = (if mI M60 a 16 = 0 then (-1) else mI M60 a 17) → i32 v63 ∧ ∀ M67, M67 = mUI M60 a 12 v63 → ∀ v70 : Int, v70 = (if mI M67 a 16 = 0 then mI M67 a 29 else 0) → i32 v70 ∧ ∀ M74, M74 = mUI M67 a 29 v70 → h_MM_explore_199 G (d + 9) a 0 M74 (fun r M' => i32 r ∧ RI Nt9 M' a ∧ FR M a M') := by
    intro k M2 hk h hend v56 e56
    obtain ⟨x1, gg, hh⟩ := h
    have w2 := gg.2.1
    have i56 : i32 v56 := by rw [e56]; split <;> exact i32s (by omega) (by omega)
    refine ⟨i56, fun M60 e60 v63 e63 => ?_⟩
    obtain ⟨m60, f60⟩ := mv_fld i56 gg.1 w2 e60
    have i63 : i32 v63 := by
      rw [e63]
      split
      · exact ⟨by decide, by decide⟩
      · exact (m60.1 _ _).1
    refine ⟨i63, fun M67 e67 v70 e70 => ?_⟩
    obtain ⟨m67, f67⟩ := mv_fld i63 m60.1 m60.2.1 e67
    have i70 : i32 v70 := by
      rw [e70]
      split
      · exact (m67.1 _ _).1
      · exact ⟨by decide, by decide⟩
    refine ⟨i70, fun M74 e74 => ?_⟩
    obtain ⟨m74, f74⟩ := mv_fld i70 m67.1 m67.2.1 e74
    have mm := (m60.trans m67).trans m74
    have no : ∀ q : Nat, False → q ∈ nums a := fun _ z => z.elim
    have F74 : ∀ i, i ≠ 29 → i ≠ 12 → i ≠ 30 → mI M74 a i = mI M2 a i := fun i i1 i2 i3 => by rw [f74, if_neg i1, f67, if_neg i2, f60, if_neg i3]
    have b2 := hb.st x1.1 (fun q hq => hq) (fun x hx => hx) (fun i _ _ i16 i17 i23 i29 _ i40 => x1.2 i i16 i17 i23 i29 i40)
    have b74 := b2.st mm (fun _ z => z.elim) (fun x z => Or.inl z) (fun i _ i12 _ _ _ i29 i30 _ => F74 i i29 i12 i30)
    have w74 := b74.2.1.2.1
    have z67 : mI M67 a 16 = mI M2 a 16 := by rw [f67, if_neg (by decide), f60, if_neg (by decide)]
    by_cases z : mI M2 a 16 = 0
    · have e29 : mI M74 a 29 = mI M2 a 29 := by rw [f74, if_pos rfl, e70, if_pos (by rw [z67]; exact z), f67, if_neg (by decide), f60, if_neg (by decide)]
      obtain ⟨n, L, w, B, F, y1, y2, y3, y4⟩ := hh z
      have h29 : mI M2 a 29 = (n : Int) := y1.1.1
      have kn : k = n := by
        rcases hend with q | q
        · omega
        · exact absurd z q
      subst kn
      have hg := gg.2.2.1.2
      have gs := gs_st w2 hg mm no (fun _ z => z.elim) (fun x z => by omega)
      have xd := y1.mv w2 mm no (fun _ z => z.elim) (fun x z => by omega) gs e29 (F74 40 (by decide) (by decide) (by decide))
      have c7 := (mm.cellL w2 no (offx (a := a) (o := 107) (by decide)) (by omega)).1
      have c8 := (mm.cellL w2 no (offx (a := a) (o := 108) (by decide)) (by omega)).1
      have hF : F 0 = 0 ∧ F k = L ∧ ∀ k', k' < k → F k' ≤ F (k' + 1) ∧ mI M74 (a + 107) k' = (F k' : Int) ∧ mI M74 (a + 108) k' = ((F (k' + 1) - F k' : Nat) : Int) := by rw [c7, c8]; exact y4
      have tz : TL M74 (a + 117) F B (nt M74 (a + 115)) (mI M74 (a + 21185)) (mL M74 (a + 21186)) (mL M74 (a + 21187)) 0 0 0 := tl_zero b74.2.2.2.2.2.1 b74.2.2.2.2.2.2.1 b74.2.2.2.2.2.2.2.1 b74.2.2.2.2.2.2.2.2
      refine s_ex199 b74 (by rw [e29]; exact h29) y1.1.2.1 xd y2 hF rfl rfl rfl rfl k 0 M74 (by omega) ⟨b74.2.1.1, w74, FI.refl, xd.tt y2 hF, ?_⟩
      rw [y4.1, y1.2.2.2.2.2.1.1]
      exact tz
    · have e29 : mI M74 a 29 = 0 := by rw [f74, if_pos rfl, e70, if_neg (by rw [z67]; exact z)]
      have key := b74.ri0 e29
      refine k_MM_explore_199 b74.2.1.1 ⟨by decide, by decide⟩ ⟨w74.1.1, fun _ => ⟨(b74.2.1.1 _ _).1, key⟩, fun q => absurd (by rw [e29]; exact Int.le_refl _) q⟩
  intro t
  induction t with
  | zero =>
    intro k M2 hk h hk5
    have w2 := h.2.1.2.1
    refine k_MM_explore_115 h.2.1.1 (i32s (by omega) (by omega)) ⟨w2.1.1, fun q => fin k M2 hk5 h q, fun q => ?_⟩
    have z : mI M2 a 16 = 0 := Classical.byContradiction (fun y => q (Or.inr y))
    have q1 : ¬ (mI M2 a 29 ≤ k) := fun y => q (Or.inl y)
    obtain ⟨n, L, w, B, F, y1, y2, y3, y4⟩ := h.2.2 z
    have := y1.1
    omega
  | succ t ih =>
    intro k M2 hk h hk5
    have w2 := h.2.1.2.1
    refine k_MM_explore_115 h.2.1.1 (i32s (by omega) (by omega)) ⟨w2.1.1, fun q => fin k M2 hk5 h q, fun q => ?_⟩
    have z : mI M2 a 16 = 0 := Classical.byContradiction (fun y => q (Or.inr y))
    have q1 : ¬ (mI M2 a 29 ≤ k) := fun y => q (Or.inl y)
    obtain ⟨n, L, w, B, F, y1, y2, y3, y4⟩ := h.2.2 z
    have hn := y1.1
    have kn : k < n := by omega
    refine (s_MM_state0 (d := d) h.2.1 y1 y2 z kn).mono (fun M3 t3 => ⟨t3.1, ?_⟩)
    rw [show (k : Int) + 1 = ((k + 1 : Nat) : Int) by omega]
    exact ih (k + 1) M3 (by omega) (pI.next h.1 t3.2 y1 y2 kn y4) (by omega)
end EXP2
