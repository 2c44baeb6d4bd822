/-! The reference: what names are worth in a state. -/
section XVA
variable {G : mG} {d a g R W T V X n : Nat} {M M2 M3 : mM} {P S : Nat → Prop} {xv : Int → vrs}
/-- xv tells what names are worth: consts, met formulas, vars -/
def XVq (M : mM) (a g R W : Nat) (xv : Int → vrs) : Prop := (∀ r : Nat, r < R → (mI M (g + 13) r = 0 → xv (r : Int) = vr9 (tn M g r) (mL M (g + 16) r) (mL M (g + 17) r)) ∧ (mI M (g + 13) r ≠ 0 → mI M (a + 102) r ≠ 0 → xv (r : Int) = vr9 (tn M g r) (mL M (a + 103) r) (mL M (a + 104) r))) ∧ ∀ v : Nat, v < W → xv (100 + (v : Int)) = vr9 (tn M g (100 + (v : Int))) (mI M (a + 101) v) (if mI M (g + 18) v = 0 then 1 else 0)
/-- what a word is worth -/
def cvn9 (ww : Nat → Int) (xv : Int → vrs) (nv : Nat → Int) (k : Nat) : vrs := if ww k = 1 then xv (nv k) else if ww k = 2 then (0, nv k, 1) else if ww k = 12 then (0, 1, 1) else (0, 0, 1)
noncomputable abbrev vlX (ww pl : Nat → Int) (xv : Int → vrs) (nv : Nat → Int) (r : Nat × Nat) : vrs := vlr ww (cvn9 ww xv nv) pl r
noncomputable abbrev vfX (ww pl : Nat → Int) (xv : Int → vrs) (nv : Nat → Int) (rs : List (Nat × Nat)) : vrs := vft ww (cvn9 ww xv nv) pl rs
/-- what the trees stand for: intervals of words -/
def TBy9 (ww pl : Nat → Int) (M : mM) (g : Nat) (nv : Nat → Int) (md : Nat) (rs : List (Nat × Nat)) (n e : Nat) : Prop := (∀ r, r ∈ rs → Eo ww 6 r.1 r.2) ∧ if md = 0 then ∃ i j, rs = [(i, j)] ∧ Td ww pl nv (so M g) (pm M g) (va M g) (fp M g) (np M g) 0 0 i j n e else rs.length = md ∧ Tbq ww pl nv (so M g) (pm M g) (va M g) (fp M g) (np M g) (-1) rs n e
/-- the values are what the rules are worth -/
def woX (ww pl : Nat → Int) (xv : Int → vrs) (nv : Nat → Int) (a V : Nat) (rs : List (Nat × Nat)) (u : Nat → Int) (M3 : mM) : Prop := (vfX ww pl xv nv rs).1 = 0 ∧ ∀ j, j < rs.length → vlX ww pl xv nv (rs.getD j (0, 0)) = vr9 (u j) (mL M3 (a + 97) (V + j)) (mL M3 (a + 98) (V + j))
/-- the formulas' trees, and what they are worth -/
def FmX (ww pl : Nat → Int) (xv : Int → vrs) (M : mM) (g R : Nat) (E : Nat → Nat) : Prop := ∀ r : Nat, r < R → mI M (g + 13) r ≠ 0 → ∃ (n : Nat) (nv : Nat → Int) (i j : Nat), mI M (g + 15) r = (n : Int) ∧ Eo ww 6 i j ∧ Td ww pl nv (so M g) (pm M g) (va M g) (fp M g) (np M g) 0 0 i j n (E r) ∧ xv (r : Int) = vlq ww (cvn9 ww xv nv) pl 0 0 i j
theorem XVq.st (hg : g = a + 13 ∨ g = a + 49) (w : Wd M a) (m : Mv P S M a M3) (hP : ∀ q, P q → q = a + 99) (hS : ∀ x, S x → vS a x) (h : XVq M a g R W xv) : XVq M3 a g R W xv := by
  have hin : ∀ q, P q → q ∈ nums a := fun q hq => by rw [hP q hq]; exact n99
  have hS' : ∀ x, S x → woS a x := fun x z => by
    have : x = a ∨ x = a + 97 ∨ x = a + 98 := hS _ z
    show x = a ∨ x = a + 97 ∨ x = a + 98 ∨ x = a + 102 ∨ x = a + 103 ∨ x = a + 104
    omega
  have gs := gs_mv hg w m hin hS'
  have no : ∀ i, 102 ≤ i → i ≤ 104 → ¬ S (a + i) := fun i i1 i2 z => by
    have : a + i = a ∨ a + i = a + 97 ∨ a + i = a + 98 := hS _ z
    omega
  have c102 := (m.cellL w hin (offx (a := a) (o := 102) (by decide)) (no 102 (by omega) (by omega))).1
  have c103 := (m.cellL w hin (offx (a := a) (o := 103) (by decide)) (no 103 (by omega) (by omega))).2
  have c104 := (m.cellL w hin (offx (a := a) (o := 104) (by decide)) (no 104 (by omega) (by omega))).2
  have gt := gs.tyn
  obtain ⟨g13, g14, g15, g18, g16, g17, g101⟩ := gs
  unfold XVq
  rw [gt, g13, g16, g17, c102, c103, c104, g18, g101]
  exact h
theorem XVq.pile (hg : g = a + 13 ∨ g = a + 49) (w : Wd M a) (m : Mv (fun x => x = a + 99) (fun _ => False) M a M3) (h : XVq M a g R W xv) : XVq M3 a g R W xv := h.st hg w m (fun q hq => hq) (fun x hx => hx.elim)
/-- a formula's value is kept -/
theorem XVq.met {r : Nat} {A B : Int} {M4 M5 M6 : mM} (hg : g = a + 13 ∨ g = a + 49) (h : XVq M3 a g R W xv) (hv : xv (r : Int) = vr9 (tn M3 g r) A B) (e4 : M4 = mUI M3 (a + 102) r 1) (e5 : M5 = mUL M4 (a + 103) r A) (e6 : M6 = mUL M5 (a + 104) r B) : XVq M6 a g R W xv := by
  have iI : ∀ x k, ¬ (x = a + 102 ∧ k = r) → mI M6 x k = mI M3 x k := fun x k hx => by
    rw [e6, e5, e4]
    show mI (mUI M3 (a + 102) r 1) x k = _
    rw [mI_UI, if_neg hx]
  have lL : ∀ x k, ¬ (x = a + 103 ∧ k = r) → ¬ (x = a + 104 ∧ k = r) → mL M6 x k = mL M3 x k := fun x k h1 h2 => by
    rw [e6, mL_UL, if_neg h2, e5, mL_UL, if_neg h1, e4]
    rfl
  have l3 : mL M6 (a + 103) r = A := by rw [e6, mL_UL, if_neg (fun z => by omega), e5, mL_UL, if_pos ⟨rfl, rfl⟩]
  have l4 : mL M6 (a + 104) r = B := by rw [e6, mL_UL, if_pos ⟨rfl, rfl⟩]
  have gt : tn M6 g = tn M3 g := by
    funext v
    unfold tn
    rw [iI _ _ (by omega), iI _ _ (by omega)]
  refine ⟨fun r' hr' => ?_, fun v hv' => ?_⟩
  · obtain ⟨h1, h2⟩ := h.1 r' hr'
    rw [gt, iI (g + 13) r' (by omega), lL (g + 16) r' (by omega) (by omega), lL (g + 17) r' (by omega) (by omega)]
    refine ⟨h1, fun z1 z2 => ?_⟩
    by_cases y : r' = r
    · rw [y, l3, l4]
      exact hv
    · rw [iI (a + 102) r' (fun u => y u.2)] at z2
      rw [lL (a + 103) r' (fun u => y u.2) (by omega), lL (a + 104) r' (by omega) (fun u => y u.2)]
      exact h2 z1 z2
  · rw [gt, iI (a + 101) v (by omega), iI (g + 18) v (by omega)]
    exact h.2 v hv'
theorem x_MM_nameT {v : Int} (hx : XVq M a g R W xv) (h : Ev True M a g R W T) (hvn : nme True M g R W v) (hV : mI M a 23 = (V : Int)) (hb : V < 16400) (hl : ln M (a + 99) = (X : Int)) (hX : X ≤ 64000) : Cv G y_MM_name (d + 2) [vr a, vr g, vi v] M (fun M' => mOk M' ∧ ((∃ A B : Int, vok (tn M g v) A B ∧ psQ M a V A B M' ∧ vr9 (tn M g v) A B = xv v) ∨ nfQ True M a g X v M')) := by
  have hv : (0 ≤ v ∧ v < R) ∨ (100 ≤ v ∧ v < 100 + W) := hvn.elim (fun z => Or.inl ⟨z.1, z.2.1⟩) (fun z => Or.inr z.2)
  obtain ⟨hO, w, hg, hn, hB, hr, hw⟩ := h
  have gp := w.gp hg
  have r7 : mR M g 7 = g + 13 := gp.2.1.2.2.2.2.2.2.1
  have r9 : mR M g 9 = g + 15 := gp.2.1.2.2.2.2.2.2.2.2.1
  have r10 : mR M g 10 = g + 16 := gp.2.1.2.2.2.2.2.2.2.2.2.1
  have r11 : mR M g 11 = g + 17 := gp.2.1.2.2.2.2.2.2.2.2.2.2
  have r13 : mR M g 13 = g + 18 := gp.2.2.1.1
  have B := w.1.2.2.2.2.1.2.2.2.2.2.2.2.2.2
  have r25 : mR M a 25 = a + 101 := B.1
  have r26 : mR M a 26 = a + 102 := B.2.1
  have r27 : mR M a 27 = a + 103 := B.2.2.1
  have r28 : mR M a 28 = a + 104 := B.2.2.2
  have A8 := w.1.2.2.2.2.2.2.2.1
  have g13 := gp.2.2.2.1.1
  have g15 := gp.2.2.2.1.2.2.1
  have g16 := gp.2.2.2.1.2.2.2.1
  have g17 := gp.2.2.2.1.2.2.2.2
  have g18 := gp.2.2.2.2.1.1
  refine k_MM_name hO ⟨by omega, by omega⟩ ?_
  rw [r7, r10, r11, r13, r25, r26, r27, r28]
  refine ⟨fun q => ?_, fun q => ?_⟩
  · have hvr : v.toNat < R := by omega
    obtain ⟨b1, b2⟩ := hr v.toNat hvr
    obtain ⟨x1, x2⟩ := hx.1 v.toNat hvr
    rw [show ((v.toNat : Nat) : Int) = v by omega] at b1 b2 x1 x2
    refine ⟨gp.1, g13.1, by rw [g13.2]; omega, fun z => ⟨g16.1, by rw [g16.2]; omega, g17.1, by rw [g17.2]; omega, w.1.1, (s_MM_push (hO _ _).2 (hO _ _).2 hO w hV hb).mono (fun M' t => ⟨t.1, t.1, Or.inl ⟨_, _, b1 z, t.2, (x1 z).symm⟩⟩)⟩, fun z => ⟨w.1.1, A8.2.2.2.1.1, by rw [A8.2.2.2.1.2]; omega, fun z2 => ?_, fun z2 => ⟨A8.2.2.2.2.1.1, by rw [A8.2.2.2.2.1.2]; omega, A8.2.2.2.2.2.1, by rw [A8.2.2.2.2.2.2]; omega, (s_MM_push (hO _ _).2 (hO _ _).2 hO w hV hb).mono (fun M' t => ⟨t.1, t.1, Or.inl ⟨_, _, b2 trivial z z2, t.2, (x2 z z2).symm⟩⟩)⟩⟩⟩
    refine (s_MM_todo (d := d) ⟨by omega, by omega⟩ ⟨by omega, by omega⟩ hO w hl (by omega)).mono (fun M2 t => ?_)
    obtain ⟨o2, m2, l2, e2, x2', y2⟩ := t
    have w2 := m2.2.1
    have gp2 := w2.gp hg
    have q15 := goff15 hg
    have c15 := m2.cell w (fun q hq => by rw [hq]; exact n99) q15.1 q15.2.1 q15.2.2 (fun z => z)
    rw [show mR M2 g 9 = g + 15 from gp2.2.1.2.2.2.2.2.2.2.2.1, c15]
    refine ⟨o2, gp2.1, gp2.2.2.2.1.2.2.1.1, by rw [gp2.2.2.2.1.2.2.1.2]; omega, w2.1.1, (s_MM_todo (d := d) ⟨by omega, by omega⟩ (hO _ _).1 o2 w2 l2 (by omega)).mono (fun M3 t => ?_)⟩
    obtain ⟨o3, m3, l3, e3, x3, y3⟩ := t
    exact ⟨o3, o3, Or.inr ⟨trivial, q, z, z2, m2.trans m3, by rw [l3], fun j hj => by rw [e3 j (by omega), e2 j hj], by rw [e3 X (by omega)]; exact x2', by rw [e3 (X + 1) (by omega)]; exact y2, x3, y3⟩⟩
  · have b := hw trivial (v - 100).toNat (by omega)
    have x := hx.2 (v - 100).toNat (by omega)
    rw [show (100 : Int) + ((v - 100).toNat : Nat) = v by omega] at b x
    refine ⟨w.1.1, A8.2.2.1.1, by rw [A8.2.2.1.2]; omega, gp.1, g18.1, by rw [g18.2]; omega, fun u hu => ?_⟩
    rw [← hu] at b x
    have i1 := (hO (a + 101) (v - 100).toNat).1
    exact (s_MM_push ⟨by have := i1.1; omega, by have := i1.2; omega⟩ ⟨by split at hu <;> omega, by split at hu <;> omega⟩ hO w hV hb).mono (fun M' t => ⟨t.1, t.1, Or.inl ⟨_, _, b, t.2, x.symm⟩⟩)
theorem x_bg_leafT {t : Int} (hx : XVq M a g R W xv) (h : Ev True M a g R W T) (hn : n < T) (hs : so M g n = 1 ∨ so M g n = 2 ∨ so M g n = 12 ∨ so M g n = 13) (h2 : so M g n = 2 → 0 ≤ va M g n ∧ va M g n < 1000000000) (h1 : so M g n = 1 → nme True M g R W (va M g n)) (ht : tyn (tn M g) (so M g n) (va M g n) 0 (fun _ => 0) t) (hV : mI M a 23 = (V : Int)) (hb : V < 16400) (hl : ln M (a + 99) = (X : Int)) (hX : X ≤ 64000) : Cv G y_MM_begin (d + 3) [vr a, vr g, vi n] M (fun M' => mOk M' ∧ ((∃ A B : Int, vok t A B ∧ psQ M a V A B M' ∧ (if so M g n = 1 then xv (va M g n) else if so M g n = 2 then (0, va M g n, 1) else if so M g n = 12 then (0, 1, 1) else (0, 0, 1)) = vr9 t A B) ∨ (so M g n = 1 ∧ t = tn M g (va M g n) ∧ nfQ True M a g X (va M g n) M'))) := by
  obtain ⟨hO, w, -⟩ := id h
  unfold tyn at ht
  refine s_bg h hn (fun q => ?_) (fun q => ?_) (fun q => ?_) (fun q => by omega) (fun q => by omega)
  · rw [if_pos q] at ht
    refine (x_MM_nameT (d := d) hx h (h1 q) hV hb hl hX).mono (fun M' t' => ⟨t'.1, t'.1, ?_⟩)
    rcases t'.2 with ⟨A, B, y1, y2, y3⟩ | y
    · exact Or.inl ⟨A, B, by rw [ht]; exact y1, y2, by rw [if_pos q, ht]; exact y3.symm⟩
    · exact Or.inr ⟨q, ht, y⟩
  · rw [if_neg (by omega), if_pos q] at ht
    have := h2 q
    exact (s_MM_push ⟨by omega, by omega⟩ ⟨by omega, by omega⟩ hO w hV hb).mono (fun M' t' => ⟨t'.1, t'.1, Or.inl ⟨_, _, Or.inl ⟨ht, by omega, by omega, by omega, by omega⟩, t'.2, by rw [if_neg (by omega), if_pos q]; unfold vr9; rw [ht]; rfl⟩⟩)
  · rw [if_neg (by omega), if_neg (by omega), if_pos q] at ht
    refine (s_MM_pushTruth (d := d + 1) ⟨by split <;> omega, by split <;> omega⟩ hO w hV hb).mono (fun M' t' => ⟨t'.1, t'.1, Or.inl ⟨_, _, Or.inr ⟨ht, ?_, rfl⟩, t'.2, ?_⟩⟩)
    · generalize (if so M g n = 12 then (1 : Int) else 0) = b
      by_cases z : b = 0
      · rw [if_pos z]; exact Or.inl rfl
      · rw [if_neg z]; exact Or.inr rfl
    · rw [if_neg (show ¬ so M g n = 1 by omega), if_neg (show ¬ so M g n = 2 by omega)]
      unfold vr9
      rw [ht]
      by_cases z : so M g n = 12
      · simp [z]
      · simp [z]
end XVA
