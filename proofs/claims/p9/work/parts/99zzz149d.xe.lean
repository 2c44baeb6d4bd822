section
/-! The reference keeps what was explored. -/
section XEA
variable {a g W : Nat} {M M' : mM} {S : List (List Int)} {T : xt9} {i9 : tI9} {r : Int}
/-- the tables of what was explored: states S, kinds and commands T -/
def XF (M : mM) (a W : Nat) (S : List (List Int)) (T : xt9) : Prop := ∃ (L w : Nat) (B : Nat → Nat), (1 ≤ S.length ∧ S.length ≤ 512) ∧ (mI M a 40 = (w : Int) ∧ w ≤ 4096) ∧ Wy M a S.length w ∧ (ln M (a + 109) = L ∧ ln M (a + 111) = L ∧ ln M (a + 113) = L ∧ ln M (a + 115) = L) ∧ (B 0 = 0 ∧ B L = w) ∧ (∀ i, i < L → okc M a B i) ∧ Wc M a w ∧ SmR M a W S.length = S ∧ xtR M a S.length = T
theorem sl.nt {q : Nat} (h : sl M M' q) : nt M' q = nt M q := funext (fun j => h.2 j)
theorem XF.xe (h : XF M a W S T) (k : xeF M M' a) : XF M' a W S T := by
  obtain ⟨⟨a1, a2, a3⟩, ⟨b1, b2, b3, b4, b5⟩, ⟨c1, c2⟩, d1, d2, d3, d4, -⟩ := k
  obtain ⟨L, w, B, h1, h2, h3, h4, h5, h6, h7, h8, h9⟩ := h
  refine ⟨L, w, B, h1, by rw [a3]; exact h2, ?_, by rw [d1.1, d2.1, d3.1, d4.1]; exact h4, h5, fun i hi => ?_, ?_, ?_, ?_⟩
  · unfold Wy
    rw [b5, c1, c2]
    exact h3
  · unfold okc
    rw [d2.nt, d3.nt, d4.nt, c1, c2]
    exact h6 i hi
  · unfold Wc
    rw [c1, c2]
    exact h7
  · unfold SmR lsR
    rw [b1]
    exact h8
  · unfold xtR stR cmL cmQ brR
    rw [b2, b3, b4, b5, c1, c2, d1.nt, d2.nt, d3.nt, d4.nt]
    exact h9
theorem SvT.xe (h : SvT M (a + 117) T) (k : xeF M M' a) : SvT M' (a + 117) T := h.sv k.2.2.2.2.2.2.2.1 k.2.2.2.2.2.2.2.2
/-- the latest fault's place, explore's state, and what was explored -/
def XE (i9 : tI9) (M : mM) (a : Nat) : Prop := mI M a 12 = i9.2.2.2.2.2.1.1 ∧ (mI M a 30 = i9.2.2.2.2.2.1.2.1 ∧ mI M (a + 117 + 30) 0 = i9.2.2.2.2.2.1.2.2) ∧ mI M a 29 = ((i9.2.2.2.2.2.2.1.length : Nat) : Int) ∧ (i9.2.2.2.2.2.2.1 = [] → i9.2.2.2.2.2.2.2 = []) ∧ (i9.2.2.2.2.2.2.1 ≠ [] → ∃ W : Nat, (W : Int) = i9.2.1 ∧ XF M a W i9.2.2.2.2.2.2.1 i9.2.2.2.2.2.2.2 ∧ SvT M (a + 117) i9.2.2.2.2.2.2.2 ∧ kdT i9.2.2.2.2.2.2.2)
theorem XE.xe (h : XE i9 M a) (k : xeF M M' a) (e : mI M' a 12 = mI M a 12) (e' : mI M' (a + 117 + 30) 0 = mI M (a + 117 + 30) 0) : XE i9 M' a := by
  obtain ⟨h1, h2, h3, h4, h5⟩ := h
  refine ⟨by rw [e]; exact h1, ⟨by rw [k.1.2.1]; exact h2.1, e'.trans h2.2⟩, by rw [k.1.1]; exact h3, h4, fun u => ?_⟩
  obtain ⟨W, w1, w2, w3, w4⟩ := h5 u
  exact ⟨W, w1, w2.xe k, w3.xe k, w4⟩
theorem XE.fx (h : XE i9 M a) (k : FX M a M') : XE i9 M' a := h.xe k.2.1 k.2.2.1 k.2.2.2
/-- what exploring leaves, by what it comes to -/
def exG (X : xR9) : tE9 := if X.1.1 ≠ 0 then ((X.1.2, ((X.2.1 : Nat) : Int), 0), [], []) else ((-1, -1, 0), X.2.2.1, X.2.2.2)
theorem XTr.xf (h : XTr M a g W S T) : S ≠ [] ∧ XF M a W S T := by
  obtain ⟨h1, h2, h3, w9, h4, h5, L, w, B, xd, hw⟩ := h
  obtain ⟨⟨x1, x2, x3⟩, ⟨x4, x5⟩, x6, x7, x8, ⟨x9, x10, x11⟩, x12⟩ := xd
  have ew : w9 = w := by omega
  subst ew
  refine ⟨fun u => ?_, L, w9, B, ⟨x2, x3⟩, ⟨x4, x5⟩, x7, x8, ⟨x9, hw⟩, x12, h5, h2, h3⟩
  rw [u] at x2
  exact absurd x2 (by decide)
theorem xpR.xe {X : xR9} (h : xpR X a g W r M') (hw : (W : Int) = i9.2.1) (he : i9.2.2.2.2.2 = exG X) : XE i9 M' a ∧ r = X.1.1 := by
  unfold XE
  rw [he]
  unfold exG
  rcases h with ⟨h1, h2, h3, h4, h5, h6⟩ | ⟨h1, h2, h3, h4, h5, h6, h7, h8⟩
  · rw [if_pos h1]
    exact ⟨⟨h3, ⟨h4, h6⟩, h5, fun _ => rfl, fun u => absurd rfl u⟩, h2⟩
  · have n0 : ¬ (X.1.1 ≠ 0) := fun u => u (by rw [h1])
    rw [if_neg n0]
    obtain ⟨f1, f2⟩ := h5.xf
    exact ⟨⟨h3, ⟨h4, h8⟩, h5.1, fun u => absurd u f1, fun _ => ⟨W, hw, f2, h6, h7⟩⟩, by rw [h1]; exact h2⟩
end XEA
end
section
/-! What the questions about the states answer: pure. -/
section ASQ
variable {α : Type} {M : mM} {a g : Nat}
theorem rget (f : Nat → α) (n k : Nat) : ((List.range n).map f)[k]? = if k < n then some (f k) else none := by
  by_cases h : k < n
  · rw [if_pos h, List.getElem?_map, List.getElem?_range h]
    all_goals rfl
  · rw [if_neg h]
    exact List.getElem?_eq_none (by rw [List.length_map, List.length_range]; omega)
/-- state l: its kind and commands -/
def stA9 (T : xt9) (l : Int) : Option (Int × List sc9) := if l < 0 then none else T[l.toNat]?
def kdA9 (T : xt9) (l : Int) : Int := ((stA9 T l).map (fun x => x.1)).getD (-1)
def cnA9 (T : xt9) (l : Int) : Int := ((stA9 T l).map (fun x => ((x.2.length : Nat) : Int))).getD (-1)
/-- command l2 of state l1 -/
def cmA9 (T : xt9) (l1 l2 : Int) : Option sc9 := (stA9 T l1).bind (fun x => if l2 < 0 then none else x.2[l2.toNat]?)
def caA9 (T : xt9) (l1 l2 : Int) : Int := ((cmA9 T l1 l2).map (fun c => (c.1 : Int))).getD (-1)
def bnA9 (T : xt9) (l1 l2 : Int) : Int := ((cmA9 T l1 l2).map (fun c => ((c.2.2.length : Nat) : Int))).getD (-1)
/-- branch l3 of it -/
def bqA9 (c : sc9) (l3 : Int) : Option (Nat × Int) := if l3 < 0 then none else c.2.2[l3.toNat]?
def b1A9 (mu : Int) (l4 : Int) (b : Nat × Int) : Int := if l4 = 0 then (b.1 : Int) else if l4 = 1 then b.2 / (Int.gcd b.2 mu : Int) else if l4 = 2 then mu / (Int.gcd b.2 mu : Int) else -1
def brA9 (T : xt9) (l1 l2 l3 l4 : Int) : Int := ((cmA9 T l1 l2).map (fun c => ((bqA9 c l3).map (b1A9 c.2.1 l4)).getD (-1))).getD (-1)
/-- var l2 in state l1 -/
def vaA9 (S : List (List Int)) (l1 l2 : Int) : Int := ((S[l1.toNat]?).bind (fun x => x[l2.toNat]?)).getD 0
theorem cml_map {m : Nat} : cml M g a m = (List.range m).map (fun t => cmm M g (a + t)) := by
  induction m with
  | zero => rfl
  | succ m ih =>
    rw [List.range_succ, List.map_append, ← ih]
    all_goals rfl
theorem brl_map {m : Nat} : brl M g a m = (List.range m).map (fun t => ((mI M (g + 8) (a + t)).toNat, mI M (g + 9) (a + t))) := by
  induction m with
  | zero => rfl
  | succ m ih =>
    rw [List.range_succ, List.map_append, ← ih]
    all_goals rfl
theorem xtm_map {m : Nat} : xtm M g m = (List.range m).map (stm M g) := by
  induction m with
  | zero => rfl
  | succ m ih =>
    rw [List.range_succ, List.map_append, ← ih]
    all_goals rfl
/-- a share and its multiple, in lowest terms -/
theorem low9 {x y mu : Int} (hx : 0 < x) (hy : 0 < y) (hm : 0 < mu) (g1 : Int.gcd x y = 1) (hd : y ∣ mu) : x * (mu / y) / (Int.gcd (x * (mu / y)) mu : Int) = x ∧ mu / (Int.gcd (x * (mu / y)) mu : Int) = y := by
  obtain ⟨k, hk⟩ := hd
  have k0 : 0 < k := by
    rcases Int.lt_or_le 0 k with u | u
    · exact u
    · have h9 : y * k ≤ y * 0 := Int.mul_le_mul_of_nonneg_left u (Int.le_of_lt hy)
      rw [Int.mul_zero, ← hk] at h9
      omega
  have e1 : mu / y = k := by rw [hk]; exact Int.mul_ediv_cancel_left _ (by omega)
  rw [e1]
  have e2 : Int.gcd (x * k) mu = k.natAbs := by rw [hk, Int.gcd_mul_right, g1, Nat.one_mul]
  have e3 : ((k.natAbs : Nat) : Int) = k := Int.natAbs_of_nonneg (by omega)
  rw [e2, e3]
  exact ⟨Int.mul_ediv_cancel _ (by omega), by rw [hk]; exact Int.mul_ediv_cancel _ (by omega)⟩
end ASQ
end
section
/-! The reference between two calls: what the solver's calls leave; the methods that read. -/
section PUB
variable {G : mG} {d a s n k w : Nat} {M M' M2 : mM} {S : Nat → Prop} {Nt9 : tP9}
/-- the reference between two calls, with what was explored -/
def RI (Nt9 : tP9) (M : mM) (a : Nat) : Prop := mOk M ∧ Wd M a ∧ (Tpl Nt9 M (mR M a 1) ∧ ln M (mR M a 2) ≤ 16384) ∧ (0 ≤ mI M a 29 ∧ mI M a 29 ≤ 512) ∧ Sv M (a + 117) (mI M a 29).toNat ∧ (mI M a 11 ≠ 0 → Gd Nt9.2.2 M (mR M a 9)) ∧ (0 < mI M a 29 → mI M a 11 ≠ 0 ∧ XL M a) ∧ (0 ≤ mI M a 48 ∧ mI M a 48 ≤ 900 ∧ mI M a 11 = Nt9.2.2.1 ∧ XE Nt9.2.2 M a)
theorem RI.r0 (h : RI Nt9 M a) : RI0 Nt9 M a := ⟨h.1, h.2.1, h.2.2.1, h.2.2.2.1, h.2.2.2.2.1, h.2.2.2.2.2.1, h.2.2.2.2.2.2.1, h.2.2.2.2.2.2.2.1, h.2.2.2.2.2.2.2.2.1, h.2.2.2.2.2.2.2.2.2.1⟩
theorem RI.xe (h : RI Nt9 M a) : XE Nt9.2.2 M a := h.2.2.2.2.2.2.2.2.2.2
theorem RI0.ri (h : RI0 Nt9 M a) (x : XE Nt9.2.2 M a) : RI Nt9 M a := ⟨h.1, h.2.1, h.2.2.1, h.2.2.2.1, h.2.2.2.2.1, h.2.2.2.2.2.1, h.2.2.2.2.2.2.1, h.2.2.2.2.2.2.2.1, h.2.2.2.2.2.2.2.2.1, h.2.2.2.2.2.2.2.2.2, x⟩
theorem RI.step {j : Nat} {v : Int} (h : RI Nt9 M a) (hv : i32 v) (hj : j ≠ 11 ∧ j ≠ 29 ∧ j ≠ 48) (e : M' = mUI M a j v) (h0 : j < 12 := by decide) : RI Nt9 M' a ∧ FX M a M' ∧ (∀ i, mI M' a i = if i = j then v else mI M a i) := by
  obtain ⟨a1, a2, a3⟩ := h.r0.step hv hj e h0
  exact ⟨a1.ri (h.xe.fx a2), a2, a3⟩
/-- an answer, and the reference at rest -/
def rQ (Nt9 : tP9) (M : mM) (a : Nat) (r : Int) (M' : mM) : Prop := i32 r ∧ RI Nt9 M' a ∧ FX M a M'
theorem Wd.pl3 (w : Wd M a) : mR M a 31 = a + 105 ∧ mR M a 32 = a + 106 ∧ mR M a 33 = a + 107 ∧ mR M a 34 = a + 108 ∧ mR M a 35 = a + 109 ∧ mR M a 36 = a + 111 ∧ mR M a 37 = a + 113 ∧ mR M a 38 = a + 115 ∧ mR M a 39 = a + 117 := w.1.2.2.2.2.2.1
theorem Wd.pl4 (w : Wd M a) : (mK M (a + 105) = 30 ∧ mN M (a + 105) = 6144) ∧ (mK M (a + 106) = 30 ∧ mN M (a + 106) = 512) ∧ (mK M (a + 107) = 30 ∧ mN M (a + 107) = 512) ∧ (mK M (a + 108) = 30 ∧ mN M (a + 108) = 512) := w.1.2.2.2.2.2.2.2.2.1
theorem Wd.pl5 (w : Wd M a) : (mR M a 41 = a + 21185 ∧ mR M a 42 = a + 21186 ∧ mR M a 43 = a + 21187) ∧ mR M a 47 = a + 21191 := ⟨⟨w.1.2.2.2.2.2.2.1.1, w.1.2.2.2.2.2.2.1.2.1, w.1.2.2.2.2.2.2.1.2.2.1⟩, w.1.2.2.2.2.2.2.1.2.2.2.2.2.2⟩
theorem Wd.pl6 (w : Wd M a) : (mK M (a + 21185) = 30 ∧ mN M (a + 21185) = 4096) ∧ (mK M (a + 21186) = 33 ∧ mN M (a + 21186) = 4096) ∧ (mK M (a + 21187) = 33 ∧ mN M (a + 21187) = 4096) ∧ (mK M (a + 21191) = 30 ∧ mN M (a + 21191) = 900) := ⟨w.1.2.2.2.2.2.2.2.2.2.1.1, w.1.2.2.2.2.2.2.2.2.2.1.2.1, w.1.2.2.2.2.2.2.2.2.2.1.2.2.1, w.1.2.2.2.2.2.2.2.2.2.1.2.2.2.2.2.2⟩
/-- the solver alone has changed, and what is printed -/
theorem RI0.sol (h : RI0 Nt9 M a) (o : mOk M') (f : FI S M M') (hS : ∀ x, S x → vH (a + 117) x ∨ x = a + 21191) (hv : Sv M' (a + 117) (mI M a 29).toNat) : RI0 Nt9 M' a ∧ FX0 M a M' ∧ mI M' a = mI M a := by
  obtain ⟨hO, w, ht, h1, h2, h3, h4, h5⟩ := h
  have hg := w.g9
  have no : ∀ q : Nat, False → q ∈ nums a := fun _ z => z.elim
  have hS' : ∀ x, S x → a + 117 ≤ x ∧ x ≤ a + 21191 ∧ (x < a + 117 + 22 ∨ a + 117 + 28 < x) := fun x z => by
    rcases hS x z with y | y
    · have y' : a + 117 ≤ x ∧ x ≤ a + 117 + 21067 ∧ (x < a + 117 + 22 ∨ a + 117 + 28 < x) := y
      omega
    · omega
  have m : Mv (fun _ => False) S M a M' := mv_fi o w f (fun x z => by
    have z' := hS' x z
    rcases hS x z with y | y
    · have y' : a + 117 ≤ x ∧ x ≤ a + 117 + 21067 ∧ (x < a + 117 + 22 ∨ a + 117 + 28 < x) := y
      exact ⟨by omega, by omega, fun u => by have := nums_in u; omega, fun q hq u => by have := nums_in hq; omega⟩
    · have e := offx (a := a) (o := 21191) (by decide)
      rw [y]
      exact ⟨by omega, by omega, e.2.1, e.2.2⟩)
  have aI := (m.fld w no (fun z => by have := hS' _ z; omega)).1
  have aR := m.rfl_a w no
  have tp := w.tape
  have cI : ∀ x, ¬ S x → mI M' x = mI M x := f.2.2.2.2.2.2
  have xe : xeF M M' a := ⟨by rw [aI]; exact ⟨rfl, rfl, rfl⟩, ⟨cI _ (fun z => by have := hS' _ z; omega), cI _ (fun z => by have := hS' _ z; omega), cI _ (fun z => by have := hS' _ z; omega), cI _ (fun z => by have := hS' _ z; omega), cI _ (fun z => by
    rcases hS _ z with y | y
    · have y' : a + 117 ≤ a + 21185 ∧ a + 21185 ≤ a + 117 + 21067 ∧ (a + 21185 < a + 117 + 22 ∨ a + 117 + 28 < a + 21185) := y
      omega
    · omega)⟩, ⟨by rw [f.2.2.2.1], by rw [f.2.2.2.1]⟩, (m.lst (nums_o (by decide)) (fun z => z)).sl, (m.lst (nums_o (by decide)) (fun z => z)).sl, (m.lst (nums_o (by decide)) (fun z => z)).sl, (m.lst (nums_o (by decide)) (fun z => z)).sl, hv.2.2.2.1.trans h2.2.2.2.1.symm, fun i p q => cI _ (fun z => by have := hS' _ z; omega)⟩
  refine ⟨⟨o, m.2.1, ⟨by rw [aR]; exact ht.1.sm (m.lst tp.1 (fun z => z)), by rw [aR, (m.lst tp.2.1 (fun z => z)).1]; exact ht.2⟩, ?_⟩, ⟨FR.fi f (fun x z => by have := hS' x z; omega), xe, by rw [aI]⟩, aI⟩
  unfold RX
  rw [aR, aI]
  refine ⟨h1, hv, fun q => gd_mv (h3 q) w hg m no (fun _ z => z.elim) (fun x z => by have := hS' x z; omega), fun q => ⟨(h4 q).1, ?_⟩, h5⟩
  obtain ⟨x1, x2, x3, x4⟩ := (h4 q).2
  have s9 := m.lst (q := a + 109) (nums_o (by decide)) (fun z => z)
  have s11 := m.lst (q := a + 111) (nums_o (by decide)) (fun z => z)
  have s13 := m.lst (q := a + 113) (nums_o (by decide)) (fun z => z)
  unfold XL mny
  rw [aI, s9.1, s11.1, s13.1, cI (a + 107) (fun z => by have := hS' _ z; omega), cI (a + 108) (fun z => by have := hS' _ z; omega), cI (a + 117 + 23) (fun z => by have := hS' _ z; omega)]
  refine ⟨x1, x2, x3, fun i hi => ?_⟩
  rw [s11.2.1, s13.2.1]
  exact x4 i hi
theorem RI.sol (h : RI Nt9 M a) (o : mOk M') (f : FI S M M') (hS : ∀ x, S x → vH (a + 117) x ∨ x = a + 21191) (hv : Sv M' (a + 117) (mI M a 29).toNat) (hk : mI M' (a + 117 + 30) 0 = mI M (a + 117 + 30) 0) : RI Nt9 M' a ∧ FX M a M' ∧ mI M' a = mI M a := by
  obtain ⟨a1, a2, a3⟩ := h.r0.sol o f hS hv
  exact ⟨a1.ri (h.xe.fx (a2.fx hk)), a2.fx hk, a3⟩
/-- are values worked out -/
def kn9 (i : tI9) (k : Int) : tI9 := (i.1, i.2.1, i.2.2.1, i.2.2.2.1, i.2.2.2.2.1, (i.2.2.2.2.2.1.1, i.2.2.2.2.2.1.2.1, k), i.2.2.2.2.2.2)
theorem RI0.e8 {l : Int} {c : Nat → Int} {i : tI9} {e : tE9} (h : RI0 (l, c, i) M a) : RI0 (l, c, i.1, i.2.1, i.2.2.1, i.2.2.2.1, i.2.2.2.2.1, e) M a := by
  obtain ⟨h1, h2, h3, h4, h5, h6, h7, h8⟩ := h
  exact ⟨h1, h2, h3, h4, h5, h6, h7, h8⟩
theorem RI.solv {k : Int} (h : RI Nt9 M a) (o : mOk M') (f : FI S M M') (hS : ∀ x, S x → vH (a + 117) x ∨ x = a + 21191) (hv : Sv M' (a + 117) (mI M a 29).toNat) (hk : mI M' (a + 117 + 30) 0 = k) : RI (Nt9.1, Nt9.2.1, kn9 Nt9.2.2 k) M' a ∧ FR M a M' ∧ mI M' a = mI M a := by
  obtain ⟨a1, a2, a3⟩ := h.r0.sol o f hS hv
  obtain ⟨x1, x2, x3, x4, x5⟩ := h.xe
  refine ⟨RI0.ri (RI0.e8 (l := Nt9.1) (c := Nt9.2.1) (i := Nt9.2.2) a1) ⟨by rw [a3]; exact x1, ⟨by rw [a3]; exact x2.1, hk⟩, by rw [a3]; exact x3, x4, fun u => ?_⟩, a2.1, a3⟩
  obtain ⟨W, w1, w2, w3, w4⟩ := x5 u
  exact ⟨W, w1, w2.xe a2.2.1, w3.xe a2.2.1, w4⟩
/-- a step that only touches the tape and the fault -/
theorem RI0.mv {P : Nat → Prop} (h : RI0 Nt9 M a) (m : Mv P S M a M') (hP : ∀ q, P q → q = mR M a 1) (hS : ∀ x, S x → x = a) (hf : ∀ i, i ≠ 0 → mI M' a i = mI M a i) {n1 : tP9} (hl : Tpl n1 M' (mR M a 1)) (hn : n1.2.2 = Nt9.2.2) : RI0 n1 M' a ∧ FX M a M' := by
  obtain ⟨hO, w, ht, hx⟩ := h
  have tp := w.tape
  have hin : ∀ q, P q → q ∈ nums a := fun q z => by rw [hP q z]; exact tp.1
  have aR := m.rfl_a w hin
  have s1 := w.1.2.1
  have hg := w.g9
  have ra := ra_mv w hg m hin (fun q z => by
    have := hP q z
    refine ⟨fun y => ?_, by omega, by omega, by omega, by omega⟩
    have y' : q = mR M a 9 + 1 ∨ q = mR M a 9 + 3 ∨ q = mR M a 9 + 5 ∨ q = mR M a 9 + 7 ∨ q = mR M a 9 + 9 ∨ q = mR M a 9 + 11 ∨ q = mR M a 9 + 30 ∨ q = mR M a 9 + 32 ∨ q = mR M a 9 + 34 := y
    omega) (fun x z => by have := hS x z; omega) ⟨hf 11 (by decide), hf 29 (by decide), hf 48 (by decide), hf 30 (by decide), hf 40 (by decide)⟩
  refine ⟨⟨m.1, m.2.1, ⟨by rw [aR]; exact hl, by rw [aR, (m.lst tp.2.1 (fun z => tp.2.2 (hP _ z).symm)).1]; exact ht.2⟩, by rw [aR, hn]; exact hx.ra ra⟩, FR.mv m hin (fun x z => by have := hS x z; omega), ra.2.2.2.2.2.2.2, hf 12 (by decide), by rw [(ra.2.1 (a + 117 + 30) (by omega) (by omega)).2.2.2]⟩
theorem RI.mv {P : Nat → Prop} (h : RI Nt9 M a) (m : Mv P S M a M') (hP : ∀ q, P q → q = mR M a 1) (hS : ∀ x, S x → x = a) (hf : ∀ i, i ≠ 0 → mI M' a i = mI M a i) {n1 : tP9} (hl : Tpl n1 M' (mR M a 1)) (hn : n1.2.2 = Nt9.2.2) : RI n1 M' a ∧ FX M a M' := by
  obtain ⟨a1, a2⟩ := h.r0.mv m hP hS hf hl hn
  exact ⟨a1.ri (by rw [hn]; exact h.xe.fx a2), a2⟩
theorem r_MM_feed {v : Nat → Int} (hv : ∀ i, i32 (v i)) (h : RI Nt9 M a) : Ci G y_MM_feed (d + 2) [vr a, vi (v 0), vi (v 1), vi (v 2), vi (v 3), vi (v 4)] M (fun r M' => ∃ n1, rQ n1 M a r M' ∧ ((Nt9.1 + 20 ≤ 16384 ∧ r = Nt9.1 + 20 ∧ n1 = (r, fdc Nt9.2.1 Nt9.1.toNat (v 0) (v 1) (v 2) (v 3) (v 4), Nt9.2.2)) ∨ (16384 < Nt9.1 + 20 ∧ r = -1 ∧ n1 = Nt9))) := by
  have bN := h.2.2.1.1
  refine (s_MM_feed hv h.1 h.2.1 (by rw [bN.1]; exact bN.2.1)).mono (fun r M1 q => ?_)
  have b0 : 0 ≤ ln M (mR M a 1) := (h.2.1.nu h.2.1.tape.1).2.2.2.1.1
  obtain ⟨m, hf, f0, hh⟩ := id q
  have e : i32 r ∧ ∃ n1, Tpl n1 M1 (mR M a 1) ∧ ((Nt9.1 + 20 ≤ 16384 ∧ r = Nt9.1 + 20 ∧ n1 = (r, fdc Nt9.2.1 Nt9.1.toNat (v 0) (v 1) (v 2) (v 3) (v 4), Nt9.2.2)) ∨ (16384 < Nt9.1 + 20 ∧ r = -1 ∧ n1 = Nt9)) := by
    obtain ⟨c1, c2, c3⟩ := bN
    rcases hh with ⟨y1, y2, y3, y4, y5⟩ | ⟨y1, y2, y3⟩
    · rw [c1] at y1 y2 y4 y5 b0
      refine ⟨i32s (by omega) (by omega), _, ⟨y3, by show r ≤ 16384; omega, fun j hj => ?_⟩, Or.inl ⟨by omega, by omega, rfl⟩⟩
      have hj : (j : Int) < r := hj
      obtain ⟨m, hm⟩ : ∃ m : Nat, Nt9.1 = m := ⟨Nt9.1.toNat, by omega⟩
      rw [hm] at y4 y5 c3 y2
      rw [Int.toNat_natCast] at y5
      show nt M1 (mR M a 1) j = fdc Nt9.2.1 Nt9.1.toNat (v 0) (v 1) (v 2) (v 3) (v 4) j
      rw [hm, Int.toNat_natCast]
      unfold fdc f4
      by_cases d0 : j < m
      · rw [if_pos (by omega), if_pos (by omega), if_pos (by omega), if_pos (by omega), if_pos d0, y4 j (by omega)]
        exact c3 j (by omega)
      · have key : ∀ i, i < 5 → m + 4 * i ≤ j → j < m + 4 * i + 4 → nt M1 (mR M a 1) j = byt (v i) (j - (m + 4 * i)) := fun i hi h1 h2 => by
          have := y5 i (j - (m + 4 * i)) hi (by omega)
          rw [show m + 4 * i + (j - (m + 4 * i)) = j by omega] at this
          exact this
        by_cases d1 : j < m + 4
        · rw [if_pos (by omega), if_pos (by omega), if_pos (by omega), if_pos (by omega), if_neg d0]
          exact key 0 (by decide) (by omega) (by omega)
        by_cases d2 : j < m + 8
        · rw [if_pos (by omega), if_pos (by omega), if_pos (by omega), if_neg d1]
          exact key 1 (by decide) (by omega) (by omega)
        by_cases d3 : j < m + 12
        · rw [if_pos (by omega), if_pos (by omega), if_neg d2]
          exact key 2 (by decide) (by omega) (by omega)
        by_cases d4 : j < m + 16
        · rw [if_pos (by omega), if_neg d3]
          exact key 3 (by decide) (by omega) (by omega)
        · rw [if_neg d4]
          exact key 4 (by decide) (by omega) (by omega)
    · have y4 := y3.1
      rw [c1] at y1
      exact ⟨i32s (by omega) (by omega), Nt9, (show Tpl Nt9 M (mR M a 1) from ⟨c1, c2, c3⟩).sm y3, Or.inr ⟨by omega, y2, rfl⟩⟩
  obtain ⟨ir, n1, hl, hd⟩ := e
  obtain ⟨r1, F1⟩ := h.mv m (fun q z => z) (fun x z => z) hf hl (by rcases hd with ⟨-, -, y⟩ | ⟨-, -, y⟩ <;> rw [y])
  exact ⟨n1, ⟨ir, r1, F1⟩, hd⟩
theorem r_MM_end {l : Int} (hl : i32 l) (h : RI Nt9 M a) : Ci G y_MM_end d [vr a, vi l] M (fun r M' => ∃ n1, rQ n1 M a r M' ∧ ((0 ≤ l ∧ l ≤ 20 ∧ 20 ≤ Nt9.1 ∧ n1 = (Nt9.1 - 20 + l, Nt9.2)) ∨ (¬ (0 ≤ l ∧ l ≤ 20 ∧ 20 ≤ Nt9.1) ∧ n1 = Nt9))) := by
  have bN := h.2.2.1.1
  refine (s_MM_end hl h.1 h.2.1 (by rw [bN.1]; exact bN.2.1)).mono (fun r M1 q => ?_)
  have b0 : 0 ≤ ln M (mR M a 1) := (h.2.1.nu h.2.1.tape.1).2.2.2.1.1
  obtain ⟨m, hf, hh⟩ := id q
  have e : i32 r ∧ ∃ n1, Tpl n1 M1 (mR M a 1) ∧ ((0 ≤ l ∧ l ≤ 20 ∧ 20 ≤ Nt9.1 ∧ n1 = (Nt9.1 - 20 + l, Nt9.2)) ∨ (¬ (0 ≤ l ∧ l ≤ 20 ∧ 20 ≤ Nt9.1) ∧ n1 = Nt9)) := by
    obtain ⟨c1, c2, c3⟩ := bN
    rcases hh with ⟨y1, y2, y3, y4, y5, y6, y7⟩ | ⟨y1, y2, y3, y4⟩
    · rw [c1] at y3 y5
      exact ⟨i32s (by omega) (by omega), _, ⟨by rw [y6, y5], by show Nt9.1 - 20 + l ≤ 16384; omega, fun j hj => by
        have hj : (j : Int) < Nt9.1 - 20 + l := hj
        rw [y7]
        exact c3 j (by omega)⟩, Or.inl ⟨y1, y2, y3, rfl⟩⟩
    · rw [c1] at y1
      exact ⟨i32s (by omega) (by omega), Nt9, (show Tpl Nt9 M (mR M a 1) from ⟨c1, c2, c3⟩).sm y4, Or.inr ⟨y1, rfl⟩⟩
  obtain ⟨ir, n1, hl', hd⟩ := e
  obtain ⟨r1, F1⟩ := h.mv m (fun q z => z) (fun x z => z) hf hl' (by rcases hd with ⟨-, -, -, y⟩ | ⟨-, y⟩ <;> rw [y])
  exact ⟨n1, ⟨ir, r1, F1⟩, hd⟩
theorem r_MM_place1 (h : RI Nt9 M a) : Ci G y_MM_place1 d [vr a] M (fun r M' => rQ Nt9 M a r M' ∧ r = Nt9.2.2.2.2.2.2.2.1.1) := by
  refine k_MM_place1 h.1 ⟨h.2.1.1.1, fun M2 e2 => ?_⟩
  obtain ⟨r2, F2, -⟩ := h.step ⟨by decide, by decide⟩ ⟨by decide, by decide, by decide⟩ e2
  exact ⟨⟨(r2.1 _ _).1, r2, F2⟩, r2.xe.1⟩
theorem r_MM_state1 (h : RI Nt9 M a) : Ci G y_MM_state1 d [vr a] M (fun r M' => rQ Nt9 M a r M' ∧ r = Nt9.2.2.2.2.2.2.2.1.2.1) := by
  refine k_MM_state1 h.1 ⟨h.2.1.1.1, fun M2 e2 => ?_⟩
  obtain ⟨r2, F2, -⟩ := h.step ⟨by decide, by decide⟩ ⟨by decide, by decide, by decide⟩ e2
  exact ⟨⟨(r2.1 _ _).1, r2, F2⟩, r2.xe.2.1.1⟩
theorem r_MM_states (h : RI Nt9 M a) : Ci G y_MM_states d [vr a] M (fun r M' => rQ Nt9 M a r M' ∧ r = ((Nt9.2.2.2.2.2.2.2.2.1.length : Nat) : Int)) := by
  refine k_MM_states h.1 ⟨h.2.1.1.1, fun M2 e2 => ?_⟩
  obtain ⟨r2, F2, -⟩ := h.step ⟨by decide, by decide⟩ ⟨by decide, by decide, by decide⟩ e2
  exact ⟨⟨(r2.1 _ _).1, r2, F2⟩, r2.xe.2.2.1⟩
/-- what items answers -/
def itq (i : tI9) (l : Int) : Int := if i.1 = 0 then -1 else if l = 0 then i.2.1 else if l = 1 then i.2.2.1 else if l = 2 then i.2.2.2.1 else -1
theorem r_MM_items1 {l : Int} (hl : i32 l) (h : RI Nt9 M a) : Ci G y_MM_items1 d [vr a, vi l] M (fun r M' => rQ Nt9 M a r M' ∧ r = itq Nt9.2.2 l) := by
  refine k_MM_items1 h.1 hl ⟨h.2.1.1.1, fun M2 e2 => ?_⟩
  obtain ⟨r2, F2, -⟩ := h.step ⟨by decide, by decide⟩ ⟨by decide, by decide, by decide⟩ e2
  have k9 := (r2.2.1.gp r2.2.1.g9).1
  refine ⟨fun _ => ⟨fun _ => k9, fun _ => ⟨fun _ => k9, fun _ _ => k9⟩⟩, fun v e => ⟨⟨?_, r2, F2⟩, ?_⟩⟩
  · rw [e]
    (repeat' split) <;> first | exact (r2.1 _ _).1 | exact ⟨by decide, by decide⟩
  · obtain ⟨-, -, -, -, -, x3, -, -, -, fl, -⟩ := r2
    unfold itq
    by_cases z : mI M2 a 11 = 0
    · rw [e, if_pos z, ← fl, if_pos z]
    · obtain ⟨_, _, _, _, _, _, _, -, -, -, -, -, -, q1, q2, q3, -⟩ := x3 z
      rw [e, if_neg z, q1, q2, q3, ← fl, if_neg z]
theorem r_MM_isState {l : Int} (hl : i32 l) (h : RI Nt9 M a) : Ci G y_MM_isState d [vr a, vi l] M (fun r M' => rQ Nt9 M a r M' ∧ (r ≠ 0 → 0 ≤ l ∧ l < mI M' a 29)) := by
  refine k_MM_isState h.1 hl ⟨h.2.1.1.1, fun M2 e2 v e => ?_⟩
  obtain ⟨r2, F2, -⟩ := h.step ⟨by decide, by decide⟩ ⟨by decide, by decide, by decide⟩ e2
  by_cases y : l < 0 ∨ mI M2 a 29 ≤ l
  · rw [if_pos y] at e
    exact ⟨⟨by rw [e]; exact ⟨by decide, by decide⟩, r2, F2⟩, fun z => absurd e z⟩
  · rw [if_neg y] at e
    exact ⟨⟨by rw [e]; exact ⟨by decide, by decide⟩, r2, F2⟩, fun _ => by omega⟩
end PUB
end
section
/-! The reference's public methods that read the tables and call the solver. -/
section PUC
variable {G : mG} {d a s n k w : Nat} {M M' M2 : mM} {S : Nat → Prop} {Nt9 : tP9}
theorem rQ.one {l : Int} (h : RI Nt9 M' a) (F : FX M a M') (hl : i32 l) : rQ Nt9 M a l M' := ⟨hl, h, F⟩
theorem RI.n5 (h : RI Nt9 M a) : 0 ≤ mI M a 29 ∧ mI M a 29 ≤ 512 := h.2.2.2.1
theorem r_MM_isCommand {l1 l2 : Int} (i1 : i32 l1) (i2 : i32 l2) (h : RI Nt9 M a) : Ci G y_MM_isCommand (d + 1) [vr a, vi l1, vi l2] M (fun r M' => rQ Nt9 M a r M' ∧ (r ≠ 0 → (0 ≤ l1 ∧ l1 < mI M' a 29) ∧ 0 ≤ l2 ∧ l2 < mI M' (a + 108) l1.toNat)) := by
  refine k_MM_isCommand h.1 i1 i2 ⟨h.2.1.1.1, (r_MM_isState i1 h).mono (fun x M1 q => ?_)⟩
  obtain ⟨⟨ix, r1, F1⟩, hx⟩ := q
  have b := r1.n5
  have A := r1.2.1.pl4
  rw [r1.2.1.pl3.2.2.2.1]
  refine ⟨ix, r1.1, fun y _ => ⟨r1.2.1.1.1, A.2.2.2.1, by rw [A.2.2.2.2]; have := hx y; omega⟩, fun v e => ?_⟩
  by_cases y : x = 0 ∨ l2 < 0 ∨ mI M1 (a + 108) l1.toNat ≤ l2
  · rw [if_pos y] at e
    exact ⟨⟨by rw [e]; exact ⟨by decide, by decide⟩, r1, F1⟩, fun z => absurd e z⟩
  · rw [if_neg y] at e
    exact ⟨⟨by rw [e]; exact ⟨by decide, by decide⟩, r1, F1⟩, fun _ => ⟨hx (by omega), by omega, by omega⟩⟩
/-- a command's place -/
theorem RI.cm {l1 l2 : Int} (h : RI Nt9 M a) (q1 : 0 ≤ l1 ∧ l1 < mI M a 29) (q2 : 0 ≤ l2) (q3 : l2 < mI M (a + 108) l1.toNat) : ∃ j : Nat, mI M (a + 107) l1.toNat + l2 = j ∧ (j : Int) < ln M (a + 109) ∧ ln M (a + 111) = ln M (a + 109) ∧ ln M (a + 113) = ln M (a + 109) ∧ 0 ≤ nt M (a + 111) j ∧ 0 ≤ nt M (a + 113) j ∧ nt M (a + 111) j + nt M (a + 113) j ≤ 4096 ∧ l2 < mny M (a + 117) l1.toNat := by
  obtain ⟨x1, x2, x3, x4⟩ := (h.2.2.2.2.2.2.1 (by omega)).2
  have y := x1 l1.toNat (by omega)
  refine ⟨(mI M (a + 107) l1.toNat + l2).toNat, by omega, by omega, x2, x3, ?_⟩
  have z := x4 (mI M (a + 107) l1.toNat + l2).toNat (by omega)
  exact ⟨z.1, z.2.1, z.2.2, by omega⟩
theorem r_MM_command {l1 l2 : Int} (i1 : i32 l1) (i2 : i32 l2) (h : RI Nt9 M a) : Ci G y_MM_command (d + 2) [vr a, vi l1, vi l2] M (rQ Nt9 M a) := by
  refine k_MM_command h.1 i1 i2 ⟨h.2.1.1.1, (r_MM_isCommand i1 i2 h).mono (fun x M1 q => ?_)⟩
  obtain ⟨⟨ix, r1, F1⟩, hx⟩ := q
  have b := r1.n5
  have w := r1.2.1
  refine ⟨ix, r1.1, fun _ => ⟨⟨by decide, by decide⟩, r1, F1⟩, fun y => ?_⟩
  obtain ⟨q1, q2, q3⟩ := hx y
  obtain ⟨j, e, j1, j2, j3, -⟩ := r1.cm q1 q2 q3
  have A := w.pl4
  rw [w.pl3.2.2.1, w.pl3.2.2.2.2.1, e]
  have hN := w.nu (p := a + 109) (nums_o (by decide))
  refine ⟨w.1.1, A.2.2.1.1, by rw [A.2.2.1.2]; omega, hN.1, (s_MN_at r1.1 hN j1).mono (fun z M2 q2 => ?_)⟩
  obtain ⟨e2, e3⟩ := q2
  subst e2
  have iz : i32 z := by rw [e3]; exact (r1.1 _ _).1
  exact ⟨iz, r1.1, iz, r1, F1⟩
theorem r_MM_character {l : Int} (hl : i32 l) (h : RI Nt9 M a) : Ci G y_MM_character d [vr a, vi l] M (rQ Nt9 M a) := by
  refine k_MM_character h.1 hl ⟨h.2.1.1.1, fun M2 e2 => ?_⟩
  obtain ⟨r2, F2, -⟩ := h.step ⟨by decide, by decide⟩ ⟨by decide, by decide, by decide⟩ e2
  have b := r2.2.2.2.2.2.2.2
  have B := r2.2.1.pl6
  rw [r2.2.1.pl5.2]
  refine ⟨fun y1 y2 => ⟨B.2.2.2.1, by rw [B.2.2.2.2]; omega⟩, fun v e => ⟨?_, r2, F2⟩⟩
  rw [e]
  split
  · exact ⟨by decide, by decide⟩
  · exact (r2.1 _ _).1
/-- the solver and its number of states -/
theorem RI.sv (h : RI Nt9 M a) : Sv M (a + 117) (mI M a 29).toNat := h.2.2.2.2.1
theorem r_MM_solve (h : RI Nt9 M a) : Ci G y_MM_solve (d + 11) [vr a] M (fun r M' => ∃ n1 : tP9, (i32 r ∧ RI n1 M' a ∧ FR M a M') ∧ ((Nt9.2.2.2.2.2.2.2.2.1 = [] ∧ n1 = Nt9 ∧ mI M' a 0 = 1) ∨ (Nt9.2.2.2.2.2.2.2.2.1 ≠ [] ∧ n1 = (Nt9.1, Nt9.2.1, kn9 Nt9.2.2 (if r = 0 then 1 else 0)) ∧ mI M' a 0 = 0 ∧ kdT Nt9.2.2.2.2.2.2.2.2.2 ∧ svA9 Nt9.2.2.2.2.2.2.2.2.2 r))) := by
  have l29 := h.xe.2.2.1
  obtain ⟨F, hF⟩ := fall_ex
  refine k_MM_solve h.1 ⟨h.2.1.1.1, fun v e M2 e2 => ?_⟩
  have iv : i32 v := by rw [e]; split <;> exact ⟨by decide, by decide⟩
  obtain ⟨r2, F2, f2⟩ := h.step iv ⟨by decide, by decide, by decide⟩ e2
  have z2 : mI M2 a 0 = v := by rw [f2, if_pos rfl]
  rw [r2.2.1.pl3.2.2.2.2.2.2.2.2]
  refine ⟨fun u => ⟨r2.sv.1.1, (s_MS_solve hF r2.1 r2.sv).mono (fun x M3 q => ?_)⟩, fun u => ⟨Nt9, ⟨⟨by decide, by decide⟩, r2, F2.1⟩, Or.inl ?_⟩⟩
  · obtain ⟨⟨o, f, S3, hx⟩, hv, hk⟩ := q
    obtain ⟨r3, F3, a3⟩ := r2.solv o f (fun x z => Or.inl z) S3 hk
    have ix : i32 x := i32s (by omega) (by omega)
    have ne : Nt9.2.2.2.2.2.2.2.2.1 ≠ [] := fun z => by
      rw [z2, e] at u
      rw [z] at l29
      rw [if_pos (by rw [l29]; rfl)] at u
      exact absurd u (by decide)
    obtain ⟨W, -, -, w3, w4⟩ := r2.xe.2.2.2.2 ne
    refine ⟨ix, o, _, ⟨ix, r3, F2.1.trans F3⟩, Or.inr ⟨ne, rfl, ?_, w4, hv _ w3 w4⟩⟩
    rw [a3, z2, e]
    refine if_neg (fun z => ne ?_)
    rw [l29] at z
    exact List.length_eq_zero_iff.mp (by omega)
  · have z0 : mI M a 29 = 0 := Classical.byContradiction (fun z => u (by rw [z2, e, if_neg z]; decide))
    rw [l29] at z0
    exact ⟨List.length_eq_zero_iff.mp (by omega), rfl, by rw [z2, e, if_pos (by rw [l29]; exact z0)]⟩
theorem r_MM_judge {l : Int} (hl : i32 l) (h : RI Nt9 M a) : Ci G y_MM_judge (d + 11) [vr a, vi l] M (rQ Nt9 M a) := by
  obtain ⟨F, hF⟩ := fall_ex
  refine k_MM_judge h.1 hl ⟨⟨fun _ => h.2.1.1.1, fun _ _ => h.2.1.1.1⟩, fun v e => ⟨h.2.1.1.1, fun M2 e2 => ?_⟩⟩
  have iv : i32 v := by rw [e]; (repeat' split) <;> exact ⟨by decide, by decide⟩
  obtain ⟨r2, F2, f2⟩ := h.step iv ⟨by decide, by decide, by decide⟩ e2
  rw [r2.2.1.pl3.2.2.2.2.2.2.2.2]
  refine ⟨fun q => ⟨r2.sv.1.1, (s_MS_judge hF ?_ r2.1 r2.sv).mono (fun x M3 q => ?_)⟩, fun _ => ⟨⟨by decide, by decide⟩, r2, F2⟩⟩
  · rw [f2, if_pos rfl, e] at q
    by_cases y1 : l = 1
    · exact Or.inl y1
    · by_cases y2 : l = 2
      · exact Or.inr y2
      · rw [if_neg y1, if_neg y2] at q
        omega
  · obtain ⟨⟨o, f, S3, hx⟩, hk⟩ := q
    obtain ⟨r3, F3, -⟩ := r2.sol o f (fun x z => Or.inl z) S3 hk
    have ix : i32 x := i32s (by omega) (by omega)
    exact ⟨ix, o, ix, r3, F2.trans F3⟩
theorem r_MM_within {l : Int} (hl : i32 l) (h : RI Nt9 M a) : Ci G y_MM_within (d + 8) [vr a, vi l] M (fun r M' => rQ Nt9 M a r M' ∧ ((¬ (0 ≤ l ∧ l ≤ 32) ∧ mI M' a 0 = 1) ∨ ((0 ≤ l ∧ l ≤ 32) ∧ Nt9.2.2.2.2.2.2.2.2.1 = [] ∧ mI M' a 0 = 2) ∨ ((0 ≤ l ∧ l ≤ 32) ∧ Nt9.2.2.2.2.2.2.2.2.1 ≠ [] ∧ mI M' a 0 = 0 ∧ anA9 Nt9.2.2.2.2.2.2.2.2.2 l.toNat r))) := by
  have l29 := h.xe.2.2.1
  refine k_MM_within h.1 hl ⟨fun _ _ => h.2.1.1.1, fun v e => ⟨h.2.1.1.1, fun M2 e2 => ?_⟩⟩
  have iv : i32 v := by rw [e]; (repeat' split) <;> exact ⟨by decide, by decide⟩
  obtain ⟨r2, F2, f2⟩ := h.step iv ⟨by decide, by decide, by decide⟩ e2
  have z2 : mI M2 a 0 = v := by rw [f2, if_pos rfl]
  rw [r2.2.1.pl3.2.2.2.2.2.2.2.2]
  refine ⟨fun q => ?_, fun q => ⟨⟨⟨by decide, by decide⟩, r2, F2⟩, ?_⟩⟩
  rotate_left
  · rw [z2]
    rw [z2] at q
    by_cases y1 : l < 0
    · rw [if_pos y1] at e
      exact Or.inl ⟨fun z => by omega, e⟩
    · by_cases y2 : l ≤ 32
      · by_cases y3 : mI M a 29 = 0
        · rw [if_neg y1, if_pos y2, if_pos y3] at e
          rw [l29] at y3
          exact Or.inr (Or.inl ⟨⟨by omega, y2⟩, List.length_eq_zero_iff.mp (by omega), e⟩)
        · rw [if_neg y1, if_pos y2, if_neg y3] at e
          omega
      · rw [if_neg y1, if_neg y2] at e
        exact Or.inl ⟨fun z => y2 z.2, e⟩
  have lb : 0 ≤ l ∧ l ≤ 32 := by
    rw [f2, if_pos rfl, e] at q
    by_cases y1 : l < 0
    · rw [if_pos y1] at q
      omega
    · by_cases y2 : l ≤ 32
      · omega
      · rw [if_neg y1, if_neg y2] at q
        omega
  have y3 : mI M a 29 ≠ 0 := fun y3 => by
    rw [z2, e, if_neg (by omega), if_pos lb.2, if_pos y3] at q
    exact absurd q (by decide)
  have v0 : v = 0 := by rw [e, if_neg (by omega), if_pos lb.2, if_neg y3]
  have ne : Nt9.2.2.2.2.2.2.2.2.1 ≠ [] := fun z => by
    rw [z] at l29
    exact y3 l29
  refine ⟨r2.sv.1.1, (s_MS_within lb.1 lb.2 r2.1 r2.sv).mono (fun x M3 q => ?_)⟩
  obtain ⟨W, -, -, w3, w4⟩ := r2.xe.2.2.2.2 ne
  obtain ⟨⟨o, f, S3, hx⟩, hk, hw⟩ := q
  obtain ⟨r3, F3, a3⟩ := r2.sol o f (fun x z => Or.inl z) S3 hk
  have ix : i32 x := i32s (by omega) (by omega)
  exact ⟨ix, o, ⟨ix, r3, F2.trans F3⟩, Or.inr (Or.inr ⟨lb, ne, by rw [a3, z2, v0], hw _ w3⟩)⟩
end PUC
end
