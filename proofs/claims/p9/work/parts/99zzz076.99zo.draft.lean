section
/-! The reference: what is known of a game's rules, variables and commands. -/
/-- a value of a kind -/
def vr9 (t A B : Int) : vrs := (0, A, if t = 1 then 1 else B)
abbrev pm (M : mM) (g : Nat) : Nat → Int := nt M (g + 3)
/-- where the formulas' trees end; the text -/
abbrev Eg9 : Type := (Nat → Nat) × gW9
/-- numbers, and how names are resolved; r the names that are known -/
def Nvq (ww nq : Nat → Int) (sm : Nat → Nat → Prop) (r : List nm9) (nv : Nat → Int) : Prop := (∀ k, ww k = 2 → nv k = nq k) ∧ ∀ k, ww k = 1 → ∀ l1 e l2, r = l1 ++ e :: l2 → sm e.1 k → (∀ e', e' ∈ l1 → ¬ sm e'.1 k) → nv k = if e.2.1 = 3 then 100 + ((vcn l1 : Nat) : Int) else ((rcn l1 : Nat) : Int)
/-- other names, another game, the same words -/
def gWs (γ : gW9) (nms : List nm9) (gm : gm9) : gW9 := (γ.1, γ.2.1, γ.2.2.1, γ.2.2.2.1, γ.2.2.2.2.1, nms, gm)
section DF
variable {a g R W C Z T R' W' T' : Nat} {M M' : mM} {E E' : Nat → Nat}
/-- n is the root of a rule of type t, whose formulas lie before it -/
def Rt (M : mM) (g R W T : Nat) (E : Nat → Nat) (n t : Int) : Prop := ∃ n' b f e : Nat, n = (n' : Int) ∧ b ≤ R ∧ (∀ r : Nat, r < b → mI M (g + 13) r ≠ 0 → E r ≤ n') ∧ Ty (nme True M g b W) (tn M g) M g f 0 n' e (fun _ => t) ∧ e ≤ T
/-- the constants' values -/
def Cn (M : mM) (g R : Nat) : Prop := ∀ r : Nat, r < R → mI M (g + 13) r = 0 → vok (tn M g r) (mL M (g + 16) r) (mL M (g + 17) r)
/-- the variables' ranges -/
def Vr (M : mM) (g W : Nat) : Prop := ∀ v : Nat, v < W → (mI M (g + 18) v ≠ 0 → mI M (g + 19) v = 0 ∧ mI M (g + 20) v = 1) ∧ mI M (g + 19) v ≤ mI M (g + 21) v ∧ mI M (g + 21) v ≤ mI M (g + 20) v ∧ -1000000000 < mI M (g + 19) v ∧ mI M (g + 20) v < 1000000000 ∧ (mI M (g + 18) v = 0 ∨ mI M (g + 18) v = 1)
/-- a branch -/
def Bc (M : mM) (g R W T : Nat) (E : Nat → Nat) (Z x : Nat) : Prop := Rt M g R W T E (mI M (g + 26) x) 0 ∧ 0 ≤ mI M (g + 28) x ∧ 0 ≤ mI M (g + 29) x ∧ mI M (g + 28) x + mI M (g + 29) x ≤ Z
/-- a command -/
def Cc (M : mM) (g R W T : Nat) (E : Nat → Nat) (Z c : Nat) : Prop := Rt M g R W T E (mI M (g + 24) c) 1 ∧ 0 ≤ mI M (g + 25) c ∧ mI M (g + 25) c ≤ 8 ∧ ∀ b : Nat, (b : Int) < mI M (g + 25) c → Bc M g R W T E Z (8 * c + b)
/-- n is the root of the rule of the words i to j - 1 -/
def Rtw (γ : gW9) (M : mM) (g R W T : Nat) (Er : Nat → Nat) (n t : Int) (i j : Nat) : Prop := ∃ (r l : List nm9) (n' b f e : Nat) (nv : Nat → Int), γ.2.2.2.2.2.1 = r ++ l ∧ (n = (n' : Int) ∧ b ≤ R ∧ (∀ x : Nat, x < b → mI M (g + 13) x ≠ 0 → Er x ≤ n') ∧ Ty (nme True M g b W) (tn M g) M g f 0 n' e (fun _ => t) ∧ e ≤ T) ∧ (Eo γ.1 6 i j ∧ j < γ.2.2.2.2.1 ∧ (fl γ.1 (E9 γ.2.2.2.1 r 0) γ.2.1 0 i j).1 = 0) ∧ Nvq γ.1 γ.2.2.1 γ.2.2.2.1 r nv ∧ Td γ.1 γ.2.1 nv (so M g) (pm M g) (va M g) (fp M g) (np M g) 0 0 i j n' e
/-- a branch in pure words -/
def RBw (γ : gW9) (M : mM) (g R W T : Nat) (Er : Nat → Nat) (Z x : Nat) (br : br9) : Prop := mI M (g + 27) x = br.1 ∧ Rtw γ M g R W T Er (mI M (g + 26) x) 0 br.2.1.1 br.2.1.2 ∧ mI M (g + 29) x = ((br.2.2.length : Nat) : Int) ∧ ∃ fs : Nat, mI M (g + 28) x = (fs : Int) ∧ fs + br.2.2.length ≤ Z ∧ ∀ (i : Nat) (q : Nat × Nat × Nat × Nat), br.2.2[i]? = some q → nt M (g + 30) (fs + i) = ((q.1 : Nat) : Int) ∧ nt M (g + 32) (fs + i) = γ.2.1 q.2.2.2 ∧ q.1 < W ∧ Rtw γ M g R W T Er (nt M (g + 34) (fs + i)) (tn M g (100 + (q.1 : Int))) q.2.1 q.2.2.1
/-- a command in pure words -/
def RCw (γ : gW9) (M : mM) (g R W T : Nat) (Er : Nat → Nat) (Z c : Nat) (cm : cm9) : Prop := ((cm.1 = 1 ∧ mI M (g + 22) c = 0) ∨ (cm.1 = 2 ∧ mI M (g + 22) c ≠ 0)) ∧ mI M (g + 23) c = cm.2.1 ∧ Rtw γ M g R W T Er (mI M (g + 24) c) 1 cm.2.2.1.1 cm.2.2.1.2 ∧ (mI M (g + 25) c = ((cm.2.2.2.length : Nat) : Int) ∧ cm.2.2.2.length ≤ 8) ∧ ∀ (b : Nat) (x : br9), cm.2.2.2[b]? = some x → RBw γ M g R W T Er Z (8 * c + b) x
/-- consts and formulas in pure words -/
def RNw (γ : gW9) (M : mM) (g R : Nat) (Er : Nat → Nat) : Prop := ∀ l1 e l2, γ.2.2.2.2.2.1 = l1 ++ e :: l2 → e.2.1 ≠ 3 → rcn l1 < R ∧ (e.2.1 = 1 → mI M (g + 13) (rcn l1) = 0 ∧ e.2.2.2 = vr9 (tn M g (rcn l1)) (mL M (g + 16) (rcn l1)) (mL M (g + 17) (rcn l1))) ∧ (e.2.1 = 2 → mI M (g + 13) (rcn l1) ≠ 0 ∧ ∃ (n : Nat) (nv : Nat → Int), mI M (g + 15) (rcn l1) = (n : Int) ∧ Eo γ.1 6 (e.1 + 2) (nxq γ.1 34 γ.2.2.2.2.1 e.1) ∧ Nvq γ.1 γ.2.2.1 γ.2.2.2.1 l1 nv ∧ Td γ.1 γ.2.1 nv (so M g) (pm M g) (va M g) (fp M g) (np M g) 0 0 (e.1 + 2) (nxq γ.1 34 γ.2.2.2.2.1 e.1) n (Er (rcn l1)))
/-- the draft is the game -/
def RGq (γ : gW9) (M : mM) (g R W C Z T : Nat) (Er : Nat → Nat) (tg : Int) : Prop := (rcn γ.2.2.2.2.2.1 = R ∧ vcn γ.2.2.2.2.2.1 = W) ∧ RNw γ M g R Er ∧ (γ.2.2.2.2.2.2.1.length = W ∧ ∀ (v : Nat) (x : Int × Int × Int), γ.2.2.2.2.2.2.1[v]? = some x → mI M (g + 19) v = x.1 ∧ mI M (g + 20) v = x.2.1 ∧ mI M (g + 21) v = x.2.2) ∧ ((tg = -1 ∧ γ.2.2.2.2.2.2.2.1 = none) ∨ ∃ ij, γ.2.2.2.2.2.2.2.1 = some ij ∧ Rtw γ M g R W T Er tg 1 ij.1 ij.2) ∧ γ.2.2.2.2.2.2.2.2.length = C ∧ ∀ (c : Nat) (cm : cm9), γ.2.2.2.2.2.2.2.2[c]? = some cm → RCw γ M g R W T Er Z c cm
/-- the sets -/
def Sx (M : mM) (g R W T : Nat) (E : Nat → Nat) (Z : Nat) : Prop := ∀ i : Nat, i < Z → 0 ≤ nt M (g + 30) i ∧ nt M (g + 30) i < W ∧ Rt M g R W T E (nt M (g + 34) i) (tn M g (100 + nt M (g + 30) i))
def Dg (M : mM) (g R W C Z T : Nat) (E : Eg9) (tg : Int) : Prop := (R ≤ 60 ∧ W ≤ 12 ∧ C ≤ 60) ∧ Cn M g R ∧ Fm M g R W T E.1 ∧ Vr M g W ∧ (∀ c : Nat, c < C → Cc M g R W T E.1 Z c) ∧ Sx M g R W T E.1 Z ∧ (tg = -1 ∨ Rt M g R W T E.1 tg 1) ∧ RGq E.2 M g R W C Z T E.1 tg
/-- the nodes and the names' types are the same so far -/
def Gn (M : mM) (g R W T : Nat) (M' : mM) : Prop := (∀ n, n < T → so M' g n = so M g n ∧ va M' g n = va M g n ∧ fp M' g n = fp M g n ∧ np M' g n = np M g n ∧ pm M' g n = pm M g n) ∧ (∀ r : Nat, r < R → mI M' (g + 13) r = mI M (g + 13) r ∧ mI M' (g + 14) r = mI M (g + 14) r) ∧ (∀ v : Nat, v < W → mI M' (g + 18) v = mI M (g + 18) v)
theorem Gn.tr {r : Nat} (h : Gn M g R W T M') (hR : R ≤ 60) (hr : r < R) : tn M' g r = tn M g r := by
  unfold tn
  rw [if_neg (show ¬ (100 : Int) ≤ (r : Int) by omega), if_neg (show ¬ (100 : Int) ≤ (r : Int) by omega), Int.toNat_natCast, (h.2.1 r hr).2]
theorem Gn.tv {v : Int} (h : Gn M g R W T M') (h1 : 100 ≤ v) (h2 : v < 100 + W) : tn M' g v = tn M g v := by
  unfold tn
  rw [if_pos h1, if_pos h1, h.2.2 _ (by omega)]
theorem Gn.tnm {v : Int} {b : Nat} (h : Gn M g R W T M') (hR : R ≤ 60) (hv : nme True M g b W v) (hb : b ≤ R) : tn M' g v = tn M g v := by
  rcases hv with ⟨h1, h2, -⟩ | ⟨-, h1, h2⟩
  · have := h.tr (r := v.toNat) hR (by omega)
    rw [show ((v.toNat : Nat) : Int) = v by omega] at this
    exact this
  · exact h.tv h1 h2
theorem nme.tt {v : Int} {b : Nat} (h : nme True M g b W v) : nme True M' g b W v := by
  rcases h with ⟨h1, h2, -⟩ | h
  · exact Or.inl ⟨h1, h2, Or.inl trivial⟩
  · exact Or.inr h
theorem nme.wu {v : Int} {b : Nat} (h : nme True M g b W v) (hW : W ≤ W') : nme True M g b W' v := by
  rcases h with ⟨h1, h2, h3⟩ | ⟨-, h1, h2⟩
  · exact Or.inl ⟨h1, h2, Or.inl trivial⟩
  · exact Or.inr ⟨trivial, h1, by omega⟩
theorem Gn.ty {b f n e : Nat} {u : Nat → Int} (h : Gn M g R W T M') (hR : R ≤ 60) (hb : b ≤ R) (he : e ≤ T) (t : Ty (nme True M g b W) (tn M g) M g f 0 n e u) : Ty (nme True M' g b W) (tn M' g) M' g f 0 n e u :=
  (t.mono (nm' := nme True M' g b W) (w' := tn M' g) (fun v hv => ⟨hv.tt, h.tnm hR hv hb⟩)).fr (fun k _ k2 => ⟨(h.1 k (by omega)).1, (h.1 k (by omega)).2.1, (h.1 k (by omega)).2.2.1⟩) (fun k _ k2 => (h.1 k (by omega)).2.2.2.1) (fun z => absurd rfl z)
theorem Rt.gn {n t : Int} (h : Rt M g R W T E n t) (k : Gn M g R W T M') (hR : R ≤ 60) : Rt M' g R W T E n t := by
  obtain ⟨n', b, f, e, h1, h2, h3, h4, h5⟩ := h
  exact ⟨n', b, f, e, h1, h2, fun r hr z => h3 r hr (by rw [← (k.2.1 r (by omega)).1]; exact z), k.ty hR h2 h5 h4, h5⟩
theorem Rt.up {n t : Int} (h : Rt M g R W T E n t) (hR : R ≤ R') (hW : W ≤ W') (hT : T ≤ T') (hE : ∀ r, r < R → E' r = E r) : Rt M g R' W' T' E' n t := by
  obtain ⟨n', b, f, e, h1, h2, h3, h4, h5⟩ := h
  exact ⟨n', b, f, e, h1, by omega, fun r hr z => by rw [hE r (by omega)]; exact h3 r hr z, h4.mono (fun v hv => ⟨hv.wu hW, rfl⟩), by omega⟩
theorem Fm.gn (h : Fm M g R W T E) (k : Gn M g R W T M') (hR : R ≤ 60) (h15 : ∀ r : Nat, r < R → mI M' (g + 15) r = mI M (g + 15) r) : Fm M' g R W T E := by
  intro r hr z
  rw [(k.2.1 r hr).1] at z
  obtain ⟨n, f, h1, h2, h3, h4⟩ := h r hr z
  refine ⟨n, f, by rw [h15 r hr]; exact h1, h2, fun r' hr' z' => h3 r' hr' (by rw [← (k.2.1 r' (by omega)).1]; exact z'), ?_⟩
  rw [k.tr hR hr]
  exact k.ty hR (by omega) h2 h4
theorem Fm.up (h : Fm M g R W T E) (hW : W ≤ W') (hT : T ≤ T') (hE : ∀ r, r < R → E' r = E r) : Fm M g R W' T' E' := by
  intro r hr z
  obtain ⟨n, f, h1, h2, h3, h4⟩ := h r hr z
  refine ⟨n, f, h1, by rw [hE r hr]; omega, fun r' hr' z' => by rw [hE r' (by omega)]; exact h3 r' hr' z', ?_⟩
  rw [hE r hr]
  exact h4.mono (fun v hv => ⟨hv.wu hW, rfl⟩)
/-- the draft so far is the same -/
def Ge (M : mM) (g R W C Z T : Nat) (M' : mM) : Prop := Gn M g R W T M' ∧ (∀ r : Nat, r < R → mI M' (g + 15) r = mI M (g + 15) r ∧ mL M' (g + 16) r = mL M (g + 16) r ∧ mL M' (g + 17) r = mL M (g + 17) r) ∧ (∀ v : Nat, v < W → mI M' (g + 19) v = mI M (g + 19) v ∧ mI M' (g + 20) v = mI M (g + 20) v ∧ mI M' (g + 21) v = mI M (g + 21) v) ∧ (∀ c : Nat, c < C → mI M' (g + 24) c = mI M (g + 24) c ∧ mI M' (g + 25) c = mI M (g + 25) c ∧ ∀ b : Nat, b < 8 → mI M' (g + 26) (8 * c + b) = mI M (g + 26) (8 * c + b) ∧ mI M' (g + 28) (8 * c + b) = mI M (g + 28) (8 * c + b) ∧ mI M' (g + 29) (8 * c + b) = mI M (g + 29) (8 * c + b) ∧ mI M' (g + 27) (8 * c + b) = mI M (g + 27) (8 * c + b) ∧ mI M' (g + 22) c = mI M (g + 22) c ∧ mI M' (g + 23) c = mI M (g + 23) c) ∧ ∀ i : Nat, i < Z → nt M' (g + 30) i = nt M (g + 30) i ∧ nt M' (g + 34) i = nt M (g + 34) i ∧ nt M' (g + 32) i = nt M (g + 32) i
theorem Bc.gn {x : Nat} (h : Bc M g R W T E Z x) (k : Gn M g R W T M') (hR : R ≤ 60) (e : mI M' (g + 26) x = mI M (g + 26) x ∧ mI M' (g + 28) x = mI M (g + 28) x ∧ mI M' (g + 29) x = mI M (g + 29) x) : Bc M' g R W T E Z x := by
  unfold Bc at h ⊢
  rw [e.1, e.2.1, e.2.2]
  exact ⟨h.1.gn k hR, h.2⟩
theorem Cc.gn {c : Nat} (h : Cc M g R W T E Z c) (k : Gn M g R W T M') (hR : R ≤ 60) (e : mI M' (g + 24) c = mI M (g + 24) c ∧ mI M' (g + 25) c = mI M (g + 25) c ∧ ∀ b : Nat, b < 8 → mI M' (g + 26) (8 * c + b) = mI M (g + 26) (8 * c + b) ∧ mI M' (g + 28) (8 * c + b) = mI M (g + 28) (8 * c + b) ∧ mI M' (g + 29) (8 * c + b) = mI M (g + 29) (8 * c + b) ∧ mI M' (g + 27) (8 * c + b) = mI M (g + 27) (8 * c + b) ∧ mI M' (g + 22) c = mI M (g + 22) c ∧ mI M' (g + 23) c = mI M (g + 23) c) : Cc M' g R W T E Z c := by
  unfold Cc at h ⊢
  rw [e.1, e.2.1]
  obtain ⟨h1, h2, h3, h4⟩ := h
  exact ⟨h1.gn k hR, h2, h3, fun b hb => (h4 b hb).gn k hR ⟨(e.2.2 b (by omega)).1, (e.2.2 b (by omega)).2.1, (e.2.2 b (by omega)).2.2.1⟩⟩
theorem Bc.up {x Z' : Nat} (h : Bc M g R W T E Z x) (hR : R ≤ R') (hW : W ≤ W') (hT : T ≤ T') (hZ : Z ≤ Z') (hE : ∀ r, r < R → E' r = E r) : Bc M g R' W' T' E' Z' x := by
  obtain ⟨h1, h2, h3, h4⟩ := h
  exact ⟨h1.up hR hW hT hE, h2, h3, by omega⟩
theorem Cc.up {c Z' : Nat} (h : Cc M g R W T E Z c) (hR : R ≤ R') (hW : W ≤ W') (hT : T ≤ T') (hZ : Z ≤ Z') (hE : ∀ r, r < R → E' r = E r) : Cc M g R' W' T' E' Z' c := by
  obtain ⟨h1, h2, h3, h4⟩ := h
  exact ⟨h1.up hR hW hT hE, h2, h3, fun b hb => (h4 b hb).up hR hW hT hZ hE⟩
theorem Rtw.gn {γ : gW9} {n t : Int} {i j : Nat} (h : Rtw γ M g R W T E n t i j) (k : Gn M g R W T M') (hR : R ≤ 60) : Rtw γ M' g R W T E n t i j := by
  obtain ⟨r, l, n', b, f, e, nv, h1, ⟨h2, h3, h4, h5, h6⟩, h7, h8, h9⟩ := h
  exact ⟨r, l, n', b, f, e, nv, h1, ⟨h2, h3, fun x hx z => h4 x hx (by rw [← (k.2.1 x (by omega)).1]; exact z), k.ty hR h3 h6 h5, h6⟩, h7, h8, h9.cg (Or.inl ⟨rfl, h7.1⟩) (fun x _ x2 => ⟨(k.1 x (by omega)).1, (k.1 x (by omega)).2.2.2.2, (k.1 x (by omega)).2.1, (k.1 x (by omega)).2.2.1⟩) (fun x _ x2 => (k.1 x (by omega)).2.2.2.1) (fun u => absurd u (by decide))⟩
theorem Rtw.up {γ : gW9} {n t : Int} {i j : Nat} (h : Rtw γ M g R W T E n t i j) (hR : R ≤ R') (hW : W ≤ W') (hT : T ≤ T') (hE : ∀ r, r < R → E' r = E r) : Rtw γ M g R' W' T' E' n t i j := by
  obtain ⟨r, l, n', b, f, e, nv, h1, ⟨h2, h3, h4, h5, h6⟩, h7, h8, h9⟩ := h
  exact ⟨r, l, n', b, f, e, nv, h1, ⟨h2, by omega, fun x hx z => by rw [hE x (by omega)]; exact h4 x hx z, h5.mono (fun v hv => ⟨hv.wu hW, rfl⟩), by omega⟩, h7, h8, h9⟩
theorem Rtw.gw {γ : gW9} {n t : Int} {i j : Nat} {l9 : List nm9} {gm : gm9} (h : Rtw γ M g R W T E n t i j) : Rtw (gWs γ (γ.2.2.2.2.2.1 ++ l9) gm) M g R W T E n t i j := by
  obtain ⟨r, l, n', b, f, e, nv, h1, h2, h7, h8, h9⟩ := h
  exact ⟨r, l ++ l9, n', b, f, e, nv, by show γ.2.2.2.2.2.1 ++ l9 = r ++ (l ++ l9); rw [h1, List.append_assoc], h2, h7, h8, h9⟩
theorem RBw.ge {γ : gW9} {Z' c b : Nat} {br : br9} (h : RBw γ M g R W T E Z (8 * c + b) br) (k : Ge M g R W C Z' T M') (hR : R ≤ 60) (hc : c < C) (hb : b < 8) (hZ : Z ≤ Z') : RBw γ M' g R W T E Z (8 * c + b) br := by
  obtain ⟨h1, h2, h3, fs, h4, h5, h6⟩ := h
  obtain ⟨e1, e2, e3, e4, -⟩ := (k.2.2.2.1 c hc).2.2 b hb
  unfold RBw
  rw [e1, e2, e3, e4]
  refine ⟨h1, h2.gn k.1 hR, h3, fs, h4, h5, fun i q hq => ?_⟩
  obtain ⟨q1, q2, q3, q4⟩ := h6 i q hq
  have hl := (List.getElem?_eq_some_iff.mp hq).1
  obtain ⟨s1, s2, s3⟩ := k.2.2.2.2 (fs + i) (by omega)
  rw [s1, s2, s3, k.1.tv (by omega) (by omega)]
  exact ⟨q1, q2, q3, q4.gn k.1 hR⟩
theorem RBw.up {γ : gW9} {x Z' : Nat} {br : br9} (h : RBw γ M g R W T E Z x br) (hR : R ≤ R') (hW : W ≤ W') (hT : T ≤ T') (hZ : Z ≤ Z') (hE : ∀ r, r < R → E' r = E r) : RBw γ M g R' W' T' E' Z' x br := by
  obtain ⟨h1, h2, h3, fs, h4, h5, h6⟩ := h
  exact ⟨h1, h2.up hR hW hT hE, h3, fs, h4, by omega, fun i q hq => ⟨(h6 i q hq).1, (h6 i q hq).2.1, by have := (h6 i q hq).2.2.1; omega, (h6 i q hq).2.2.2.up hR hW hT hE⟩⟩
theorem RBw.gw {γ : gW9} {x : Nat} {br : br9} {l9 : List nm9} {gm : gm9} (h : RBw γ M g R W T E Z x br) : RBw (gWs γ (γ.2.2.2.2.2.1 ++ l9) gm) M g R W T E Z x br := by
  obtain ⟨h1, h2, h3, fs, h4, h5, h6⟩ := h
  exact ⟨h1, h2.gw, h3, fs, h4, h5, fun i q hq => ⟨(h6 i q hq).1, (h6 i q hq).2.1, (h6 i q hq).2.2.1, (h6 i q hq).2.2.2.gw⟩⟩
theorem RCw.ge {γ : gW9} {c : Nat} {cm : cm9} (h : RCw γ M g R W T E Z c cm) (k : Ge M g R W C Z T M') (hR : R ≤ 60) (hc : c < C) : RCw γ M' g R W T E Z c cm := by
  obtain ⟨h1, h2, h3, h4, h5⟩ := h
  obtain ⟨e1, e2, e3⟩ := k.2.2.2.1 c hc
  obtain ⟨-, -, -, -, e4, e5⟩ := e3 0 (by omega)
  unfold RCw
  rw [e1, e2, e4, e5]
  exact ⟨h1, h2, h3.gn k.1 hR, h4, fun b x hb => (h5 b x hb).ge k hR hc (by have := (List.getElem?_eq_some_iff.mp hb).1; omega) (Nat.le_refl _)⟩
theorem RCw.up {γ : gW9} {c Z' : Nat} {cm : cm9} (h : RCw γ M g R W T E Z c cm) (hR : R ≤ R') (hW : W ≤ W') (hT : T ≤ T') (hZ : Z ≤ Z') (hE : ∀ r, r < R → E' r = E r) : RCw γ M g R' W' T' E' Z' c cm := by
  obtain ⟨h1, h2, h3, h4, h5⟩ := h
  exact ⟨h1, h2, h3.up hR hW hT hE, h4, fun b x hb => (h5 b x hb).up hR hW hT hZ hE⟩
theorem RCw.gw {γ : gW9} {c : Nat} {cm : cm9} {l9 : List nm9} {gm : gm9} (h : RCw γ M g R W T E Z c cm) : RCw (gWs γ (γ.2.2.2.2.2.1 ++ l9) gm) M g R W T E Z c cm := by
  obtain ⟨h1, h2, h3, h4, h5⟩ := h
  exact ⟨h1, h2, h3.gw, h4, fun b x hb => (h5 b x hb).gw⟩
theorem RNw.ge {γ : gW9} (h : RNw γ M g R E) (k : Ge M g R W C Z T M') (hR : R ≤ 60) (hF : ∀ r : Nat, r < R → mI M (g + 13) r ≠ 0 → E r ≤ T) : RNw γ M' g R E := by
  intro l1 e l2 he h3
  obtain ⟨h0, h1, h2⟩ := h l1 e l2 he h3
  refine ⟨h0, fun u => ?_, fun u => ?_⟩
  · obtain ⟨a1, a2⟩ := h1 u
    rw [(k.1.2.1 _ h0).1, k.1.tr hR h0, (k.2.1 _ h0).2.1, (k.2.1 _ h0).2.2]
    exact ⟨a1, a2⟩
  · obtain ⟨a1, n, nv, a2, a3, a4, a5⟩ := h2 u
    rw [(k.1.2.1 _ h0).1, (k.2.1 _ h0).1]
    refine ⟨a1, n, nv, a2, a3, a4, ?_⟩
    have hT := hF _ h0 a1
    exact a5.cg (Or.inl ⟨rfl, a3⟩) (fun x _ x2 => ⟨(k.1.1 x (by omega)).1, (k.1.1 x (by omega)).2.2.2.2, (k.1.1 x (by omega)).2.1, (k.1.1 x (by omega)).2.2.1⟩) (fun x _ x2 => (k.1.1 x (by omega)).2.2.2.1) (fun u => absurd u (by decide))
theorem RGq.ge {γ : gW9} {tg : Int} (h : RGq γ M g R W C Z T E tg) (k : Ge M g R W C Z T M') (hR : R ≤ 60) (hF : ∀ r : Nat, r < R → mI M (g + 13) r ≠ 0 → E r ≤ T) : RGq γ M' g R W C Z T E tg := by
  obtain ⟨h1, h2, ⟨h3, h4⟩, h5, h6, h7⟩ := h
  refine ⟨h1, h2.ge k hR hF, ⟨h3, fun v x hv => ?_⟩, h5.imp (fun u => u) (fun ⟨ij, u1, u2⟩ => ⟨ij, u1, u2.gn k.1 hR⟩), h6, fun c cm hc => (h7 c cm hc).ge k hR (by rw [← h6]; exact (List.getElem?_eq_some_iff.mp hc).1)⟩
  have hl := (List.getElem?_eq_some_iff.mp hv).1
  obtain ⟨e1, e2, e3⟩ := k.2.2.1 v (by omega)
  rw [e1, e2, e3]
  exact h4 v x hv
/-- more nodes, more sets -/
theorem RGq.tz {γ : gW9} {tg : Int} {Z' : Nat} (h : RGq γ M g R W C Z T E tg) (hT : T ≤ T') (hZ : Z ≤ Z') : RGq γ M g R W C Z' T' E tg := by
  obtain ⟨h1, h2, h3, h5, h6, h7⟩ := h
  have r0 := Nat.le_refl R
  have w0 := Nat.le_refl W
  have hE : ∀ r, r < R → E r = E r := fun _ _ => rfl
  exact ⟨h1, h2, h3, h5.imp (fun u => u) (fun ⟨ij, u1, u2⟩ => ⟨ij, u1, u2.up r0 w0 hT hE⟩), h6, fun c cm hc => (h7 c cm hc).up r0 w0 hT hZ hE⟩
theorem app_in {l1 l2 nms : List nm9} {e e0 : nm9} (h : nms ++ [e0] = l1 ++ e :: l2) : (l1 = nms ∧ e = e0 ∧ l2 = []) ∨ ∃ l3, nms = l1 ++ e :: l3 := by
  rcases List.append_eq_append_iff.mp h with ⟨a, h1, h2⟩ | ⟨c, h1, h2⟩
  · cases a with
    | nil =>
      rw [List.nil_append] at h2
      obtain ⟨h3, h4⟩ := List.cons.inj h2
      exact Or.inl ⟨by rw [h1, List.append_nil], h3.symm, h4.symm⟩
    | cons x a =>
      obtain ⟨-, h3⟩ := List.cons.inj h2
      exact absurd (congrArg List.length h3) (by simp)
  · cases c with
    | nil =>
      rw [List.nil_append] at h2
      obtain ⟨h3, h4⟩ := List.cons.inj h2
      exact Or.inl ⟨by rw [h1, List.append_nil], h3, h4⟩
    | cons x c =>
      obtain ⟨h3, h4⟩ := List.cons.inj h2
      exact Or.inr ⟨c, by rw [h1, ← h3]⟩
/-- one more const or formula -/
theorem RGq.ru {γ : gW9} {tg : Int} {e : nm9} (h : RGq γ M g R W C Z T E tg) (hE : ∀ r, r < R → E' r = E r) (h3 : e.2.1 ≠ 3) (hc : e.2.1 = 1 → mI M (g + 13) R = 0 ∧ e.2.2.2 = vr9 (tn M g R) (mL M (g + 16) R) (mL M (g + 17) R)) (hf : e.2.1 = 2 → mI M (g + 13) R ≠ 0 ∧ ∃ (n : Nat) (nv : Nat → Int), mI M (g + 15) R = (n : Int) ∧ Eo γ.1 6 (e.1 + 2) (nxq γ.1 34 γ.2.2.2.2.1 e.1) ∧ Nvq γ.1 γ.2.2.1 γ.2.2.2.1 γ.2.2.2.2.2.1 nv ∧ Td γ.1 γ.2.1 nv (so M g) (pm M g) (va M g) (fp M g) (np M g) 0 0 (e.1 + 2) (nxq γ.1 34 γ.2.2.2.2.1 e.1) n (E' R)) : RGq (gWs γ (γ.2.2.2.2.2.1 ++ [e]) γ.2.2.2.2.2.2) M g (R + 1) W C Z T E' tg := by
  obtain ⟨⟨h0, h0'⟩, h2, h4, h5, h6, h7⟩ := h
  have r0 := Nat.le_succ R
  have w0 := Nat.le_refl W
  have t0 := Nat.le_refl T
  refine ⟨⟨?_, ?_⟩, fun l1 e' l2 he h3' => ?_, h4, h5.imp (fun u => u) (fun ⟨ij, u1, u2⟩ => ⟨ij, u1, (u2.up r0 w0 t0 hE).gw⟩), h6, fun c cm hc' => ((h7 c cm hc').up r0 w0 t0 (Nat.le_refl _) hE).gw⟩
  · show rcn (γ.2.2.2.2.2.1 ++ [e]) = R + 1
    rw [rcn_app, h0]
    show R + (0 + (if e.2.1 = 3 then 0 else 1)) = R + 1
    rw [if_neg h3]
  · show vcn (γ.2.2.2.2.2.1 ++ [e]) = W
    rw [vcn_app, h0']
    show W + (0 + (if e.2.1 = 3 then 1 else 0)) = W
    rw [if_neg h3]
    omega
  · rcases app_in (show γ.2.2.2.2.2.1 ++ [e] = l1 ++ e' :: l2 from he) with ⟨a1, a2, -⟩ | ⟨l3, a1⟩
    · subst a1 a2
      rw [h0]
      exact ⟨by omega, hc, hf⟩
    · obtain ⟨b0, b1, b2⟩ := h2 l1 e' l3 a1 h3'
      refine ⟨by omega, b1, fun u => ?_⟩
      rw [hE _ b0]
      exact b2 u
/-- one more variable -/
theorem RGq.vu {γ : gW9} {tg : Int} {e : nm9} {x : Int × Int × Int} (h : RGq γ M g R W C Z T E tg) (h3 : e.2.1 = 3) (hx : mI M (g + 19) W = x.1 ∧ mI M (g + 20) W = x.2.1 ∧ mI M (g + 21) W = x.2.2) : RGq (gWs γ (γ.2.2.2.2.2.1 ++ [e]) (γ.2.2.2.2.2.2.1 ++ [x], γ.2.2.2.2.2.2.2)) M g R (W + 1) C Z T E tg := by
  obtain ⟨⟨h0, h0'⟩, h2, ⟨h4, h4'⟩, h5, h6, h7⟩ := h
  have r0 := Nat.le_refl R
  have w0 := Nat.le_succ W
  have t0 := Nat.le_refl T
  have hE : ∀ r, r < R → E r = E r := fun _ _ => rfl
  refine ⟨⟨?_, ?_⟩, fun l1 e' l2 he h3' => ?_, ⟨?_, fun v y hv => ?_⟩, h5.imp (fun u => u) (fun ⟨ij, u1, u2⟩ => ⟨ij, u1, (u2.up r0 w0 t0 hE).gw⟩), h6, fun c cm hc' => ((h7 c cm hc').up r0 w0 t0 (Nat.le_refl _) hE).gw⟩
  · show rcn (γ.2.2.2.2.2.1 ++ [e]) = R
    rw [rcn_app, h0]
    show R + (0 + (if e.2.1 = 3 then 0 else 1)) = R
    rw [if_pos h3]
    rfl
  · show vcn (γ.2.2.2.2.2.1 ++ [e]) = W + 1
    rw [vcn_app, h0']
    show W + (0 + (if e.2.1 = 3 then 1 else 0)) = W + 1
    rw [if_pos h3]
  · rcases app_in (show γ.2.2.2.2.2.1 ++ [e] = l1 ++ e' :: l2 from he) with ⟨a1, a2, -⟩ | ⟨l3, a1⟩
    · rw [a2] at h3'
      exact absurd h3 h3'
    · exact h2 l1 e' l3 a1 h3'
  · show (γ.2.2.2.2.2.2.1 ++ [x]).length = W + 1
    rw [List.length_append, h4]
    rfl
  · have hv : (γ.2.2.2.2.2.2.1 ++ [x])[v]? = some y := hv
    by_cases c : v < W
    · rw [List.getElem?_append_left (by omega)] at hv
      exact h4' v y hv
    · have hl := (List.getElem?_eq_some_iff.mp hv).1
      rw [List.length_append] at hl
      have ev : v = W := by simp at hl; omega
      subst ev
      rw [List.getElem?_append_right (by omega), h4, Nat.sub_self] at hv
      have : x = y := Option.some.inj hv
      rw [← this]
      exact hx
/-- one more command -/
theorem RGq.cu {γ : gW9} {tg : Int} {cm : cm9} (h : RGq γ M g R W C Z T E tg) (hc : RCw γ M g R W T E Z C cm) : RGq (gWs γ γ.2.2.2.2.2.1 (γ.2.2.2.2.2.2.1, γ.2.2.2.2.2.2.2.1, γ.2.2.2.2.2.2.2.2 ++ [cm])) M g R W (C + 1) Z T E tg := by
  obtain ⟨h1, h2, h4, h5, h6, h7⟩ := h
  refine ⟨h1, h2, h4, h5, ?_, fun c cm' hc' => ?_⟩
  · show (γ.2.2.2.2.2.2.2.2 ++ [cm]).length = C + 1
    rw [List.length_append, h6]
    rfl
  · have hc' : (γ.2.2.2.2.2.2.2.2 ++ [cm])[c]? = some cm' := hc'
    by_cases y : c < C
    · rw [List.getElem?_append_left (by omega)] at hc'
      exact h7 c cm' hc'
    · have hl := (List.getElem?_eq_some_iff.mp hc').1
      rw [List.length_append] at hl
      have ev : c = C := by simp at hl; omega
      subst ev
      rw [List.getElem?_append_right (by omega), h6, Nat.sub_self] at hc'
      have : cm = cm' := Option.some.inj hc'
      rw [← this]
      exact hc
/-- the target -/
theorem RGq.tgu {γ : gW9} {tg tg' : Int} {ij : Nat × Nat} (h : RGq γ M g R W C Z T E tg) (ht : Rtw γ M g R W T E tg' 1 ij.1 ij.2) : RGq (gWs γ γ.2.2.2.2.2.1 (γ.2.2.2.2.2.2.1, some ij, γ.2.2.2.2.2.2.2.2)) M g R W C Z T E tg' := by
  obtain ⟨h1, h2, h4, -, h6, h7⟩ := h
  exact ⟨h1, h2, h4, Or.inr ⟨ij, rfl, ht⟩, h6, h7⟩
end DF
section DG
variable {a g R W C Z T R' W' T' : Nat} {M M' : mM} {E E' : Eg9}
theorem Dg.ge {tg : Int} (h : Dg M g R W C Z T E tg) (k : Ge M g R W C Z T M') : Dg M' g R W C Z T E tg := by
  obtain ⟨hB, h1, h2, h3, h4, h5, h6, hG⟩ := h
  obtain ⟨kn, k1, k2, k3, k4⟩ := k
  refine ⟨hB, fun r hr z => ?_, h2.gn kn hB.1 (fun r hr => (k1 r hr).1), fun v hv => ?_, fun c hc => (h4 c hc).gn kn hB.1 (k3 c hc), fun i hi => ?_, h6.imp (fun z => z) (fun z => z.gn kn hB.1), hG.ge ⟨kn, k1, k2, k3, k4⟩ hB.1 (fun r hr z => by obtain ⟨n, f, q1, q2, -⟩ := h2 r hr z; exact q2)⟩
  · rw [(kn.2.1 r hr).1] at z
    rw [kn.tr hB.1 hr, (k1 r hr).2.1, (k1 r hr).2.2]
    exact h1 r hr z
  · rw [kn.2.2 v hv, (k2 v hv).1, (k2 v hv).2.1, (k2 v hv).2.2]
    exact h3 v hv
  · obtain ⟨s1, s2, s3⟩ := h5 i hi
    rw [(k4 i hi).1, (k4 i hi).2.1]
    refine ⟨s1, s2, ?_⟩
    rw [kn.tv (by omega) (by omega)]
    exact s3.gn kn hB.1
/-- more nodes -/
theorem Dg.tu {tg : Int} (h : Dg M g R W C Z T E tg) (hT : T ≤ T') : Dg M g R W C Z T' E tg := by
  obtain ⟨hB, h1, h2, h3, h4, h5, h6, hG⟩ := h
  have r0 := Nat.le_refl R
  have w0 := Nat.le_refl W
  have hE : ∀ r, r < R → E.1 r = E.1 r := fun _ _ => rfl
  exact ⟨hB, h1, h2.up w0 hT hE, h3, fun c hc => (h4 c hc).up r0 w0 hT (Nat.le_refl Z) hE, fun i hi => ⟨(h5 i hi).1, (h5 i hi).2.1, (h5 i hi).2.2.up r0 w0 hT hE⟩, h6.imp (fun z => z) (fun z => z.up r0 w0 hT hE), hG.tz hT (Nat.le_refl _)⟩
/-- one more rule -/
theorem Dg.ru {tg : Int} (h : Dg M g R W C Z T E tg) (hR : R < 60) (hE : ∀ r, r < R → E'.1 r = E.1 r) (hGn : RGq E'.2 M g (R + 1) W C Z T E'.1 tg) (hc : mI M (g + 13) R = 0 → vok (tn M g R) (mL M (g + 16) R) (mL M (g + 17) R)) (hf : mI M (g + 13) R ≠ 0 → ∃ n f : Nat, mI M (g + 15) R = (n : Int) ∧ E'.1 R ≤ T ∧ (∀ r' : Nat, r' < R → mI M (g + 13) r' ≠ 0 → E'.1 r' ≤ n) ∧ Ty (nme True M g R W) (tn M g) M g f 0 n (E'.1 R) (fun _ => tn M g R)) : Dg M g (R + 1) W C Z T E' tg := by
  obtain ⟨hB, h1, h2, h3, h4, h5, h6, hG⟩ := h
  have r0 := Nat.le_succ R
  have w0 := Nat.le_refl W
  have t0 := Nat.le_refl T
  have f2 := h2.up w0 t0 hE
  refine ⟨⟨by omega, hB.2⟩, fun r hr z => ?_, fun r hr z => ?_, h3, fun c hc => (h4 c hc).up r0 w0 t0 (Nat.le_refl Z) hE, fun i hi => ⟨(h5 i hi).1, (h5 i hi).2.1, (h5 i hi).2.2.up r0 w0 t0 hE⟩, h6.imp (fun z => z) (fun z => z.up r0 w0 t0 hE), hGn⟩
  · by_cases y : r = R
    · rw [y] at z ⊢; exact hc z
    · exact h1 r (by omega) z
  · by_cases y : r = R
    · rw [y] at z ⊢; exact hf z
    · exact f2 r (by omega) z
/-- one more variable -/
theorem Dg.vu {tg : Int} (h : Dg M g R W C Z T E tg) (hW : W < 12) (e1 : E'.1 = E.1) (hGn : RGq E'.2 M g R (W + 1) C Z T E'.1 tg) (hv : (mI M (g + 18) W ≠ 0 → mI M (g + 19) W = 0 ∧ mI M (g + 20) W = 1) ∧ mI M (g + 19) W ≤ mI M (g + 21) W ∧ mI M (g + 21) W ≤ mI M (g + 20) W ∧ -1000000000 < mI M (g + 19) W ∧ mI M (g + 20) W < 1000000000 ∧ (mI M (g + 18) W = 0 ∨ mI M (g + 18) W = 1)) : Dg M g R (W + 1) C Z T E' tg := by
  obtain ⟨hB, h1, h2, h3, h4, h5, h6, hG⟩ := h
  have r0 := Nat.le_refl R
  have w0 := Nat.le_succ W
  have t0 := Nat.le_refl T
  have hE : ∀ r, r < R → E'.1 r = E.1 r := fun _ _ => by rw [e1]
  refine ⟨⟨hB.1, by omega, hB.2.2⟩, h1, h2.up w0 t0 hE, fun v hv' => ?_, fun c hc => (h4 c hc).up r0 w0 t0 (Nat.le_refl Z) hE, fun i hi => ⟨(h5 i hi).1, by have := (h5 i hi).2.1; omega, (h5 i hi).2.2.up r0 w0 t0 hE⟩, h6.imp (fun z => z) (fun z => z.up r0 w0 t0 hE), hGn⟩
  by_cases y : v = W
  · rw [y]; exact hv
  · exact h3 v (by omega)
/-- one more command -/
theorem Dg.cu {tg : Int} (h : Dg M g R W C Z T E tg) (hC : C < 60) (e1 : E'.1 = E.1) (hGn : RGq E'.2 M g R W (C + 1) Z T E'.1 tg) (hc : Cc M g R W T E.1 Z C) : Dg M g R W (C + 1) Z T E' tg := by
  obtain ⟨hB, h1, h2, h3, h4, h5, h6, hG⟩ := h
  refine ⟨⟨hB.1, hB.2.1, by omega⟩, h1, by rw [e1]; exact h2, h3, fun c hc' => ?_, by rw [e1]; exact h5, by rw [e1]; exact h6, hGn⟩
  rw [e1]
  by_cases y : c = C
  · rw [y]; exact hc
  · exact h4 c (by omega)
/-- one more set -/
theorem Dg.zu {tg : Int} (h : Dg M g R W C Z T E tg) (hs : 0 ≤ nt M (g + 30) Z ∧ nt M (g + 30) Z < W ∧ Rt M g R W T E.1 (nt M (g + 34) Z) (tn M g (100 + nt M (g + 30) Z))) : Dg M g R W C (Z + 1) T E tg := by
  obtain ⟨hB, h1, h2, h3, h4, h5, h6, hG⟩ := h
  have hE : ∀ r, r < R → E.1 r = E.1 r := fun _ _ => rfl
  refine ⟨hB, h1, h2, h3, fun c hc => (h4 c hc).up (Nat.le_refl _) (Nat.le_refl _) (Nat.le_refl _) (Nat.le_succ Z) hE, fun i hi => ?_, h6, hG.tz (Nat.le_refl _) (Nat.le_succ _)⟩
  by_cases y : i = Z
  · rw [y]; exact hs
  · exact h5 i (by omega)
theorem Dg.tgu {tg tg' : Int} (h : Dg M g R W C Z T E tg) (e1 : E'.1 = E.1) (hGn : RGq E'.2 M g R W C Z T E'.1 tg') (ht : tg' = -1 ∨ Rt M g R W T E.1 tg' 1) : Dg M g R W C Z T E' tg' := by
  unfold Dg
  rw [e1]
  exact ⟨h.1, h.2.1, h.2.2.1, h.2.2.2.1, h.2.2.2.2.1, h.2.2.2.2.2.1, ht, by rw [← e1]; exact hGn⟩
end DG
end
section
/-! The reference: steps of the draft. -/
section FR
variable {a g R W C Z T N K : Nat} {M M' M2 M3 : mM} {P S : Nat → Prop}
theorem Gn.trans (h : Gn M g R W T M2) (k : Gn M2 g R W T M3) : Gn M g R W T M3 :=
  ⟨fun n hn => ⟨(k.1 n hn).1.trans (h.1 n hn).1, (k.1 n hn).2.1.trans (h.1 n hn).2.1, (k.1 n hn).2.2.1.trans (h.1 n hn).2.2.1, (k.1 n hn).2.2.2.1.trans (h.1 n hn).2.2.2.1, (k.1 n hn).2.2.2.2.trans (h.1 n hn).2.2.2.2⟩, fun r hr => ⟨(k.2.1 r hr).1.trans (h.2.1 r hr).1, (k.2.1 r hr).2.trans (h.2.1 r hr).2⟩, fun v hv => (k.2.2 v hv).trans (h.2.2 v hv)⟩
theorem Ge.trans (h : Ge M g R W C Z T M2) (k : Ge M2 g R W C Z T M3) : Ge M g R W C Z T M3 := by
  obtain ⟨h0, h1, h2, h3, h4⟩ := h
  obtain ⟨k0, k1, k2, k3, k4⟩ := k
  refine ⟨h0.trans k0, fun r hr => ⟨(k1 r hr).1.trans (h1 r hr).1, (k1 r hr).2.1.trans (h1 r hr).2.1, (k1 r hr).2.2.trans (h1 r hr).2.2⟩, fun v hv => ⟨(k2 v hv).1.trans (h2 v hv).1, (k2 v hv).2.1.trans (h2 v hv).2.1, (k2 v hv).2.2.trans (h2 v hv).2.2⟩, fun c hc => ⟨(k3 c hc).1.trans (h3 c hc).1, (k3 c hc).2.1.trans (h3 c hc).2.1, fun b hb => ⟨((k3 c hc).2.2 b hb).1.trans ((h3 c hc).2.2 b hb).1, ((k3 c hc).2.2 b hb).2.1.trans ((h3 c hc).2.2 b hb).2.1, ((k3 c hc).2.2 b hb).2.2.1.trans ((h3 c hc).2.2 b hb).2.2.1, ((k3 c hc).2.2 b hb).2.2.2.1.trans ((h3 c hc).2.2 b hb).2.2.2.1, ((k3 c hc).2.2 b hb).2.2.2.2.1.trans ((h3 c hc).2.2 b hb).2.2.2.2.1, ((k3 c hc).2.2 b hb).2.2.2.2.2.trans ((h3 c hc).2.2 b hb).2.2.2.2.2⟩⟩, fun i hi => ⟨(k4 i hi).1.trans (h4 i hi).1, (k4 i hi).2.1.trans (h4 i hi).2.1, (k4 i hi).2.2.trans (h4 i hi).2.2⟩⟩
theorem Ge.refl : Ge M g R W C Z T M := ⟨⟨fun _ _ => ⟨rfl, rfl, rfl, rfl, rfl⟩, fun _ _ => ⟨rfl, rfl⟩, fun _ _ => rfl⟩, fun _ _ => ⟨rfl, rfl, rfl⟩, fun _ _ => ⟨rfl, rfl, rfl⟩, fun _ _ => ⟨rfl, rfl, fun _ _ => ⟨rfl, rfl, rfl, rfl, rfl, rfl⟩⟩, fun _ _ => ⟨rfl, rfl, rfl⟩⟩
theorem Ge.down {R' W' C' Z' T' : Nat} (h : Ge M g R' W' C' Z' T' M2) (hR : R ≤ R') (hW : W ≤ W') (hC : C ≤ C') (hZ : Z ≤ Z') (hT : T ≤ T') : Ge M g R W C Z T M2 :=
  ⟨⟨fun n hn => h.1.1 n (by omega), fun r hr => h.1.2.1 r (by omega), fun v hv => h.1.2.2 v (by omega)⟩, fun r hr => h.2.1 r (by omega), fun v hv => h.2.2.1 v (by omega), fun c hc => h.2.2.2.1 c (by omega), fun i hi => h.2.2.2.2 i (by omega)⟩
theorem n30 (hg : g = a + 13 ∨ g = a + 49) : g + 30 ∈ nums a := by
  rcases hg with z | z <;> rw [z, Nat.add_assoc] <;> exact nums_o (by decide)
theorem n32 (hg : g = a + 13 ∨ g = a + 49) : g + 32 ∈ nums a := by
  rcases hg with z | z <;> rw [z, Nat.add_assoc] <;> exact nums_o (by decide)
theorem n34 (hg : g = a + 13 ∨ g = a + 49) : g + 34 ∈ nums a := by
  rcases hg with z | z <;> rw [z, Nat.add_assoc] <;> exact nums_o (by decide)
/-- a step that leaves the game's cells and set lists -/
theorem ge_mv (w : Wd M a) (hg : g = a + 13 ∨ g = a + 49) (m : Mv P S M a M') (hin : ∀ q, P q → q ∈ nums a) (h30 : ¬ P (g + 30)) (h34 : ¬ P (g + 34)) (h32 : ¬ P (g + 32)) (hS : ∀ i, 13 ≤ i → i ≤ 29 → ¬ S (g + i)) (hn : ∀ n, n < T → so M' g n = so M g n ∧ va M' g n = va M g n ∧ fp M' g n = fp M g n ∧ np M' g n = np M g n ∧ pm M' g n = pm M g n) : Ge M g R W C Z T M' := by
  have c13 := m.cellL w hin (goffx (i := 13) hg (by decide) (by decide)) (hS 13 (by omega) (by omega))
  have c14 := m.cellL w hin (goffx (i := 14) hg (by decide) (by decide)) (hS 14 (by omega) (by omega))
  have c15 := m.cellL w hin (goffx (i := 15) hg (by decide) (by decide)) (hS 15 (by omega) (by omega))
  have c16 := m.cellL w hin (goffx (i := 16) hg (by decide) (by decide)) (hS 16 (by omega) (by omega))
  have c17 := m.cellL w hin (goffx (i := 17) hg (by decide) (by decide)) (hS 17 (by omega) (by omega))
  have c18 := m.cellL w hin (goffx (i := 18) hg (by decide) (by decide)) (hS 18 (by omega) (by omega))
  have c19 := m.cellL w hin (goffx (i := 19) hg (by decide) (by decide)) (hS 19 (by omega) (by omega))
  have c20 := m.cellL w hin (goffx (i := 20) hg (by decide) (by decide)) (hS 20 (by omega) (by omega))
  have c21 := m.cellL w hin (goffx (i := 21) hg (by decide) (by decide)) (hS 21 (by omega) (by omega))
  have c24 := m.cellL w hin (goffx (i := 24) hg (by decide) (by decide)) (hS 24 (by omega) (by omega))
  have c25 := m.cellL w hin (goffx (i := 25) hg (by decide) (by decide)) (hS 25 (by omega) (by omega))
  have c26 := m.cellL w hin (goffx (i := 26) hg (by decide) (by decide)) (hS 26 (by omega) (by omega))
  have c28 := m.cellL w hin (goffx (i := 28) hg (by decide) (by decide)) (hS 28 (by omega) (by omega))
  have c29 := m.cellL w hin (goffx (i := 29) hg (by decide) (by decide)) (hS 29 (by omega) (by omega))
  have c22 := m.cellL w hin (goffx (i := 22) hg (by decide) (by decide)) (hS 22 (by omega) (by omega))
  have c23 := m.cellL w hin (goffx (i := 23) hg (by decide) (by decide)) (hS 23 (by omega) (by omega))
  have c27 := m.cellL w hin (goffx (i := 27) hg (by decide) (by decide)) (hS 27 (by omega) (by omega))
  have s32 := m.lst (n32 hg) h32
  have s30 := m.lst (n30 hg) h30
  have s34 := m.lst (n34 hg) h34
  exact ⟨⟨hn, fun r _ => ⟨by rw [c13.1], by rw [c14.1]⟩, fun v _ => by rw [c18.1]⟩, fun r _ => ⟨by rw [c15.1], by rw [c16.2], by rw [c17.2]⟩, fun v _ => ⟨by rw [c19.1], by rw [c20.1], by rw [c21.1]⟩, fun c _ => ⟨by rw [c24.1], by rw [c25.1], fun b _ => ⟨by rw [c26.1], by rw [c28.1], by rw [c29.1], by rw [c27.1], by rw [c22.1], by rw [c23.1]⟩⟩, fun i _ => ⟨s30.2.1 i, s34.2.1 i, s32.2.1 i⟩⟩
/-- an int of a cell that belongs to no list -/
theorem mv_cell {x j : Nat} {v : Int} (hv : i32 v) (hO : mOk M) (w : Wd M a) (h0 : a ≤ x) (hx : x < a + 21192 ∧ x ∉ nums a ∧ (∀ q, q ∈ nums a → x ≠ q + 1)) (e : M' = mUI M x j v) : Mv (fun _ => False) (fun y => y = x) M a M' ∧ (∀ y k, mI M' y k = if y = x ∧ k = j then v else mI M y k) ∧ mL M' = mL M := by
  have f : FI (fun y => y = x) M M' := by rw [e]; exact FI.ui rfl
  refine ⟨mv_fi (by rw [e]; exact mOk_UI hO hv) w f (fun y z => by rw [z]; exact ⟨h0, by omega, hx.2.1, hx.2.2⟩), fun y k => by rw [e, mI_UI], f.2.2.2.1⟩
/-- a store beyond what is known -/
theorem ge_st {i j : Nat} {v : Int} (hg : g = a + 13 ∨ g = a + 49) (m : Mv (fun _ => False) (fun y => y = g + i) M a M') (f : ∀ y k, mI M' y k = if y = g + i ∧ k = j then v else mI M y k) (hl : mL M' = mL M) (h0 : i ≤ 15 → R ≤ j) (h1 : 18 ≤ i → i ≤ 21 → W ≤ j) (h2 : 22 ≤ i → i ≤ 25 → C ≤ j) (h3 : 26 ≤ i → 8 * C ≤ j) : Ge M g R W C Z T M' := by
  have no : ∀ q : Nat, ¬ False := fun _ z => z
  have s : ∀ {q}, q ∈ nums a → sameN M M' q := fun hq => m.lst hq (fun z => z)
  refine ⟨⟨fun n _ => ⟨(s (tL_in (q := g + 1) hg (tLk1 g))).2.1 n, (s (tL_in (q := g + 7) hg (tLk7 g))).2.1 n, (s (tL_in (q := g + 9) hg (tLk9 g))).2.1 n, (s (tL_in (q := g + 11) hg (tLk11 g))).2.1 n, (s (tL_in (q := g + 3) hg (tLk3 g))).2.1 n⟩, fun r hr => ⟨?_, ?_⟩, fun v hv => ?_⟩, fun r hr => ⟨?_, by rw [hl], by rw [hl]⟩, fun v hv => ⟨?_, ?_, ?_⟩, fun c hc => ⟨?_, ?_, fun b hb => ⟨?_, ?_, ?_, ?_, ?_, ?_⟩⟩, fun i _ => ⟨(s (n30 hg)).2.1 i, (s (n34 hg)).2.1 i, (s (n32 hg)).2.1 i⟩⟩
  all_goals rw [f, if_neg (fun z => by omega)]
/-- a long beyond what is known -/
theorem ge_sl {i j : Nat} {v : Int} (hg : g = a + 13 ∨ g = a + 49) (m : Mv (fun _ => False) (fun y => y = g + i) M a M') (f : ∀ y k, mL M' y k = if y = g + i ∧ k = j then v else mL M y k) (hl : mI M' = mI M) (h0 : R ≤ j) : Ge M g R W C Z T M' := by
  have s : ∀ {q}, q ∈ nums a → sameN M M' q := fun hq => m.lst hq (fun z => z)
  refine ⟨⟨fun n _ => ⟨(s (tL_in (q := g + 1) hg (tLk1 g))).2.1 n, (s (tL_in (q := g + 7) hg (tLk7 g))).2.1 n, (s (tL_in (q := g + 9) hg (tLk9 g))).2.1 n, (s (tL_in (q := g + 11) hg (tLk11 g))).2.1 n, (s (tL_in (q := g + 3) hg (tLk3 g))).2.1 n⟩, fun r hr => by rw [hl]; exact ⟨rfl, rfl⟩, fun v hv => by rw [hl]⟩, fun r hr => ⟨by rw [hl], ?_, ?_⟩, fun v hv => by rw [hl]; exact ⟨rfl, rfl, rfl⟩, fun c hc => by rw [hl]; exact ⟨rfl, rfl, fun _ _ => ⟨rfl, rfl, rfl, rfl, rfl, rfl⟩⟩, fun i _ => ⟨(s (n30 hg)).2.1 i, (s (n34 hg)).2.1 i, (s (n32 hg)).2.1 i⟩⟩
  all_goals rw [f, if_neg (fun z => by omega)]
/-- the draft's words, names and nodes after such a step -/
theorem Lc.mv (h : Lc M a g N T K) (m : Mv P S M a M') (hin : ∀ q, P q → q ∈ nums a) (hP : ∀ q, P q → ¬ (q = a + 1 ∨ q = a + 3 ∨ q = a + 5 ∨ q = a + 7 ∨ q = a + 9 ∨ q = a + 85 ∨ q = a + 87 ∨ q = a + 89 ∨ q = g + 1 ∨ q = g + 3 ∨ q = g + 5 ∨ q = g + 7 ∨ q = g + 9 ∨ q = g + 11)) (h6 : mI M g 6 ≤ mI M' g 6) (h12 : mI M g 12 ≤ mI M' g 12) (hb : mI M' g 6 ≤ 60 ∧ mI M' g 12 ≤ 12) (h13 : ∀ r : Nat, (r : Int) < mI M g 6 → mI M' (g + 13) r = mI M (g + 13) r) : Lc M' a g N T K := by
  obtain ⟨hO, hx, hnm, hd, h10, hg, hB, hT⟩ := h
  have w := hx.1.1
  have t2 : ¬ P (mR M a 2) := fun z => by
    have := hP _ z
    rcases w.1.2.1 with y | y <;> rw [y.2] at this <;> omega
  have k85 := m.lst (n85 (a := a)) (fun z => hP _ z (by omega))
  have k87 := m.lst (n87 (a := a)) (fun z => hP _ z (by omega))
  have k89 := m.lst (n89 (a := a)) (fun z => hP _ z (by omega))
  refine ⟨m.1, hx.mv m hin (fun z => hP _ z (by omega)) (fun z => hP _ z (by omega)) (fun z => hP _ z (by omega)) t2, ?_, fun q hq => ?_, by rw [m.rfl_a w hin]; exact h10, hg, ⟨by omega, hb.1, by omega, hb.2⟩, hT⟩
  · obtain ⟨n1, n2, n3, n4, n5'⟩ := hnm
    refine ⟨by rw [k85.1]; exact n1, by rw [k87.1]; exact n2, by rw [k89.1]; exact n3, n4, fun k hk => ?_⟩
    rw [k85.2.1, k87.2.1, k89.2.1]
    obtain ⟨p1, p2, p3⟩ := n5' k hk
    refine ⟨p1, by omega, fun z => ?_⟩
    rw [h13 _ (by omega)]
    exact p3 z
  · have hq' : q = g + 1 ∨ q = g + 3 ∨ q = g + 5 ∨ q = g + 7 ∨ q = g + 9 ∨ q = g + 11 := hq
    rw [(m.lst (tL_in hg hq) (fun z => hP _ z (by omega))).1]
    exact hd q hq
/-- what reading items may change -/
abbrev itP (a g : Nat) : Nat → Prop := fun q => q ∈ nums a ∧ ((g + 1 ≤ q ∧ q ≤ g + 34) ∨ (a + 85 ≤ q ∧ q ≤ a + 99))
abbrev itS (a g : Nat) : Nat → Prop := fun x => x = a ∨ (g ≤ x ∧ x ≤ g + 29) ∨ (a + 97 ≤ x ∧ x ≤ a + 104)
def iF (M : mM) (a g : Nat) (M' : mM) : Prop := Mv (itP a g) (itS a g) M a M' ∧ ∀ i, i ≠ 16 → i ≠ 17 → i ≠ 23 → mI M' a i = mI M a i
theorem itP_lt (w : Wd M a) : ∀ q, itP a g q → q < mZ M := fun q hq => w.lt hq.1
theorem iF.refl (hO : mOk M) (w : Wd M a) : iF M a g M := ⟨Mv.refl hO w (itP_lt w), fun _ _ _ _ => rfl⟩
theorem iF.trans (h : iF M a g M2) (k : iF M2 a g M3) : iF M a g M3 := ⟨h.1.trans k.1, fun i i1 i2 i3 => (k.2 i i1 i2 i3).trans (h.2 i i1 i2 i3)⟩
theorem iF.mk (w : Wd M a) (m : Mv P S M a M') (hP : ∀ q, P q → itP a g q) (hS : ∀ x, S x → itS a g x) (hf : ∀ i, i ≠ 16 → i ≠ 17 → i ≠ 23 → mI M' a i = mI M a i) : iF M a g M' := ⟨m.mono hP hS (itP_lt w), hf⟩
theorem EO.it {F : Prop} {R W T : Nat} (w : Wd M a) (h : EO F M a g R W T M') : iF M a g M' := by
  refine iF.mk w h.1 (fun q hq => ⟨by rw [hq]; exact n99, by omega⟩) (fun x hx => ?_) h.2.2
  have : x = a ∨ x = a + 97 ∨ x = a + 98 ∨ x = a + 102 ∨ x = a + 103 ∨ x = a + 104 := hx
  show x = a ∨ (g ≤ x ∧ x ≤ g + 29) ∨ (a + 97 ≤ x ∧ x ≤ a + 104)
  omega
end FR
end
