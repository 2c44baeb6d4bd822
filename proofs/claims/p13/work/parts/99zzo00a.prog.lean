/-! The class's program tells the game: where the orders of its rules lie. -/
/-- the orders of words; r the names that are known -/
def LfC (W nq : Nat → Int) (sm : Nat → Nat → Prop) (n : Nat) (r : List nm9) (ec : Nat → Int × Int) : Prop := (∀ k, n ≤ k → ec k = (3, 0)) ∧ ∀ k, k < n → (W k = 2 → ec k = (3, nq k)) ∧ (W k = 12 → ec k = (3, 1)) ∧ (W k = 13 → ec k = (3, 0)) ∧ (W k = 1 → ∀ l1 e l2, r = l1 ++ e :: l2 → sm e.1 k → (∀ e', e' ∈ l1 → ¬ sm e'.1 k) → ec k = (srt9 e.2.1, if e.2.1 = 3 then ((vcn l1 : Nat) : Int) else ((rcn l1 : Nat) : Int)))
/-- a rule's orders begin at s -/
def RuC (M : mM) (O P L : Nat) (W pl nq : Nat → Int) (sm : Nat → Nat → Prop) (n : Nat) (ns : Nat → Int) (ef : Nat → Nat) (nms : List nm9) (i j s : Nat) : Prop := ∃ (r l : List nm9) (ec : Nat → Int × Int) (e : Nat), nms = r ++ l ∧ Eo W 6 i j ∧ j ≤ n ∧ (fl W (E9 sm r 0) pl 0 i j).1 = 0 ∧ LfC W nq sm n r ec ∧ (∀ x, x < rcn r → ns x = 7 → ef x < s) ∧ Cd W ec pl (mI M O) (mI M P) 0 0 0 i j s e ∧ e < L ∧ mI M O e = 0
/-- the orders of sets: the var, its rule from i to j, the word whose place a fault tells; Φ what the words' orders are -/
def Scw (Φ : (Nat → Int × Int) → Prop) (w pl : Nat → Int) (O P : Nat → Int) : List (Nat × Nat × Nat × Nat) → Nat → Nat → Prop
  | [], s, e => s = e
  | q :: r, s, e => ∃ (a : Nat) (ec : Nat → Int × Int), Φ ec ∧ Cd w ec pl O P 0 0 0 q.2.1 q.2.2.1 s a ∧ O a = 43 ∧ P a = pl q.2.2.2 * 16 + (q.1 : Int) ∧ Scw Φ w pl O P r (a + 1) e
theorem Scw.le {Φ : (Nat → Int × Int) → Prop} {w pl O P : Nat → Int} : ∀ (l : List (Nat × Nat × Nat × Nat)) {s e : Nat}, Scw Φ w pl O P l s e → s ≤ e
  | [], _, _, h => Nat.le_of_eq h
  | q :: r, s, e, h => by
    obtain ⟨a, ec, -, c1, -, -, c2⟩ := h
    have l1 := c1.lt
    have l2 := Scw.le r c2
    omega
theorem Scw.cg {Φ : (Nat → Int × Int) → Prop} {w pl A B A' B' : Nat → Int} : ∀ (l : List (Nat × Nat × Nat × Nat)) {s e : Nat}, Scw Φ w pl A B l s e → (∀ t, s ≤ t → t < e → A' t = A t ∧ B' t = B t) → Scw Φ w pl A' B' l s e
  | [], s, e, h, _ => h
  | q :: r, s, e, h, c => by
    obtain ⟨a, ec, hφ, c1, c2, c3, c4⟩ := h
    have l1 := c1.lt
    have l2 := Scw.le r c4
    exact ⟨a, ec, hφ, c1.cg (fun t t1 t2 => c t t1 (by omega)), by rw [(c a (by omega) (by omega)).1]; exact c2, by rw [(c a (by omega) (by omega)).2]; exact c3, Scw.cg r c4 (fun t t1 t2 => c t (by omega) t2)⟩
/-- one set more -/
theorem Scw.add {Φ : (Nat → Int × Int) → Prop} {w pl O P : Nat → Int} {q : Nat × Nat × Nat × Nat} {a : Nat} {ec : Nat → Int × Int} (hφ : Φ ec) : ∀ (l : List (Nat × Nat × Nat × Nat)) {s e : Nat}, Scw Φ w pl O P l s e → Cd w ec pl O P 0 0 0 q.2.1 q.2.2.1 e a → O a = 43 → P a = pl q.2.2.2 * 16 + (q.1 : Int) → Scw Φ w pl O P (l ++ [q]) s (a + 1)
  | [], s, e, h, c1, c2, c3 => by
    have h : s = e := h
    subst h
    exact ⟨a, ec, hφ, c1, c2, c3, rfl⟩
  | q' :: r, s, e, h, c1, c2, c3 => by
    obtain ⟨a', ec', hφ', d1, d2, d3, d4⟩ := h
    exact ⟨a', ec', hφ', d1, d2, d3, Scw.add hφ r d4 c1 c2 c3⟩
/-- the orders of a branch's sets begin at s -/
def SeC (M : mM) (O P L V : Nat) (W pl nq : Nat → Int) (sm : Nat → Nat → Prop) (n : Nat) (ns : Nat → Int) (ef : Nat → Nat) (nms : List nm9) (l : List (Nat × Nat × Nat × Nat)) (s : Nat) : Prop := ∃ (r l' : List nm9) (e : Nat), nms = r ++ l' ∧ (∀ q, q ∈ l → Eo W 6 q.2.1 q.2.2.1 ∧ q.2.2.1 ≤ n ∧ (fl W (E9 sm r 0) pl 0 q.2.1 q.2.2.1).1 = 0 ∧ q.1 < V ∧ 0 ≤ pl q.2.2.2 ∧ pl q.2.2.2 ≤ 16384) ∧ (∀ x, x < rcn r → ns x = 7 → ef x < s) ∧ Scw (LfC W nq sm n r) W pl (mI M O) (mI M P) l s e ∧ e < L ∧ mI M O e = 0
/-- consts and formulas lie in the program -/
def FmC (M : mM) (p O P L : Nat) (W pl nq : Nat → Int) (sm : Nat → Nat → Prop) (N n : Nat) (ns : Nat → Int) (sf ef : Nat → Nat) (nms : List nm9) : Prop := ∀ l1 e l2, nms = l1 ++ e :: l2 → e.2.1 ≠ 3 → ns (rcn l1) = srt9 e.2.1 ∧ (e.2.1 = 1 → e.2.2.2 = (0, mI M (p + 6) (rcn l1), mI M (p + 7) (rcn l1)) ∧ 1 ≤ mI M (p + 7) (rcn l1) ∧ mI M (p + 7) (rcn l1) < 1000000000) ∧ (e.2.1 = 2 → mI M (p + 8) (rcn l1) = ((sf (rcn l1) : Nat) : Int) ∧ sf (rcn l1) < ef (rcn l1) ∧ ef (rcn l1) < L ∧ mI M O (ef (rcn l1)) = 0 ∧ (∀ y, y < rcn l1 → ns y = 7 → ef y < sf (rcn l1)) ∧ ∃ ec, LfC W nq sm n l1 ec ∧ Cd W ec pl (mI M O) (mI M P) 0 0 0 (e.1 + 2) (nxq W 34 N e.1) (sf (rcn l1)) (ef (rcn l1)))
/-- the vars' ranges are sound -/
def VrO (nms : List nm9) (lo hi : Nat → Int) : Prop := ∀ l1 e l2, nms = l1 ++ e :: l2 → e.2.1 = 3 → ((lo (vcn l1)).natAbs ≤ 999999999 ∧ (hi (vcn l1)).natAbs ≤ 999999999) ∧ (e.2.2.1 = 1 → lo (vcn l1) = 0 ∧ hi (vcn l1) = 1)
/-- a command in the program -/
def CmC (M : mM) (p O P L V : Nat) (W pl nq : Nat → Int) (sm : Nat → Nat → Prop) (n : Nat) (ns : Nat → Int) (ef : Nat → Nat) (nms : List nm9) (c : Nat) (cm : cm9) : Prop := mI M (p + 9) c = cm.1 ∧ (cm.1 = 1 ∨ cm.1 = 2) ∧ mI M (p + 10) c = cm.2.1 ∧ (∃ s : Nat, mI M (p + 11) c = ((s : Nat) : Int) ∧ RuC M O P L W pl nq sm n ns ef nms cm.2.2.1.1 cm.2.2.1.2 s) ∧ ∃ u v : Nat, mI M (p + 12) c = ((u : Nat) : Int) ∧ mI M (p + 12) (c + 1) = ((v : Nat) : Int) ∧ (u ≤ v ∧ v ≤ u + 8 ∧ v ≤ 480) ∧ cm.2.2.2.length = v - u ∧ ∀ (b : Nat) (x : br9), cm.2.2.2[b]? = some x → mI M (p + 13) (u + b) = x.1 ∧ (∃ s : Nat, mI M (p + 14) (u + b) = ((s : Nat) : Int) ∧ RuC M O P L W pl nq sm n ns ef nms x.2.1.1 x.2.1.2 s) ∧ ∃ s : Nat, mI M (p + 15) (u + b) = ((s : Nat) : Int) ∧ SeC M O P L V W pl nq sm n ns ef nms x.2.2 s
/-- the program tells the game: its target, its commands -/
def PGx (M : mM) (p O P L V cnt : Nat) (W pl nq : Nat → Int) (sm : Nat → Nat → Prop) (n : Nat) (ns : Nat → Int) (ef : Nat → Nat) (nms : List nm9) (tg : Nat × Nat) (cms : List cm9) : Prop := VrO nms (mI M (p + 3)) (mI M (p + 4)) ∧ SgO (mI M (p + 5)) nms ∧ (∃ s : Nat, mI M p 11 = ((s : Nat) : Int) ∧ RuC M O P L W pl nq sm n ns ef nms tg.1 tg.2 s) ∧ cms.length = cnt ∧ ∀ (c : Nat) (cm : cm9), cms[c]? = some cm → CmC M p O P L V W pl nq sm n ns ef nms c cm
section PRG
variable {p O P L L' V n N : Nat} {M0 M M' : mM} {ns ns' : Nat → Int} {sf ef ef' : Nat → Nat} {W pl nq : Nat → Int} {sm : Nat → Nat → Prop} {nms : List nm9}
theorem FmC.cg (h : FmC M0 p O P L W pl nq sm N n ns sf ef nms) (e6 : mI M (p + 6) = mI M0 (p + 6)) (e7 : mI M (p + 7) = mI M0 (p + 7)) (e8 : mI M (p + 8) = mI M0 (p + 8)) (eO : mI M O = mI M0 O) (eP : mI M P = mI M0 P) : FmC M p O P L W pl nq sm N n ns sf ef nms := by
  unfold FmC
  rw [e6, e7, e8, eO, eP]
  exact h
theorem srt_7 {s : Nat} (h : srt9 s = 7) : s = 2 := by
  unfold srt9 at h
  by_cases y : s = 1
  · rw [if_pos y] at h; exact absurd h (by decide)
  · rw [if_neg y] at h
    by_cases y2 : s = 2
    · exact y2
    · rw [if_neg y2] at h; exact absurd h (by decide)
/-- code is the same below L -/
def cdE (O P L : Nat) (M M' : mM) : Prop := ∀ i, i < L → mI M' O i = mI M O i ∧ mI M' P i = mI M P i
theorem RuC.step {i j s : Nat} {l9 : List nm9} (h : RuC M O P L W pl nq sm n ns ef nms i j s) (c : cdE O P L M M') (hL : L ≤ L') (e : ∀ x, x < rcn nms → ns' x = ns x ∧ ef' x = ef x) : RuC M' O P L' W pl nq sm n ns' ef' (nms ++ l9) i j s := by
  obtain ⟨r, l, ec, e9, u1, u2, u3, u4, u5, u6, u7, u8, u9⟩ := h
  have rl : rcn nms = rcn r + rcn l := by rw [u1, rcn_app]
  exact ⟨r, l ++ l9, ec, e9, by rw [u1, List.append_assoc], u2, u3, u4, u5, fun x hx h7 => by
    rw [(e x (by omega)).1] at h7
    rw [(e x (by omega)).2]
    exact u6 x hx h7, u7.cg (fun t _ t2 => c t (by omega)), by omega, by rw [(c e9 (by omega)).1]; exact u9⟩
theorem SeC.step {l9 : List nm9} {V' s : Nat} {l : List (Nat × Nat × Nat × Nat)} (h : SeC M O P L V W pl nq sm n ns ef nms l s) (c : cdE O P L M M') (hL : L ≤ L') (hV : V ≤ V') (e : ∀ x, x < rcn nms → ns' x = ns x ∧ ef' x = ef x) : SeC M' O P L' V' W pl nq sm n ns' ef' (nms ++ l9) l s := by
  obtain ⟨r, l', e9, u1, u2, u6, u7, u8, u9⟩ := h
  have rl : rcn nms = rcn r + rcn l' := by rw [u1, rcn_app]
  exact ⟨r, l' ++ l9, e9, by rw [u1, List.append_assoc], fun q hq => ⟨(u2 q hq).1, (u2 q hq).2.1, (u2 q hq).2.2.1, by have := (u2 q hq).2.2.2.1; omega, (u2 q hq).2.2.2.2⟩, fun x hx h7 => by
    rw [(e x (by omega)).1] at h7
    rw [(e x (by omega)).2]
    exact u6 x hx h7, Scw.cg l u7 (fun t _ t2 => c t (by omega)), by omega, by rw [(c e9 (by omega)).1]; exact u9⟩
end PRG
