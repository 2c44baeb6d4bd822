/-! The class's reader of texts: the program tells the game so far. -/
/-- the vars' ranges and inits -/
def VlC (M : mM) (p : Nat) (nms : List nm9) (vl : List (Int × Int × Int)) : Prop := vl.length = vcn nms ∧ (∀ (v : Nat) (x : Int × Int × Int), vl[v]? = some x → mI M (p + 3) v = x.1 ∧ mI M (p + 4) v = x.2.1 ∧ mI M (p + 5) v = x.2.2 ∧ (x.1.natAbs ≤ 999999999 ∧ x.2.1.natAbs ≤ 999999999) ∧ x.1 ≤ x.2.2 ∧ x.2.2 ≤ x.2.1) ∧ ∀ l1 e l2, nms = l1 ++ e :: l2 → e.2.1 = 3 → e.2.2.1 = 1 → ∀ x, vl[vcn l1]? = some x → x.1 = 0 ∧ x.2.1 = 1
/-- the program tells the game so far -/
def CGm (M : mM) (p O P : Nat) (W pl nq : Nat → Int) (sm : Nat → Nat → Prop) (Nn n : Nat) (s : st9) (g : gm9) : Prop := ∃ (L : Nat) (ns : Nat → Int) (sf ef : Nat → Nat), mI M p 2 = ((L : Nat) : Int) ∧ NmO W pl sm Nn n s.1 ∧ FmC M p O P L W pl nq sm Nn n ns sf ef s.1 ∧ (∀ x, x < rcn s.1 → ns x = 7 → ef x < L) ∧ VlC M p s.1 g.1 ∧ ((g.2.1 = none → s.2.1.2.2.2 = 0) ∧ ∀ tg, g.2.1 = some tg → ∃ sT : Nat, mI M p 11 = ((sT : Nat) : Int) ∧ RuC M O P L W pl nq sm n ns ef s.1 tg.1 tg.2 sT) ∧ g.2.2.length = s.2.1.2.2.1 ∧ ∀ (c : Nat) (cm : cm9), g.2.2[c]? = some cm → CmC M p O P L (vcn s.1) W pl nq sm n ns ef s.1 c cm
section TXW
variable {p O P L L' V V' n Nn : Nat} {M0 M M' M1 : mM} {ns ns' : Nat → Int} {sf sf' ef ef' : Nat → Nat} {W pl nq : Nat → Int} {sm : Nat → Nat → Prop} {nms : List nm9} {e9 : nm9} {s s' : st9} {g : gm9}
theorem app_sp {l1 l2 : List nm9} {e : nm9} (h : nms ++ [e9] = l1 ++ e :: l2) : (l1 = nms ∧ e = e9 ∧ l2 = []) ∨ ∃ l2', l2 = l2' ++ [e9] ∧ nms = l1 ++ e :: l2' := by
  rcases List.eq_nil_or_concat l2 with y | ⟨l, b, y⟩
  · subst y
    obtain ⟨a1, a2⟩ := List.append_inj' h rfl
    refine Or.inl ⟨a1.symm, ?_, rfl⟩
    exact (List.cons.inj a2).1.symm
  · rw [List.concat_eq_append] at y
    subst y
    have h : nms ++ [e9] = (l1 ++ e :: l) ++ [b] := by rw [h]; simp
    obtain ⟨a1, a2⟩ := List.append_inj' h rfl
    exact Or.inr ⟨l, by rw [(List.cons.inj a2).1], a1⟩
/-- names so far -/
theorem NmO.add (h : NmO W pl sm Nn n nms) (h1 : 1 ≤ e9.2.1 ∧ e9.2.1 ≤ 3) (h2 : e9.2.2.1 = 0 ∨ e9.2.2.1 = 1) (h3 : e9.2.1 = 1 → vgd e9.2.2.1 e9.2.2.2) (h4 : e9.2.1 = 2 → Eo W 6 (e9.1 + 2) (nxq W 34 Nn e9.1) ∧ nxq W 34 Nn e9.1 ≤ n ∧ (fl W (E9 sm nms 0) pl 0 (e9.1 + 2) (nxq W 34 Nn e9.1)).1 = 0 ∧ e9.2.2.1 = kdq W (E9 sm nms 0) 0 (e9.1 + 2) (nxq W 34 Nn e9.1)) : NmO W pl sm Nn n (nms ++ [e9]) := fun l1 e l2 he => by
  rcases app_sp he with ⟨a, b, -⟩ | ⟨l2', -, b⟩
  · subst a
    subst b
    exact ⟨h1, h2, h3, h4⟩
  · exact h l1 e l2' b
theorem CmC.step {c : Nat} {cm : cm9} {l9 : List nm9} (h : CmC M p O P L V W pl nq sm n ns ef nms c cm) (e : ∀ i, 9 ≤ i → i ≤ 15 → mI M' (p + i) = mI M (p + i)) (cd : cdE O P L M M') (hL : L ≤ L') (hV : V ≤ V') (ne : ∀ x, x < rcn nms → ns' x = ns x ∧ ef' x = ef x) : CmC M' p O P L' V' W pl nq sm n ns' ef' (nms ++ l9) c cm := by
  obtain ⟨h1, h2, h3, ⟨sg, h4, h5⟩, u, v, h6, h7, h8, h9, h10⟩ := h
  refine ⟨by rw [e 9 (by omega) (by omega)]; exact h1, h2, by rw [e 10 (by omega) (by omega)]; exact h3, ⟨sg, by rw [e 11 (by omega) (by omega)]; exact h4, h5.step cd hL ne⟩, u, v, by rw [e 12 (by omega) (by omega)]; exact h6, by rw [e 12 (by omega) (by omega)]; exact h7, h8, h9, fun b x hb => ?_⟩
  obtain ⟨a1, ⟨s1, a2, a3⟩, s2, a4, a5⟩ := h10 b x hb
  exact ⟨by rw [e 13 (by omega) (by omega)]; exact a1, ⟨s1, by rw [e 14 (by omega) (by omega)]; exact a2, a3.step cd hL ne⟩, s2, by rw [e 15 (by omega) (by omega)]; exact a4, a5.step cd hL hV ne⟩
/-- consts and formulas so far -/
theorem FmC.add (h : FmC M p O P L W pl nq sm Nn n ns sf ef nms) (hL : L ≤ L') (cd : cdE O P L M M') (e6 : ∀ j, j < rcn nms → mI M' (p + 6) j = mI M (p + 6) j ∧ mI M' (p + 7) j = mI M (p + 7) j ∧ mI M' (p + 8) j = mI M (p + 8) j) (ne : ∀ x, x < rcn nms → ns' x = ns x ∧ sf' x = sf x ∧ ef' x = ef x) (hn : e9.2.1 ≠ 3 → ns' (rcn nms) = srt9 e9.2.1 ∧ (e9.2.1 = 1 → e9.2.2.2 = (0, mI M' (p + 6) (rcn nms), mI M' (p + 7) (rcn nms)) ∧ 1 ≤ mI M' (p + 7) (rcn nms) ∧ mI M' (p + 7) (rcn nms) < 1000000000) ∧ (e9.2.1 = 2 → mI M' (p + 8) (rcn nms) = ((sf' (rcn nms) : Nat) : Int) ∧ sf' (rcn nms) < ef' (rcn nms) ∧ ef' (rcn nms) < L' ∧ mI M' O (ef' (rcn nms)) = 0 ∧ (∀ y, y < rcn nms → ns' y = 7 → ef' y < sf' (rcn nms)) ∧ ∃ ec, LfC W nq sm n nms ec ∧ Cd W ec pl (mI M' O) (mI M' P) 0 0 0 (e9.1 + 2) (nxq W 34 Nn e9.1) (sf' (rcn nms)) (ef' (rcn nms)))) : FmC M' p O P L' W pl nq sm Nn n ns' sf' ef' (nms ++ [e9]) := fun l1 e l2 he e3 => by
  rcases app_sp he with ⟨a, b, -⟩ | ⟨l2', -, b⟩
  · subst a
    subst b
    exact hn e3
  · have rl : rcn nms = rcn l1 + rcn (e :: l2') := by rw [b, rcn_app]
    have r1 : rcn (e :: l2') = rcn l2' + 1 := by
      show rcn l2' + (if e.2.1 = 3 then 0 else 1) = _
      rw [if_neg e3]
    have xl : rcn l1 < rcn nms := by omega
    obtain ⟨f1, f2, f3⟩ := h l1 e l2' b e3
    obtain ⟨n1, n2, n3⟩ := ne _ xl
    obtain ⟨g6, g7, g8⟩ := e6 _ xl
    refine ⟨by rw [n1]; exact f1, fun y => by rw [g6, g7]; exact f2 y, fun y => ?_⟩
    obtain ⟨k1, k2, k3, k4, k5, ec, k6, k7⟩ := f3 y
    rw [n2, n3]
    exact ⟨by rw [g8]; exact k1, k2, by omega, by rw [(cd _ k3).1]; exact k4, fun y' hy h7 => by
      obtain ⟨m1, -, m3⟩ := ne y' (by omega)
      rw [m1] at h7
      rw [m3]
      exact k5 y' hy h7, ec, k6, k7.cg (fun t _ t2 => cd t (by omega))⟩
end TXW
