section
section
/-! The class's reader of texts, exactly: one name more. -/
section TXI
variable {G : mG} {d z r q w T A B D N C n p O P K k a a' s L L1 V F d0 c Ab Be Cm cnt nw Ab0 Be0 Cm0 : Nat} {M0 M M' M1 M2 : mM} {H H1 : Nat → Nat} {ns : Nat → Int} {sf ef : Nat → Nat} {wt : Int} {nms : List nm9}
/-- a name is put down at c -/
def knX (M : mM) (r c v : Nat) (l2 l3 l4 : Int) (M' : mM) : Prop := mI M' r 19 = ((c + 1 : Nat) : Int) ∧ (∀ i, mI M' (r + 6) i = if i = c then (v : Int) else mI M (r + 6) i) ∧ (∀ i, mI M' (r + 7) i = if i = c then l2 else mI M (r + 7) i) ∧ (∀ i, mI M' (r + 8) i = if i = c then l3 else mI M (r + 8) i) ∧ ∀ i, mI M' (r + 9) i = if i = c then l4 else mI M (r + 9) i
theorem x_RR_know {v : Nat} {l2 l3 l4 : Int} (h : RB M z r w T A B D N C n p O P K) (nk : TN M r A n V F ns c) (hv : v < n) (h2 : mI M A v = 2) (i2 : i32 l2) (i3 : i32 l3) (h4 : l4 = 0 ∨ l4 = 1) (hl : (l2 = 5 ∧ 0 ≤ l3 ∧ l3 < V) ∨ ((l2 = 4 ∨ l2 = 7) ∧ 0 ≤ l3 ∧ l3 < F ∧ ns l3.toNat = l2)) : Cv G y_RR_know d [vr r, vi v, vi l2, vi l3, vi l4] M (fun M' => RB M' z r w T A B D N C n p O P K ∧ FI (fun b => r ≤ b ∧ b ≤ r + 9) M M' ∧ (∀ i, i ≠ 19 → mI M' r i = mI M r i) ∧ (∀ i, i ≤ 5 → 1 ≤ i → mI M' (r + i) = mI M (r + i)) ∧ (∃ c', TN M' r A n V F ns c' ∧ c ≤ c') ∧ (c < 72 → knX M r c v l2 l3 l4 M')) := by
  obtain ⟨-, ⟨k0, ⟨-, -, -, -, -, q15, q16, q17, q18⟩, ⟨-, -, -, -, -, kk6, kk7, kk8, kk9⟩, ⟨-, -, -, -, -, nn6, nn7, nn8, nn9⟩⟩, -⟩ := id h
  have hn := h.2.2.2.1.2.2.1
  have hN := h.2.2.2.1.1.2.2.2.2.2.2.1
  obtain ⟨m1, m2, m3⟩ := id nk
  refine k_RR_know h.1 (i32s (by omega) (by omega)) i2 i3 (i32s (by omega) (by omega)) ?_
  rw [q15, nn6, m1, Int.toNat_natCast]
  refine ⟨k0, kk6, i32s (by omega) (by omega), fun y => ⟨h, FI.refl, fun _ _ => rfl, fun _ _ _ => rfl, ⟨c, nk, Nat.le_refl _⟩, fun u => absurd y (by omega)⟩, fun y => ⟨by omega, fun M13 e13 => ?_⟩⟩
  obtain ⟨h13, f13, g13, n13⟩ := rb_tab h (i := 6) (by omega) (by omega) (i32s (by omega) (by omega)) e13
  obtain ⟨-, ⟨k0a, ⟨-, -, -, -, -, -, qa, -⟩, ⟨-, -, -, -, -, -, ka, -⟩, ⟨-, -, -, -, -, -, na, -⟩⟩, -⟩ := id h13
  rw [qa, na, n13 r (by omega), m1, Int.toNat_natCast]
  refine ⟨ka, by omega, fun M17 e17 => ?_⟩
  obtain ⟨h17, f17, g17, n17⟩ := rb_tab h13 (i := 7) (by omega) (by omega) i2 e17
  obtain ⟨-, ⟨k0b, ⟨-, -, -, -, -, -, -, qb, -⟩, ⟨-, -, -, -, -, -, -, kb, -⟩, ⟨-, -, -, -, -, -, -, nb, -⟩⟩, -⟩ := id h17
  rw [qb, nb, n17 r (by omega), n13 r (by omega), m1, Int.toNat_natCast]
  refine ⟨kb, by omega, fun M21 e21 => ?_⟩
  obtain ⟨h21, f21, g21, n21⟩ := rb_tab h17 (i := 8) (by omega) (by omega) i3 e21
  obtain ⟨-, ⟨k0c, ⟨-, -, -, -, -, -, -, -, qc⟩, ⟨-, -, -, -, -, -, -, -, kc⟩, ⟨-, -, -, -, -, -, -, -, nc⟩⟩, -⟩ := id h21
  rw [qc, nc, n21 r (by omega), n17 r (by omega), n13 r (by omega), m1, Int.toNat_natCast]
  refine ⟨kc, by omega, h4, fun M26 e26 => ?_⟩
  obtain ⟨h26, f26, g26, n26⟩ := rb_tab h21 (i := 9) (by omega) (by omega) (i32s (by omega) (by omega)) e26
  have r26 : mI M26 r = mI M r := by rw [n26 r (by omega), n21 r (by omega), n17 r (by omega), n13 r (by omega)]
  rw [r26, m1]
  refine ⟨⟨by omega, by omega⟩, fun M29 e29 => ?_⟩
  obtain ⟨h29, f29, r29, n29⟩ := rb_fld h26 ⟨by omega, by omega⟩ e29
  have fi : FI (fun b => r ≤ b ∧ b ≤ r + 9) M M29 := by
    have x13 : FI (fun b => r ≤ b ∧ b ≤ r + 9) M M13 := by rw [e13]; exact FI.ui ⟨by omega, by omega⟩
    have x17 : FI (fun b => r ≤ b ∧ b ≤ r + 9) M13 M17 := by rw [e17]; exact FI.ui ⟨by omega, by omega⟩
    have x21 : FI (fun b => r ≤ b ∧ b ≤ r + 9) M17 M21 := by rw [e21]; exact FI.ui ⟨by omega, by omega⟩
    have x26 : FI (fun b => r ≤ b ∧ b ≤ r + 9) M21 M26 := by rw [e26]; exact FI.ui ⟨by omega, by omega⟩
    have x29 : FI (fun b => r ≤ b ∧ b ≤ r + 9) M26 M29 := by rw [e29]; exact FI.ui ⟨by omega, by omega⟩
    exact (((x13.trans x17).trans x21).trans x26).trans x29
  have hA := (h.word ((((f13.trans f17).trans f21).trans f26).trans f29)).1
  refine ⟨h29, fi, fun i i19 => by rw [r29, if_neg i19, r26], fun i i5 i1 => by rw [n29 _ (by omega), n26 _ (by omega), n21 _ (by omega), n17 _ (by omega), n13 _ (by omega)], ⟨c + 1, ⟨by rw [r29, if_pos rfl]; omega, by omega, fun i hi => ?_⟩, by omega⟩, fun _ => ⟨by rw [r29, if_pos rfl]; omega, fun i => by rw [n29 _ (by omega), n26 _ (by omega), n21 _ (by omega), n17 _ (by omega), g13], fun i => by rw [n29 _ (by omega), n26 _ (by omega), n21 _ (by omega), g17, n13 _ (by omega)], fun i => by rw [n29 _ (by omega), n26 _ (by omega), g21, n17 _ (by omega), n13 _ (by omega)], fun i => by rw [n29 _ (by omega), g26, n21 _ (by omega), n17 _ (by omega), n13 _ (by omega)]⟩⟩
  rw [hA, show mI M29 (r + 6) i = if i = c then (v : Int) else mI M (r + 6) i by rw [n29 _ (by omega), n26 _ (by omega), n21 _ (by omega), n17 _ (by omega), g13], show mI M29 (r + 7) i = if i = c then l2 else mI M (r + 7) i by rw [n29 _ (by omega), n26 _ (by omega), n21 _ (by omega), g17, n13 _ (by omega)], show mI M29 (r + 8) i = if i = c then l3 else mI M (r + 8) i by rw [n29 _ (by omega), n26 _ (by omega), g21, n17 _ (by omega), n13 _ (by omega)], show mI M29 (r + 9) i = if i = c then l4 else mI M (r + 9) i by rw [n29 _ (by omega), g26, n21 _ (by omega), n17 _ (by omega), n13 _ (by omega)]]
  by_cases y : i = c
  · rw [if_pos y, if_pos y, if_pos y, if_pos y]
    exact ⟨⟨v, rfl, hv, h2⟩, hl, h4⟩
  · rw [if_neg y, if_neg y, if_neg y, if_neg y]
    exact m3 i (by omega)
/-- the tables with one name more -/
theorem CT.kn {v : Nat} {l2 l3 l4 : Int} {e : nm9} (ct : CT M r p nms) (hc : nms.length = c) (kx : knX M r c v l2 l3 l4 M') (h6 : mI M' (p + 6) = mI M (p + 6)) (h7 : mI M' (p + 7) = mI M (p + 7)) (f1 : e.1 = v) (f2 : srt9 e.2.1 = l2) (f3 : 1 ≤ e.2.1 ∧ e.2.1 ≤ 3) (f4 : e.2.2.1 = l4) (f5 : e.2.1 = 1 → vgd e.2.2.1 e.2.2.2 ∧ ∃ x : Nat, l3 = x ∧ x < 60 ∧ (1 ≤ mI M (p + 7) x ∧ mI M (p + 7) x < 1000000000) ∧ e.2.2.2 = (0, mI M (p + 6) x, mI M (p + 7) x)) (f6 : e.2.1 = 3 → ∀ (j : Nat) (e' : nm9), nms[j]? = some e' → e'.2.1 = 3 → mI M (r + 8) j ≠ l3) (f7 : l3 = (if e.2.1 = 3 then ((vcn nms : Nat) : Int) else ((rcn nms : Nat) : Int))) : CT M' r p (nms ++ [e]) := by
  obtain ⟨k1, k2, k3, k4, k5⟩ := kx
  have at9 : ∀ {j : Nat} {e' : nm9}, (nms ++ [e])[j]? = some e' → (j = c ∧ e' = e) ∨ (j ≠ c ∧ nms[j]? = some e') := fun {j e'} he => by
    by_cases y : j = c
    · refine Or.inl ⟨y, ?_⟩
      rw [y, ← hc, List.getElem?_append_right (Nat.le_refl _), Nat.sub_self] at he
      exact (Option.some.inj he).symm
    · refine Or.inr ⟨y, ?_⟩
      have hj : j < nms.length := by
        have := (List.getElem?_eq_some_iff.mp he).1
        rw [List.length_append] at this
        simp at this
        omega
      rw [List.getElem?_append_left hj] at he
      exact he
  refine ⟨by rw [k1, List.length_append, hc]; rfl, fun i e' he => ?_⟩
  have vn : e'.2.1 = 3 → ∀ (j : Nat) (e'' : nm9), (nms ++ [e])[j]? = some e'' → e''.2.1 = 3 → mI M' (r + 8) j = mI M' (r + 8) i → j = i := fun g1 j e'' hj g2 g3 => by
    rw [k4, k4] at g3
    rcases at9 he with ⟨y1, y2⟩ | ⟨y1, y2⟩
    · rcases at9 hj with ⟨z1, z2⟩ | ⟨z1, z2⟩
      · rw [y1, z1]
      · rw [if_neg z1, if_pos y1] at g3
        rw [y2] at g1
        exact absurd g3 (f6 g1 j e'' z2 g2)
    · rcases at9 hj with ⟨z1, z2⟩ | ⟨z1, z2⟩
      · rw [if_pos z1, if_neg y1] at g3
        rw [z2] at g2
        exact absurd g3.symm (f6 g2 i e' y2 g1)
      · rw [if_neg z1, if_neg y1] at g3
        exact (ct.2 i e' y2).2.2.2.2.2.1 g1 j e'' z2 g2 g3
  rw [k2, k3, k5, h6, h7]
  by_cases y : i = c
  · have : e' = e := by
      rw [y, ← hc, List.getElem?_append_right (Nat.le_refl _), Nat.sub_self] at he
      exact (Option.some.inj he).symm
    subst this
    rw [if_pos y, if_pos y, if_pos y]
    exact ⟨by rw [f1], f2.symm, f3, f4.symm, by rw [k4, if_pos y]; exact f5, vn, by rw [k4, if_pos y, y, ← hc, List.take_left]; exact f7⟩
  · have hi : i < nms.length := by
      have := (List.getElem?_eq_some_iff.mp he).1
      rw [List.length_append] at this
      simp at this
      omega
    rw [List.getElem?_append_left hi] at he
    rw [if_neg y, if_neg y, if_neg y]
    obtain ⟨t1, t2, t3, t4, t5, -, t7⟩ := ct.2 i e' he
    exact ⟨t1, t2, t3, t4, by rw [k4, if_neg y]; exact t5, vn, by rw [k4, if_neg y, List.take_append_of_le_length (Nat.le_of_lt hi)]; exact t7⟩
end TXI
end
section
/-! The class's reader of texts, exactly: what the words of a const's rule push. -/
section TXJ
variable {W pl nq E : Nat → Int} {Cf : Nat → Int × Int} {sm : Nat → Nat → Prop} {M M' : mM} {q r T A B D n c p V F : Nat} {ns : Nat → Int} {nms : List nm9}
/-- the words' values, those beyond the text 0 -/
noncomputable def cvn (W nq : Nat → Int) (sm : Nat → Nat → Prop) (nms : List nm9) (n : Nat) (v : Nat) : vrs := if v < n then cv9 W nq sm nms v else (0, 0, 1)
theorem vgd_0 {k : Int} (_ : k = 0 ∨ k = 1) : vgd k (0, 0, 1) := vgd_01.2
theorem lf_ex (wt : WTq M T A B D n W pl nq sm) (ec : ECq M r p n W nq sm nms c 1 E Cf) (ct : CT M r p nms) (hl : nms.length = c) (h9 : ∀ i, i < c → mI M (r + 9) i = 0 ∨ mI M (r + 9) i = 1) : ∀ k, (W k = 1 ∨ W k = 2 ∨ W k = 12 ∨ W k = 13) → (W k = 1 → E k ≠ -1) → Lfo M p W E (cvn W nq sm nms n) Cf k := by
  intro k hk hne
  obtain ⟨big, ec⟩ := ec
  obtain ⟨eE, ec⟩ := ec ct hl
  unfold Lfo cvn
  by_cases kn : k < n
  · rw [if_pos kn]
    obtain ⟨c2, c12, c13, c1⟩ := ec k kn
    unfold cv9
    rcases hk with h | h | h | h
    · obtain ⟨i, e, z1, z2, z3, z4, -⟩ := c1 h (hne h)
      have e1 : e.2.1 = 1 := z3.resolve_left (by decide)
      obtain ⟨t1, t2, t3, t4, t5, -⟩ := ct.2 i e z1
      obtain ⟨g1, x, g2, g3, g4, g5⟩ := t5 e1
      have hi : i < c := by rw [← hl]; exact (List.getElem?_eq_some_iff.mp z1).1
      have Ev : E k = e.2.2.1 := by
        rw [eE]
        unfold E9
        rw [z2]
        show (if (if (1 : Int) = 0 then (0 : Int) else 1) = 1 ∧ e.2.1 ≠ 1 then (-1 : Int) else e.2.2.1) = e.2.2.1
        rw [if_neg (fun y => y.2 e1)]
      rw [if_pos h, z2]
      refine ⟨?_, Or.inr ⟨?_, x, ?_, g3, g4, g5⟩⟩
      · have k01 := h9 i hi
        rw [t4] at k01
        by_cases y : E k = 1
        · rw [if_pos (Or.inr (Or.inr ⟨h, y⟩))]
          rw [← Ev, y] at g1
          exact g1
        · rw [if_neg (by omega)]
          have : e.2.2.1 = 0 := by omega
          rw [this] at g1
          exact g1
      · rw [z4, t2, e1]; rfl
      · rw [z4]; exact g2
    · rw [if_neg (by omega), if_pos h, if_neg (by omega)]
      obtain ⟨-, b1, b2⟩ := wt.2.1 k kn h
      refine ⟨Or.inl ⟨rfl, ?_, ⟨by simp, by simp⟩, ?_, fun u => absurd u (by decide)⟩, Or.inl ⟨by rw [c2 h], by rw [c2 h]⟩⟩
      · show (nq k).natAbs ≤ 999999999
        omega
      · show Int.gcd (nq k) 1 = 1
        exact Int.gcd_one
    · rw [if_pos (show W k = 12 ∨ W k = 13 ∨ (W k = 1 ∧ E k = 1) from Or.inl h), if_neg (show ¬ W k = 1 by omega), if_neg (show ¬ W k = 2 by omega), if_pos h]
      exact ⟨vgd_01.1, Or.inl ⟨by rw [c12 h], by rw [c12 h]⟩⟩
    · rw [if_pos (show W k = 12 ∨ W k = 13 ∨ (W k = 1 ∧ E k = 1) from Or.inr (Or.inl h)), if_neg (show ¬ W k = 1 by omega), if_neg (show ¬ W k = 2 by omega), if_neg (show ¬ W k = 12 by omega)]
      exact ⟨vgd_01.2, Or.inl ⟨by rw [c13 h], by rw [c13 h]⟩⟩
  · rw [if_neg kn]
    have cb := big k (by omega)
    refine ⟨?_, Or.inl ⟨by rw [cb], by rw [cb]⟩⟩
    split
    · exact vgd_0 (Or.inr rfl)
    · exact vgd_0 (Or.inl rfl)
/-- consts' values stay: a new one is put behind them -/
theorem CT.tab (ct : CT M (q + 1) p nms) (tn : TN M (q + 1) A n V F ns c) (hl : nms.length = c) (h19 : mI M' (q + 1) 19 = mI M (q + 1) 19) (h6 : mI M' (q + 1 + 6) = mI M (q + 1 + 6)) (h7 : mI M' (q + 1 + 7) = mI M (q + 1 + 7)) (h8 : mI M' (q + 1 + 8) = mI M (q + 1 + 8)) (h9 : mI M' (q + 1 + 9) = mI M (q + 1 + 9)) (p6 : ∀ i, i < F → mI M' (p + 6) i = mI M (p + 6) i) (p7 : ∀ i, i < F → mI M' (p + 7) i = mI M (p + 7) i) : CT M' (q + 1) p nms := by
  refine ⟨by rw [h19]; exact ct.1, fun i e z => ?_⟩
  obtain ⟨t1, t2, t3, t4, t5, t6⟩ := ct.2 i e z
  rw [h6, h7, h8, h9]
  refine ⟨t1, t2, t3, t4, fun e1 => ?_, t6⟩
  obtain ⟨g1, x, g2, g3, g4, g5⟩ := t5 e1
  have hi : i < c := by rw [← hl]; exact (List.getElem?_eq_some_iff.mp z).1
  have xF : x < F := by
    obtain ⟨-, u, -⟩ := tn.2.2 i hi
    rw [t2, e1] at u
    rcases u with u | u
    · exact absurd u.1 (by decide)
    · have := u.2.2.1; omega
  exact ⟨g1, x, g2, g3, by rw [p7 x xF]; exact g4, by rw [p6 x xF, p7 x xF]; exact g5⟩
end TXJ
end
end
section
/-! The class's reader of texts, exactly: a const or formula is settled. -/
theorem bp9 {m p z Be Ab : Nat} (a1 : p + 15 < m ∨ m + 9 < p) (a7 : p + 16 ≤ z) (a8 : Ab = m + 3 ∨ z ≤ Ab) (a9 : Be = m + 4 ∨ z ≤ Be) : Be ≠ p ∧ Be ≠ p + 8 ∧ Be ≠ p + 6 ∧ Be ≠ p + 7 ∧ Ab ≠ p ∧ Ab ≠ p + 8 := by
  refine ⟨?_, ?_, ?_, ?_, ?_, ?_⟩
  · clear a8; omega
  · clear a8; omega
  · clear a8; omega
  · clear a8; omega
  · clear a9; omega
  · clear a9; omega
theorem q21z {q p : Nat} (qp : q + 22 < p ∨ p + 15 < q) : q + 21 ≠ p ∧ q + 21 ≠ p + 8 ∧ q + 21 ≠ p + 6 ∧ q + 21 ≠ p + 7 := by
  refine ⟨?_, ?_, ?_, ?_⟩ <;> omega
theorem pqz {q p i : Nat} (qp : q + 22 < p ∨ p + 15 < q) (hi : i ≤ 15) : p + i < q + 1 ∨ q + 1 + 9 < p + i := by omega
theorem pOz {q O : Nat} (o : O < q ∨ q + 22 < O) : O < q + 1 ∨ q + 1 + 9 < O := by omega
theorem pnz {p O i k : Nat} (o : O < p ∨ O = p + k ∨ p + 15 < O) (hk : k ≤ 2) (hk1 : 1 ≤ k) (hi : i = 0 ∨ 3 ≤ i) (h15 : i ≤ 15) : O ≠ p + i := by omega
theorem pnz0 {p O k : Nat} (o : O < p ∨ O = p + k ∨ p + 15 < O) (hk1 : 1 ≤ k) : O ≠ p := by omega
theorem qnz {q p x i : Nat} (qp : q + 22 < p ∨ p + 15 < q) (h1 : q ≤ x) (h2 : x ≤ q + 22) (h15 : i ≤ 15) : x ≠ p + i := by omega
theorem y4z {b p q O P : Nat} (y : b = p ∨ b = p + 6 ∨ b = p + 7 ∨ b = p + 8) : (q ≤ b ∧ b ≤ q + 10) ∨ b = q + 21 ∨ b = q + 22 ∨ b = p ∨ (p + 3 ≤ b ∧ b ≤ p + 15) ∨ b = O ∨ b = P := by
  rcases y with y | y | y | y
  · exact Or.inr (Or.inr (Or.inr (Or.inl y)))
  · exact Or.inr (Or.inr (Or.inr (Or.inr (Or.inl (by rw [y]; exact ⟨by omega, by omega⟩)))))
  · exact Or.inr (Or.inr (Or.inr (Or.inr (Or.inl (by rw [y]; exact ⟨by omega, by omega⟩)))))
  · exact Or.inr (Or.inr (Or.inr (Or.inr (Or.inl (by rw [y]; exact ⟨by omega, by omega⟩)))))
section TXK
variable {G : mG} {d z q w T A B D N C n p O P K Ab Be Cm V F c s s' L L' cnt Bn a d0 V1 F1 nw k e s9 Ab0 Be0 Cm0 Ab1 Be1 Cm1 : Nat} {M0 M M' M1 M2 : mM} {ns ns' ns1 : Nat → Int} {sf ef sf' ef' : Nat → Nat} {H : Nat → Nat} {S R : Nat → Prop} {W pl nq E : Nat → Int} {Cf : Nat → Int × Int} {sm : Nat → Nat → Prop} {nms : List nm9} {ft : Int × Int} {e9 : nm9} {v : vrs}
/-- a name has been added -/
def snY (M : mM) (q p F : Nat) (nms : List nm9) (e9 : nm9) (M' : mM) : Prop := CT M' (q + 1) p (nms ++ [e9]) ∧ (∀ i, i ≠ 19 → mI M' (q + 1) i = mI M (q + 1) i) ∧ ∀ i, i ≠ 2 → mI M' p i = if i = 7 then (F : Int) + 1 else mI M p i
/-- the program's tables but for const or formula number F -/
def snD (p O P F : Nat) (M M' : mM) : Prop := (∀ i, 9 ≤ i → i ≤ 15 → mI M' (p + i) = mI M (p + i)) ∧ (∀ i, 3 ≤ i → i ≤ 5 → mI M' (p + i) = mI M (p + i)) ∧ (∀ j, j < F → mI M' (p + 6) j = mI M (p + 6) j ∧ mI M' (p + 7) j = mI M (p + 7) j ∧ mI M' (p + 8) j = mI M (p + 8) j) ∧ mI M' O = mI M O ∧ mI M' P = mI M P
theorem sn_mono {l1 l2 : Int} {b : Nat} {Q Q' : mM → Prop} (h : h_TR_settleNamed_115 G d b l1 l2 M Q) (hq : ∀ M', Q M' → Q' M') : h_TR_settleNamed_115 G d b l1 l2 M Q' := mWm.mono h (fun _ M' u => ⟨u.1, hq M' u.2⟩)
theorem x_sn115 {l1 : Int} {Q : mM → Prop} (h4 : l1 = 4 ∨ l1 = 7) (h : TX M z q w T A B D N C n p O P K Ab Be Cm V (F + 1) (un ns F l1) sf ef c cnt L) (h60 : F < 60) (hn : mI M q 3 = ((nw : Nat) : Int) ∧ nw < n ∧ mI M A nw = 2) (h8 : mI M q 8 = 0 ∨ mI M q 8 = 1) (hp : mI M p 2 = ((L : Nat) : Int)) (ha : mI M (q + 1) 2 = ((a : Nat) : Int)) (han : a ≤ n) (hLa : L ≤ a) (hd : mI M (q + 1) 5 = 0) (hf : trF M0 q p O P Ab0 Be0 Cm0 M Ab Be Cm) (ct : CT M (q + 1) p nms) (hl : nms.length = c) (hc72 : c < 72) (f1 : e9.1 = nw) (f2 : srt9 e9.2.1 = l1) (f3 : 1 ≤ e9.2.1 ∧ e9.2.1 ≤ 3) (f4 : e9.2.2.1 = mI M q 8) (f5 : Hid (e9.2.1 = 1 → vgd e9.2.2.1 e9.2.2.2 ∧ ∃ x : Nat, (F : Int) = x ∧ x < 60 ∧ (1 ≤ mI M (p + 7) x ∧ mI M (p + 7) x < 1000000000) ∧ e9.2.2.2 = (0, mI M (p + 6) x, mI M (p + 7) x))) (f7 : ((F : Nat) : Int) = (if e9.2.1 = 3 then ((vcn nms : Nat) : Int) else ((rcn nms : Nat) : Int))) (hQ : ∀ M', itE M0 z q w T A B D N C n p O P K Ab0 Be0 Cm0 M' → CT M' (q + 1) p (nms ++ [e9]) → (∀ i, i ≠ 19 → mI M' (q + 1) i = mI M (q + 1) i) → mI M' p = mI M p → (∀ b, (b < q + 1 ∨ q + 1 + 9 < b) → mI M' b = mI M b) → Q M') : h_TR_settleNamed_115 G (d + 5) q l1 F M Q := by
  obtain ⟨⟨np0, np1, -, -⟩, ⟨nO0, nO1, -, -, nOp⟩, nP0, nP1, -, -, nPp⟩ := h.1.ne
  have ap := h.1.apart
  have qp := h.1.2.2.2.2.2.1.2.1
  have ok := h.1.1.1
  obtain ⟨t0, t1, t2, t3, t4, t5⟩ := h.1.2.1
  refine k_TR_settleNamed_115 ok (i32s (by omega) (by omega)) (i32s (by omega) (by omega)) ?_
  rw [t1, hn.1]
  refine ⟨t0, h.1.1.2.1.1, (x_RR_know (v := nw) h.1.1 h.2.1.2.2.1 hn.2.1 hn.2.2 (i32s (by omega) (by omega)) (i32s (by omega) (by omega)) h8 (Or.inr ⟨h4, by omega, by omega, ?_⟩)).mono (fun M84 k => ?_)⟩
  · unfold un
    rw [if_pos (by omega)]
  obtain ⟨k1, k2, k3, k4, ⟨c', k5, -⟩, k6⟩ := k
  have f84 : FI (txS q p O P) M M84 := k2.mono (fun b y => Or.inl (by have y' : q + 1 ≤ b ∧ b ≤ q + 1 + 9 := y; omega))
  have nb : ∀ b, (b < q + 1 ∨ q + 1 + 9 < b) → mI M84 b = mI M b := fun b hb => k2.2.2.2.2.2.2 b (fun y => by have y' : q + 1 ≤ b ∧ b ≤ q + 1 + 9 := y; omega)
  have h84 : TX M84 z q w T A B D N C n p O P K Ab Be Cm V (F + 1) (un ns F l1) sf ef c' cnt L := by
    obtain ⟨hP, ⟨c1, c2, c3, c4⟩, hX⟩ := h
    refine ⟨hP.fi k1.1 f84, ⟨by rw [nb p (pqz (i := 0) qp (by decide))]; exact c1, by rw [nb p (pqz (i := 0) qp (by decide))]; exact c2, k5, fun j => by rw [show q + 6 = q + 1 + 5 by omega, k4 5 (by omega) (by omega)]; exact c4 j⟩, hX.cg (fun y => by rw [k3 3 (by decide)]; exact y) (fun i _ => by rw [nb p (pqz (i := 0) qp (by decide))]) (fun i _ i15 => nb _ (pqz qp i15)) (fun i _ => ⟨by rw [nb O (pOz ap.2.1)], by rw [nb P (pOz ap.2.2.1)]⟩)⟩
  exact ⟨k1.1, hQ M84 ⟨Ab, Be, Cm, V, F + 1, un ns F l1, sf, ef, c', cnt, L, a, h84, by rw [nb p (pqz (i := 0) qp (by decide))]; exact hp, by rw [k3 2 (by decide)]; exact ha, han, hLa, by rw [k3 5 (by decide)]; exact hd, hf.trans (trF.fi f84)⟩ (ct.kn hl (k6 hc72) (nb _ (pqz qp (by decide))) (nb _ (pqz qp (by decide))) f1 f2 f3 f4 f5 (fun u => by
    rw [u] at f2
    rcases h4 with v | v <;> rw [v] at f2 <;> exact absurd f2 (by decide)) f7) k3 (nb p (pqz (i := 0) qp (by decide))) nb⟩
theorem x_sn_fin (h : TX M z q w T A B D N C n p O P K Ab Be Cm V F ns sf ef c cnt L) (h0 : mI M (q + 1) 3 = 0) (h60 : F < 60) (hb : 1 ≤ mI M Be 0 ∧ mI M Be 0 < 1000000000) (hn : mI M q 3 = ((nw : Nat) : Int) ∧ nw < n ∧ mI M A nw = 2) (h8 : mI M q 8 = 0 ∨ mI M q 8 = 1) (hLa : L ≤ a) (ha : mI M (q + 1) 2 = ((a : Nat) : Int)) (han : a ≤ n) (hd : mI M (q + 1) 5 = 0) (hf : trF M0 q p O P Ab0 Be0 Cm0 M Ab Be Cm) (o46 : mOk M') (fx : FI (txS q p O P) M M') (ip : ∀ i, mI M' p i = if i = 2 then ((L : Nat) : Int) else if i = 7 then (F : Int) + 1 else mI M p i) (i7 : ∀ i, mI M' (p + 7) i = if i = F then mI M Be 0 else mI M (p + 7) i) (i8 : ∀ i, mI M' (p + 8) i = if i = F then ((L : Nat) : Int) else mI M (p + 8) i) (nb : ∀ b, b ≠ p → b ≠ p + 6 → b ≠ p + 7 → b ≠ p + 8 → mI M' b = mI M b) (i6 : ∀ i, mI M' (p + 6) i = if i = F then mI M Ab 0 else mI M (p + 6) i) (ct : CT M (q + 1) p nms) (hl : nms.length = c) (hc72 : c < 72) (hv : v.1 = 0 ∧ mI M Ab 0 = v.2.1 ∧ mI M Be 0 = v.2.2) (gv : vgd (mI M q 8) v) (hrc : rcn nms = F) : h_TR_settleNamed_115 G (d + 5) q 4 F M' (fun M9 => itE M0 z q w T A B D N C n p O P K Ab0 Be0 Cm0 M9 ∧ snY M q p F nms (nw, 1, mI M q 8, v) M9 ∧ snD p O P F M M9 ∧ (mI M9 (p + 6) F = v.2.1 ∧ mI M9 (p + 7) F = v.2.2) ∧ mI M9 p 2 = ((L : Nat) : Int)) := by
  have nO : mI M' O = mI M O ∧ mI M' P = mI M P ∧ (∀ i, i ≤ 10 → mI M' (q + i) = mI M (q + i)) ∧ (∀ i, 9 ≤ i → i ≤ 15 → mI M' (p + i) = mI M (p + i)) := by
    have ap := h.1.apart
    have qp := h.1.2.2.2.2.2.1.2.1
    clear h h0 hb hn h8 ha hd hf ip i7 i8 fx
    exact ⟨nb O (pnz0 ap.2.2.2.1 (by decide)) (pnz ap.2.2.2.1 (by decide) (by decide) (Or.inr (by decide)) (by decide)) (pnz ap.2.2.2.1 (by decide) (by decide) (Or.inr (by decide)) (by decide)) (pnz ap.2.2.2.1 (by decide) (by decide) (Or.inr (by decide)) (by decide)), nb P (pnz0 ap.2.2.2.2.1 (by decide)) (pnz ap.2.2.2.2.1 (by decide) (by decide) (Or.inr (by decide)) (by decide)) (pnz ap.2.2.2.2.1 (by decide) (by decide) (Or.inr (by decide)) (by decide)) (pnz ap.2.2.2.2.1 (by decide) (by decide) (Or.inr (by decide)) (by decide)), fun i hi => nb _ (qnz (i := 0) qp (by omega) (by omega) (by decide)) (qnz qp (by omega) (by omega) (by decide)) (qnz qp (by omega) (by omega) (by decide)) (qnz qp (by omega) (by omega) (by decide)), fun i h9 h15 => nb _ (by omega) (by omega) (by omega) (by omega)⟩
  have h46 := tx_name (l1 := 4) (e := 0) (H := fun _ => 0) (L' := L) h h0 h60 o46 fx (fun i hi => by rw [show q + 1 + i = q + (1 + i) by omega]; exact nO.2.2.1 _ (by omega)) (fun i y2 y7 => by rw [ip, if_neg y2, if_neg y7]) (by rw [ip, if_neg (by decide), if_pos rfl]; rfl) nO.2.2.2 (fun i hi => by rw [i7, if_neg (Nat.ne_of_lt hi)]) (fun i hi => by rw [i8, if_neg (Nat.ne_of_lt hi)]) (fun i _ => ⟨by rw [nO.1], by rw [nO.2.1]⟩) (Nat.le_refl _) (Or.inl ⟨rfl, by rw [i7, if_pos rfl]; exact hb⟩)
  have wA := (h.1.words fx).1
  have n0 := nO.2.2.1 0 (by omega)
  have n1 := nO.2.2.1 1 (by omega)
  rw [Nat.add_zero] at n0
  have r6 : ∀ i, i ≤ 9 → mI M' (q + 1 + i) = mI M (q + 1 + i) := fun i hi => by rw [show q + 1 + i = q + (1 + i) by omega]; exact nO.2.2.1 _ (by omega)
  have ct' : CT M' (q + 1) p nms := ct.tab h.2.1.2.2.1 hl (by rw [n1]) (r6 6 (by omega)) (r6 7 (by omega)) (r6 8 (by omega)) (r6 9 (by omega)) (fun i hi => by rw [i6, if_neg (Nat.ne_of_lt hi)]) (fun i hi => by rw [i7, if_neg (Nat.ne_of_lt hi)])
  have pq : ∀ i, i ≤ 15 → p + i < q + 1 ∨ q + 1 + 9 < p + i := fun i hi => by
    have qp := h.1.2.2.2.2.2.1.2.1
    exact pqz qp hi
  have pO : (O < q + 1 ∨ q + 1 + 9 < O) ∧ (P < q + 1 ∨ q + 1 + 9 < P) := by
    have ap := h.1.apart
    have qp := h.1.2.2.2.2.2.1.2.1
    clear h h0 hb hn h8 ha hd hf ip i7 i8 fx
    exact ⟨pOz ap.2.1, pOz ap.2.2.1⟩
  refine x_sn115 (e9 := (nw, 1, mI M q 8, v)) (nms := nms) (Or.inl rfl) h46 h60 ⟨by rw [n0]; exact hn.1, hn.2.1, by rw [wA]; exact hn.2.2⟩ (by rw [n0]; exact h8) (by rw [ip, if_pos rfl]) (by rw [n1]; exact ha) han hLa (by rw [n1]; exact hd) (hf.trans (trF.fi fx)) ct' hl hc72 rfl rfl ⟨by simp, by simp⟩ (by rw [n0]) (fun _ => ⟨gv, F, rfl, h60, by rw [i7, if_pos rfl]; exact hb, by rw [i6, if_pos rfl, i7, if_pos rfl, hv.2.1, hv.2.2, ← hv.1]⟩) (by show ((F : Nat) : Int) = if (1 : Nat) = 3 then _ else _; rw [if_neg (by decide), hrc]) (fun M9 e1 e2 e3 e4 e5 => ⟨e1, ⟨e2, fun i hi => by rw [e3 i hi, n1], fun i hi => by rw [e4, ip, if_neg hi]⟩, ?_, ⟨?_, ?_⟩, by rw [e4, ip, if_pos rfl]⟩)
  · exact ⟨fun i i9 i15 => by rw [e5 _ (pq i i15), nO.2.2.2 i i9 i15], fun i i3 i5 => by rw [e5 _ (pq i (by omega)), nb _ (by omega) (by omega) (by omega) (by omega)], fun j hj => ⟨by rw [e5 _ (pq 6 (by omega)), i6, if_neg (Nat.ne_of_lt hj)], by rw [e5 _ (pq 7 (by omega)), i7, if_neg (Nat.ne_of_lt hj)], by rw [e5 _ (pq 8 (by omega)), i8, if_neg (Nat.ne_of_lt hj)]⟩, by rw [e5 O pO.1, nO.1], by rw [e5 P pO.2, nO.2.1]⟩
  · rw [e5 _ (pq 6 (by omega)), i6, if_pos rfl]; exact hv.2.1
  · rw [e5 _ (pq 7 (by omega)), i7, if_pos rfl]; exact hv.2.2
theorem x_sn_const {Q : mM → Prop} (hrc : rcn nms = F) (hQ : ∀ M9, itE M0 z q w T A B D N C n p O P K Ab0 Be0 Cm0 M9 ∧ snY M q p F nms (nw, 1, mI M q 8, v) M9 ∧ snD p O P F M M9 ∧ (mI M9 (p + 6) F = v.2.1 ∧ mI M9 (p + 7) F = v.2.2) ∧ mI M9 p 2 = ((L : Nat) : Int) → Q M9) (h : TX M z q w T A B D N C n p O P K Ab Be Cm V F ns sf ef c cnt L) (h0 : mI M (q + 1) 3 = 0) (h60 : F < 60) (hb : 1 ≤ mI M Be 0 ∧ mI M Be 0 < 1000000000) (hn : mI M q 3 = ((nw : Nat) : Int) ∧ nw < n ∧ mI M A nw = 2) (h8 : mI M q 8 = 0 ∨ mI M q 8 = 1) (h21 : mI M (q + 21) 0 = ((L : Nat) : Int)) (hLa : L ≤ a) (ha : mI M (q + 1) 2 = ((a : Nat) : Int)) (han : a ≤ n) (hd : mI M (q + 1) 5 = 0) (hf : trF M0 q p O P Ab0 Be0 Cm0 M Ab Be Cm) (ct : CT M (q + 1) p nms) (hl : nms.length = c) (hc72 : c < 72) (hv : v.1 = 0 ∧ mI M Ab 0 = v.2.1 ∧ mI M Be 0 = v.2.2) (gv : vgd (mI M q 8) v) : mK M q = 3 ∧ mK M (mR M q 2) = 6 ∧ i32 ((mI M (mR M q 2) 7) + 1) ∧ ∀ M16, M16 = mUI M (mR M q 2) 7 ((mI M (mR M q 2) 7) + 1) → mK M16 (mR M16 q 2) = 6 ∧ mK M16 (mR M16 q 5) = 30 ∧ ((0 : Int) ≤ 0 ∧ 0 < (mN M16 (mR M16 q 5) : Int)) ∧ mK M16 (mR M16 (mR M16 q 2) 10) = 30 ∧ ((0 : Int) ≤ mI M (mR M q 2) 7 ∧ mI M (mR M q 2) 7 < (mN M16 (mR M16 (mR M16 q 2) 10) : Int)) ∧ ∀ M23, M23 = mUI M16 (mR M16 (mR M16 q 2) 10) (Int.toNat (mI M (mR M q 2) 7)) (mI M16 (mR M16 q 5) 0) → (mK M23 (mR M23 q 2) = 6 ∧ mK M23 (mR M23 q 1) = 5 ∧ mK M23 (mR M23 (mR M23 q 1) 6) = 30 ∧ ((0 : Int) ≤ 0 ∧ 0 < (mN M23 (mR M23 (mR M23 q 1) 6) : Int)) ∧ mK M23 (mR M23 (mR M23 q 2) 8) = 30 ∧ ((0 : Int) ≤ mI M (mR M q 2) 7 ∧ mI M (mR M q 2) 7 < (mN M23 (mR M23 (mR M23 q 2) 8) : Int)) ∧ ∀ M33, M33 = mUI M23 (mR M23 (mR M23 q 2) 8) (Int.toNat (mI M (mR M q 2) 7)) (mI M23 (mR M23 (mR M23 q 1) 6) 0) → mK M33 (mR M33 q 2) = 6 ∧ mK M33 (mR M33 q 1) = 5 ∧ mK M33 (mR M33 (mR M33 q 1) 7) = 30 ∧ ((0 : Int) ≤ 0 ∧ 0 < (mN M33 (mR M33 (mR M33 q 1) 7) : Int)) ∧ mK M33 (mR M33 (mR M33 q 2) 9) = 30 ∧ ((0 : Int) ≤ mI M (mR M q 2) 7 ∧ mI M (mR M q 2) 7 < (mN M33 (mR M33 (mR M33 q 2) 9) : Int)) ∧ ∀ M41, M41 = mUI M33 (mR M33 (mR M33 q 2) 9) (Int.toNat (mI M (mR M q 2) 7)) (mI M33 (mR M33 (mR M33 q 1) 7) 0) → mK M41 (mR M41 q 5) = 30 ∧ ((0 : Int) ≤ 0 ∧ 0 < (mN M41 (mR M41 q 5) : Int)) ∧ mK M41 (mR M41 q 2) = 6 ∧ ∀ M46, M46 = mUI M41 (mR M41 q 2) 2 (mI M41 (mR M41 q 5) 0) → h_TR_settleNamed_115 G (d + 5) q 4 (mI M (mR M q 2) 7) M46 Q) := by
  obtain ⟨⟨np0, np1, np21, -⟩, ⟨nO0, nO1, -, -, nOp⟩, nP0, nP1, -, -, nPp⟩ := h.1.ne
  have ap := h.1.apart
  have qp := h.1.2.2.2.2.2.1.2.1
  have ok := h.1.1.1
  obtain ⟨t0, t1, t2, t3, t4, t5⟩ := h.1.2.1
  obtain ⟨s1, s2, s3, s4⟩ := h.1.2.2.1
  obtain ⟨k6, ⟨-, -, -, p8, p9, p10, -⟩, ⟨-, -, -, kp6, kp7, kp8, -⟩, ⟨-, -, -, np6, np7, np8, -⟩⟩ := h.tab
  obtain ⟨⟨c1, c2⟩, ⟨f7, -⟩, -⟩ := h.2.1
  obtain ⟨km, ⟨-, -, m6, m7, -⟩, ⟨-, -, kA, kB, -⟩, ⟨-, nA, nB, -⟩, -, ⟨sA, sB, sne, sz⟩, -, ⟨c64, -⟩⟩ := h.1.2.2.2.1
  have hN : n ≤ 16384 := by have := h.1.1.2.2.2.1.2.2.1; have := h.1.1.2.2.2.1.1.2.2.2.2.2.2.1; omega
  have Bp : Be ≠ p ∧ Be ≠ p + 8 ∧ Be ≠ p + 6 ∧ Be ≠ p + 7 ∧ Ab ≠ p ∧ Ab ≠ p + 8 := by
    have := ap.1
    unfold Mpr at this
    exact bp9 this.1 this.2.2.2.1 this.2.2.2.2.1 this.2.2.2.2.2
  have q21p : q + 21 ≠ p ∧ q + 21 ≠ p + 8 ∧ q + 21 ≠ p + 6 ∧ q + 21 ≠ p + 7 := q21z qp
  rw [t3, f7, Int.toNat_natCast]
  refine ⟨t0, k6, ⟨by omega, by omega⟩, fun M16 e16 => ?_⟩
  have f16 : FI (fun b => b = p) M M16 := by rw [e16]; exact FI.ui rfl
  rw [f16.1, f16.2.1, f16.2.2.1, t3, t4, p10, np8, s3, f16.2.2.2.2.2.2 _ q21p.1, h21]
  refine ⟨k6, s1, ⟨by omega, by omega⟩, kp8, by omega, fun M23 e23 => ?_⟩
  have f23 : FI (fun b => b = p + 8) M16 M23 := by rw [e23]; exact FI.ui rfl
  rw [f23.1, f23.2.1, f23.2.2.1, f16.1, f16.2.1, f16.2.2.1, t2, t3, p8, np6, m6, nA]
  refine ⟨k6, km, kA, ⟨by omega, by omega⟩, kp6, by omega, fun M33 e33 => ?_⟩
  have f33 : FI (fun b => b = p + 6) M23 M33 := by rw [e33]; exact FI.ui rfl
  rw [f33.1, f33.2.1, f33.2.2.1, f23.1, f23.2.1, f23.2.2.1, f16.1, f16.2.1, f16.2.2.1, t2, t3, p9, np7, m7, nB]
  refine ⟨k6, km, kB, ⟨by omega, by omega⟩, kp7, by omega, fun M41 e41 => ?_⟩
  have f41 : FI (fun b => b = p + 7) M33 M41 := by rw [e41]; exact FI.ui rfl
  have i21 : mI M41 (q + 21) 0 = ((L : Nat) : Int) := by rw [f41.2.2.2.2.2.2 _ q21p.2.2.2, f33.2.2.2.2.2.2 _ q21p.2.2.1, f23.2.2.2.2.2.2 _ q21p.2.1, f16.2.2.2.2.2.2 _ q21p.1]; exact h21
  rw [f41.1, f41.2.1, f41.2.2.1, f33.1, f33.2.1, f33.2.2.1, f23.1, f23.2.1, f23.2.2.1, f16.1, f16.2.1, f16.2.2.1, t3, t4, s3, i21]
  refine ⟨s1, ⟨by omega, by omega⟩, k6, fun M46 e46 => ?_⟩
  have f46 : FI (fun b => b = p) M41 M46 := by rw [e46]; exact FI.ui rfl
  have iB : mI M33 Be 0 = mI M Be 0 := by rw [f33.2.2.2.2.2.2 _ Bp.2.2.1, f23.2.2.2.2.2.2 _ Bp.2.1, f16.2.2.2.2.2.2 _ Bp.1]
  have ff : FI (fun b => b = p ∨ b = p + 6 ∨ b = p + 7 ∨ b = p + 8) M M46 := ((((f16.mono (fun _ y => Or.inl y)).trans (f23.mono (fun _ y => Or.inr (Or.inr (Or.inr y))))).trans (f33.mono (fun _ y => Or.inr (Or.inl y)))).trans (f41.mono (fun _ y => Or.inr (Or.inr (Or.inl y))))).trans (f46.mono (fun _ y => Or.inl y))
  have o16 : mOk M16 := by rw [e16]; exact mOk_UI ok ⟨by omega, by omega⟩
  have o23 : mOk M23 := by rw [e23]; exact mOk_UI o16 ⟨by omega, by omega⟩
  have o33 : mOk M33 := by rw [e33]; exact mOk_UI o23 (o23 _ _).1
  have o41 : mOk M41 := by rw [e41]; exact mOk_UI o33 (o33 _ _).1
  have o46 : mOk M46 := by rw [e46]; exact mOk_UI o41 ⟨by omega, by omega⟩
  have ip : ∀ i, mI M46 p i = if i = 2 then ((L : Nat) : Int) else if i = 7 then (F : Int) + 1 else mI M p i := fun i => by
    rw [mI_ui p i e46]
    by_cases y2 : i = 2
    · rw [if_pos ⟨rfl, y2⟩, if_pos y2]
    · rw [if_neg (fun u => y2 u.2), if_neg y2, f41.2.2.2.2.2.2 p (by omega), f33.2.2.2.2.2.2 p (by omega), f23.2.2.2.2.2.2 p (by omega), mI_ui p i e16]
      by_cases y7 : i = 7
      · rw [if_pos ⟨rfl, y7⟩, if_pos y7]
      · rw [if_neg (fun u => y7 u.2), if_neg y7]
  have i7 : ∀ i, mI M46 (p + 7) i = if i = F then mI M Be 0 else mI M (p + 7) i := fun i => by
    rw [f46.2.2.2.2.2.2 _ (by omega), mI_ui _ i e41, iB]
    by_cases y : i = F
    · rw [if_pos ⟨rfl, y⟩, if_pos y]
    · rw [if_neg (fun u => y u.2), if_neg y, f33.2.2.2.2.2.2 _ (by omega), f23.2.2.2.2.2.2 _ (by omega), f16.2.2.2.2.2.2 _ (by omega)]
  have i8 : ∀ i, mI M46 (p + 8) i = if i = F then ((L : Nat) : Int) else mI M (p + 8) i := fun i => by
    rw [f46.2.2.2.2.2.2 _ (by omega), f41.2.2.2.2.2.2 _ (by omega), f33.2.2.2.2.2.2 _ (by omega), mI_ui _ i e23]
    by_cases y : i = F
    · rw [if_pos ⟨rfl, y⟩, if_pos y]
    · rw [if_neg (fun u => y u.2), if_neg y, f16.2.2.2.2.2.2 _ (by omega)]
  have iA : mI M23 Ab 0 = mI M Ab 0 := by rw [f23.2.2.2.2.2.2 _ Bp.2.2.2.2.2, f16.2.2.2.2.2.2 _ Bp.2.2.2.2.1]
  have i6 : ∀ i, mI M46 (p + 6) i = if i = F then mI M Ab 0 else mI M (p + 6) i := fun i => by
    rw [f46.2.2.2.2.2.2 _ (by omega), f41.2.2.2.2.2.2 _ (by omega), mI_ui _ i e33, iA]
    by_cases y : i = F
    · rw [if_pos ⟨rfl, y⟩, if_pos y]
    · rw [if_neg (fun u => y u.2), if_neg y, f23.2.2.2.2.2.2 _ (by omega), f16.2.2.2.2.2.2 _ (by omega)]
  have nb : ∀ b, b ≠ p → b ≠ p + 6 → b ≠ p + 7 → b ≠ p + 8 → mI M46 b = mI M b := fun b b1 b2 b3 b4 => ff.2.2.2.2.2.2 b (fun y => by
    have y' : b = p ∨ b = p + 6 ∨ b = p + 7 ∨ b = p + 8 := y
    exact y'.elim b1 (fun y => y.elim b2 (fun y => y.elim b3 b4)))
  have fx : FI (txS q p O P) M M46 := ff.mono (fun b y => by
    have y' : b = p ∨ b = p + 6 ∨ b = p + 7 ∨ b = p + 8 := y
    exact y4z y')
  exact sn_mono (x_sn_fin h h0 h60 hb hn h8 hLa ha han hd hf o46 fx ip i7 i8 nb i6 ct hl hc72 hv gv hrc) hQ
theorem x_sn_formula (h : TX M z q w T A B D N C n p O P K Ab Be Cm V F ns sf ef c cnt L) (h0 : mI M (q + 1) 3 = 0) (h60 : F < 60) (cd : Cod M O P V F ns L e H 1) (hn : mI M q 3 = ((nw : Nat) : Int) ∧ nw < n ∧ mI M A nw = 2) (h8 : mI M q 8 = 0 ∨ mI M q 8 = 1) (hp : mI M p 2 = ((e + 1 : Nat) : Int)) (hLa : e + 1 ≤ a) (ha : mI M (q + 1) 2 = ((a : Nat) : Int)) (han : a ≤ n) (hd : mI M (q + 1) 5 = 0) (e50 : M1 = mUI M p 7 ((F : Int) + 1)) (e57 : M2 = mUI M1 (p + 8) F ((L : Nat) : Int)) (ct : CT M (q + 1) p nms) (hl : nms.length = c) (hc72 : c < 72) (hrc : rcn nms = F) : h_TR_settleNamed_115 G (d + 5) q 7 F M2 (fun M9 => itE M z q w T A B D N C n p O P K Ab Be Cm M9 ∧ snY M q p F nms (nw, 2, mI M q 8, (0, 0, 1)) M9 ∧ snD p O P F M M9 ∧ mI M9 (p + 8) F = ((L : Nat) : Int) ∧ mI M9 p 2 = ((e + 1 : Nat) : Int)) := by
  have f50 : FI (fun b => b = p) M M1 := by rw [e50]; exact FI.ui rfl
  have f57 : FI (fun b => b = p + 8) M1 M2 := by rw [e57]; exact FI.ui rfl
  have ff : FI (fun b => b = p ∨ b = p + 8) M M2 := (f50.mono (fun _ y => Or.inl y)).trans (f57.mono (fun _ y => Or.inr y))
  have hLe : L ≤ e := cd.2.2.2.2.2
  have hN : n ≤ 16384 := by have := h.1.1.2.2.2.1.2.2.1; have := h.1.1.2.2.2.1.1.2.2.2.2.2.2.1; omega
  have o57 : mOk M2 := by rw [e57]; exact mOk_UI (by rw [e50]; exact mOk_UI h.1.1.1 ⟨by omega, by omega⟩) ⟨by omega, by omega⟩
  have ip : ∀ i, mI M2 p i = if i = 7 then (F : Int) + 1 else mI M p i := fun i => by
    rw [f57.2.2.2.2.2.2 p (by omega), mI_ui p i e50]
    by_cases y7 : i = 7
    · rw [if_pos ⟨rfl, y7⟩, if_pos y7]
    · rw [if_neg (fun u => y7 u.2), if_neg y7]
  have i8 : ∀ i, mI M2 (p + 8) i = if i = F then ((L : Nat) : Int) else mI M (p + 8) i := fun i => by
    rw [mI_ui _ i e57]
    by_cases y : i = F
    · rw [if_pos ⟨rfl, y⟩, if_pos y]
    · rw [if_neg (fun u => y u.2), if_neg y, f50.2.2.2.2.2.2 _ (by omega)]
  have nb : ∀ b, b ≠ p → b ≠ p + 8 → mI M2 b = mI M b := fun b b1 b2 => ff.2.2.2.2.2.2 b (fun y => y.elim b1 b2)
  have fx : FI (txS q p O P) M M2 := ff.mono (fun b y => by
    have y' : b = p ∨ b = p + 8 := y
    exact y4z (y'.imp id (fun y => Or.inr (Or.inr y))))
  have nO : mI M2 O = mI M O ∧ mI M2 P = mI M P ∧ (∀ i, i ≤ 10 → mI M2 (q + i) = mI M (q + i)) ∧ (∀ i, 9 ≤ i → i ≤ 15 → mI M2 (p + i) = mI M (p + i)) := by
    have ap := h.1.apart
    have qp := h.1.2.2.2.2.2.1.2.1
    clear h h0 hn h8 ha hd ip i8 fx f50 f57 ff cd
    exact ⟨nb O (pnz0 ap.2.2.2.1 (by decide)) (pnz ap.2.2.2.1 (by decide) (by decide) (Or.inr (by decide)) (by decide)), nb P (pnz0 ap.2.2.2.2.1 (by decide)) (pnz ap.2.2.2.2.1 (by decide) (by decide) (Or.inr (by decide)) (by decide)), fun i hi => nb _ (qnz (i := 0) qp (by omega) (by omega) (by decide)) (qnz qp (by omega) (by omega) (by decide)), fun i h9 h15 => nb _ (by omega) (by omega)⟩
  have h57 := tx_name (l1 := 7) (e := e) (H := H) (L' := e + 1) h h0 h60 o57 fx (fun i hi => by rw [show q + 1 + i = q + (1 + i) by omega]; exact nO.2.2.1 _ (by omega)) (fun i y2 y7 => by rw [ip, if_neg y7]) (by rw [ip, if_pos rfl]; rfl) nO.2.2.2 (fun i hi => by rw [nb (p + 7) (by omega) (by omega)]) (fun i hi => by rw [i8, if_neg (Nat.ne_of_lt hi)]) (fun i _ => ⟨by rw [nO.1], by rw [nO.2.1]⟩) (Nat.le_succ_of_le hLe) (Or.inr ⟨rfl, by rw [i8, if_pos rfl], cd.cg (fun i _ => by rw [nO.1]) (fun i _ => by rw [nO.2.1]), Nat.lt_succ_self _⟩)
  have wA := (h.1.words fx).1
  have n0 := nO.2.2.1 0 (by omega)
  have n1 := nO.2.2.1 1 (by omega)
  rw [Nat.add_zero] at n0
  have r6 : ∀ i, i ≤ 9 → mI M2 (q + 1 + i) = mI M (q + 1 + i) := fun i hi => by rw [show q + 1 + i = q + (1 + i) by omega]; exact nO.2.2.1 _ (by omega)
  have ct' : CT M2 (q + 1) p nms := ct.cg (by rw [n1]) (r6 6 (by omega)) (r6 7 (by omega)) (r6 8 (by omega)) (r6 9 (by omega)) (nb _ (by omega) (by omega)) (nb _ (by omega) (by omega))
  have pq : ∀ i, i ≤ 15 → p + i < q + 1 ∨ q + 1 + 9 < p + i := fun i hi => by
    have qp := h.1.2.2.2.2.2.1.2.1
    exact pqz qp hi
  have pO : (O < q + 1 ∨ q + 1 + 9 < O) ∧ (P < q + 1 ∨ q + 1 + 9 < P) := by
    have ap := h.1.apart
    have qp := h.1.2.2.2.2.2.1.2.1
    clear h h0 hn h8 ha hd ip i8 fx f50 f57 ff cd
    exact ⟨pOz ap.2.1, pOz ap.2.2.1⟩
  refine x_sn115 (e9 := (nw, 2, mI M q 8, (0, 0, 1))) (nms := nms) (Or.inr rfl) h57 h60 ⟨by rw [n0]; exact hn.1, hn.2.1, by rw [wA]; exact hn.2.2⟩ (by rw [n0]; exact h8) (by rw [ip, if_neg (by decide)]; exact hp) (by rw [n1]; exact ha) han hLa (by rw [n1]; exact hd) (trF.fi fx) ct' hl hc72 rfl rfl ⟨by simp, by simp⟩ (by rw [n0]) (fun u => absurd u (by simp)) (by show ((F : Nat) : Int) = if (2 : Nat) = 3 then _ else _; rw [if_neg (by decide), hrc]) (fun M9 e1 e2 e3 e4 e5 => ⟨e1, ⟨e2, fun i hi => by rw [e3 i hi, n1], fun i hi => by rw [e4, ip]⟩, ?_, ?_, by rw [e4, ip, if_neg (by decide)]; exact hp⟩)
  · exact ⟨fun i i9 i15 => by rw [e5 _ (pq i i15), nO.2.2.2 i i9 i15], fun i i3 i5 => by rw [e5 _ (pq i (by omega)), nb _ (by omega) (by omega)], fun j hj => ⟨by rw [e5 _ (pq 6 (by omega)), nb _ (by omega) (by omega)], by rw [e5 _ (pq 7 (by omega)), nb _ (by omega) (by omega)], by rw [e5 _ (pq 8 (by omega)), i8, if_neg (Nat.ne_of_lt hj)]⟩, by rw [e5 O pO.1, nO.1], by rw [e5 P pO.2, nO.2.1]⟩
  · rw [e5 _ (pq 8 (by omega)), i8, if_pos rfl]
end TXK
end
section
section
/-! The class's reader of texts, exactly: settleNamed. -/
section TXL
variable {G : mG} {d z q w T A B D N C n p O P K Ab Be Cm V F c L cnt a nw k e k0 e0 : Nat} {M0 M M' M1 M2 : mM} {ns : Nat → Int} {sf ef : Nat → Nat} {H : Nat → Nat} {W pl nq E : Nat → Int} {Cf : Nat → Int × Int} {sm : Nat → Nat → Prop} {s s' : st9} {ft : Int × Int} {v : vrs}
/-- the class's tables are the pure state s -/
def CSm (M : mM) (q p : Nat) (s : st9) : Prop := CT M (q + 1) p s.1 ∧ mI M p 3 = (s.2.1.1 : Int) ∧ mI M p 7 = (s.2.1.2.1 : Int) ∧ mI M p 12 = (s.2.1.2.2.1 : Int) ∧ (mI M p 11 = -1 ↔ s.2.1.2.2.2 = 0) ∧ s.1.length = s.2.1.1 + s.2.1.2.1 ∧ vcn s.1 = s.2.1.1 ∧ rcn s.1 = s.2.1.2.1
/-- an item has been settled, exactly -/
def itZ (q p : Nat) (s' : st9) (M' : mM) : Prop := FT M' (q + 1) s'.2.2 ∧ (s'.2.2.1 = 0 → CSm M' q p s')
theorem itZ.bad (h : FT M' (q + 1) s'.2.2) (h1 : s'.2.2.1 ≠ 0) : itZ q p s' M' := ⟨h, fun z => absurd z h1⟩
/-- a const or formula has been settled: the program's tables -/
def snZ (p O P F L e : Nat) (l1 : Int) (v : vrs) (M M' : mM) : Prop := snD p O P F M M' ∧ (l1 = 4 → (mI M' (p + 6) F = v.2.1 ∧ mI M' (p + 7) F = v.2.2) ∧ mI M' p 2 = ((L : Nat) : Int)) ∧ (l1 = 7 → mI M' (p + 8) F = ((L : Nat) : Int) ∧ mI M' p 2 = ((e + 1 : Nat) : Int)) ∧ mI M' p 11 = mI M p 11
theorem l47x {l : Int} (h : l = 4 ∨ l = 7) : i32 l := ⟨by omega, by omega⟩
theorem x_TR_settleNamed {l1 : Int} (hF : FMx G) (h4 : l1 = 4 ∨ l1 = 7) (h : TX M z q w T A B D N C n p O P K Ab Be Cm V F ns sf ef c cnt L) (y60 : 60 ≤ F → mI M (q + 1) 3 ≠ 0) (cd : Cod M O P (vco l1 V) F (nco l1 ns) L e H 1) (hp : mI M p 2 = ((e + 1 : Nat) : Int)) (ha : mI M (q + 1) 2 = ((a : Nat) : Int)) (han : a ≤ n) (hLa : e + 1 ≤ a) (hd : mI M (q + 1) 5 = 0) (hn : mI M q 3 = ((nw : Nat) : Int) ∧ nw < n ∧ mI M A nw = 2) (h8 : mI M q 8 = 0 ∨ mI M q 8 = 1) (h21 : mI M (q + 21) 0 = ((L : Nat) : Int)) (wt : WTq M T A B D n W pl nq sm) (hnw : nw = k0 + 1) (cs : CSm M q p s) (ec : ECq M (q + 1) p n W nq sm s.1 c (if l1 = 4 then 1 else 0) E Cf) (hkd : mI M q 8 = kdq W E 0 (k0 + 3) e0) (eo : Eo W 6 (k0 + 3) e0) (e0n : e0 ≤ n) (hc : Cd W Cf pl (mI M O) (mI M P) 0 0 0 (k0 + 3) e0 L e) (oe : mI M O e = 0) (hFT : FT M (q + 1) ft) (hfl : ft.1 = 0 → (fl W E pl 0 (k0 + 3) e0).1 = 0) (hv : v = vlq W (cv9 W nq sm s.1) pl 0 0 (k0 + 3) e0) (gv : ft.1 = 0 → l1 = 4 → vgd (kdq W E 0 (k0 + 3) e0) v) (flt : ft.1 ≠ 0 → s'.2.2 = ft) (es1 : ft.1 = 0 → l1 = 4 → v.1 ≠ 0 → s'.2.2 = (v.1, v.2.1)) (es2 : ft.1 = 0 → (l1 = 4 → v.1 = 0) → s' = (s.1 ++ [(k0 + 1, (if l1 = 4 then 1 else 2), kdq W E 0 (k0 + 3) e0, if l1 = 4 then v else (0, 0, 1))], (s.2.1.1, s.2.1.2.1 + 1, s.2.1.2.2), (0, 0))) : Cv G y_TR_settleNamed (d + 6) [vr q, vi l1] M (fun M' => itE M z q w T A B D N C n p O P K Ab Be Cm M' ∧ itZ q p s' M' ∧ mI M' (q + 1) 2 = ((a : Nat) : Int) ∧ (s'.2.2.1 = 0 → snZ p O P F L e l1 v M M')) := by
  obtain ⟨ct, j3, j7, j12, j11, jl, jv, jr⟩ := id cs
  have hl : s.1.length = c := by
    have y1 := ct.1
    have y2 := h.2.1.2.2.1.1
    omega
  have eF : s.2.1.2.1 = F := by
    have := h.2.1.2.1.1
    omega
  have eV : s.2.1.1 = V := by
    have := h.2.1.1.1
    omega
  have V12 := h.2.1.1.2
  have h9 : ∀ i, i < c → mI M (q + 1 + 9) i = 0 ∨ mI M (q + 1 + 9) i = 1 := fun i hi => (h.2.1.2.2.1.2.2 i hi).2.2
  have fin : ∀ {e9 : nm9} {Mx M9 : mM}, ft.1 = 0 → (∀ i, i ≠ 3 → i ≠ 4 → mI Mx (q + 1) i = mI M (q + 1) i) → mI Mx (q + 1) 3 = 0 → mI Mx p = mI M p → s' = (s.1 ++ [e9], (s.2.1.1, s.2.1.2.1 + 1, s.2.1.2.2), (0, 0)) → e9.2.1 ≠ 3 → snY Mx q p F s.1 e9 M9 → itZ q p s' M9 := fun {e9 Mx M9} _ _ g2 g3 g4 g6 g5 => by
    obtain ⟨y1, y2, y3⟩ := g5
    rw [g4]
    refine ⟨⟨by rw [y2 3 (by decide)]; exact g2, fun u => absurd rfl u⟩, fun _ => ⟨y1, ?_, ?_, ?_, ?_, ?_, ?_, ?_⟩⟩
    · rw [y3 3 (by decide), if_neg (by decide), g3]; exact j3
    · rw [y3 7 (by decide), if_pos rfl]
      show (F : Int) + 1 = ((s.2.1.2.1 + 1 : Nat) : Int)
      omega
    · rw [y3 12 (by decide), if_neg (by decide), g3]; exact j12
    · rw [y3 11 (by decide), if_neg (by decide), g3]; exact j11
    · show (s.1 ++ [e9]).length = s.2.1.1 + (s.2.1.2.1 + 1)
      rw [List.length_append, jl]
      simp
      omega
    · show vcn (s.1 ++ [e9]) = s.2.1.1
      rw [vcn_app]
      show vcn s.1 + (0 + (if e9.2.1 = 3 then 1 else 0)) = _
      rw [if_neg g6]
      omega
    · show rcn (s.1 ++ [e9]) = s.2.1.2.1 + 1
      rw [rcn_app]
      show rcn s.1 + (0 + (if e9.2.1 = 3 then 0 else 1)) = _
      rw [if_neg g6]
      omega
  have hLe : L ≤ e := cd.2.2.2.2.2
  obtain ⟨t0, t1, t2, t3, t4, t5⟩ := h.1.2.1
  obtain ⟨s1, s2, s3, s4⟩ := h.1.2.2.1
  obtain ⟨k6, ⟨-, -, -, p8, p9, p10, -⟩, ⟨-, -, -, kp6, kp7, kp8, -⟩, ⟨-, -, -, np6, np7, np8, -⟩⟩ := h.tab
  have f7 := h.2.1.2.1.1
  have hN : n ≤ 16384 := by have := h.1.1.2.2.2.1.2.2.1; have := h.1.1.2.2.2.1.1.2.2.2.2.2.2.1; omega
  have q21p : q + 21 ≠ p ∧ q + 21 ≠ p + 8 := by have := h.1.2.2.2.2.2.1.2.1; clear h4 y60 h8 j11 es1 es2 gv hfl flt; omega
  refine k_TR_settleNamed h.1.1.1 (l47x h4) ?_
  refine ⟨t0, by rw [t1]; exact h.1.1.2.1.1, fun y0 => ⟨fun y4 => ?_, fun y4 => ?_⟩, fun y0 => ?_⟩
  · rw [t1] at y0
    have h60 : F < 60 := by
      by_cases u : 60 ≤ F
      · exact absurd y0 (y60 u)
      · omega
    subst y4
    have cd' : Cod M O P 0 F (nsc ns) L e H 1 := cd
    have f0 : ft.1 = 0 := by rw [← hFT.1]; exact y0
    have ec' : ECq M (q + 1) p n W nq sm s.1 c 1 E Cf := ec
    have ev : vlq W (cvn W nq sm s.1 n) pl 0 0 (k0 + 3) e0 = v := by
      rw [hv]
      refine vl_ci0 (fun k _ k2 => ?_) eo
      unfold cvn
      rw [if_pos (by omega)]
    refine (x_TR_worksOut (k := 0) (l2 := 0) hF (by first | decide | omega) (i32s (by decide) (by decide)) h y0 h21 hp (by omega) (lf_ex wt ec' ct hl h9) eo (hfl f0) hc (Nat.lt_succ_self _) oe (fun z => absurd rfl z)).mono (fun x9 M8 k => ?_)
    obtain ⟨⟨Ab1, Be1, Cm1, h1, fa, hab, hr, ⟨q0, q1, q21, qp, qO, qP, qA⟩, k8⟩, wv, ct8, -⟩ := k
    rw [ev] at wv
    have tr := wu_tr (p := p) (O := O) (P := P) fa hab hr
    have i9 : i32 x9 := m_b32 (k8.imp (fun u => u) (fun u => u.1))
    have a8 : mI M8 (q + 1) 2 = ((a : Nat) : Int) := by rw [q1 2 (by decide) (by decide)]; exact ha
    have d8 : mI M8 (q + 1) 5 = 0 := by rw [q1 5 (by decide) (by decide)]; exact hd
    refine ⟨i9, h1.1.1.1, fun y => ?_, fun y => ?_⟩
    · refine ⟨⟨Ab1, Be1, Cm1, V, F, ns, sf, ef, c, cnt, e + 1, a, h1.any (fun _ => Nat.le_succ_of_le hLe), by rw [qp]; exact hp, a8, han, hLa, d8, tr⟩, ?_⟩
      obtain ⟨-, w2, w3⟩ := wv.resolve_right (fun u => by rw [y] at u; exact absurd u.1 (by decide))
      have v1 : v.1 ≠ 0 := fun u => w2 (by unfold wuf; rw [if_pos rfl, if_neg (fun z => z u)])
      have ew : wuf 0 v (pl (k0 + 3)) = (v.1, v.2.1) := by unfold wuf; rw [if_pos rfl, if_pos v1]
      rw [ew] at w3
      have es := es1 f0 rfl v1
      exact ⟨itZ.bad (by rw [es]; exact w3) (by rw [es]; exact v1), a8, fun t => absurd t (by rw [es]; exact v1)⟩
    · have wp := wu_p h fa
      obtain ⟨-, u2, u3⟩ := k8.resolve_left y
      obtain ⟨-, w2, w3, w4, w5⟩ := wv.resolve_left (fun u => y u.1)
      have mk := h1.1.2.2.2.1.2.1
      have pA : mI M8 Ab1 0 = v.2.1 := by rw [← mk.2.2.1]; exact w5.1
      have pB : mI M8 Be1 0 = v.2.2 := by rw [← mk.2.2.2.1]; exact w5.2
      have k88 : mI M8 q 8 = kdq W E 0 (k0 + 3) e0 := by rw [q0]; exact hkd
      have es := es2 f0 (fun _ => w3)
      rw [if_pos rfl, if_pos rfl, ← hnw, ← k88] at es
      obtain ⟨v1, v2, v3, v4⟩ := x_sn_const (G := G) (d := d) (v := v) (nms := s.1) (Q := fun M' => itE M z q w T A B D N C n p O P K Ab Be Cm M' ∧ itZ q p s' M' ∧ mI M' (q + 1) 2 = ((a : Nat) : Int) ∧ (s'.2.2.1 = 0 → snZ p O P F L e 4 v M M')) (by rw [jr, eF]) (fun M9 g => ⟨g.1, fin f0 q1 u2 qp es (by simp) g.2.1, by rw [g.2.1.2.1 2 (by decide)]; exact a8, fun _ => ⟨⟨fun i i9 i15 => by rw [g.2.2.1.1 i i9 i15, wp i i15], fun i i3 i5 => by rw [g.2.2.1.2.1 i i3 i5, wp i (by omega)], fun j hj => by rw [(g.2.2.1.2.2.1 j hj).1, (g.2.2.1.2.2.1 j hj).2.1, (g.2.2.1.2.2.1 j hj).2.2, wp 6 (by omega), wp 7 (by omega), wp 8 (by omega)]; exact ⟨rfl, rfl, rfl⟩, by rw [g.2.2.1.2.2.2.1, qO], by rw [g.2.2.1.2.2.2.2, qP]⟩, fun _ => g.2.2.2, fun t => absurd t (by decide), by rw [g.2.1.2.2 11 (by decide), if_neg (by decide), qp]⟩⟩) h1 u2 h60 u3 ⟨by rw [q0]; exact hn.1, hn.2.1, by rw [qA]; exact hn.2.2⟩ (by rw [q0]; exact h8) (by rw [q21]; exact h21) (show L ≤ a by omega) a8 han d8 tr (ct8 _ ct) hl (by omega) ⟨w3, pA, pB⟩ (by rw [k88]; exact gv f0 rfl)
      refine ⟨v1, v2, v3, fun M16 e16 => ?_⟩
      obtain ⟨w1, w2, w3, w4, w5, w6⟩ := v4 M16 e16
      exact ⟨w1, w2, w3, w4, w5, fun M23 e23 => ⟨fun _ => w6 M23 e23, fun u => absurd rfl u⟩⟩
  · have y7 : l1 = 7 := h4.resolve_left y4
    subst y7
    rw [t1] at y0
    have h60 : F < 60 := by
      by_cases u : 60 ≤ F
      · exact absurd y0 (y60 u)
      · omega
    have cd' : Cod M O P V F ns L e H 1 := cd
    rw [t3, f7, Int.toNat_natCast]
    refine ⟨k6, ⟨by omega, by omega⟩, fun M50 e50 => ?_⟩
    have f50 : FI (fun b => b = p) M M50 := by rw [e50]; exact FI.ui rfl
    rw [f50.1, f50.2.1, f50.2.2.1, t3, t4, p10, np8, s3, f50.2.2.2.2.2.2 _ q21p.1, h21]
    refine ⟨k6, s1, ⟨by omega, by omega⟩, kp8, by omega, fun M57 e57 => ⟨fun u => absurd u (by decide), fun _ => ?_⟩⟩
    have f0 : ft.1 = 0 := by rw [← hFT.1]; exact y0
    have es := es2 f0 (fun u => absurd u (by decide))
    rw [if_neg (by decide), if_neg (by decide), ← hnw, ← hkd] at es
    exact sn_mono (x_sn_formula (nms := s.1) h y0 h60 cd' hn h8 hp hLa ha han hd e50 e57 ct hl (by omega) (by rw [jr, eF])) (fun M9 g => ⟨g.1, fin f0 (fun _ _ _ => rfl) y0 rfl es (by simp) g.2.1, by rw [g.2.1.2.1 2 (by decide)]; exact ha, fun _ => ⟨g.2.2.1, fun t => absurd t (by decide), fun _ => g.2.2.2, by rw [g.2.1.2.2 11 (by decide), if_neg (by decide)]⟩⟩)
  · refine ⟨⟨Ab, Be, Cm, V, F, ns, sf, ef, c, cnt, e + 1, a, h.any (fun _ => Nat.le_succ_of_le hLe), hp, ha, han, hLa, hd, trF.refl⟩, ?_⟩
    rw [t1] at y0
    have f0 : ft.1 ≠ 0 := by rw [← hFT.1]; exact y0
    have es := flt f0
    exact ⟨itZ.bad (by rw [es]; exact hFT) (by rw [es]; exact f0), ha, fun t => absurd t (by rw [es]; exact f0)⟩
end TXL
end
section
/-! The class's reader of texts, exactly: a var is settled. -/
section TXM
variable {G : mG} {d z q w T A B D N C n p O P K Ab Be Cm V F c sl L cnt a nw k x y x2 y2 Ab0 Be0 Cm0 : Nat} {M0 M M' M1 M2 Mb : mM} {ns : Nat → Int} {sf ef : Nat → Nat} {W pl nq E : Nat → Int} {Cf : Nat → Int × Int} {cv : Nat → vrs} {sm : Nat → Nat → Prop} {nms : List nm9} {s s' : st9} {ft ff : Int × Int} {tr : Int}
theorem fst9_n {a b : Int × Int} (h : a.1 ≠ 0) : fst9 a b = a := if_neg h
theorem fst9_zr {a b : Int × Int} (h : a.1 = 0) : fst9 a b = b := if_pos h
theorem Lfo.cg {k : Nat} (h : Lfo M p W E cv Cf k) (h6 : mI M' (p + 6) = mI M (p + 6)) (h7 : mI M' (p + 7) = mI M (p + 7)) : Lfo M' p W E cv Cf k := by
  unfold Lfo at h ⊢
  rw [h6, h7]
  exact h
/-- what stays while a var is settled -/
def svK (q p O P : Nat) (nms : List nm9) (M0 M : mM) : Prop := CT M (q + 1) p nms ∧ mI M q = mI M0 q ∧ (mI M (q + 21) = mI M0 (q + 21) ∧ mI M (q + 22) = mI M0 (q + 22)) ∧ (mI M p = mI M0 p ∧ mI M O = mI M0 O ∧ mI M P = mI M0 P) ∧ mI M (p + 6) = mI M0 (p + 6) ∧ mI M (p + 7) = mI M0 (p + 7) ∧ ∀ i, 3 ≤ i → i ≤ 15 → mI M (p + i) = mI M0 (p + i)
/-- the item's rule k: its words x to y, without a fault, of kind tr -/
def rwE (W pl : Nat → Int) (cv : Nat → vrs) (q p O P sl k x y : Nat) (tr : Int) (M : mM) : Prop := ∃ (E : Nat → Int) (Cf : Nat → Int × Int), rvQz W pl Cf q O P k x y sl M ∧ (∀ k, (W k = 1 ∨ W k = 2 ∨ W k = 12 ∨ W k = 13) → (W k = 1 → E k ≠ -1) → Lfo M p W E cv Cf k) ∧ Eo W 6 x y ∧ (fl W E pl 0 x y).1 = 0 ∧ kdq W E 0 x y = tr
theorem rwE.gd (h : rwE W pl cv q p O P sl k x y tr M) : vgd tr (vlq W cv pl 0 0 x y) := by
  obtain ⟨E, Cf, -, h2, h3, h4, h5⟩ := h
  rw [← h5]
  exact vl_ok (fun k a b => (h2 k a b).1) _ 0 x y (Nat.le_refl _) (Or.inl ⟨rfl, h3⟩) h4 (fun u => absurd u (by decide)) 0
theorem x_sv_note {x y : Int} (hx : i32 x) (x0 : x ≠ 0) (hy : i32 y) (h : svS M0 z q w T A B D N C n p O P K Ab0 Be0 Cm0 V F ns sf ef c cnt L sl a nw M) (kk : svK q p O P nms Mb M) (hf : FT M (q + 1) ft) : Cv G y_RR_note d [vr (q + 1), vi x, vi y] M (fun M' => mOk M' ∧ svS M0 z q w T A B D N C n p O P K Ab0 Be0 Cm0 V F ns sf ef c cnt L sl a nw M' ∧ svK q p O P nms Mb M' ∧ FT M' (q + 1) (fst9 ft (x, y))) := by
  obtain ⟨Ab, Be, Cm, h1, tr, ⟨v1, v2, v3, v4, v5, v6, v7, v8, v9, v10, v11, v12⟩, r8, r7⟩ := h
  obtain ⟨⟨np0, np1, -, -⟩, ⟨nO0, nO1, -, -, -⟩, nP0, nP1, -, -, -⟩ := h1.1.ne
  obtain ⟨q01, q10, q210, q211, -, -, q220, q221, -⟩ := q_ne q
  have pq1 : ∀ i, i ≤ 15 → p + i ≠ q + 1 := fun i hi => by
    have := h1.1.2.2.2.2.2.1.2.1
    omega
  have p61 : p + 6 ≠ q + 1 ∧ p + 7 ≠ q + 1 := by
    have := h1.1.2.2.2.2.2.1.2.1
    omega
  refine (x_tx_note hx x0 hy h1).mono (fun M' k => ?_)
  obtain ⟨o1, h2, x2, -, r2, b2, fq⟩ := k
  have e0 := b2 q q01
  have cg : ∀ {k : Nat}, rvR M q O P F ns L sl k → rvR M' q O P F ns L sl k := fun hr => hr.cg (by rw [b2 _ q211]) (fun i _ => ⟨by rw [b2 O nO1], by rw [b2 P nP1]⟩) (Nat.le_refl _)
  refine ⟨o1, ⟨Ab, Be, Cm, h2, tr.trans (trF.fi x2.1), ⟨by rw [b2 p np1]; exact v1, v2, v3, by rw [r2 2 (by decide) (by decide)]; exact v4, v5, by rw [r2 5 (by decide) (by decide)]; exact v6, by rw [e0]; exact v7, v8, by rw [(h1.1.words x2.1).1]; exact v9, by rw [e0]; exact v10, by rw [e0]; exact v11, fun u => x2.2.2.1 (v12 u)⟩, fun u => ?_, fun u => ?_⟩, ?_, fq ft hf⟩
  · rw [e0] at u
    exact ⟨cg (r8 u).1, cg (r8 u).2⟩
  · rw [e0] at u
    exact cg (r7 u)
  · obtain ⟨ct, g0, ⟨g21, g22⟩, ⟨gp, gO, gP⟩, g6, g7, g8⟩ := kk
    exact ⟨ct.tx x2.2, by rw [e0]; exact g0, ⟨by rw [b2 _ q211]; exact g21, by rw [b2 _ q221]; exact g22⟩, ⟨by rw [b2 p np1]; exact gp, by rw [b2 O nO1]; exact gO, by rw [b2 P nP1]; exact gP⟩, by rw [b2 _ p61.1]; exact g6, by rw [b2 _ p61.2]; exact g7, fun i i3 i15 => by rw [b2 _ (pq1 i i15)]; exact g8 i i3 i15⟩
theorem x_sv_works (hF : FMx G) (hk : k < 3) (h : svS M0 z q w T A B D N C n p O P K Ab0 Be0 Cm0 V F ns sf ef c cnt L sl a nw M) (kk : svK q p O P nms Mb M) (hf : FT M (q + 1) (0, 0)) (hr : rwE W pl cv q p O P sl k x y tr Mb) : Ci G y_TR_worksOut (d + 5) [vr q, vi k, vi 1] M (fun r M' => i32 r ∧ mOk M' ∧ svS M0 z q w T A B D N C n p O P K Ab0 Be0 Cm0 V F ns sf ef c cnt L sl a nw M' ∧ svK q p O P nms Mb M' ∧ ((r = 0 ∧ (wh9 (vlq W cv pl 0 0 x y) (pl x)).1 ≠ 0 ∧ FT M' (q + 1) (wh9 (vlq W cv pl 0 0 x y) (pl x))) ∨ (r = 1 ∧ (wh9 (vlq W cv pl 0 0 x y) (pl x)).1 = 0 ∧ (vlq W cv pl 0 0 x y).1 = 0 ∧ FT M' (q + 1) (0, 0) ∧ mI M' (mR M' (q + 11) 6) 0 = (vlq W cv pl 0 0 x y).2.1))) := by
  obtain ⟨Ab, Be, Cm, h1, trf, ⟨v1, v2, v3, v4, v5, v6, v7, v8, v9, v10, v11, v12⟩, r8, r7⟩ := h
  obtain ⟨ct, e0, ⟨e21, e22⟩, ⟨ep, eO, eP⟩, e6, e7, e8⟩ := kk
  obtain ⟨E, Cf, ⟨sr, er, u1, u2, u3, u4, u5⟩, hlf, eo, hfl, -⟩ := hr
  have h0 : mI M (q + 1) 3 = 0 := hf.1
  refine (x_TR_worksOut (k := k) (l2 := 1) (cv := cv) hF hk (i32s (by omega) (by omega)) h1 h0 (by rw [e21]; exact u1) v1 (Nat.le_trans v3 v5) (fun j i1 i2 => (hlf j i1 i2).cg e6 e7) eo hfl (by rw [eO, eP]; exact u3) u4 (by rw [eO]; exact u2) (fun _ => by rw [e22]; exact u5)).mono (fun r M' k => ?_)
  obtain ⟨⟨Ab1, Be1, Cm1, h2, fa, hab, hrm, ⟨q0, q1, q21, qp, qO, qP, qA⟩, k8⟩, wv, ctk, w22, w6, w7⟩ := k
  have i9 : i32 r := m_b32 (k8.imp (fun u => u) (fun u => u.1))
  have cg : ∀ {k : Nat}, rvR M q O P F ns L sl k → rvR M' q O P F ns L sl k := fun hr => hr.cg (by rw [q21]) (fun i _ => ⟨by rw [qO], by rw [qP]⟩) (Nat.le_refl _)
  have v12' : 12 ≤ V → mI M' (q + 1) 3 ≠ 0 := fun u => absurd h0 (v12 u)
  refine ⟨i9, h2.1.1.1, ⟨Ab1, Be1, Cm1, h2, trf.trans (wu_tr fa hab hrm), ⟨by rw [qp]; exact v1, v2, v3, by rw [q1 2 (by decide) (by decide)]; exact v4, v5, by rw [q1 5 (by decide) (by decide)]; exact v6, by rw [q0]; exact v7, v8, by rw [qA]; exact v9, by rw [q0]; exact v10, by rw [q0]; exact v11, v12'⟩, fun u => ?_, fun u => ?_⟩, ⟨ctk _ ct, by rw [q0]; exact e0, ⟨by rw [q21]; exact e21, by rw [w22]; exact e22⟩, ⟨by rw [qp]; exact ep, by rw [qO]; exact eO, by rw [qP]; exact eP⟩, by rw [w6]; exact e6, by rw [w7]; exact e7, fun i i3 i15 => by rw [wu_p h1 fa i i15]; exact e8 i i3 i15⟩, ?_⟩
  · rw [q0] at u
    exact ⟨cg (r8 u).1, cg (r8 u).2⟩
  · rw [q0] at u
    exact cg (r7 u)
  · have ew : wuf 1 (vlq W cv pl 0 0 x y) (pl x) = wh9 (vlq W cv pl 0 0 x y) (pl x) := by
      unfold wuf
      rw [if_neg (by decide)]
    unfold wuV at wv
    rw [ew] at wv
    exact wv.imp (fun u => u) (fun u => ⟨u.1, u.2.1, u.2.2.1, u.2.2.2.1, u.2.2.2.2.1⟩)
/-- the program's tables with var number V -/
def svD (p O P V L : Nat) (l1 l2 l3 : Int) (M M' : mM) : Prop := (∀ i, 6 ≤ i → i ≤ 15 → mI M' (p + i) = mI M (p + i)) ∧ (∀ j, mI M' (p + 3) j = (if j = V then l1 else mI M (p + 3) j) ∧ mI M' (p + 4) j = (if j = V then l2 else mI M (p + 4) j) ∧ mI M' (p + 5) j = (if j = V then l3 else mI M (p + 5) j)) ∧ (mI M' O = mI M O ∧ mI M' P = mI M P) ∧ mI M' p 2 = ((L : Nat) : Int) ∧ mI M' p 11 = mI M p 11
/-- a var has been added -/
def svY (M : mM) (q p V : Nat) (nms : List nm9) (e9 : nm9) (M' : mM) : Prop := CT M' (q + 1) p (nms ++ [e9]) ∧ (∀ i, i ≠ 19 → mI M' (q + 1) i = mI M (q + 1) i) ∧ ∀ i, i ≠ 2 → mI M' p i = if i = 3 then (V : Int) + 1 else mI M p i
theorem x_sv_fin {l1 l2 l3 : Int} (hvc : vcn nms = V) (wv : ∀ j, mI M1 (p + 3) j = (if j = V then l1 else mI M (p + 3) j) ∧ mI M1 (p + 4) j = (if j = V then l2 else mI M (p + 4) j) ∧ mI M1 (p + 5) j = (if j = V then l3 else mI M (p + 5) j)) (h : TX M z q w T A B D N C n p O P K Ab Be Cm V F ns sf ef c cnt L) (hv : vrS M q A n p L sl a nw V) (hV : V < 12) (hf : trF M0 q p O P Ab0 Be0 Cm0 M Ab Be Cm) (o1 : mOk M1) (f1 : FI (fun b => b = p + 3 ∨ b = p + 4 ∨ b = p + 5) M M1) (ct : CT M (q + 1) p nms) (hl : nms.length = c) (hc72 : c < 72) : Cv G y_RR_know d [vr (q + 1), vi (mI M1 q 3), vi 5, vi (mI M1 p 3), vi (mI M1 q 8)] M1 (fun M136 => mOk M136 ∧ (mK M136 q = 3 ∧ mK M136 (mR M136 q 2) = 6 ∧ i32 ((mI M136 (mR M136 q 2) 3) + 1) ∧ ∀ M142, M142 = mUI M136 (mR M136 q 2) 3 ((mI M136 (mR M136 q 2) 3) + 1) → mK M142 (mR M142 q 2) = 6 ∧ ∀ M145, M145 = mUI M142 (mR M142 q 2) 2 (mI M142 q 4) → (itE M0 z q w T A B D N C n p O P K Ab0 Be0 Cm0 M145 ∧ svY M q p V nms (nw, 3, mI M q 8, (0, 0, 1)) M145 ∧ svD p O P V L l1 l2 l3 M M145))) := by
  obtain ⟨v1, v2, v3, v4, v5, v6, v7, v8, v9, v10, v11, v12⟩ := hv
  have ap := h.1.apart
  have qp := h.1.2.2.2.2.2.1.2.1
  have c3 := h.2.1.1.1
  have hN : n ≤ 16384 := by have := h.1.1.2.2.2.1.2.2.1; have := h.1.1.2.2.2.1.1.2.2.2.2.2.2.1; omega
  have nb1 : ∀ b, b ≠ p + 3 → b ≠ p + 4 → b ≠ p + 5 → mI M1 b = mI M b := fun b b1 b2 b3 => f1.2.2.2.2.2.2 b (fun y => by
    have y' : b = p + 3 ∨ b = p + 4 ∨ b = p + 5 := y
    omega)
  have fx1 : FI (txS q p O P) M M1 := f1.mono (fun b y => by
    have y' : b = p + 3 ∨ b = p + 4 ∨ b = p + 5 := y
    show (q ≤ b ∧ b ≤ q + 10) ∨ b = q + 21 ∨ b = q + 22 ∨ b = p ∨ (p + 3 ≤ b ∧ b ≤ p + 15) ∨ b = O ∨ b = P
    omega)
  have P1 := h.1.fi o1 fx1
  have A1 := (h.1.words fx1).1
  have e1 := nb1 q (by omega) (by omega) (by omega)
  have e2 := nb1 p (by first | (have h1 := qp; omega) | omega) (by first | (have h1 := qp; omega) | omega) (by first | (have h1 := qp; omega) | omega)
  have e3 := nb1 (q + 1) (by omega) (by omega) (by omega)
  have tn : TN M1 (q + 1) A n (V + 1) F ns c := h.2.1.2.2.1.more A1 e3 (fun i _ _ => nb1 _ (by omega) (by omega) (by omega))
  have eO := nb1 O (by first | (have h1 := ap.2.2.2.1; have h2 := ap.2.1; omega) | omega) (by first | (have h1 := ap.2.2.2.1; have h2 := ap.2.1; omega) | omega) (by first | (have h1 := ap.2.2.2.1; have h2 := ap.2.1; omega) | omega)
  have eP := nb1 P (by first | (have h1 := ap.2.2.2.2.1; have h2 := ap.2.2.1; omega) | omega) (by first | (have h1 := ap.2.2.2.2.1; have h2 := ap.2.2.1; omega) | omega) (by first | (have h1 := ap.2.2.2.2.1; have h2 := ap.2.2.1; omega) | omega)
  have e6 : ∀ i, 6 ≤ i → i ≤ 15 → mI M1 (p + i) = mI M (p + i) := fun i h6 h15 => nb1 _ (by omega) (by omega) (by omega)
  have e5 : mI M1 (q + 6) = mI M (q + 6) := nb1 _ (by omega) (by omega) (by omega)
  have ct1 : CT M1 (q + 1) p nms := ct.cg (by rw [e3]) (nb1 _ (by omega) (by omega) (by omega)) (nb1 _ (by omega) (by omega) (by omega)) (nb1 _ (by omega) (by omega) (by omega)) (nb1 _ (by omega) (by omega) (by omega)) (e6 6 (by omega) (by omega)) (e6 7 (by omega) (by omega))
  rw [e1, e2, v7, c3]
  refine (x_RR_know (v := nw) (l2 := 5) (l3 := V) P1.1 tn v8 (by rw [A1]; exact v9) (i32s (by omega) (by omega)) (i32s (by omega) (by omega)) v11 (Or.inl ⟨rfl, by omega, by omega⟩)).mono (fun M136 k => ?_)
  obtain ⟨k1, k2, k3, k4, ⟨c', k5, -⟩, k6⟩ := k
  have nb2 : ∀ b, (b < q + 1 ∨ q + 1 + 9 < b) → mI M136 b = mI M1 b := fun b hb => k2.2.2.2.2.2.2 b (fun y => by have y' : q + 1 ≤ b ∧ b ≤ q + 1 + 9 := y; omega)
  have fx2 : FI (txS q p O P) M1 M136 := k2.mono (fun b y => Or.inl (by have y' : q + 1 ≤ b ∧ b ≤ q + 1 + 9 := y; omega))
  have P2 := P1.fi k1.1 fx2
  obtain ⟨t0, t1, t2, t3, t4, t5⟩ := P2.2.1
  have p2 : mI M136 p = mI M p := by rw [nb2 p (by first | (have h1 := qp; omega) | omega), e2]
  have q2 : mI M136 q = mI M q := by rw [nb2 q (by omega), e1]
  rw [t3, p2, c3]
  refine ⟨k1.1, t0, P2.1.2.2.2.2.1.1, ⟨by omega, by omega⟩, fun M142 e142 => ?_⟩
  have f142 : FI (fun b => b = p) M136 M142 := by rw [e142]; exact FI.ui rfl
  have q3 : mI M142 q 4 = ((L : Nat) : Int) := by rw [f142.2.2.2.2.2.2 q (by omega), q2]; exact v10
  rw [f142.1, f142.2.2.1, t3, q3]
  refine ⟨P2.1.2.2.2.2.1.1, fun M145 e145 => ?_⟩
  have f145 : FI (fun b => b = p) M142 M145 := by rw [e145]; exact FI.ui rfl
  have ff := f142.trans f145
  have fx3 : FI (txS q p O P) M136 M145 := ff.mono (fun b y => Or.inr (Or.inr (Or.inr (Or.inl y))))
  have o145 : mOk M145 := by rw [e145]; exact mOk_UI (by rw [e142]; exact mOk_UI k1.1 ⟨by omega, by omega⟩) ⟨by omega, by omega⟩
  have nb3 : ∀ b, b ≠ p → mI M145 b = mI M136 b := fun b hb => ff.2.2.2.2.2.2 b hb
  have ip : ∀ i, mI M145 p i = if i = 2 then ((L : Nat) : Int) else if i = 3 then (V : Int) + 1 else mI M p i := fun i => by
    rw [mI_ui p i e145]
    by_cases y2 : i = 2
    · rw [if_pos ⟨rfl, y2⟩, if_pos y2]
    · rw [if_neg (fun u => y2 u.2), if_neg y2, mI_ui p i e142]
      by_cases y3 : i = 3
      · rw [if_pos ⟨rfl, y3⟩, if_pos y3]
      · rw [if_neg (fun u => y3 u.2), if_neg y3, p2]
  have rr : ∀ i, i ≠ 19 → mI M145 (q + 1) i = mI M (q + 1) i := fun i hi => by rw [nb3 _ (by omega), k3 i hi, e3]
  have P3 := P2.fi o145 fx3
  have h145 : TX M145 z q w T A B D N C n p O P K Ab Be Cm (V + 1) F ns sf ef c' cnt L := by
    obtain ⟨-, ⟨c1, c2, c3', c4⟩, hX⟩ := h
    refine ⟨P3, ⟨⟨by rw [ip, if_neg (by decide), if_pos rfl]; omega, by omega⟩, by rw [ip, if_neg (by decide), if_neg (by decide)]; exact c2, ?_, fun j => by rw [nb3 _ (by omega), show q + 6 = q + 1 + 5 by omega, k4 5 (by omega) (by omega), show q + 1 + 5 = q + 6 by omega, e5]; exact c4 j⟩, hX.var (fun y => by rw [rr 3 (by decide)]; exact y) (fun i i2 i3 => by rw [ip, if_neg i2, if_neg i3]) (fun i i6 i15 => by rw [nb3 _ (by omega), nb2 _ (by omega), e6 i i6 i15]) (fun i _ => ⟨by rw [nb3 O (by first | (have h1 := ap.2.2.2.1; have h2 := ap.2.1; omega) | omega), nb2 O (by first | (have h1 := ap.2.2.2.1; have h2 := ap.2.1; omega) | omega), eO], by rw [nb3 P (by first | (have h1 := ap.2.2.2.2.1; have h2 := ap.2.2.1; omega) | omega), nb2 P (by first | (have h1 := ap.2.2.2.2.1; have h2 := ap.2.2.1; omega) | omega), eP]⟩)⟩
    have A3 := (P2.words fx3).1
    unfold TN at k5 ⊢
    rw [A3, nb3 (q + 1) (by omega), nb3 (q + 1 + 6) (by omega), nb3 (q + 1 + 7) (by omega), nb3 (q + 1 + 8) (by omega), nb3 (q + 1 + 9) (by omega)]
    exact k5
  have ct2 : CT M136 (q + 1) p (nms ++ [(nw, 3, mI M q 8, (0, 0, 1))]) := ct1.kn hl (k6 hc72) (nb2 _ (by omega)) (nb2 _ (by omega)) rfl rfl ⟨by simp, by simp⟩ rfl (fun u => absurd u (by simp)) (fun _ j e' hj he => by
    have jc : j < c := by rw [← hl]; exact (List.getElem?_eq_some_iff.mp hj).1
    have s5 : mI M1 (q + 1 + 7) j = 5 := by rw [(ct1.2 j e' hj).2.1, he]; rfl
    obtain ⟨-, u, -⟩ := h.2.1.2.2.1.2.2 j jc
    have s5' : mI M (q + 1 + 7) j = 5 := by rw [← s5, nb1 _ (by omega) (by omega) (by omega)]
    rw [nb1 (q + 1 + 8) (by omega) (by omega) (by omega)]
    clear k6 ct ct1
    rcases u with u | u
    · omega
    · rcases u.1 with v | v <;> rw [s5'] at v <;> exact absurd v (by decide)) (by show ((V : Nat) : Int) = if (3 : Nat) = 3 then _ else _; rw [if_pos rfl, hvc])
  have ct3 : CT M145 (q + 1) p (nms ++ [(nw, 3, mI M q 8, (0, 0, 1))]) := ct2.cg (by rw [nb3 _ (by omega)]) (nb3 _ (by omega)) (nb3 _ (by omega)) (nb3 _ (by omega)) (nb3 _ (by omega)) (nb3 _ (by omega)) (nb3 _ (by omega))
  have nbp : ∀ i, 3 ≤ i → i ≤ 15 → mI M145 (p + i) = mI M1 (p + i) := fun i i3 i15 => by rw [nb3 _ (by omega), nb2 _ (by omega)]
  refine ⟨?_, ⟨ct3, rr, fun i hi => by rw [ip, if_neg hi]⟩, fun i i6 i15 => by rw [nbp i (by omega) i15, e6 i i6 i15], fun j => by rw [nbp 3 (by omega) (by omega), nbp 4 (by omega) (by omega), nbp 5 (by omega) (by omega)]; exact wv j, ⟨by rw [nb3 O (by first | (have h1 := ap.2.2.2.1; have h2 := ap.2.1; omega) | omega), nb2 O (by first | (have h1 := ap.2.2.2.1; have h2 := ap.2.1; omega) | omega), eO], by rw [nb3 P (by first | (have h1 := ap.2.2.2.2.1; have h2 := ap.2.2.1; omega) | omega), nb2 P (by first | (have h1 := ap.2.2.2.2.1; have h2 := ap.2.2.1; omega) | omega), eP]⟩, by rw [ip, if_pos rfl], by rw [ip, if_neg (by decide), if_neg (by decide)]⟩
  exact ⟨Ab, Be, Cm, V + 1, F, ns, sf, ef, c', cnt, L, a, h145, by rw [ip, if_pos rfl], by rw [rr 2 (by decide)]; exact v4, v5, by omega, by rw [rr 5 (by decide)]; exact v6, ((hf.trans (trF.fi fx1)).trans (trF.fi fx2)).trans (trF.fi fx3)⟩
end TXM
end
end
section
section
/-! The class's reader of texts, exactly: settleVar. -/
section TXN
variable {G : mG} {d z q w T A B D N C n p O P K Ab Be Cm V F c sl L cnt a nw k x0 y0 x1 y1 x2 y2 Ab0 Be0 Cm0 : Nat} {M0 M M' M1 M2 Mb : mM} {ns : Nat → Int} {sf ef : Nat → Nat} {W pl nq E : Nat → Int} {Cf : Nat → Int × Int} {cv : Nat → vrs} {sm : Nat → Nat → Prop} {nms : List nm9} {s s' : st9} {ft ff : Int × Int} {tr : Int} {lo hi be : vrs}
/-- the state with one var more -/
def svN (s : st9) (nw : Nat) (t : Int) : st9 := (s.1 ++ [(nw, 3, t, (0, 0, 1))], (s.2.1.1 + 1, s.2.1.2), (0, 0))
theorem x_sv171 {l1 l2 l3 v19 v29 v39 : Int} (ht : ff.1 = 0 → l1 = v19 ∧ l2 = v29 ∧ l3 = v39) (i1 : i32 l1) (i2 : i32 l2) (i3 : i32 l3) (cs : CSm Mb q p s) (h : svS M0 z q w T A B D N C n p O P K Ab0 Be0 Cm0 V F ns sf ef c cnt L sl a nw M) (kk : svK q p O P s.1 Mb M) (hf : FT M (q + 1) ff) (hs1 : ff.1 ≠ 0 → s'.2.2 = ff) (hs2 : ff.1 = 0 → s' = svN s nw (mI Mb q 8)) : h_TR_settleVar_171 G (d + 5) q l1 l2 l3 M (fun M' => itE M0 z q w T A B D N C n p O P K Ab0 Be0 Cm0 M' ∧ itZ q p s' M' ∧ mI M' (q + 1) 2 = ((a : Nat) : Int) ∧ (s'.2.2.1 = 0 → svD p O P V L v19 v29 v39 Mb M')) := by
  obtain ⟨Ab, Be, Cm, h1, tr, hv, -, -⟩ := h
  obtain ⟨t0, t1, t2, t3, t4, t5⟩ := h1.1.2.1
  obtain ⟨k6, ⟨p4, p5, p6, -⟩, ⟨kp3, kp4, kp5, -⟩, ⟨np3, np4, np5, -⟩⟩ := h1.tab
  have c3 := h1.2.1.1.1
  refine k_TR_settleVar_171 h1.1.1.1 i1 i2 i3 ?_
  refine ⟨t0, by rw [t1]; exact h1.1.1.2.1.1, fun y0 => ?_, fun y0 => ?_⟩
  · rw [t1] at y0
    have hV : V < 12 := by
      by_cases u : 12 ≤ V
      · exact absurd y0 (hv.2.2.2.2.2.2.2.2.2.2.2 u)
      · omega
    have e8 : mI M q 8 = mI Mb q 8 := by rw [kk.2.1]
    obtain ⟨ct, -, -, ⟨gp, gO, gP⟩, -, -, g8⟩ := kk
    obtain ⟨-, j3, j7, j12, j11, jl, jv, jr⟩ := cs
    obtain ⟨h9a, h9b, h9c⟩ := ht (by rw [← hf.1]; exact y0)
    have hl : s.1.length = c := by
      have w1 := ct.1
      have w2 := h1.2.1.2.2.1.1
      omega
    have hc : c < 72 := by
      have w1 := h1.2.1.2.1.1
      have w2 := h1.2.1.2.1.2
      rw [gp] at c3 w1
      omega
    have es := hs2 (by rw [← hf.1]; exact y0)
    have fin : ∀ M9, itE M0 z q w T A B D N C n p O P K Ab0 Be0 Cm0 M9 ∧ svY M q p V s.1 (nw, 3, mI M q 8, (0, 0, 1)) M9 ∧ svD p O P V L l1 l2 l3 M M9 → itE M0 z q w T A B D N C n p O P K Ab0 Be0 Cm0 M9 ∧ itZ q p s' M9 ∧ mI M9 (q + 1) 2 = ((a : Nat) : Int) ∧ (s'.2.2.1 = 0 → svD p O P V L v19 v29 v39 Mb M9) := fun M9 g => by
      obtain ⟨g1, ⟨w1, w2, w3⟩, d1, d2, ⟨d3, d4⟩, d5, d6⟩ := g
      rw [e8] at w1
      rw [es]
      refine ⟨g1, ⟨⟨by rw [w2 3 (by decide)]; exact y0, fun u => absurd rfl u⟩, fun _ => ⟨w1, ?_, ?_, ?_, ?_, ?_, ?_, ?_⟩⟩, by rw [w2 2 (by decide)]; exact hv.2.2.2.1, fun _ => ⟨fun i i6 i15 => by rw [d1 i i6 i15, g8 i (by omega) i15], fun j => by rw [(d2 j).1, (d2 j).2.1, (d2 j).2.2, g8 3 (by omega) (by omega), g8 4 (by omega) (by omega), g8 5 (by omega) (by omega), h9a, h9b, h9c]; exact ⟨rfl, rfl, rfl⟩, ⟨by rw [d3, gO], by rw [d4, gP]⟩, d5, by rw [d6, gp]⟩⟩
      · rw [w3 3 (by decide), if_pos rfl]
        show (V : Int) + 1 = ((s.2.1.1 + 1 : Nat) : Int)
        rw [gp] at c3
        omega
      · rw [w3 7 (by decide), if_neg (by decide), gp]; exact j7
      · rw [w3 12 (by decide), if_neg (by decide), gp]; exact j12
      · rw [w3 11 (by decide), if_neg (by decide), gp]; exact j11
      · show (s.1 ++ [(nw, 3, mI Mb q 8, (0, 0, 1))]).length = s.2.1.1 + 1 + s.2.1.2.1
        rw [List.length_append, jl]
        simp
        omega
      · show vcn (s.1 ++ [(nw, 3, mI Mb q 8, (0, 0, 1))]) = s.2.1.1 + 1
        rw [vcn_app, jv]
        rfl
      · show rcn (s.1 ++ [(nw, 3, mI Mb q 8, (0, 0, 1))]) = s.2.1.2.1
        rw [rcn_app, jr]
        rfl
    rw [t3, p4, np3, c3, Int.toNat_natCast]
    refine ⟨k6, kp3, by omega, fun M122 e122 => ?_⟩
    have f122 : FI (fun b => b = p + 3) M M122 := by rw [e122]; exact FI.ui rfl
    rw [f122.1, f122.2.1, f122.2.2.1, t3, p5, np4, f122.2.2.2.2.2.2 p (by omega), c3, Int.toNat_natCast]
    refine ⟨k6, kp4, by omega, fun M127 e127 => ?_⟩
    have f127 : FI (fun b => b = p + 4) M122 M127 := by rw [e127]; exact FI.ui rfl
    rw [f127.1, f127.2.1, f127.2.2.1, f122.1, f122.2.1, f122.2.2.1, t3, p6, np5, f127.2.2.2.2.2.2 p (by omega), f122.2.2.2.2.2.2 p (by omega), c3, Int.toNat_natCast]
    refine ⟨k6, kp5, by omega, fun M132 e132 => ?_⟩
    have f132 : FI (fun b => b = p + 5) M127 M132 := by rw [e132]; exact FI.ui rfl
    have ff : FI (fun b => b = p + 3 ∨ b = p + 4 ∨ b = p + 5) M M132 := ((f122.mono (fun _ y => Or.inl y)).trans (f127.mono (fun _ y => Or.inr (Or.inl y)))).trans (f132.mono (fun _ y => Or.inr (Or.inr y)))
    have wv : ∀ j, mI M132 (p + 3) j = (if j = V then l1 else mI M (p + 3) j) ∧ mI M132 (p + 4) j = (if j = V then l2 else mI M (p + 4) j) ∧ mI M132 (p + 5) j = (if j = V then l3 else mI M (p + 5) j) := fun j => by
      rw [f132.2.2.2.2.2.2 _ (show ¬ p + 3 = p + 5 by omega), f127.2.2.2.2.2.2 _ (show ¬ p + 3 = p + 4 by omega), mI_ui _ j e122, f132.2.2.2.2.2.2 _ (show ¬ p + 4 = p + 5 by omega), mI_ui _ j e127, f122.2.2.2.2.2.2 _ (show ¬ p + 4 = p + 3 by omega), mI_ui _ j e132, f127.2.2.2.2.2.2 _ (show ¬ p + 5 = p + 4 by omega), f122.2.2.2.2.2.2 _ (show ¬ p + 5 = p + 3 by omega)]
      by_cases y : j = V
      · simp [y]
      · simp [y]
    have o132 : mOk M132 := by rw [e132]; exact mOk_UI (by rw [e127]; exact mOk_UI (by rw [e122]; exact mOk_UI h1.1.1.1 i1) i2) i3
    rw [ff.1, ff.2.2.1, t1, t3]
    have hvc : vcn s.1 = V := by
      rw [jv]
      rw [gp] at c3
      omega
    refine ⟨k6, h1.1.1.2.1.1, (x_sv_fin (l1 := l1) (l2 := l2) (l3 := l3) hvc wv h1 hv hV tr o132 ff ct hl hc).mono (fun M136 g => ?_)⟩
    obtain ⟨g1, g2, g3, g4, g5⟩ := g
    refine ⟨g1, g2, g3, g4, fun M142 e142 => ?_⟩
    obtain ⟨g6, g7⟩ := g5 M142 e142
    exact ⟨g6, fun M145 e145 => fin M145 (g7 M145 e145)⟩
  · obtain ⟨v1, v2, v3, v4, v5, v6, -⟩ := hv
    rw [t1] at y0
    have f0 : ff.1 ≠ 0 := by rw [← hf.1]; exact y0
    have es := hs1 f0
    exact ⟨⟨Ab, Be, Cm, V, F, ns, sf, ef, c, cnt, sl, a, h1.any (fun _ => v2), v1, v4, v5, v3, v6, tr⟩, itZ.bad (by rw [es]; exact hf) (by rw [es]; exact f0), v4, fun t => absurd t (by rw [es]; exact f0)⟩
theorem FT.zz {r : Nat} (h : mI M r 3 = 0) : FT M r (0, 0) := ⟨h, fun u => absurd rfl u⟩
/-- the fault of a var's begin -/
def sv2 (i7 : Int) (be : vrs) (l1 l2 p2 : Int) : Int × Int := if i7 = 0 then (0, 0) else fst9 (wh9 be p2) (if l1 ≤ be.2.1 ∧ be.2.1 ≤ l2 then (0, 0) else (9, p2))
/-- the fault of a var's range -/
def sv1 (l1 l2 p1 : Int) : Int × Int := if l1 ≤ l2 ∧ l2 - l1 < 10000 then (0, 0) else (9, p1)
theorem x_sv106 {l1 l2 v19 v29 v39 : Int} (ht : ff.1 = 0 → l1 = v19 ∧ l2 = v29 ∧ (if mI Mb q 7 = 0 then l1 else be.2.1) = v39) (hF : FMx G) (i1 : i32 l1) (i2 : i32 l2) (cs : CSm Mb q p s) (h : svS M0 z q w T A B D N C n p O P K Ab0 Be0 Cm0 V F ns sf ef c cnt L sl a nw M) (kk : svK q p O P s.1 Mb M) (hf : FT M (q + 1) ft) (hle : ft.1 = 0 → l1 ≤ l2) (h2 : ft.1 = 0 → mI Mb q 7 ≠ 0 → rwE W pl cv q p O P sl 2 x2 y2 tr Mb) (hbe : be = vlq W cv pl 0 0 x2 y2) (hff : ff = fst9 ft (sv2 (mI Mb q 7) be l1 l2 (pl x2))) (hs1 : ff.1 ≠ 0 → s'.2.2 = ff) (hs2 : ff.1 = 0 → s' = svN s nw (mI Mb q 8)) : h_TR_settleVar_106 G (d + 5) q l1 l2 M (fun M' => itE M0 z q w T A B D N C n p O P K Ab0 Be0 Cm0 M' ∧ itZ q p s' M' ∧ mI M' (q + 1) 2 = ((a : Nat) : Int) ∧ (s'.2.2.1 = 0 → svD p O P V L v19 v29 v39 Mb M')) := by
  obtain ⟨ok, t0, t1, k4, t2, k5, kA, nA, t6, k22, n22⟩ := h.pl
  have q7 : mI M q 7 = mI Mb q 7 := by rw [kk.2.1]
  refine k_TR_settleVar_106 ok i1 i2 ?_
  refine ⟨t0, by rw [t1]; exact k4, fun y => ⟨fun y2 => ?_, fun _ => ?_⟩, fun y => ?_⟩
  · have ne : ft.1 ≠ 0 := fun u => by
      have := hle u
      omega
    rw [fst9_n ne] at hff
    rw [t1, t6, n22]
    refine ⟨k22, ⟨by omega, by omega⟩, (x_sv_note (i32s (by omega) (by omega)) (by decide) (ok _ _).1 h kk hf).mono (fun M' k => ⟨k.1, x_sv171 (fun u => absurd (by rw [hff] at u; exact u) ne) i1 i2 i1 cs k.2.1 k.2.2.1 ?_ hs1 hs2⟩)⟩
    have u := k.2.2.2
    rw [fst9_n ne] at u
    rw [hff]
    exact u
  · have e7f : ff.1 = 0 → mI Mb q 7 = 0 := fun u => by
      rw [hff] at u
      have f0 := (fst9_1.mp u).1
      rw [t1] at y
      rw [← q7]
      exact y.resolve_left (fun v => v (by rw [hf.1]; exact f0))
    refine x_sv171 (fun u => ⟨(ht u).1, (ht u).2.1, by have a := (ht u).2.2; rw [if_pos (e7f u)] at a; exact a⟩) i1 i2 i1 cs h kk ?_ hs1 hs2
    rw [hff]
    rw [t1] at y
    by_cases f0 : ft.1 = 0
    · have e7 : mI Mb q 7 = 0 := by
        rw [← q7]
        exact y.resolve_left (fun u => u (by rw [hf.1]; exact f0))
      unfold sv2
      rw [if_pos e7]
      exact hf.none
    · rw [fst9_n f0]
      exact hf
  · rw [t1] at y
    have y0 : mI M (q + 1) 3 = 0 := Classical.byContradiction (fun u => y (Or.inl u))
    have y7 : mI Mb q 7 ≠ 0 := fun u => y (Or.inr (by rw [q7]; exact u))
    have f0 : ft.1 = 0 := by rw [← hf.1]; exact y0
    rw [fst9_zr f0] at hff
    unfold sv2 at hff
    rw [if_neg y7] at hff
    have hr2 := h2 f0 y7
    have e22 : mI Mb (q + 22) 2 = pl x2 := by
      obtain ⟨-, -, ⟨-, -, -, -, -, -, u⟩, -⟩ := hr2
      exact u
    have l12 := hle f0
    refine (x_sv_works (k := 2) hF (by omega) h kk (FT.zz y0) hr2).mono (fun x79 M78 k => ?_)
    rw [← hbe] at k
    obtain ⟨i79, o78, h78, k78, wv⟩ := k
    obtain ⟨-, u0, u1, w4, u2, w5, uA, vA, u6, w22, m22⟩ := h78.pl
    refine ⟨i79, o78, fun _ => ⟨u0, by rw [u2]; exact w5, by rw [u2]; exact uA, ⟨by omega, by rw [u2]; exact vA⟩⟩, fun v86 e86 => ?_⟩
    have i86 : i32 v86 := by
      rw [e86]
      split
      · exact i1
      · exact (o78 _ _).1
    rw [u2] at e86
    rcases wv with ⟨z0, z1, z2⟩ | ⟨z0, z1, z2, z3, z4⟩
    · rw [if_pos z0] at e86
      rw [fst9_n z1] at hff
      exact ⟨i86, fun u => absurd u (by omega), fun _ => x_sv171 (fun u => absurd (by rw [hff] at u; exact u) z1) i1 i2 i86 cs h78 k78 (by rw [hff]; exact z2) hs1 hs2⟩
    · rw [if_neg (by omega), z4] at e86
      rw [fst9_zr z1] at hff
      refine ⟨i86, fun u => ⟨u0, by rw [u6]; exact w22, ⟨by omega, by rw [u6, m22]; omega⟩, by rw [u1]; exact w4, ?_⟩, fun u => ?_⟩
      · rw [u1, u6]
        rw [if_neg (by omega)] at hff
        refine (x_sv_note (i32s (by omega) (by omega)) (by decide) (o78 _ _).1 h78 k78 z3).mono (fun M' k => ⟨k.1, x_sv171 (fun u => absurd (by rw [hff] at u; exact u) (by simp)) i1 i2 i86 cs k.2.1 k.2.2.1 ?_ hs1 hs2⟩)
        have v := k.2.2.2
        rw [fst9_zr rfl, k78.2.2.1.2, e22] at v
        rw [hff]
        exact v
      · rw [if_pos (by omega)] at hff
        exact x_sv171 (fun u => ⟨(ht u).1, (ht u).2.1, by have a := (ht u).2.2; rw [if_neg y7] at a; rw [e86]; exact a⟩) i1 i2 i86 cs h78 k78 (by rw [hff]; exact z3) hs1 hs2
theorem x_sv76 {l1 l2 v19 v29 v39 : Int} (ht : ff.1 = 0 → l1 = v19 ∧ l2 = v29 ∧ (if mI Mb q 7 = 0 then l1 else be.2.1) = v39) (hF : FMx G) (i1 : i32 l1) (i2 : i32 l2) (cs : CSm Mb q p s) (h : svS M0 z q w T A B D N C n p O P K Ab0 Be0 Cm0 V F ns sf ef c cnt L sl a nw M) (kk : svK q p O P s.1 Mb M) (hf : FT M (q + 1) ft) (hb : ft.1 = 0 → l1.natAbs ≤ 999999999 ∧ l2.natAbs ≤ 999999999) (h1 : ft.1 = 0 → mI Mb (q + 22) 1 = pl x1) (h2 : ft.1 = 0 → mI Mb q 7 ≠ 0 → rwE W pl cv q p O P sl 2 x2 y2 tr Mb) (hbe : be = vlq W cv pl 0 0 x2 y2) (hff : ff = fst9 (fst9 ft (sv1 l1 l2 (pl x1))) (sv2 (mI Mb q 7) be l1 l2 (pl x2))) (hs1 : ff.1 ≠ 0 → s'.2.2 = ff) (hs2 : ff.1 = 0 → s' = svN s nw (mI Mb q 8)) : h_TR_settleVar_76 G (d + 5) q l1 l2 M (fun M' => itE M0 z q w T A B D N C n p O P K Ab0 Be0 Cm0 M' ∧ itZ q p s' M' ∧ mI M' (q + 1) 2 = ((a : Nat) : Int) ∧ (s'.2.2.1 = 0 → svD p O P V L v19 v29 v39 Mb M')) := by
  obtain ⟨ok, t0, t1, k4, t2, k5, kA, nA, t6, k22, n22⟩ := h.pl
  have ew : ft.1 = 0 → w32 (l2 - l1) = l2 - l1 := fun u => by
    obtain ⟨b1, b2⟩ := hb u
    exact w32_id ⟨by omega, by omega⟩
  have v0 : ∀ {f : Int × Int}, f = fst9 ft (sv1 l1 l2 (pl x1)) → f.1 = 0 → ft.1 = 0 ∧ l1 ≤ l2 := fun {f} e u => by
    rw [e] at u
    obtain ⟨u1, u2⟩ := fst9_1.mp u
    refine ⟨u1, Classical.byContradiction (fun v => ?_)⟩
    unfold sv1 at u2
    rw [if_neg (fun t => v t.1)] at u2
    exact absurd u2 (by simp)
  refine k_TR_settleVar_76w ok i1 i2 ⟨trivial, fun y => ?_, fun y => ?_⟩
  · rw [t1, t6, n22]
    refine ⟨t0, k22, ⟨by omega, by omega⟩, k4, (x_sv_note (i32s (by omega) (by omega)) (by decide) (ok _ _).1 h kk hf).mono (fun M' k => ⟨k.1, x_sv106 (ft := fst9 ft (sv1 l1 l2 (pl x1))) ht hF i1 i2 cs k.2.1 k.2.2.1 ?_ (fun u => (v0 rfl u).2) (fun u => h2 (v0 rfl u).1) hbe hff hs1 hs2⟩)⟩
    have v := k.2.2.2
    by_cases f0 : ft.1 = 0
    · rw [ew f0] at y
      rw [kk.2.2.1.2, h1 f0] at v
      unfold sv1
      rw [if_neg (by omega)]
      exact v
    · rw [fst9_n f0] at v ⊢
      exact v
  · refine x_sv106 (ft := fst9 ft (sv1 l1 l2 (pl x1))) ht hF i1 i2 cs h kk ?_ (fun u => (v0 rfl u).2) (fun u => h2 (v0 rfl u).1) hbe hff hs1 hs2
    by_cases f0 : ft.1 = 0
    · rw [ew f0] at y
      unfold sv1
      rw [if_pos (by omega)]
      exact hf.none
    · rw [fst9_n f0]
      exact hf
/-- the faults of a var's values -/
def sv9 (t8 i7 : Int) (lo hi be : vrs) (p0 p1 p2 : Int) : Int × Int := fst9 (if t8 = 1 then (0, 0) else fst9 (fst9 (wh9 lo p0) (wh9 hi p1)) (if lo.2.1 ≤ hi.2.1 ∧ hi.2.1 - lo.2.1 < 10000 then (0, 0) else (9, p1))) (if i7 = 0 then (0, 0) else (if t8 = 1 then wh9 be p2 else fst9 (wh9 be p2) (if lo.2.1 ≤ be.2.1 ∧ be.2.1 ≤ hi.2.1 then (0, 0) else (9, p2))))
theorem rwE.p22 {k x y : Nat} (h : rwE W pl cv q p O P sl k x y tr M) : mI M (q + 22) k = pl x := by
  obtain ⟨-, -, ⟨-, -, -, -, -, -, u⟩, -⟩ := h
  exact u
theorem wh9_z {v : vrs} {pp : Int} (h : (wh9 v pp).1 = 0) : v.1 = 0 ∧ v.2.2 = 1 := by
  unfold wh9 at h
  by_cases c1 : v.1 = 0
  · rw [if_neg (fun u => u c1)] at h
    refine ⟨c1, Classical.byContradiction (fun u => ?_)⟩
    rw [if_pos u] at h
    exact absurd h (by simp)
  · rw [if_pos c1] at h
    exact absurd h c1
theorem x_TR_settleVar (hF : FMx G) (h : TX M z q w T A B D N C n p O P K Ab Be Cm V F ns sf ef c cnt L) (hv : vrS M q A n p L sl a nw V) (h8 : mI M q 8 = 0 → rvR M q O P F ns L sl 0 ∧ rvR M q O P F ns L sl 1) (h7 : mI M q 7 ≠ 0 → rvR M q O P F ns L sl 2) (hf : FT M (q + 1) ft) (cs : ft.1 = 0 → CSm M q p s) (r01 : ft.1 = 0 → mI M q 8 = 0 → rwE W pl cv q p O P sl 0 x0 y0 0 M ∧ rwE W pl cv q p O P sl 1 x1 y1 0 M) (r2 : ft.1 = 0 → mI M q 7 ≠ 0 → rwE W pl cv q p O P sl 2 x2 y2 (mI M q 8) M) (hlo : lo = vlq W cv pl 0 0 x0 y0) (hhi : hi = vlq W cv pl 0 0 x1 y1) (hbe : be = vlq W cv pl 0 0 x2 y2) (hs0 : ft.1 ≠ 0 → s'.2.2 = ft) (hs1 : ft.1 = 0 → (sv9 (mI M q 8) (mI M q 7) lo hi be (pl x0) (pl x1) (pl x2)).1 ≠ 0 → s'.2.2 = sv9 (mI M q 8) (mI M q 7) lo hi be (pl x0) (pl x1) (pl x2)) (hs2 : ft.1 = 0 → (sv9 (mI M q 8) (mI M q 7) lo hi be (pl x0) (pl x1) (pl x2)).1 = 0 → s' = svN s nw (mI M q 8)) : Cv G y_TR_settleVar (d + 6) [vr q] M (fun M' => itE M z q w T A B D N C n p O P K Ab Be Cm M' ∧ itZ q p s' M' ∧ mI M' (q + 1) 2 = ((a : Nat) : Int) ∧ (s'.2.2.1 = 0 → svD p O P V L (if mI M q 8 = 1 then 0 else lo.2.1) (if mI M q 8 = 1 then 1 else hi.2.1) (if mI M q 7 = 0 then (if mI M q 8 = 1 then 0 else lo.2.1) else be.2.1) M M')) := by
  have hs : svS M z q w T A B D N C n p O P K Ab Be Cm V F ns sf ef c cnt L sl a nw M := ⟨Ab, Be, Cm, h, trF.refl, hv, h8, h7⟩
  obtain ⟨ok, t0, t1, k4, t2, k5, kA, nA, t6, k22, n22⟩ := hs.pl
  have h801 : mI M q 8 = 0 ∨ mI M q 8 = 1 := hv.2.2.2.2.2.2.2.2.2.2.1
  by_cases f0 : ft.1 = 0
  · have cs := cs f0
    have r01 := r01 f0
    have r2 := r2 f0
    have hs1 := hs1 f0
    have hs2 := hs2 f0
    have f3 : mI M (q + 1) 3 = 0 := by rw [hf.1]; exact f0
    have kk : svK q p O P s.1 M M := ⟨cs.1, rfl, ⟨rfl, rfl⟩, ⟨rfl, rfl, rfl⟩, rfl, rfl, fun _ _ _ => rfl⟩
    refine k_TR_settleVar ok ?_
    refine ⟨t0, by rw [t1]; exact k4, fun y => ?_, fun y => ?_⟩
    rotate_left
    · rw [t1] at y
      have t8 : mI M q 8 = 1 := h801.resolve_left (fun u => y ⟨f3, u⟩)
      have e9 : sv9 (mI M q 8) (mI M q 7) lo hi be (pl x0) (pl x1) (pl x2) = fst9 (0, 0) (sv2 (mI M q 7) be 0 1 (pl x2)) := by
        unfold sv9 sv2
        rw [if_pos t8, if_pos t8]
        by_cases i7 : mI M q 7 = 0
        · rw [if_pos i7, if_pos i7]
        · rw [if_neg i7, if_neg i7, fst9_0, fst9_0]
          by_cases wz : (wh9 be (pl x2)).1 = 0
          · have g := (r2 i7).gd
            rw [← hbe, t8] at g
            obtain ⟨z1, z2⟩ := wh9_z wz
            have g2 := (g.resolve_right (fun u => by omega)).2.2.2.2 rfl
            have ew : wh9 be (pl x2) = (0, 0) := by
              unfold wh9
              rw [if_neg (fun u => u z1), if_neg (fun u => u z2)]
            rw [ew, if_pos (by omega), fst9_0]
          · rw [fst9_n wz]
      exact x_sv106 (ft := (0, 0)) (x2 := x2) (y2 := y2) (fun _ => by rw [if_pos t8, if_pos t8]; exact ⟨rfl, rfl, rfl⟩) hF (i32s (by omega) (by omega)) (i32s (by omega) (by omega)) cs hs kk (FT.zz f3) (fun _ => by omega) (fun _ u => r2 u) hbe e9 hs1 hs2
    rw [t1] at y
    obtain ⟨r0, r1⟩ := r01 y.2
    have g0 := r0.gd
    have g1 := r1.gd
    rw [← hlo] at g0
    rw [← hhi] at g1
    have p1 := r1.p22
    have e9 : sv9 (mI M q 8) (mI M q 7) lo hi be (pl x0) (pl x1) (pl x2) = fst9 (fst9 (fst9 (wh9 lo (pl x0)) (wh9 hi (pl x1))) (sv1 lo.2.1 hi.2.1 (pl x1))) (sv2 (mI M q 7) be lo.2.1 hi.2.1 (pl x2)) := by
      unfold sv9 sv1 sv2
      rw [y.2, if_neg (show ¬ (0:Int) = 1 by decide), if_neg (show ¬ (0:Int) = 1 by decide)]
    generalize eF : sv9 (mI M q 8) (mI M q 7) lo hi be (pl x0) (pl x1) (pl x2) = ff at hs1 hs2 e9
    refine (x_sv_works (k := 0) hF (by omega) hs kk (FT.zz f3) r0).mono (fun x8 M7 k => ?_)
    rw [← hlo] at k
    obtain ⟨i8, o7, h7', k7, wv⟩ := k
    obtain ⟨-, u0, u1, w4, u2, w5, uA, vA, u6, w22, m22⟩ := h7'.pl
    refine ⟨i8, o7, fun _ => ⟨u0, by rw [u2]; exact w5, by rw [u2]; exact uA, ⟨by omega, by rw [u2]; exact vA⟩⟩, fun v15 e15 => ?_⟩
    have i15 : i32 v15 := by
      rw [e15]
      split
      · exact i32s (by omega) (by omega)
      · exact (o7 _ _).1
    rw [u2] at e15
    rcases wv with ⟨z0, z1, z2⟩ | ⟨z0, z1, z2, z3, z4⟩
    · rw [fst9_n z1, fst9_n z1, fst9_n z1] at e9
      refine ⟨u0, by rw [u1]; exact w4, fun y3 => ?_, fun _ => ?_⟩
      · rw [u1] at y3
        exact absurd (by rw [← z2.1]; exact y3) z1
      · exact x_sv76 (ft := wh9 lo (pl x0)) (x1 := x1) (x2 := x2) (y2 := y2) (tr := mI M q 8) (fun u => absurd (by rw [e9] at u; exact u) z1) hF i15 i15 cs h7' k7 z2 (fun u => absurd u z1) (fun u => absurd u z1) (fun u => absurd u z1) hbe (by rw [fst9_n z1, fst9_n z1]; exact e9) hs1 hs2
    · rw [if_neg (by omega), z4] at e15
      have ew : wh9 lo (pl x0) = (0, 0) := by
        obtain ⟨w1, w2⟩ := wh9_z z1
        unfold wh9
        rw [if_neg (fun u => u w1), if_neg (fun u => u w2)]
      rw [ew, fst9_0] at e9
      have b0 : v15.natAbs ≤ 999999999 := by rw [e15]; exact (g0.un z2).1
      refine ⟨u0, by rw [u1]; exact w4, fun y3 => ?_, fun y3 => ?_⟩
      rotate_left
      · rw [u1] at y3
        exact absurd z3.1 y3
      refine (x_sv_works (k := 1) hF (by omega) h7' k7 z3 r1).mono (fun x23 M22 k => ?_)
      rw [← hhi] at k
      obtain ⟨i23, o22, h22, k22', wv⟩ := k
      obtain ⟨-, a0, a1, b4, a2, b5, aA, bA, a6, b22, c22⟩ := h22.pl
      rcases wv with ⟨s0, s1, s2⟩ | ⟨s0, s1, s2, s3, s4⟩
      · rw [fst9_n s1, fst9_n s1] at e9
        exact ⟨i23, o22, fun _ => x_sv76 (ft := wh9 hi (pl x1)) (x1 := x1) (x2 := x2) (y2 := y2) (tr := mI M q 8) (fun u => absurd (by rw [e9] at u; exact u) s1) hF i15 i15 cs h22 k22' s2 (fun u => absurd u s1) (fun u => absurd u s1) (fun u => absurd u s1) hbe (by rw [fst9_n s1, fst9_n s1]; exact e9) hs1 hs2, fun u => absurd s0 u⟩
      · have eh : wh9 hi (pl x1) = (0, 0) := by
          obtain ⟨w1, w2⟩ := wh9_z s1
          unfold wh9
          rw [if_neg (fun u => u w1), if_neg (fun u => u w2)]
        rw [eh] at e9
        refine ⟨i23, o22, fun u => absurd u (by omega), fun _ => ⟨a0, by rw [a2]; exact b5, by rw [a2]; exact aA, ⟨by omega, by rw [a2]; exact bA⟩, ?_⟩⟩
        rw [a2]
        refine x_sv76 (ft := (0, 0)) (x1 := x1) (x2 := x2) (y2 := y2) (tr := mI M q 8) (fun _ => by rw [if_neg (show ¬ mI M q 8 = 1 by omega), if_neg (show ¬ mI M q 8 = 1 by omega), e15, s4]; exact ⟨rfl, rfl, rfl⟩) hF i15 (o22 _ _).1 cs h22 k22' s3 (fun _ => ⟨b0, by rw [s4]; exact (g1.un s2).1⟩) (fun _ => p1) (fun _ u => r2 u) hbe ?_ hs1 hs2
        rw [s4, e15]
        exact e9
  · have f3 : mI M (q + 1) 3 ≠ 0 := by rw [hf.1]; exact f0
    have es := hs0 f0
    obtain ⟨v1, v2, v3, v4, v5, v6, -⟩ := hv
    have fin : itE M z q w T A B D N C n p O P K Ab Be Cm M ∧ itZ q p s' M ∧ mI M (q + 1) 2 = ((a : Nat) : Int) ∧ (s'.2.2.1 = 0 → svD p O P V L (if mI M q 8 = 1 then 0 else lo.2.1) (if mI M q 8 = 1 then 1 else hi.2.1) (if mI M q 7 = 0 then (if mI M q 8 = 1 then 0 else lo.2.1) else be.2.1) M M) := ⟨⟨Ab, Be, Cm, V, F, ns, sf, ef, c, cnt, sl, a, h.any (fun _ => v2), v1, v4, v5, v3, v6, trF.refl⟩, itZ.bad (by rw [es]; exact hf) (by rw [es]; exact f0), v4, fun t => absurd t (by rw [es]; exact f0)⟩
    refine k_TR_settleVar ok ⟨t0, by rw [t1]; exact k4, fun y => absurd (by rw [t1] at y; exact y.1) f3, fun _ => ?_⟩
    refine k_TR_settleVar_106 ok (i32s (by omega) (by omega)) (i32s (by omega) (by omega)) ⟨t0, by rw [t1]; exact k4, fun _ => ⟨fun u => absurd u (by omega), fun _ => ?_⟩, fun y => absurd (Or.inl (by rw [t1]; exact f3)) y⟩
    exact k_TR_settleVar_171 ok (i32s (by omega) (by omega)) (i32s (by omega) (by omega)) (i32s (by omega) (by omega)) ⟨t0, by rw [t1]; exact k4, fun y => absurd (by rw [t1] at y; exact y) f3, fun _ => fin⟩
end TXN
end
section
/-! The class's reader of texts, exactly: sets: bits of the vars that are set, names, one step of the pure sets. -/
theorem i_or9 {l m : Nat} (hl : l < 2147483648) (hm : m < 2147483648) : orI (l : Int) (m : Int) = ((l ||| m : Nat) : Int) := by
  unfold orI
  show (BitVec.ofInt 32 (l : Int) ||| BitVec.ofInt 32 (m : Int)).toInt = _
  have hb : ∀ x : Nat, x < 2147483648 → (BitVec.ofInt 32 (x : Int)).toNat = x := fun x hx => by
    rw [BitVec.toNat_ofInt]
    show ((x : Int) % 4294967296).toNat = x
    omega
  have hx : l ||| m < 2147483648 := Nat.or_lt_two_pow (n := 31) hl hm
  rw [BitVec.toInt_eq_toNat_cond, BitVec.toNat_or, hb l hl, hb m hm, if_pos (by omega)]
/-- the bit u of l -/
def sbt (l u : Nat) : Prop := l / 2 ^ u % 2 = 1
theorem sb_or {l u v : Nat} : sbt (l ||| 2 ^ v) u ↔ (sbt l u ∨ v = u) := by
  have h := Nat.testBit_or l (2 ^ v) u
  rw [Nat.testBit_eq_decide_div_mod_eq, Nat.testBit_eq_decide_div_mod_eq, Nat.testBit_two_pow, ← Bool.decide_or] at h
  exact decide_eq_decide.mp h
theorem sb_lt {l v : Nat} (hl : l < 4096) (hv : v < 12) : l ||| 2 ^ v < 4096 := Nat.or_lt_two_pow (n := 12) hl (Nat.pow_lt_pow_right (by decide) hv)
theorem sb_shl {v : Nat} (hv : v < 12) : shlI 1 (v : Int) = ((2 ^ v : Nat) : Int) := by
  have h : ∀ v, v < 12 → shlI 1 ((v : Nat) : Int) = ((2 ^ v : Nat) : Int) := by decide
  exact h v hv
theorem sb_and {l v : Nat} (hl : l < 4096) (hv : v < 12) : andI (shrI (l : Int) (v : Int)) 1 = 0 ↔ ¬ sbt l v := by
  rw [i_shr v (by omega) ⟨by omega, by omega⟩, i_and 1 (by decide) 1 (by decide) ⟨by decide, by decide⟩]
  have e : (l : Int) / 2 ^ v % 2 ^ 1 = ((l / 2 ^ v % 2 : Nat) : Int) := by norm_cast
  rw [e]
  unfold sbt
  omega
section TXO
variable {G : mG} {d z r q w T A B D N C n p O P K c V F k f i a : Nat} {M M' : mM} {ns : Nat → Int} {W pl nq : Nat → Int} {sm : Nat → Nat → Prop} {nms : List nm9} {seen : List Nat} {e : nm9}
theorem sefc_none (h : fnd9 sm nms (k + 1) = none) : sef W pl sm N nms (f + 1) k seen = ((2, pl (k + 1)), k) := by
  unfold sef
  rw [h]
theorem sefc_some (h : fnd9 sm nms (k + 1) = some e) : sef W pl sm N nms (f + 1) k seen = if e.2.1 ≠ 3 then ((2, pl (k + 1)), k) else if e.1 ∈ seen then ((4, pl (k + 1)), k) else if (rf9 W pl sm nms 0 e.2.2.1 (k + 4) (cpq W (k + 4) N)).1 ≠ 0 then (rf9 W pl sm nms 0 e.2.2.1 (k + 4) (cpq W (k + 4) N), k) else if W (cpq W (k + 4) N + 1) = 29 then sef W pl sm N nms f (cpq W (k + 4) N + 2) (e.1 :: seen) else ((0, 0), cpq W (k + 4) N + 1) := by
  conv => lhs; unfold sef
  rw [h]
/-- the first name of its word -/
def fst1 (nms : List nm9) (i : Nat) (e : nm9) : Prop := nms[i]? = some e ∧ ∀ (j : Nat) (e' : nm9), j < i → nms[j]? = some e' → e'.1 ≠ e.1
/-- which vars have been set -/
def snq (M : mM) (r : Nat) (nms : List nm9) (l : Nat) (seen : List Nat) : Prop := ∀ (i : Nat) (e : nm9), fst1 nms i e → e.2.1 = 3 → (sbt l (mI M (r + 8) i).toNat ↔ e.1 ∈ seen)
theorem snq.nil : snq M r nms 0 [] := fun i e _ _ => by
  unfold sbt
  simp
theorem snq.add {l v : Nat} (h : snq M r nms l seen) (ct : CT M r p nms) (tn : TN M r A n V F ns c) (hl : nms.length = c) (h1 : fst1 nms i e) (h3 : e.2.1 = 3) (hv : mI M (r + 8) i = (v : Int)) : snq M r nms (l ||| 2 ^ v) (e.1 :: seen) := fun j e' j1 j3 => by
  have jc : j < c := by rw [← hl]; exact (List.getElem?_eq_some_iff.mp j1.1).1
  have j0 : 0 ≤ mI M (r + 8) j := by
    obtain ⟨-, u, -⟩ := tn.2.2 j jc
    rcases u with u | u
    · exact u.2.1
    · exact u.2.1
  rw [sb_or, h j e' j1 j3, List.mem_cons]
  have key : v = (mI M (r + 8) j).toNat ↔ e'.1 = e.1 := by
    refine ⟨fun u => ?_, fun u => ?_⟩
    · have : j = i := (ct.2 i e h1.1).2.2.2.2.2.1 h3 j e' j1.1 j3 (by rw [hv, u, Int.toNat_of_nonneg j0])
      subst this
      have ee := j1.1.symm.trans h1.1
      rw [Option.some.inj ee]
    · have : j = i := by
        rcases Nat.lt_trichotomy j i with y | y | y
        · exact absurd u (h1.2 j e' y j1.1)
        · exact y
        · exact absurd u.symm (j1.2 i e y h1.1)
      rw [this, hv, Int.toNat_natCast]
  rw [key]
  exact Or.comm
/-- what find finds is the first of its word -/
theorem fm_fst {v : Nat} (ct : CT M r p nms) (h : fm M r T B D nms.length v i) (z : nms[i]? = some e) : fst1 nms i e := by
  refine ⟨z, fun j e' hj z' u => ?_⟩
  refine h.2.2 j hj ?_
  rw [(ct.2 j e' z').1, u, ← (ct.2 i e z).1]
  exact h.2.1
/-- varOf, exactly -/
theorem x_RR_varOf {v : Nat} (h : RB M z r w T A B D N C n p O P K) (nk : NK M r A n V F ns c) (hv : v < n) (h2 : mI M A v = 2) (h6 : mI M r 6 = 0) : Ci G y_RR_varOf (d + 2) [vr r, vi v] M (fun x M' => M' = M ∧ (x = -1 ∨ (0 ≤ x ∧ x < V)) ∧ ((nmn M r T B D c v ∧ x = -1) ∨ ∃ i : Nat, fm M r T B D c v i ∧ x = if mI M (r + 7) i = 5 then mI M (r + 8) i else -1)) := by
  obtain ⟨-, ⟨k0, ⟨-, -, -, -, -, -, q16, q17, q18⟩, ⟨-, -, -, -, -, -, kk7, kk8, kk9⟩, ⟨-, -, -, -, -, -, nn7, nn8, nn9⟩⟩, -⟩ := id h
  have hn := h.2.2.2.1.2.2.1
  have hN := h.2.2.2.1.1.2.2.2.2.2.2.1
  refine k_RR_varOf h.1 (i32s (by omega) (by omega)) ⟨k0, (x_RR_find h nk hv h2).mono (fun x3 M2 q => ?_)⟩
  obtain ⟨e2, hx⟩ := q
  subst e2
  rw [q16, q17, nn7, nn8]
  have hc := nk.2.1
  have hx0 : x3 = -1 ∨ ∃ i : Nat, x3 = i ∧ i < c := hx.imp (fun u => u.1) (fun ⟨i, u, v⟩ => ⟨i, u, v.1⟩)
  have hi3 : i32 x3 := by
    clear hx
    rcases hx0 with u | ⟨i, u, hi⟩ <;> rw [u] <;> exact i32s (by omega) (by omega)
  have rng : x3 ≠ -1 → (0 : Int) ≤ x3 ∧ x3 < ((72 : Nat) : Int) := fun y => by
    clear hx
    rcases hx0 with u | ⟨i, u, hi⟩
    · exact absurd u y
    · omega
  refine ⟨hi3, h.1, fun y => ⟨k0, kk7, rng y, fun _ => ⟨kk8, rng y⟩⟩, fun v12 e12 => ⟨rfl, ?_, ?_⟩⟩
  · clear hx0
    rcases hx with ⟨u, -⟩ | ⟨i, u, hi⟩
    · rw [if_pos (Or.inl u)] at e12
      exact Or.inl e12
    · rw [u, Int.toNat_natCast] at e12
      by_cases y : mI M2 (r + 7) i = 5
      · rw [if_neg (fun q => q.elim (fun v => by omega) (fun v => v y))] at e12
        rcases (nk.2.2 i hi.1).2.1 with ⟨-, v1, v2⟩ | ⟨v0, -⟩ | ⟨v0, -⟩
        · rw [e12]
          exact Or.inr ⟨v1, v2 h6⟩
        · exact absurd y (by omega)
        · exact absurd y (by omega)
      · rw [if_pos (Or.inr y)] at e12
        exact Or.inl e12
  · clear hx0
    rcases hx with ⟨u, u2⟩ | ⟨i, u, hi⟩
    · rw [if_pos (Or.inl u)] at e12
      exact Or.inl ⟨u2, e12⟩
    · rw [u, Int.toNat_natCast] at e12
      refine Or.inr ⟨i, hi, ?_⟩
      by_cases y : mI M2 (r + 7) i = 5
      · rw [if_neg (fun q => q.elim (fun v => by omega) (fun v => v y))] at e12
        rw [if_pos y]
        exact e12
      · rw [if_pos (Or.inr y)] at e12
        rw [if_neg y]
        exact e12
theorem x_RR_kindOf {v : Nat} (h : RB M z r w T A B D N C n p O P K) (nk : NK M r A n V F ns c) (hv : v < n) (h2 : mI M A v = 2) : Ci G y_RR_kindOf (d + 2) [vr r, vi v] M (fun x M' => M' = M ∧ (0 ≤ x ∧ x ≤ 2) ∧ ((nmn M r T B D c v ∧ x = 0) ∨ ∃ i : Nat, fm M r T B D c v i ∧ x = if mI M (r + 9) i = 0 then 1 else 2)) := by
  obtain ⟨-, ⟨k0, ⟨-, -, -, -, -, -, q16, q17, q18⟩, ⟨-, -, -, -, -, -, kk7, kk8, kk9⟩, ⟨-, -, -, -, -, -, nn7, nn8, nn9⟩⟩, -⟩ := id h
  have hn := h.2.2.2.1.2.2.1
  have hN := h.2.2.2.1.1.2.2.2.2.2.2.1
  refine k_RR_kindOf h.1 (i32s (by omega) (by omega)) ⟨k0, (x_RR_find h nk hv h2).mono (fun x3 M2 q => ?_)⟩
  obtain ⟨e2, hx⟩ := q
  subst e2
  rw [q18, nn9]
  have hc := nk.2.1
  have hx0 : x3 = -1 ∨ ∃ i : Nat, x3 = i ∧ i < c := hx.imp (fun u => u.1) (fun ⟨i, u, v⟩ => ⟨i, u, v.1⟩)
  have hi3 : i32 x3 := by
    clear hx
    rcases hx0 with u | ⟨i, u, hi⟩ <;> rw [u] <;> exact i32s (by omega) (by omega)
  refine ⟨hi3, h.1, fun y => ⟨k0, kk9, ?_⟩, fun v12 e12 => ⟨rfl, ?_, ?_⟩⟩
  · clear hx
    rcases hx0 with u | ⟨i, u, hi⟩
    · exact absurd u y
    · omega
  · clear hx hx0
    rw [e12]
    (repeat' split) <;> omega
  · clear hx0
    rcases hx with ⟨u, u2⟩ | ⟨i, u, hi⟩
    · rw [if_pos u] at e12
      exact Or.inl ⟨u2, e12⟩
    · rw [u, if_neg (by omega), Int.toNat_natCast] at e12
      exact Or.inr ⟨i, hi, e12⟩
end TXO
end
end
