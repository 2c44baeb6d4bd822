section
/-! The class's reader of texts, exactly: one name more. -/
section TXI
variable {G : mG} {d z r q w T A B D N C n p O P K k a a' s L L1 V F d0 c Ab Be Cm cnt nw Ab0 Be0 Cm0 : Nat} {M0 M M' M1 M2 : mM} {H H1 : Nat → Nat} {ns : Nat → Int} {sf ef : Nat → Nat} {wt : Int} {nms : List nm9}
/-- a name is put down at c -/
def knX (M : mM) (r c v : Nat) (l2 l3 l4 : Int) (M' : mM) : Prop := mI M' r 19 = ((c + 1 : Nat) : Int) ∧ (∀ i, mI M' (r + 6) i = if i = c then (v : Int) else mI M (r + 6) i) ∧ (∀ i, mI M' (r + 7) i = if i = c then l2 else mI M (r + 7) i) ∧ (∀ i, mI M' (r + 8) i = if i = c then l3 else mI M (r + 8) i) ∧ ∀ i, mI M' (r + 9) i = if i = c then l4 else mI M (r + 9) i
theorem x_RR_know {v : Nat} {l2 l3 l4 : Int} (h : RB M z r w T A B D N C n p O P K) (nk : TN M r A n V F ns c) (hv : v < n) (h2 : mI M A v = 2) (i2 : i32 l2) (i3 : i32 l3) (h4 : l4 = 0 ∨ l4 = 1) (hl : (l2 = 5 ∧ 0 ≤ l3 ∧ l3 < V) ∨ ((l2 = 4 ∨ l2 = 7) ∧ 0 ≤ l3 ∧ l3 < F ∧ ns l3.toNat = l2)) : Cv G y_RR_know d [vr r, vi v, vi l2, vi l3, vi l4] M (fun M' => RB M' z r w T A B D N C n p O P K ∧ FI (fun b => r ≤ b ∧ b ≤ r + 9) M M' ∧ (∀ i, i ≠ 19 → mI M' r i = mI M r i) ∧ (∀ i, i ≤ 5 → 1 ≤ i → mI M' (r + i) = mI M (r + i)) ∧ (∃ c', TN M' r A n V F ns c' ∧ c ≤ c') ∧ (c < 72 → knX M r c v l2 l3 l4 M')) := by
  obtain ⟨-, ⟨k0, ⟨-, -, -, -, -, q15, q16, q17, q18⟩, ⟨-, -, -, -, -, kk6, kk7, kk8, kk9⟩, ⟨-, -, -, -, -, nn6, nn7, nn8, nn9⟩⟩, -⟩ := id h
  have hn := h.2.2.2.1.2.2.1
  have hN := h.2.2.2.1.1.2.2.2.2.2.2.1
  obtain ⟨m1, m2, m3⟩ := id nk
  refine k_RR_know h.1 (i32s (by omega) (by omega)) i2 i3 (i32s (by omega) (by omega)) ?_
  rw [q15, nn6, m1, Int.toNat_natCast]
  refine ⟨k0, kk6, i32s (by omega) (by omega), fun y => ⟨h, FI.refl, fun _ _ => rfl, fun _ _ _ => rfl, ⟨c, nk, Nat.le_refl _⟩, fun u => absurd y (by omega)⟩, fun y => ⟨by omega, fun M13 e13 => ?_⟩⟩
  obtain ⟨h13, f13, g13, n13⟩ := rb_tab h (i := 6) (by omega) (by omega) (i32s (by omega) (by omega)) e13
  obtain ⟨-, ⟨k0a, ⟨-, -, -, -, -, -, qa, -⟩, ⟨-, -, -, -, -, -, ka, -⟩, ⟨-, -, -, -, -, -, na, -⟩⟩, -⟩ := id h13
  rw [qa, na, n13 r (by omega), m1, Int.toNat_natCast]
  refine ⟨ka, by omega, fun M17 e17 => ?_⟩
  obtain ⟨h17, f17, g17, n17⟩ := rb_tab h13 (i := 7) (by omega) (by omega) i2 e17
  obtain ⟨-, ⟨k0b, ⟨-, -, -, -, -, -, -, qb, -⟩, ⟨-, -, -, -, -, -, -, kb, -⟩, ⟨-, -, -, -, -, -, -, nb, -⟩⟩, -⟩ := id h17
  rw [qb, nb, n17 r (by omega), n13 r (by omega), m1, Int.toNat_natCast]
  refine ⟨kb, by omega, fun M21 e21 => ?_⟩
  obtain ⟨h21, f21, g21, n21⟩ := rb_tab h17 (i := 8) (by omega) (by omega) i3 e21
  obtain ⟨-, ⟨k0c, ⟨-, -, -, -, -, -, -, -, qc⟩, ⟨-, -, -, -, -, -, -, -, kc⟩, ⟨-, -, -, -, -, -, -, -, nc⟩⟩, -⟩ := id h21
  rw [qc, nc, n21 r (by omega), n17 r (by omega), n13 r (by omega), m1, Int.toNat_natCast]
  refine ⟨kc, by omega, h4, fun M26 e26 => ?_⟩
  obtain ⟨h26, f26, g26, n26⟩ := rb_tab h21 (i := 9) (by omega) (by omega) (i32s (by omega) (by omega)) e26
  have r26 : mI M26 r = mI M r := by rw [n26 r (by omega), n21 r (by omega), n17 r (by omega), n13 r (by omega)]
  rw [r26, m1]
  refine ⟨⟨by omega, by omega⟩, fun M29 e29 => ?_⟩
  obtain ⟨h29, f29, r29, n29⟩ := rb_fld h26 ⟨by omega, by omega⟩ e29
  have fi : FI (fun b => r ≤ b ∧ b ≤ r + 9) M M29 := by
    have x13 : FI (fun b => r ≤ b ∧ b ≤ r + 9) M M13 := by rw [e13]; exact FI.ui ⟨by omega, by omega⟩
    have x17 : FI (fun b => r ≤ b ∧ b ≤ r + 9) M13 M17 := by rw [e17]; exact FI.ui ⟨by omega, by omega⟩
    have x21 : FI (fun b => r ≤ b ∧ b ≤ r + 9) M17 M21 := by rw [e21]; exact FI.ui ⟨by omega, by omega⟩
    have x26 : FI (fun b => r ≤ b ∧ b ≤ r + 9) M21 M26 := by rw [e26]; exact FI.ui ⟨by omega, by omega⟩
    have x29 : FI (fun b => r ≤ b ∧ b ≤ r + 9) M26 M29 := by rw [e29]; exact FI.ui ⟨by omega, by omega⟩
    exact (((x13.trans x17).trans x21).trans x26).trans x29
  have hA := (h.word ((((f13.trans f17).trans f21).trans f26).trans f29)).1
  refine ⟨h29, fi, fun i i19 => by rw [r29, if_neg i19, r26], fun i i5 i1 => by rw [n29 _ (by omega), n26 _ (by omega), n21 _ (by omega), n17 _ (by omega), n13 _ (by omega)], ⟨c + 1, ⟨by rw [r29, if_pos rfl]; omega, by omega, fun i hi => ?_⟩, by omega⟩, fun _ => ⟨by rw [r29, if_pos rfl]; omega, fun i => by rw [n29 _ (by omega), n26 _ (by omega), n21 _ (by omega), n17 _ (by omega), g13], fun i => by rw [n29 _ (by omega), n26 _ (by omega), n21 _ (by omega), g17, n13 _ (by omega)], fun i => by rw [n29 _ (by omega), n26 _ (by omega), g21, n17 _ (by omega), n13 _ (by omega)], fun i => by rw [n29 _ (by omega), g26, n21 _ (by omega), n17 _ (by omega), n13 _ (by omega)]⟩⟩
  rw [hA, show mI M29 (r + 6) i = if i = c then (v : Int) else mI M (r + 6) i by rw [n29 _ (by omega), n26 _ (by omega), n21 _ (by omega), n17 _ (by omega), g13], show mI M29 (r + 7) i = if i = c then l2 else mI M (r + 7) i by rw [n29 _ (by omega), n26 _ (by omega), n21 _ (by omega), g17, n13 _ (by omega)], show mI M29 (r + 8) i = if i = c then l3 else mI M (r + 8) i by rw [n29 _ (by omega), n26 _ (by omega), g21, n17 _ (by omega), n13 _ (by omega)], show mI M29 (r + 9) i = if i = c then l4 else mI M (r + 9) i by rw [n29 _ (by omega), g26, n21 _ (by omega), n17 _ (by omega), n13 _ (by omega)]]
  by_cases y : i = c
  · rw [if_pos y, if_pos y, if_pos y, if_pos y]
    exact ⟨⟨v, rfl, hv, h2⟩, hl, h4⟩
  · rw [if_neg y, if_neg y, if_neg y, if_neg y]
    exact m3 i (by omega)
/-- the tables with one name more -/
theorem CT.kn {v : Nat} {l2 l3 l4 : Int} {e : nm9} (ct : CT M r p nms) (hc : nms.length = c) (kx : knX M r c v l2 l3 l4 M') (h6 : mI M' (p + 6) = mI M (p + 6)) (h7 : mI M' (p + 7) = mI M (p + 7)) (f1 : e.1 = v) (f2 : srt9 e.2.1 = l2) (f3 : 1 ≤ e.2.1 ∧ e.2.1 ≤ 3) (f4 : e.2.2.1 = l4) (f5 : e.2.1 = 1 → vgd e.2.2.1 e.2.2.2 ∧ ∃ x : Nat, l3 = x ∧ x < 60 ∧ (1 ≤ mI M (p + 7) x ∧ mI M (p + 7) x < 1000000000) ∧ e.2.2.2 = (0, mI M (p + 6) x, mI M (p + 7) x)) (f6 : e.2.1 = 3 → ∀ (j : Nat) (e' : nm9), nms[j]? = some e' → e'.2.1 = 3 → mI M (r + 8) j ≠ l3) (f7 : l3 = (if e.2.1 = 3 then ((vcn nms : Nat) : Int) else ((rcn nms : Nat) : Int))) : CT M' r p (nms ++ [e]) := by
  obtain ⟨k1, k2, k3, k4, k5⟩ := kx
  have at9 : ∀ {j : Nat} {e' : nm9}, (nms ++ [e])[j]? = some e' → (j = c ∧ e' = e) ∨ (j ≠ c ∧ nms[j]? = some e') := fun {j e'} he => by
    by_cases y : j = c
    · refine Or.inl ⟨y, ?_⟩
      rw [y, ← hc, List.getElem?_append_right (Nat.le_refl _), Nat.sub_self] at he
      exact (Option.some.inj he).symm
    · refine Or.inr ⟨y, ?_⟩
      have hj : j < nms.length := by
        have := (List.getElem?_eq_some_iff.mp he).1
        rw [List.length_append] at this
        simp at this
        omega
      rw [List.getElem?_append_left hj] at he
      exact he
  refine ⟨by rw [k1, List.length_append, hc]; rfl, fun i e' he => ?_⟩
  have vn : e'.2.1 = 3 → ∀ (j : Nat) (e'' : nm9), (nms ++ [e])[j]? = some e'' → e''.2.1 = 3 → mI M' (r + 8) j = mI M' (r + 8) i → j = i := fun g1 j e'' hj g2 g3 => by
    rw [k4, k4] at g3
    rcases at9 he with ⟨y1, y2⟩ | ⟨y1, y2⟩
    · rcases at9 hj with ⟨z1, z2⟩ | ⟨z1, z2⟩
      · rw [y1, z1]
      · rw [if_neg z1, if_pos y1] at g3
        rw [y2] at g1
        exact absurd g3 (f6 g1 j e'' z2 g2)
    · rcases at9 hj with ⟨z1, z2⟩ | ⟨z1, z2⟩
      · rw [if_pos z1, if_neg y1] at g3
        rw [z2] at g2
        exact absurd g3.symm (f6 g2 i e' y2 g1)
      · rw [if_neg z1, if_neg y1] at g3
        exact (ct.2 i e' y2).2.2.2.2.2.1 g1 j e'' z2 g2 g3
  rw [k2, k3, k5, h6, h7]
  by_cases y : i = c
  · have : e' = e := by
      rw [y, ← hc, List.getElem?_append_right (Nat.le_refl _), Nat.sub_self] at he
      exact (Option.some.inj he).symm
    subst this
    rw [if_pos y, if_pos y, if_pos y]
    exact ⟨by rw [f1], f2.symm, f3, f4.symm, by rw [k4, if_pos y]; exact f5, vn, by rw [k4, if_pos y, y, ← hc, List.take_left]; exact f7⟩
  · have hi : i < nms.length := by
      have := (List.getElem?_eq_some_iff.mp he).1
      rw [List.length_append] at this
      simp at this
      omega
    rw [List.getElem?_append_left hi] at he
    rw [if_neg y, if_neg y, if_neg y]
    obtain ⟨t1, t2, t3, t4, t5, -, t7⟩ := ct.2 i e' he
    exact ⟨t1, t2, t3, t4, by rw [k4, if_neg y]; exact t5, vn, by rw [k4, if_neg y, List.take_append_of_le_length (Nat.le_of_lt hi)]; exact t7⟩
end TXI
end
section
/-! The class's reader of texts, exactly: what the words of a const's rule push. -/
section TXJ
variable {W pl nq E : Nat → Int} {Cf : Nat → Int × Int} {sm : Nat → Nat → Prop} {M M' : mM} {q r T A B D n c p V F : Nat} {ns : Nat → Int} {nms : List nm9}
/-- the words' values, those beyond the text 0 -/
noncomputable def cvn (W nq : Nat → Int) (sm : Nat → Nat → Prop) (nms : List nm9) (n : Nat) (v : Nat) : vrs := if v < n then cv9 W nq sm nms v else (0, 0, 1)
theorem vgd_0 {k : Int} (_ : k = 0 ∨ k = 1) : vgd k (0, 0, 1) := vgd_01.2
theorem lf_ex (wt : WTq M T A B D n W pl nq sm) (ec : ECq M r p n W nq sm nms c 1 E Cf) (ct : CT M r p nms) (hl : nms.length = c) (h9 : ∀ i, i < c → mI M (r + 9) i = 0 ∨ mI M (r + 9) i = 1) : ∀ k, (W k = 1 ∨ W k = 2 ∨ W k = 12 ∨ W k = 13) → (W k = 1 → E k ≠ -1) → Lfo M p W E (cvn W nq sm nms n) Cf k := by
  intro k hk hne
  obtain ⟨big, ec⟩ := ec
  obtain ⟨eE, ec⟩ := ec ct hl
  unfold Lfo cvn
  by_cases kn : k < n
  · rw [if_pos kn]
    obtain ⟨c2, c12, c13, c1⟩ := ec k kn
    unfold cv9
    rcases hk with h | h | h | h
    · obtain ⟨i, e, z1, z2, z3, z4, -⟩ := c1 h (hne h)
      have e1 : e.2.1 = 1 := z3.resolve_left (by decide)
      obtain ⟨t1, t2, t3, t4, t5, -⟩ := ct.2 i e z1
      obtain ⟨g1, x, g2, g3, g4, g5⟩ := t5 e1
      have hi : i < c := by rw [← hl]; exact (List.getElem?_eq_some_iff.mp z1).1
      have Ev : E k = e.2.2.1 := by
        rw [eE]
        unfold E9
        rw [z2]
        show (if (if (1 : Int) = 0 then (0 : Int) else 1) = 1 ∧ e.2.1 ≠ 1 then (-1 : Int) else e.2.2.1) = e.2.2.1
        rw [if_neg (fun y => y.2 e1)]
      rw [if_pos h, z2]
      refine ⟨?_, Or.inr ⟨?_, x, ?_, g3, g4, g5⟩⟩
      · have k01 := h9 i hi
        rw [t4] at k01
        by_cases y : E k = 1
        · rw [if_pos (Or.inr (Or.inr ⟨h, y⟩))]
          rw [← Ev, y] at g1
          exact g1
        · rw [if_neg (by omega)]
          have : e.2.2.1 = 0 := by omega
          rw [this] at g1
          exact g1
      · rw [z4, t2, e1]; rfl
      · rw [z4]; exact g2
    · rw [if_neg (by omega), if_pos h, if_neg (by omega)]
      obtain ⟨-, b1, b2⟩ := wt.2.1 k kn h
      refine ⟨Or.inl ⟨rfl, ?_, ⟨by simp, by simp⟩, ?_, fun u => absurd u (by decide)⟩, Or.inl ⟨by rw [c2 h], by rw [c2 h]⟩⟩
      · show (nq k).natAbs ≤ 999999999
        omega
      · show Int.gcd (nq k) 1 = 1
        exact Int.gcd_one
    · rw [if_pos (show W k = 12 ∨ W k = 13 ∨ (W k = 1 ∧ E k = 1) from Or.inl h), if_neg (show ¬ W k = 1 by first | rfl | omega), if_neg (show ¬ W k = 2 by first | rfl | omega), if_pos h]
      exact ⟨vgd_01.1, Or.inl ⟨by rw [c12 h], by rw [c12 h]⟩⟩
    · rw [if_pos (show W k = 12 ∨ W k = 13 ∨ (W k = 1 ∧ E k = 1) from Or.inr (Or.inl h)), if_neg (show ¬ W k = 1 by first | rfl | omega), if_neg (show ¬ W k = 2 by first | rfl | omega), if_neg (show ¬ W k = 12 by first | rfl | omega)]
      exact ⟨vgd_01.2, Or.inl ⟨by rw [c13 h], by rw [c13 h]⟩⟩
  · rw [if_neg kn]
    have cb := big k (by omega)
    refine ⟨?_, Or.inl ⟨by rw [cb], by rw [cb]⟩⟩
    split
    · exact vgd_0 (Or.inr rfl)
    · exact vgd_0 (Or.inl rfl)
/-- consts' values stay: a new one is put behind them -/
theorem CT.tab (ct : CT M (q + 1) p nms) (tn : TN M (q + 1) A n V F ns c) (hl : nms.length = c) (h19 : mI M' (q + 1) 19 = mI M (q + 1) 19) (h6 : mI M' (q + 1 + 6) = mI M (q + 1 + 6)) (h7 : mI M' (q + 1 + 7) = mI M (q + 1 + 7)) (h8 : mI M' (q + 1 + 8) = mI M (q + 1 + 8)) (h9 : mI M' (q + 1 + 9) = mI M (q + 1 + 9)) (p6 : ∀ i, i < F → mI M' (p + 6) i = mI M (p + 6) i) (p7 : ∀ i, i < F → mI M' (p + 7) i = mI M (p + 7) i) : CT M' (q + 1) p nms := by
  refine ⟨by rw [h19]; exact ct.1, fun i e z => ?_⟩
  obtain ⟨t1, t2, t3, t4, t5, t6⟩ := ct.2 i e z
  rw [h6, h7, h8, h9]
  refine ⟨t1, t2, t3, t4, fun e1 => ?_, t6⟩
  obtain ⟨g1, x, g2, g3, g4, g5⟩ := t5 e1
  have hi : i < c := by rw [← hl]; exact (List.getElem?_eq_some_iff.mp z).1
  have xF : x < F := by
    obtain ⟨-, u, -⟩ := tn.2.2 i hi
    rw [t2, e1] at u
    rcases u with u | u
    · exact absurd u.1 (by decide)
    · have := u.2.2.1; omega
  exact ⟨g1, x, g2, g3, by rw [p7 x xF]; exact g4, by rw [p6 x xF, p7 x xF]; exact g5⟩
end TXJ
end
