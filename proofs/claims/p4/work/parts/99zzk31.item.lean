/-! The class's reader of texts: steps; names, rules of items. -/
section TRB
variable {G : mG} {d z q w T A B D N C n p O P K Ab Be Cm V F c s L L' cnt Bn a d0 V1 F1 : Nat} {M0 M M' M1 M2 : mM} {ns ns' ns1 : Nat → Int} {sf ef sf' ef' : Nat → Nat} {H : Nat → Nat} {S R : Nat → Prop}
theorem tx_ui {b j : Nat} {v : Int} (h : TX M z q w T A B D N C n p O P K Ab Be Cm V F ns sf ef c cnt L) (hv : i32 v) (e : M' = mUI M b j v) (hb : b = q ∨ b = q + 21 ∨ b = q + 22 ∨ (b = q + 1 ∧ (j = 2 ∨ j = 5 ∨ j = 6)) ∨ (b = p ∧ j = 2)) : TX M' z q w T A B D N C n p O P K Ab Be Cm V F ns sf ef c cnt L ∧ txF M q p O P L M' ∧ (∀ x i, mI M' x i = if x = b ∧ i = j then v else mI M x i) := by
  have ap := h.1.apart
  have qp := h.1.2.2.2.2.2.1.2.1
  have ok := h.1.1.1
  have g : ∀ x i, mI M' x i = if x = b ∧ i = j then v else mI M x i := fun x i => mI_ui x i e
  have f : FI (txS q p O P) M M' := by
    rw [e]
    refine FI.ui ?_
    show (q ≤ b ∧ b ≤ q + 10) ∨ b = q + 21 ∨ b = q + 22 ∨ b = p ∨ (p + 3 ≤ b ∧ b ≤ p + 15) ∨ b = O ∨ b = P
    omega
  have o : mOk M' := by rw [e]; exact mOk_UI ok hv
  have ff : txF M q p O P L M' := by
    refine ⟨f, fun i i2 i3 i4 i5 i6 i7 i12 i14 => by rw [g, if_neg (by omega)], fun y => by rw [g, if_neg (by omega)]; exact y, fun i i6 i9 => ?_, fun i i2 => by rw [g, if_neg (by omega)], fun i i9 i15 => ?_, fun i hi => ⟨by rw [g, if_neg (by omega)], by rw [g, if_neg (by omega)]⟩⟩
    · funext x
      rw [g, if_neg (by omega)]
    · funext x
      rw [g, if_neg (by omega)]
  refine ⟨h.tx o ff (fun x => ?_), ff, g⟩
  rw [g, if_neg (by omega)]
  exact h.2.1.2.2.2 x
theorem s_tx_note {x y : Int} (hx : i32 x) (x0 : x ≠ 0) (hy : i32 y) (h : TX M z q w T A B D N C n p O P K Ab Be Cm V F ns sf ef c cnt L) : Cv G y_RR_note d [vr (q + 1), vi x, vi y] M (fun M' => mOk M' ∧ TX M' z q w T A B D N C n p O P K Ab Be Cm V F ns sf ef c cnt L ∧ txF M q p O P L M' ∧ mI M' (q + 1) 3 ≠ 0 ∧ (∀ i, i ≠ 3 → i ≠ 4 → mI M' (q + 1) i = mI M (q + 1) i) ∧ (∀ b, b ≠ q + 1 → mI M' b = mI M b)) := by
  have ap := h.1.apart
  have qp := h.1.2.2.2.2.2.1.2.1
  refine (s_RR_note hx hy h.1.1).mono (fun M' k => ?_)
  obtain ⟨k1, k2, k3, k4, k5⟩ := k
  have n3 : mI M' (q + 1) 3 ≠ 0 := by
    by_cases u : mI M (q + 1) 3 = 0
    · rw [k4 u]; exact x0
    · rw [k5 u]; exact u
  have nb : ∀ b, b ≠ q + 1 → mI M' b = mI M b := fun b hb => k2.2.2.2.2.2.2 b hb
  have ff : txF M q p O P L M' := ⟨k2.mono (fun b y => Or.inl (by have y' : b = q + 1 := y; omega)), fun i _ i3 i4 _ _ _ _ _ => k3 i i3 i4, fun _ => n3, fun i _ _ => nb _ (by omega), fun i _ => by rw [nb p (by omega)], fun i _ _ => nb _ (by omega), fun i _ => ⟨by rw [nb O (by omega)], by rw [nb P (by omega)]⟩⟩
  exact ⟨k1.1, h.tx k1.1 ff (fun j => by rw [nb _ (by omega)]; exact h.2.1.2.2.2 j), ff, n3, k3, nb⟩
theorem s_tx_note0 {x y : Int} (hx : i32 x) (hy : i32 y) (h : TX M z q w T A B D N C n p O P K Ab Be Cm V F ns sf ef c cnt L) : Cv G y_RR_note d [vr (q + 1), vi x, vi y] M (fun M' => mOk M' ∧ TX M' z q w T A B D N C n p O P K Ab Be Cm V F ns sf ef c cnt L ∧ txF M q p O P L M' ∧ (∀ i, i ≠ 3 → i ≠ 4 → mI M' (q + 1) i = mI M (q + 1) i) ∧ (∀ b, b ≠ q + 1 → mI M' b = mI M b)) := by
  have ap := h.1.apart
  have qp := h.1.2.2.2.2.2.1.2.1
  refine (s_RR_note hx hy h.1.1).mono (fun M' k => ?_)
  obtain ⟨k1, k2, k3, k4, k5⟩ := k
  have nb : ∀ b, b ≠ q + 1 → mI M' b = mI M b := fun b hb => k2.2.2.2.2.2.2 b hb
  have ff : txF M q p O P L M' := ⟨k2.mono (fun b y => Or.inl (by have y' : b = q + 1 := y; omega)), fun i _ i3 i4 _ _ _ _ _ => k3 i i3 i4, fun u => by rw [k5 u]; exact u, fun i _ _ => nb _ (by omega), fun i _ => by rw [nb p (by omega)], fun i _ _ => nb _ (by omega), fun i _ => ⟨by rw [nb O (by omega)], by rw [nb P (by omega)]⟩⟩
  exact ⟨k1.1, h.tx k1.1 ff (fun j => by rw [nb _ (by omega)]; exact h.2.1.2.2.2 j), ff, k3, nb⟩
theorem s_tx_accept {x : Int} (hx : i32 x) (x0 : x ≠ 0) (h : TX M z q w T A B D N C n p O P K Ab Be Cm V F ns sf ef c cnt L) (ha : mI M (q + 1) 2 = a) (han : a ≤ n) : Ci G y_RR_accept d [vr (q + 1), vi x] M (fun v M' => i32 v ∧ mOk M' ∧ (v = 0 ∨ v = 1) ∧ TX M' z q w T A B D N C n p O P K Ab Be Cm V F ns sf ef c cnt L ∧ txF M q p O P L M' ∧ ((v = 1 ∧ mI M A a = x ∧ mI M' (q + 1) 2 = ((a + 1 : Nat) : Int) ∧ a < n) ∨ (v = 0 ∧ M' = M)) ∧ (∀ i, i ≠ 2 → mI M' (q + 1) i = mI M (q + 1) i) ∧ (∀ b, b ≠ q + 1 → mI M' b = mI M b)) := by
  refine (s_RR_accept hx h.1.1 ha han).mono (fun v M' k => ?_)
  obtain ⟨k1, k2⟩ := k
  rcases k2 with ⟨e1, e2, e3, e4⟩ | ⟨e1, e2, e3⟩
  · have hN : n ≤ 16384 := by have := h.1.1.2.2.2.1.2.2.1; have := h.1.1.2.2.2.1.1.2.2.2.2.2.2.1; omega
    have u := tx_ui h ⟨by omega, by omega⟩ e3 (Or.inr (Or.inr (Or.inr (Or.inl ⟨rfl, Or.inl rfl⟩))))
    have an : a < n := by
      have : a ≠ n := fun y => by
        have hA := h.1.1.2.2.2.1.2.2.2.2.1
        rw [y, hA] at e2
        exact x0 e2.symm
      omega
    refine ⟨by rw [e1]; exact i32s (by omega) (by omega), k1.1, Or.inr e1, u.1, u.2.1, Or.inl ⟨e1, e2, by rw [e4]; omega, an⟩, fun i hi => by rw [u.2.2, if_neg (fun y => hi y.2)], fun b hb => ?_⟩
    funext i
    rw [u.2.2, if_neg (fun y => hb y.1)]
  · subst e3
    exact ⟨by rw [e1]; exact i32s (by omega) (by omega), k1.1, Or.inl e1, h, txF.refl, Or.inr ⟨e1, rfl⟩, fun _ _ => rfl, fun _ _ => rfl⟩
theorem rr_tx (h : TP M z q w T A B D N C n p O P K Ab Be Cm) (f : rrF M (q + 1) p O P s M') : txF M q p O P s M' := by
  have ap := h.apart
  have qp := h.2.2.2.2.2.1.2.1
  obtain ⟨f1, f2, f3, f4, f5, f6⟩ := f
  refine ⟨f1.mono (fun b y => ?_), fun i i2 i3 i4 i5 _ i7 i12 i14 => f2 i i2 i3 i4 i5 i7 i12 i14, fun y => by rw [f3 y]; exact y, f4, f5, fun i i9 i15 => f1.2.2.2.2.2.2 _ (fun y => ?_), f6⟩
  · have y' : (q + 1 ≤ b ∧ b ≤ q + 1 + 9) ∨ b = p ∨ b = O ∨ b = P := y
    show (q ≤ b ∧ b ≤ q + 10) ∨ b = q + 21 ∨ b = q + 22 ∨ b = p ∨ (p + 3 ≤ b ∧ b ≤ p + 15) ∨ b = O ∨ b = P
    omega
  · have y' : (q + 1 ≤ p + i ∧ p + i ≤ q + 1 + 9) ∨ p + i = p ∨ p + i = O ∨ p + i = P := y
    omega
/-- an order is added -/
theorem s_tx_add {o x : Int} (io : i32 o) (ix : i32 x) (h : TX M z q w T A B D N C n p O P K Ab Be Cm V F ns sf ef c cnt L) (hs : mI M p 2 = s) (hL : L ≤ s) (hn : s ≤ n) : Ci G y_Pr_add d [vr p, vi o, vi x] M (fun v M' => i32 v ∧ mOk M' ∧ TX M' z q w T A B D N C n p O P K Ab Be Cm V F ns sf ef c cnt L ∧ txF M q p O P s M' ∧ mI M' p 2 = ((s + 1 : Nat) : Int) ∧ (∀ i, mI M' O i = if i = s then o else mI M O i) ∧ (∀ i, mI M' P i = if i = s then x else mI M P i) ∧ (∀ b, b ≠ p → b ≠ O → b ≠ P → mI M' b = mI M b)) := by
  have ap := h.1.apart
  have qp := h.1.2.2.2.2.2.1.2.1
  have hK := h.1.1.2.2.2.2.2.2
  have hN : n ≤ 16384 := by have := h.1.1.2.2.2.1.2.2.1; have := h.1.1.2.2.2.1.1.2.2.2.2.2.2.1; omega
  refine (s_Pr_add (n := s) io ix h.1.1.1 h.1.1.2.2.2.2.1 hs (by omega)).mono (fun v M' k => ?_)
  obtain ⟨k1, k2, k3, k4, k5, k6⟩ := k
  have nb : ∀ b, b ≠ p → b ≠ O → b ≠ P → mI M' b = mI M b := fun b b1 b2 b3 => k3.2.2.2.2.2.2 b (fun y => by
    have y' : b = p ∨ b = O ∨ b = P := y
    omega)
  have ff : txF M q p O P s M' := by
    refine ⟨k3.mono (fun b y => ?_), fun i _ _ _ _ _ _ _ _ => by rw [nb (q + 1) (by omega) (by omega) (by omega)], fun y => by rw [nb (q + 1) (by omega) (by omega) (by omega)]; exact y, fun i _ _ => nb _ (by omega) (by omega) (by omega), fun i i2 => by rw [k4, if_neg i2], fun i _ _ => nb _ (by omega) (by omega) (by omega), fun i hi => ⟨by rw [k5, if_neg (by omega)], by rw [k6, if_neg (by omega)]⟩⟩
    have y' : b = p ∨ b = O ∨ b = P := y
    show (q ≤ b ∧ b ≤ q + 10) ∨ b = q + 21 ∨ b = q + 22 ∨ b = p ∨ (p + 3 ≤ b ∧ b ≤ p + 15) ∨ b = O ∨ b = P
    omega
  exact ⟨by rw [k1]; exact ⟨by omega, by omega⟩, k2, h.tx k2 (ff.less hL) (fun j => by rw [nb _ (by omega) (by omega) (by omega)]; exact h.2.1.2.2.2 j), ff, by rw [k4, if_pos rfl]; omega, k5, k6, nb⟩
/-- a rule is read: its code from s on -/
def ruQ (M : mM) (z q w T A B D N C n p O P K Ab Be Cm V F : Nat) (ns : Nat → Int) (sf ef : Nat → Nat) (c cnt L s V1 F1 : Nat) (ns1 : Nat → Int) (a : Nat) (x : Int) (M' : mM) : Prop := TX M' z q w T A B D N C n p O P K Ab Be Cm V F ns sf ef c cnt L ∧ txF M q p O P s M' ∧ (mI M' (q + 1) 6 = mI M (q + 1) 6 ∧ mI M' q = mI M q ∧ mI M' (q + 21) = mI M (q + 21) ∧ mI M' (q + 22) = mI M (q + 22)) ∧ ((x = 0 ∧ ∃ a' : Nat, mI M' (q + 1) 2 = a' ∧ a' ≤ n) ∨ (x = 1 ∧ ∃ e H a', CO M' O P V1 F1 ns1 H s e (fun _ => False) ∧ H s = 0 ∧ H e = 1 ∧ 1 + s ≤ e ∧ mI M' p 2 = ((e : Nat) : Int) ∧ mI M' (q + 1) 2 = ((a' : Nat) : Int) ∧ a ≤ a' ∧ a' ≤ n ∧ e ≤ a' ∧ mI M' (q + 1) 5 = mI M (q + 1) 5))
theorem s_tx_rule {l1 l2 : Int} (i1 : i32 l1) (i2 : i32 l2) (h : TX M z q w T A B D N C n p O P K Ab Be Cm V F ns sf ef c cnt L) (ha : mI M (q + 1) 2 = a) (han : a ≤ n) (hs : mI M p 2 = s) (hLs : L ≤ s) (hsa : s ≤ a) (hd : mI M (q + 1) 5 = d0) (hd4 : d0 ≤ 40) (nk : NK M (q + 1) A n V1 F1 ns1 c) : Ci G y_RR_readRule (d + 4) [vr (q + 1), vi l1, vi l2] M (fun x M' => i32 x ∧ mOk M' ∧ ruQ M z q w T A B D N C n p O P K Ab Be Cm V F ns sf ef c cnt L s V1 F1 ns1 a x M') := by
  have ap := h.1.apart
  have qp := h.1.2.2.2.2.2.1.2.1
  refine (s_RR_readRule i1 i2 h.1.1 ha han hs hsa hd hd4 h.2.1.2.2.2 nk).mono (fun x M' k => ?_)
  obtain ⟨k1, k2, k3, k4⟩ := k
  have ff := rr_tx h.1 k2
  have hx : x = 0 ∨ x = 1 := by
    rcases k4 with ⟨e, -⟩ | ⟨e, -⟩
    · exact Or.inl e
    · exact Or.inr e
  have nb : ∀ b, b = q ∨ b = q + 21 ∨ b = q + 22 → mI M' b = mI M b := fun b hb => k2.1.2.2.2.2.2.2 b (fun y => by
    have y' : (q + 1 ≤ b ∧ b ≤ q + 1 + 9) ∨ b = p ∨ b = O ∨ b = P := y
    clear k4
    omega)
  have ix : i32 x := by
    clear k4
    exact i32s (by omega) (by omega)
  refine ⟨ix, k1.1, h.tx k1.1 (ff.less hLs) k3, ff, ⟨k2.2.1 6 (by decide) (by decide) (by decide) (by decide) (by decide) (by decide) (by decide), nb q (Or.inl rfl), nb _ (Or.inr (Or.inl rfl)), nb _ (Or.inr (Or.inr rfl))⟩, ?_⟩
  rcases k4 with ⟨e, a', L1, e1, -, e3, -⟩ | ⟨e, H', L1, a', g, haa⟩
  · exact Or.inl ⟨e, a', e1, e3⟩
  · obtain ⟨⟨g1, g2, g3, g4⟩, -, ⟨g5, g6⟩, -, ⟨g8, -⟩, -, -, ⟨gH, gHs⟩, gC, gL, -⟩ := g
    have b0 : bs M' (q + 1) 0 = 0 := rfl
    have s0 : sdp M' (q + 1) 0 = 0 := rfl
    have e0 : se M' (q + 1) 0 = 0 := rfl
    have u0 : uw 0 = 1 := rfl
    have hs0 := (gC s (Nat.le_refl _) (by omega)).2.2
    refine Or.inr ⟨e, L1, H', a', fun pc h0 h1 => ?_, by omega, by omega, by omega, g4, g1, haa, g5, by omega, by rw [g8, s0, hd]; omega⟩
    obtain ⟨c1, c2, c3⟩ := gC pc h0 h1
    refine ⟨c1, fun y => Or.inr ?_, c3⟩
    rcases c2 y with ⟨i, hi, -⟩ | u
    · exact absurd hi (by omega)
    · exact u
end TRB
