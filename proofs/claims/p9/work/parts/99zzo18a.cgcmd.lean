/-! The class's reader of texts: a command that is being read keeps the game. -/
/-- a rule's orders, read in this item -/
def RwC (M : mM) (O P L0 L : Nat) (W pl nq : Nat → Int) (sm : Nat → Nat → Prop) (n : Nat) (nms : List nm9) (i j s : Nat) : Prop := ∃ (Cf : Nat → Int × Int) (e : Nat), LfC W nq sm n nms Cf ∧ Eo W 6 i j ∧ j ≤ n ∧ (fl W (E9 sm nms 0) pl 0 i j).1 = 0 ∧ L0 ≤ s ∧ Cd W Cf pl (mI M O) (mI M P) 0 0 0 i j s e ∧ e < L ∧ mI M O e = 0
/-- the orders of sets, read in this item -/
def SwC (M : mM) (O P L0 L V : Nat) (W pl nq : Nat → Int) (sm : Nat → Nat → Prop) (n : Nat) (nms : List nm9) (l : List (Nat × Nat × Nat × Nat)) (s : Nat) : Prop := ∃ e : Nat, (∀ q', q' ∈ l → sOk W pl sm n V nms q') ∧ L0 ≤ s ∧ Scw (LfC W nq sm n nms) W pl (mI M O) (mI M P) l s e ∧ e < L ∧ mI M O e = 0
/-- what stays while command number cnt is read; u branches stand before it -/
def cmF (p O P L0 cnt u : Nat) (Mc M : mM) : Prop := (∀ i, 3 ≤ i → i ≤ 8 → mI M (p + i) = mI Mc (p + i)) ∧ (∀ j, j < cnt → mI M (p + 9) j = mI Mc (p + 9) j ∧ mI M (p + 10) j = mI Mc (p + 10) j ∧ mI M (p + 11) j = mI Mc (p + 11) j) ∧ (∀ j, j ≤ cnt → mI M (p + 12) j = mI Mc (p + 12) j) ∧ (∀ t, t < u → mI M (p + 13) t = mI Mc (p + 13) t ∧ mI M (p + 14) t = mI Mc (p + 14) t ∧ mI M (p + 15) t = mI Mc (p + 15) t) ∧ cdE O P L0 Mc M ∧ mI M p 11 = mI Mc p 11
/-- branches in the program from u on -/
def BrC (M : mM) (p O P L0 L V : Nat) (W pl nq : Nat → Int) (sm : Nat → Nat → Prop) (n : Nat) (nms : List nm9) (u : Nat) (bl : List br9) : Prop := ∀ (t : Nat) (x : br9), bl[t]? = some x → mI M (p + 13) (u + t) = x.1 ∧ (∃ s : Nat, mI M (p + 14) (u + t) = ((s : Nat) : Int) ∧ RwC M O P L0 L W pl nq sm n nms x.2.1.1 x.2.1.2 s) ∧ ∃ s : Nat, mI M (p + 15) (u + t) = ((s : Nat) : Int) ∧ SwC M O P L0 L V W pl nq sm n nms x.2.2 s
/-- command number cnt, at the word k, its arrow at ar: b branches have been read, the next begins at i -/
def cmR9 (W pl nq : Nat → Int) (sm : Nat → Nat → Prop) (Nn n V q p O P L0 c cnt k ar : Nat) (nms : List nm9) (Mc : mM) (i b : Nat) (M : mM) : Prop := CT Mc (q + 1) p nms → nms.length = c → mI M (q + 1) 3 = 0 → ∃ (L u : Nat) (bl : List br9), (mI M p 2 = ((L : Nat) : Int) ∧ L0 ≤ L) ∧ mI Mc (p + 12) cnt = ((u : Nat) : Int) ∧ cmF p O P L0 cnt u Mc M ∧ (mI M (p + 9) cnt = (if W k = 7 then 1 else 2) ∧ mI M (p + 10) cnt = pl k) ∧ (∃ s : Nat, mI M (p + 11) cnt = ((s : Nat) : Int) ∧ RwC M O P L0 L W pl nq sm n nms (k + 1) ar s) ∧ mI M (p + 12) (cnt + 1) = ((u + bl.length : Nat) : Int) ∧ bl.length = b ∧ (∀ e, no34 W k e → W e = 34 → brs9 W pl sm Nn nms e Nn (ar + 1) = bl ++ brs9 W pl sm Nn nms e (Nn - b) i) ∧ BrC M p O P L0 L V W pl nq sm n nms u bl
section TXS2
variable {W pl nq E : Nat → Int} {Cf : Nat → Int × Int} {sm : Nat → Nat → Prop} {Nn n V q p O P L L' L0 c cnt k ar i b u a j a2 ix e : Nat} {Mc M M' M1 M2 M3 : mM} {nms : List nm9} {fS : Int × Int}
theorem RwC.cg {i j s : Nat} (h : RwC M O P L0 L W pl nq sm n nms i j s) (cd : cdE O P L M M') (hL : L ≤ L') : RwC M' O P L0 L' W pl nq sm n nms i j s := by
  obtain ⟨Cf, e, h1, h2, h3, h4, h5, h6, h7, h8⟩ := h
  exact ⟨Cf, e, h1, h2, h3, h4, h5, h6.cg (fun t _ t2 => cd t (by omega)), by omega, by rw [(cd e h7).1]; exact h8⟩
theorem SwC.cg {l : List (Nat × Nat × Nat × Nat)} {s : Nat} (h : SwC M O P L0 L V W pl nq sm n nms l s) (cd : cdE O P L M M') (hL : L ≤ L') : SwC M' O P L0 L' V W pl nq sm n nms l s := by
  obtain ⟨e, h1, h2, h3, h4, h5⟩ := h
  exact ⟨e, h1, h2, Scw.cg l h3 (fun t _ t2 => cd t (by omega)), by omega, by rw [(cd e h4).1]; exact h5⟩
theorem BrC.cg {bl : List br9} (h : BrC M p O P L0 L V W pl nq sm n nms u bl) (cd : cdE O P L M M') (hL : L ≤ L') (e : ∀ t, t < u + bl.length → mI M' (p + 13) t = mI M (p + 13) t ∧ mI M' (p + 14) t = mI M (p + 14) t ∧ mI M' (p + 15) t = mI M (p + 15) t) : BrC M' p O P L0 L' V W pl nq sm n nms u bl := fun t x hx => by
  have tl : t < bl.length := (List.getElem?_eq_some_iff.mp hx).1
  obtain ⟨e13, e14, e15⟩ := e (u + t) (by omega)
  obtain ⟨a1, ⟨s1, a2, a3⟩, s2, a4, a5⟩ := h t x hx
  exact ⟨by rw [e13]; exact a1, ⟨s1, by rw [e14]; exact a2, a3.cg cd hL⟩, s2, by rw [e15]; exact a4, a5.cg cd hL⟩
theorem cmF.trans (h : cmF p O P L0 cnt u Mc M) (k : cmF p O P L0 cnt u M M') : cmF p O P L0 cnt u Mc M' := by
  obtain ⟨h1, h2, h3, h4, h5, h6⟩ := h
  obtain ⟨k1, k2, k3, k4, k5, k6⟩ := k
  exact ⟨fun i a b => by rw [k1 i a b, h1 i a b], fun j hj => ⟨by rw [(k2 j hj).1, (h2 j hj).1], by rw [(k2 j hj).2.1, (h2 j hj).2.1], by rw [(k2 j hj).2.2, (h2 j hj).2.2]⟩, fun j hj => by rw [k3 j hj, h3 j hj], fun t ht => ⟨by rw [(k4 t ht).1, (h4 t ht).1], by rw [(k4 t ht).2.1, (h4 t ht).2.1], by rw [(k4 t ht).2.2, (h4 t ht).2.2]⟩, fun i hi => ⟨by rw [(k5 i hi).1, (h5 i hi).1], by rw [(k5 i hi).2, (h5 i hi).2]⟩, by rw [k6, h6]⟩
theorem cmF.eq (e : ∀ i, 3 ≤ i → i ≤ 15 → mI M' (p + i) = mI M (p + i)) (cd : cdE O P L0 M M') (e11 : mI M' p 11 = mI M p 11) : cmF p O P L0 cnt u M M' := ⟨fun i a b => e i a (by omega), fun j _ => by rw [e 9 (by omega) (by omega), e 10 (by omega) (by omega), e 11 (by omega) (by omega)]; exact ⟨rfl, rfl, rfl⟩, fun j _ => by rw [e 12 (by omega) (by omega)], fun t _ => by rw [e 13 (by omega) (by omega), e 14 (by omega) (by omega), e 15 (by omega) (by omega)]; exact ⟨rfl, rfl, rfl⟩, cd, e11⟩
/-- a word more, or a fault: nothing else -/
theorem cmR9.cg (h : cmR9 W pl nq sm Nn n V q p O P L0 c cnt k ar nms Mc i b M) (h3 : mI M' (q + 1) 3 = 0 → mI M (q + 1) 3 = 0) (e : ∀ i, 3 ≤ i → i ≤ 15 → mI M' (p + i) = mI M (p + i)) (e2 : mI M' p 2 = mI M p 2) (e11 : mI M' p 11 = mI M p 11) (hO : mI M' O = mI M O) (hP : mI M' P = mI M P) : cmR9 W pl nq sm Nn n V q p O P L0 c cnt k ar nms Mc i b M' := fun ct hl y => by
  obtain ⟨L, u, bl, ⟨a1, a1'⟩, a2, a3, ⟨a4, a5⟩, ⟨s, a6, a7⟩, a8, a9, a10, a11⟩ := h ct hl (h3 y)
  have cd : ∀ L9, cdE O P L9 M M' := fun L9 i _ => by rw [hO, hP]; exact ⟨rfl, rfl⟩
  exact ⟨L, u, bl, ⟨by rw [e2]; exact a1, a1'⟩, a2, a3.trans (cmF.eq e (cd _) e11), ⟨by rw [e 9 (by omega) (by omega)]; exact a4, by rw [e 10 (by omega) (by omega)]; exact a5⟩, ⟨s, by rw [e 11 (by omega) (by omega)]; exact a6, a7.cg (cd _) (Nat.le_refl _)⟩, by rw [e 12 (by omega) (by omega)]; exact a8, a9, a10, a11.cg (cd _) (Nat.le_refl _) (fun t _ => by rw [e 13 (by omega) (by omega), e 14 (by omega) (by omega), e 15 (by omega) (by omega)]; exact ⟨rfl, rfl, rfl⟩)⟩
/-- one branch more, pure -/
theorem brs_step {e : Nat} (hia : i < Nn) (hka : k + 1 ≤ a) (n4 : no34 W k a) (ne : no34 W k e) (we : W e = 34) (eo : Eo W 6 a j) (w33 : W j = 33) (jn : j < Nn) (rx : (W (j + 1) = 10 ∧ a2 = j + 2) ∨ (W (j + 1) ≠ 10 ∧ a2 = (sef W pl sm Nn nms Nn (j + 1) []).2)) : brs9 W pl sm Nn nms e (Nn - i) a = (pl a, (a, j), sll W sm Nn nms (j + 1)) :: brs9 W pl sm Nn nms e (Nn - (i + 1)) (a2 + 1) := by
  have aj := eo.pr.1
  obtain ⟨f, hf⟩ : ∃ f, Nn - i = f + 1 := ⟨Nn - i - 1, by omega⟩
  have hf2 : Nn - (i + 1) = f := by omega
  have ea : ¬ e ≤ a := fun u => by
    by_cases v : e = a
    · have y := eo.rw9 (j := a) (Nat.le_refl _) aj
      rw [← v, we] at y
      unfold rwd at y
      omega
    · exact n4.2 e ne.1 (by omega) we
  have hq : clq W (a - 1) Nn = j := clq_eo (by rw [show a - 1 + 1 = a by omega]; exact eo) w33 jn
  unfold sll
  rw [hf, hf2, brs9, if_neg ea, hq]
  rcases rx with ⟨r1, r2⟩ | ⟨r1, r2⟩
  · rw [if_pos r1, if_pos r1, r2]
  · rw [if_neg r1, if_neg r1, r2]
/-- a branch is put behind the others -/
theorem cmR9.branch {s0 : Nat} (h : cmR9 W pl nq sm Nn n V q p O P L0 c cnt k ar nms Mc a i M) (hp : mI M p 2 = ((L : Nat) : Int)) (ctM : CT Mc (q + 1) p nms → CT M (q + 1) p nms) (ctM1 : CT Mc (q + 1) p nms → CT M1 (q + 1) p nms) (z1 : mI M1 (q + 1) 3 = 0 → mI M (q + 1) 3 = 0) (z2 : mI M2 (q + 1) 3 = 0 → mI M1 (q + 1) 3 = 0) (z3 : mI M3 (q + 1) 3 = 0 → mI M2 (q + 1) 3 = 0) (hix : mI M3 (q + 1) 3 = 0 → ix = cnt) (ch : chD W pl nq sm Cf q p O P n c L ix a j nms M M1) (hp1 : mI M1 p 2 = ((s0 : Nat) : Int)) (tx : txE M1 q p O P s0 M2) (se : seE W pl nq sm Nn n V M1 q p O P c (j + 1) s0 nms M2) (n3 : mI M3 (q + 1) 3 = 0 → ∀ t, mI M3 (p + 12) t = if t = ix + 1 then mI M2 (p + 12) (ix + 1) + 1 else mI M2 (p + 12) t) (nb : ∀ y, y ≠ p + 12 → mI M3 y = mI M2 y) (hO : O ≠ p + 12) (hP : P ≠ p + 12) (eo : Eo W 6 a j) (w33 : W j = 33) (jn : j < n) (hNn : n ≤ Nn) (hia : i < Nn) (hka : k + 1 ≤ a) (n4 : no34 W k a) (fl0 : CT Mc (q + 1) p nms → nms.length = c → mI M3 (q + 1) 3 = 0 → (fl W (E9 sm nms 0) pl 0 a j).1 = 0 ∧ ((W (j + 1) = 10 ∧ a2 = j + 2) ∨ (W (j + 1) ≠ 10 ∧ a2 = (sef W pl sm Nn nms Nn (j + 1) []).2))) : cmR9 W pl nq sm Nn n V q p O P L0 c cnt k ar nms Mc (a2 + 1) (i + 1) M3 := fun ct hl y => by
  have y2 := z3 y
  have y1 := z2 y2
  obtain ⟨L9, u, bl, ⟨a1, a1'⟩, b2, a3, ⟨a4, a5⟩, ⟨s, a6, a7⟩, a8, a9, a10, a11⟩ := h ct hl (z1 y1)
  have eL : L9 = L := by rw [hp] at a1; omega
  subst eL
  have eix := hix y
  subst eix
  obtain ⟨c1, c0, v, e, c2, c3, c4, c5, c6, c7⟩ := ch.1 y1
  have lf := ch.2 (ctM ct) hl
  have ev : v = u + bl.length := by rw [a8] at c2; omega
  have es0 : s0 = e + 1 := by rw [hp1] at c4; omega
  subst es0
  obtain ⟨s9, d1, d2, d3, d4⟩ := se (ctM1 ct) hl y2
  obtain ⟨f1, f2⟩ := fl0 ct hl y
  have lt := c6.lt
  have sle := Scw.le _ d3
  have tp := tx.2.2.2.2.1
  have to := tx.2.2.2.2.2
  have n3 := n3 y
  have p9 : ∀ i, 3 ≤ i → i ≤ 15 → i ≠ 12 → mI M3 (p + i) = mI M1 (p + i) := fun i i3 i15 i12 => by rw [nb _ (by omega), tp i i3 i15]
  have cd1 : cdE O P (e + 1) M1 M3 := fun t ht => by rw [nb O hO, nb P hP]; exact to t ht
  have cd : cdE O P L9 M M3 := fun t ht => by rw [(cd1 t (by omega)).1, (cd1 t (by omega)).2]; exact c7 t ht
  have cd3 : ∀ L', cdE O P L' M2 M3 := fun L' t _ => by rw [nb O hO, nb P hP]; exact ⟨rfl, rfl⟩
  have p12 : ∀ t, mI M3 (p + 12) t = if t = ix + 1 then ((u + bl.length + 1 : Nat) : Int) else mI M (p + 12) t := fun t => by
    rw [n3, tp 12 (by omega) (by omega), c1 12 (by omega) (by omega), a8]
    by_cases yt : t = ix + 1
    · rw [if_pos yt, if_pos yt]; omega
    · rw [if_neg yt, if_neg yt]
  have p2 : mI M3 p 2 = ((s9 + 1 : Nat) : Int) := by rw [nb p (by omega)]; exact d1
  have t3 : ∀ t, mI M3 (p + 13) t = (if t = v then pl a else mI M (p + 13) t) ∧ mI M3 (p + 14) t = (if t = v then ((L9 : Nat) : Int) else mI M (p + 14) t) ∧ mI M3 (p + 15) t = (if t = v then ((e + 1 : Nat) : Int) else mI M (p + 15) t) := fun t => by
    rw [p9 13 (by omega) (by omega) (by omega), p9 14 (by omega) (by omega) (by omega), p9 15 (by omega) (by omega) (by omega)]
    exact c3 t
  refine ⟨s9 + 1, u, bl ++ [(pl a, (a, j), sll W sm Nn nms (j + 1))], ⟨p2, by omega⟩, b2, a3.trans ⟨fun i i3 i8 => by rw [p9 i i3 (by omega) (by omega), c1 i i3 (by omega)], fun t _ => by rw [p9 9 (by omega) (by omega) (by omega), p9 10 (by omega) (by omega) (by omega), p9 11 (by omega) (by omega) (by omega), c1 9 (by omega) (by omega), c1 10 (by omega) (by omega), c1 11 (by omega) (by omega)]; exact ⟨rfl, rfl, rfl⟩, fun t ht => by rw [p12, if_neg (by omega)], fun t ht => by rw [(t3 t).1, (t3 t).2.1, (t3 t).2.2, if_neg (by omega), if_neg (by omega), if_neg (by omega)]; exact ⟨rfl, rfl, rfl⟩, fun t ht => cd t (by omega), by rw [nb p (by omega), tx.2.2.2.1 11 (by decide), c0]⟩, ⟨by rw [p9 9 (by omega) (by omega) (by omega), c1 9 (by omega) (by omega)]; exact a4, by rw [p9 10 (by omega) (by omega) (by omega), c1 10 (by omega) (by omega)]; exact a5⟩, ⟨s, by rw [p9 11 (by omega) (by omega) (by omega), c1 11 (by omega) (by omega)]; exact a6, a7.cg cd (by omega)⟩, ?_, by rw [List.length_append, a9]; rfl, fun e' ne we => ?_, fun t x hx => ?_⟩
  · rw [p12, if_pos rfl, List.length_append]
    rfl
  · rw [a10 e' ne we, brs_step hia hka n4 ne we eo w33 (by omega) f2, List.append_assoc]
    rfl
  · by_cases tl : t < bl.length
    · rw [List.getElem?_append_left tl] at hx
      have bc := a11.cg (L' := s9 + 1) cd (by omega) (fun t' ht' => by rw [(t3 t').1, (t3 t').2.1, (t3 t').2.2, if_neg (by omega), if_neg (by omega), if_neg (by omega)]; exact ⟨rfl, rfl, rfl⟩)
      exact bc t x hx
    · have tle := (List.getElem?_eq_some_iff.mp hx).1
      rw [List.length_append] at tle
      have te : t = bl.length := by simp at tle; omega
      subst te
      rw [List.getElem?_append_right (Nat.le_refl _), Nat.sub_self] at hx
      have hx : (pl a, (a, j), sll W sm Nn nms (j + 1)) = x := Option.some.inj hx
      subst hx
      rw [(t3 _).1, (t3 _).2.1, (t3 _).2.2, if_pos ev.symm, if_pos ev.symm, if_pos ev.symm]
      refine ⟨rfl, ⟨L9, rfl, Cf, e, lf, eo, Nat.le_of_lt jn, f1, a1', c6.cg (fun t _ t2 => cd1 t (by omega)), by omega, by rw [(cd1 e (by omega)).1]; exact c5⟩, e + 1, rfl, s9, d4, by omega, Scw.cg _ d3 (fun t _ _ => cd3 (t + 1) t (by omega)), by omega, by rw [nb O hO]; exact d2⟩
end TXS2
