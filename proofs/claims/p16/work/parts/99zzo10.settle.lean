/-! The class's reader of texts, exactly: a const or formula is settled. -/
theorem bp9 {m p z Be Ab : Nat} (a1 : p + 15 < m ∨ m + 9 < p) (a7 : p + 16 ≤ z) (a8 : Ab = m + 3 ∨ z ≤ Ab) (a9 : Be = m + 4 ∨ z ≤ Be) : Be ≠ p ∧ Be ≠ p + 8 ∧ Be ≠ p + 6 ∧ Be ≠ p + 7 ∧ Ab ≠ p ∧ Ab ≠ p + 8 := by
  refine ⟨?_, ?_, ?_, ?_, ?_, ?_⟩
  · clear a8; omega
  · clear a8; omega
  · clear a8; omega
  · clear a8; omega
  · clear a9; omega
  · clear a9; omega
theorem q21z {q p : Nat} (qp : q + 22 < p ∨ p + 15 < q) : q + 21 ≠ p ∧ q + 21 ≠ p + 8 ∧ q + 21 ≠ p + 6 ∧ q + 21 ≠ p + 7 := by
  refine ⟨?_, ?_, ?_, ?_⟩ <;> omega
theorem pqz {q p i : Nat} (qp : q + 22 < p ∨ p + 15 < q) (hi : i ≤ 15) : p + i < q + 1 ∨ q + 1 + 9 < p + i := by omega
theorem pOz {q O : Nat} (o : O < q ∨ q + 22 < O) : O < q + 1 ∨ q + 1 + 9 < O := by omega
theorem pnz {p O i k : Nat} (o : O < p ∨ O = p + k ∨ p + 15 < O) (hk : k ≤ 2) (hk1 : 1 ≤ k) (hi : i = 0 ∨ 3 ≤ i) (h15 : i ≤ 15) : O ≠ p + i := by omega
theorem pnz0 {p O k : Nat} (o : O < p ∨ O = p + k ∨ p + 15 < O) (hk1 : 1 ≤ k) : O ≠ p := by omega
theorem qnz {q p x i : Nat} (qp : q + 22 < p ∨ p + 15 < q) (h1 : q ≤ x) (h2 : x ≤ q + 22) (h15 : i ≤ 15) : x ≠ p + i := by omega
theorem y4z {b p q O P : Nat} (y : b = p ∨ b = p + 6 ∨ b = p + 7 ∨ b = p + 8) : (q ≤ b ∧ b ≤ q + 10) ∨ b = q + 21 ∨ b = q + 22 ∨ b = p ∨ (p + 3 ≤ b ∧ b ≤ p + 15) ∨ b = O ∨ b = P := by
  rcases y with y | y | y | y
  · exact Or.inr (Or.inr (Or.inr (Or.inl y)))
  · exact Or.inr (Or.inr (Or.inr (Or.inr (Or.inl (by rw [y]; exact ⟨by omega, by omega⟩)))))
  · exact Or.inr (Or.inr (Or.inr (Or.inr (Or.inl (by rw [y]; exact ⟨by omega, by omega⟩)))))
  · exact Or.inr (Or.inr (Or.inr (Or.inr (Or.inl (by rw [y]; exact ⟨by omega, by omega⟩)))))
section TXK
variable {G : mG} {d z q w T A B D N C n p O P K Ab Be Cm V F c s s' L L' cnt Bn a d0 V1 F1 nw k e s9 Ab0 Be0 Cm0 Ab1 Be1 Cm1 : Nat} {M0 M M' M1 M2 : mM} {ns ns' ns1 : Nat → Int} {sf ef sf' ef' : Nat → Nat} {H : Nat → Nat} {S R : Nat → Prop} {W pl nq E : Nat → Int} {Cf : Nat → Int × Int} {sm : Nat → Nat → Prop} {nms : List nm9} {ft : Int × Int} {e9 : nm9} {v : vrs}
/-- a name has been added -/
def snY (M : mM) (q p F : Nat) (nms : List nm9) (e9 : nm9) (M' : mM) : Prop := CT M' (q + 1) p (nms ++ [e9]) ∧ (∀ i, i ≠ 19 → mI M' (q + 1) i = mI M (q + 1) i) ∧ ∀ i, i ≠ 2 → mI M' p i = if i = 7 then (F : Int) + 1 else mI M p i
/-- the program's tables but for const or formula number F -/
def snD (p O P F : Nat) (M M' : mM) : Prop := (∀ i, 9 ≤ i → i ≤ 15 → mI M' (p + i) = mI M (p + i)) ∧ (∀ i, 3 ≤ i → i ≤ 5 → mI M' (p + i) = mI M (p + i)) ∧ (∀ j, j < F → mI M' (p + 6) j = mI M (p + 6) j ∧ mI M' (p + 7) j = mI M (p + 7) j ∧ mI M' (p + 8) j = mI M (p + 8) j) ∧ mI M' O = mI M O ∧ mI M' P = mI M P
theorem sn_mono {l1 l2 : Int} {b : Nat} {Q Q' : mM → Prop} (h : h_TR_settleNamed_115 G d b l1 l2 M Q) (hq : ∀ M', Q M' → Q' M') : h_TR_settleNamed_115 G d b l1 l2 M Q' := mWm.mono h (fun _ M' u => ⟨u.1, hq M' u.2⟩)
theorem x_sn115 {l1 : Int} {Q : mM → Prop} (h4 : l1 = 4 ∨ l1 = 7) (h : TX M z q w T A B D N C n p O P K Ab Be Cm V (F + 1) (un ns F l1) sf ef c cnt L) (h60 : F < 60) (hn : mI M q 3 = ((nw : Nat) : Int) ∧ nw < n ∧ mI M A nw = 2) (h8 : mI M q 8 = 0 ∨ mI M q 8 = 1) (hp : mI M p 2 = ((L : Nat) : Int)) (ha : mI M (q + 1) 2 = ((a : Nat) : Int)) (han : a ≤ n) (hLa : L ≤ a) (hd : mI M (q + 1) 5 = 0) (hf : trF M0 q p O P Ab0 Be0 Cm0 M Ab Be Cm) (ct : CT M (q + 1) p nms) (hl : nms.length = c) (hc72 : c < 72) (f1 : e9.1 = nw) (f2 : srt9 e9.2.1 = l1) (f3 : 1 ≤ e9.2.1 ∧ e9.2.1 ≤ 3) (f4 : e9.2.2.1 = mI M q 8) (f5 : Hid (e9.2.1 = 1 → vgd e9.2.2.1 e9.2.2.2 ∧ ∃ x : Nat, (F : Int) = x ∧ x < 60 ∧ (1 ≤ mI M (p + 7) x ∧ mI M (p + 7) x < 1000000000) ∧ e9.2.2.2 = (0, mI M (p + 6) x, mI M (p + 7) x))) (f7 : ((F : Nat) : Int) = (if e9.2.1 = 3 then ((vcn nms : Nat) : Int) else ((rcn nms : Nat) : Int))) (hQ : ∀ M', itE M0 z q w T A B D N C n p O P K Ab0 Be0 Cm0 M' → CT M' (q + 1) p (nms ++ [e9]) → (∀ i, i ≠ 19 → mI M' (q + 1) i = mI M (q + 1) i) → mI M' p = mI M p → (∀ b, (b < q + 1 ∨ q + 1 + 9 < b) → mI M' b = mI M b) → Q M') : h_TR_settleNamed_115 G (d + 5) q l1 F M Q := by
  obtain ⟨⟨np0, np1, -, -⟩, ⟨nO0, nO1, -, -, nOp⟩, nP0, nP1, -, -, nPp⟩ := h.1.ne
  have ap := h.1.apart
  have qp := h.1.2.2.2.2.2.1.2.1
  have ok := h.1.1.1
  obtain ⟨t0, t1, t2, t3, t4, t5⟩ := h.1.2.1
  refine k_TR_settleNamed_115 ok (i32s (by omega) (by omega)) (i32s (by omega) (by omega)) ?_
  rw [t1, hn.1]
  refine ⟨t0, h.1.1.2.1.1, (x_RR_know (v := nw) h.1.1 h.2.1.2.2.1 hn.2.1 hn.2.2 (i32s (by omega) (by omega)) (i32s (by omega) (by omega)) h8 (Or.inr ⟨h4, by omega, by omega, ?_⟩)).mono (fun M84 k => ?_)⟩
  · unfold un
    rw [if_pos (by omega)]
  obtain ⟨k1, k2, k3, k4, ⟨c', k5, -⟩, k6⟩ := k
  have f84 : FI (txS q p O P) M M84 := k2.mono (fun b y => Or.inl (by have y' : q + 1 ≤ b ∧ b ≤ q + 1 + 9 := y; omega))
  have nb : ∀ b, (b < q + 1 ∨ q + 1 + 9 < b) → mI M84 b = mI M b := fun b hb => k2.2.2.2.2.2.2 b (fun y => by have y' : q + 1 ≤ b ∧ b ≤ q + 1 + 9 := y; omega)
  have h84 : TX M84 z q w T A B D N C n p O P K Ab Be Cm V (F + 1) (un ns F l1) sf ef c' cnt L := by
    obtain ⟨hP, ⟨c1, c2, c3, c4⟩, hX⟩ := h
    refine ⟨hP.fi k1.1 f84, ⟨by rw [nb p (pqz (i := 0) qp (by decide))]; exact c1, by rw [nb p (pqz (i := 0) qp (by decide))]; exact c2, k5, fun j => by rw [show q + 6 = q + 1 + 5 by omega, k4 5 (by omega) (by omega)]; exact c4 j⟩, hX.cg (fun y => by rw [k3 3 (by decide)]; exact y) (fun i _ => by rw [nb p (pqz (i := 0) qp (by decide))]) (fun i _ i15 => nb _ (pqz qp i15)) (fun i _ => ⟨by rw [nb O (pOz ap.2.1)], by rw [nb P (pOz ap.2.2.1)]⟩)⟩
  exact ⟨k1.1, hQ M84 ⟨Ab, Be, Cm, V, F + 1, un ns F l1, sf, ef, c', cnt, L, a, h84, by rw [nb p (pqz (i := 0) qp (by decide))]; exact hp, by rw [k3 2 (by decide)]; exact ha, han, hLa, by rw [k3 5 (by decide)]; exact hd, hf.trans (trF.fi f84)⟩ (ct.kn hl (k6 hc72) (nb _ (pqz qp (by decide))) (nb _ (pqz qp (by decide))) f1 f2 f3 f4 f5 (fun u => by
    rw [u] at f2
    rcases h4 with v | v <;> rw [v] at f2 <;> exact absurd f2 (by decide)) f7) k3 (nb p (pqz (i := 0) qp (by decide))) nb⟩
theorem x_sn_fin (h : TX M z q w T A B D N C n p O P K Ab Be Cm V F ns sf ef c cnt L) (h0 : mI M (q + 1) 3 = 0) (h60 : F < 60) (hb : 1 ≤ mI M Be 0 ∧ mI M Be 0 < 1000000000) (hn : mI M q 3 = ((nw : Nat) : Int) ∧ nw < n ∧ mI M A nw = 2) (h8 : mI M q 8 = 0 ∨ mI M q 8 = 1) (hLa : L ≤ a) (ha : mI M (q + 1) 2 = ((a : Nat) : Int)) (han : a ≤ n) (hd : mI M (q + 1) 5 = 0) (hf : trF M0 q p O P Ab0 Be0 Cm0 M Ab Be Cm) (o46 : mOk M') (fx : FI (txS q p O P) M M') (ip : ∀ i, mI M' p i = if i = 2 then ((L : Nat) : Int) else if i = 7 then (F : Int) + 1 else mI M p i) (i7 : ∀ i, mI M' (p + 7) i = if i = F then mI M Be 0 else mI M (p + 7) i) (i8 : ∀ i, mI M' (p + 8) i = if i = F then ((L : Nat) : Int) else mI M (p + 8) i) (nb : ∀ b, b ≠ p → b ≠ p + 6 → b ≠ p + 7 → b ≠ p + 8 → mI M' b = mI M b) (i6 : ∀ i, mI M' (p + 6) i = if i = F then mI M Ab 0 else mI M (p + 6) i) (ct : CT M (q + 1) p nms) (hl : nms.length = c) (hc72 : c < 72) (hv : v.1 = 0 ∧ mI M Ab 0 = v.2.1 ∧ mI M Be 0 = v.2.2) (gv : vgd (mI M q 8) v) (hrc : rcn nms = F) : h_TR_settleNamed_115 G (d + 5) q 4 F M' (fun M9 => itE M0 z q w T A B D N C n p O P K Ab0 Be0 Cm0 M9 ∧ snY M q p F nms (nw, 1, mI M q 8, v) M9 ∧ snD p O P F M M9 ∧ (mI M9 (p + 6) F = v.2.1 ∧ mI M9 (p + 7) F = v.2.2) ∧ mI M9 p 2 = ((L : Nat) : Int)) := by
  have nO : mI M' O = mI M O ∧ mI M' P = mI M P ∧ (∀ i, i ≤ 10 → mI M' (q + i) = mI M (q + i)) ∧ (∀ i, 9 ≤ i → i ≤ 15 → mI M' (p + i) = mI M (p + i)) := by
    have ap := h.1.apart
    have qp := h.1.2.2.2.2.2.1.2.1
    clear h h0 hb hn h8 ha hd hf ip i7 i8 fx
    exact ⟨nb O (pnz0 ap.2.2.2.1 (by decide)) (pnz ap.2.2.2.1 (by decide) (by decide) (Or.inr (by decide)) (by decide)) (pnz ap.2.2.2.1 (by decide) (by decide) (Or.inr (by decide)) (by decide)) (pnz ap.2.2.2.1 (by decide) (by decide) (Or.inr (by decide)) (by decide)), nb P (pnz0 ap.2.2.2.2.1 (by decide)) (pnz ap.2.2.2.2.1 (by decide) (by decide) (Or.inr (by decide)) (by decide)) (pnz ap.2.2.2.2.1 (by decide) (by decide) (Or.inr (by decide)) (by decide)) (pnz ap.2.2.2.2.1 (by decide) (by decide) (Or.inr (by decide)) (by decide)), fun i hi => nb _ (qnz (i := 0) qp (by omega) (by omega) (by decide)) (qnz qp (by omega) (by omega) (by decide)) (qnz qp (by omega) (by omega) (by decide)) (qnz qp (by omega) (by omega) (by decide)), fun i h9 h15 => nb _ (by omega) (by omega) (by omega) (by omega)⟩
  have h46 := tx_name (l1 := 4) (e := 0) (H := fun _ => 0) (L' := L) h h0 h60 o46 fx (fun i hi => by rw [show q + 1 + i = q + (1 + i) by omega]; exact nO.2.2.1 _ (by omega)) (fun i y2 y7 => by rw [ip, if_neg y2, if_neg y7]) (by rw [ip, if_neg (by decide), if_pos rfl]; rfl) nO.2.2.2 (fun i hi => by rw [i7, if_neg (Nat.ne_of_lt hi)]) (fun i hi => by rw [i8, if_neg (Nat.ne_of_lt hi)]) (fun i _ => ⟨by rw [nO.1], by rw [nO.2.1]⟩) (Nat.le_refl _) (Or.inl ⟨rfl, by rw [i7, if_pos rfl]; exact hb⟩)
  have wA := (h.1.words fx).1
  have n0 := nO.2.2.1 0 (by omega)
  have n1 := nO.2.2.1 1 (by omega)
  rw [Nat.add_zero] at n0
  have r6 : ∀ i, i ≤ 9 → mI M' (q + 1 + i) = mI M (q + 1 + i) := fun i hi => by rw [show q + 1 + i = q + (1 + i) by omega]; exact nO.2.2.1 _ (by omega)
  have ct' : CT M' (q + 1) p nms := ct.tab h.2.1.2.2.1 hl (by rw [n1]) (r6 6 (by omega)) (r6 7 (by omega)) (r6 8 (by omega)) (r6 9 (by omega)) (fun i hi => by rw [i6, if_neg (Nat.ne_of_lt hi)]) (fun i hi => by rw [i7, if_neg (Nat.ne_of_lt hi)])
  have pq : ∀ i, i ≤ 15 → p + i < q + 1 ∨ q + 1 + 9 < p + i := fun i hi => by
    have qp := h.1.2.2.2.2.2.1.2.1
    exact pqz qp hi
  have pO : (O < q + 1 ∨ q + 1 + 9 < O) ∧ (P < q + 1 ∨ q + 1 + 9 < P) := by
    have ap := h.1.apart
    have qp := h.1.2.2.2.2.2.1.2.1
    clear h h0 hb hn h8 ha hd hf ip i7 i8 fx
    exact ⟨pOz ap.2.1, pOz ap.2.2.1⟩
  refine x_sn115 (e9 := (nw, 1, mI M q 8, v)) (nms := nms) (Or.inl rfl) h46 h60 ⟨by rw [n0]; exact hn.1, hn.2.1, by rw [wA]; exact hn.2.2⟩ (by rw [n0]; exact h8) (by rw [ip, if_pos rfl]) (by rw [n1]; exact ha) han hLa (by rw [n1]; exact hd) (hf.trans (trF.fi fx)) ct' hl hc72 rfl rfl ⟨by simp, by simp⟩ (by rw [n0]) (fun _ => ⟨gv, F, rfl, h60, by rw [i7, if_pos rfl]; exact hb, by rw [i6, if_pos rfl, i7, if_pos rfl, hv.2.1, hv.2.2, ← hv.1]⟩) (by show ((F : Nat) : Int) = if (1 : Nat) = 3 then _ else _; rw [if_neg (by decide), hrc]) (fun M9 e1 e2 e3 e4 e5 => ⟨e1, ⟨e2, fun i hi => by rw [e3 i hi, n1], fun i hi => by rw [e4, ip, if_neg hi]⟩, ?_, ⟨?_, ?_⟩, by rw [e4, ip, if_pos rfl]⟩)
  · exact ⟨fun i i9 i15 => by rw [e5 _ (pq i i15), nO.2.2.2 i i9 i15], fun i i3 i5 => by rw [e5 _ (pq i (by omega)), nb _ (by omega) (by omega) (by omega) (by omega)], fun j hj => ⟨by rw [e5 _ (pq 6 (by omega)), i6, if_neg (Nat.ne_of_lt hj)], by rw [e5 _ (pq 7 (by omega)), i7, if_neg (Nat.ne_of_lt hj)], by rw [e5 _ (pq 8 (by omega)), i8, if_neg (Nat.ne_of_lt hj)]⟩, by rw [e5 O pO.1, nO.1], by rw [e5 P pO.2, nO.2.1]⟩
  · rw [e5 _ (pq 6 (by omega)), i6, if_pos rfl]; exact hv.2.1
  · rw [e5 _ (pq 7 (by omega)), i7, if_pos rfl]; exact hv.2.2
theorem x_sn_const {Q : mM → Prop} (hrc : rcn nms = F) (hQ : ∀ M9, itE M0 z q w T A B D N C n p O P K Ab0 Be0 Cm0 M9 ∧ snY M q p F nms (nw, 1, mI M q 8, v) M9 ∧ snD p O P F M M9 ∧ (mI M9 (p + 6) F = v.2.1 ∧ mI M9 (p + 7) F = v.2.2) ∧ mI M9 p 2 = ((L : Nat) : Int) → Q M9) (h : TX M z q w T A B D N C n p O P K Ab Be Cm V F ns sf ef c cnt L) (h0 : mI M (q + 1) 3 = 0) (h60 : F < 60) (hb : 1 ≤ mI M Be 0 ∧ mI M Be 0 < 1000000000) (hn : mI M q 3 = ((nw : Nat) : Int) ∧ nw < n ∧ mI M A nw = 2) (h8 : mI M q 8 = 0 ∨ mI M q 8 = 1) (h21 : mI M (q + 21) 0 = ((L : Nat) : Int)) (hLa : L ≤ a) (ha : mI M (q + 1) 2 = ((a : Nat) : Int)) (han : a ≤ n) (hd : mI M (q + 1) 5 = 0) (hf : trF M0 q p O P Ab0 Be0 Cm0 M Ab Be Cm) (ct : CT M (q + 1) p nms) (hl : nms.length = c) (hc72 : c < 72) (hv : v.1 = 0 ∧ mI M Ab 0 = v.2.1 ∧ mI M Be 0 = v.2.2) (gv : vgd (mI M q 8) v) : mK M q = 3 ∧ mK M (mR M q 2) = 6 ∧ i32 ((mI M (mR M q 2) 7) + 1) ∧ ∀ M16, M16 = mUI M (mR M q 2) 7 ((mI M (mR M q 2) 7) + 1) → mK M16 (mR M16 q 2) = 6 ∧ mK M16 (mR M16 q 5) = 30 ∧ ((0 : Int) ≤ 0 ∧ 0 < (mN M16 (mR M16 q 5) : Int)) ∧ mK M16 (mR M16 (mR M16 q 2) 10) = 30 ∧ ((0 : Int) ≤ mI M (mR M q 2) 7 ∧ mI M (mR M q 2) 7 < (mN M16 (mR M16 (mR M16 q 2) 10) : Int)) ∧ ∀ M23, M23 = mUI M16 (mR M16 (mR M16 q 2) 10) (Int.toNat (mI M (mR M q 2) 7)) (mI M16 (mR M16 q 5) 0) → (mK M23 (mR M23 q 2) = 6 ∧ mK M23 (mR M23 q 1) = 5 ∧ mK M23 (mR M23 (mR M23 q 1) 6) = 30 ∧ ((0 : Int) ≤ 0 ∧ 0 < (mN M23 (mR M23 (mR M23 q 1) 6) : Int)) ∧ mK M23 (mR M23 (mR M23 q 2) 8) = 30 ∧ ((0 : Int) ≤ mI M (mR M q 2) 7 ∧ mI M (mR M q 2) 7 < (mN M23 (mR M23 (mR M23 q 2) 8) : Int)) ∧ ∀ M33, M33 = mUI M23 (mR M23 (mR M23 q 2) 8) (Int.toNat (mI M (mR M q 2) 7)) (mI M23 (mR M23 (mR M23 q 1) 6) 0) → mK M33 (mR M33 q 2) = 6 ∧ mK M33 (mR M33 q 1) = 5 ∧ mK M33 (mR M33 (mR M33 q 1) 7) = 30 ∧ ((0 : Int) ≤ 0 ∧ 0 < (mN M33 (mR M33 (mR M33 q 1) 7) : Int)) ∧ mK M33 (mR M33 (mR M33 q 2) 9) = 30 ∧ ((0 : Int) ≤ mI M (mR M q 2) 7 ∧ mI M (mR M q 2) 7 < (mN M33 (mR M33 (mR M33 q 2) 9) : Int)) ∧ ∀ M41, M41 = mUI M33 (mR M33 (mR M33 q 2) 9) (Int.toNat (mI M (mR M q 2) 7)) (mI M33 (mR M33 (mR M33 q 1) 7) 0) → mK M41 (mR M41 q 5) = 30 ∧ ((0 : Int) ≤ 0 ∧ 0 < (mN M41 (mR M41 q 5) : Int)) ∧ mK M41 (mR M41 q 2) = 6 ∧ ∀ M46, M46 = mUI M41 (mR M41 q 2) 2 (mI M41 (mR M41 q 5) 0) → h_TR_settleNamed_115 G (d + 5) q 4 (mI M (mR M q 2) 7) M46 Q) := by
  obtain ⟨⟨np0, np1, np21, -⟩, ⟨nO0, nO1, -, -, nOp⟩, nP0, nP1, -, -, nPp⟩ := h.1.ne
  have ap := h.1.apart
  have qp := h.1.2.2.2.2.2.1.2.1
  have ok := h.1.1.1
  obtain ⟨t0, t1, t2, t3, t4, t5⟩ := h.1.2.1
  obtain ⟨s1, s2, s3, s4⟩ := h.1.2.2.1
  obtain ⟨k6, ⟨-, -, -, p8, p9, p10, -⟩, ⟨-, -, -, kp6, kp7, kp8, -⟩, ⟨-, -, -, np6, np7, np8, -⟩⟩ := h.tab
  obtain ⟨⟨c1, c2⟩, ⟨f7, -⟩, -⟩ := h.2.1
  obtain ⟨km, ⟨-, -, m6, m7, -⟩, ⟨-, -, kA, kB, -⟩, ⟨-, nA, nB, -⟩, -, ⟨sA, sB, sne, sz⟩, -, ⟨c64, -⟩⟩ := h.1.2.2.2.1
  have hN : n ≤ 16384 := by have := h.1.1.2.2.2.1.2.2.1; have := h.1.1.2.2.2.1.1.2.2.2.2.2.2.1; omega
  have Bp : Be ≠ p ∧ Be ≠ p + 8 ∧ Be ≠ p + 6 ∧ Be ≠ p + 7 ∧ Ab ≠ p ∧ Ab ≠ p + 8 := by
    have := ap.1
    unfold Mpr at this
    exact bp9 this.1 this.2.2.2.1 this.2.2.2.2.1 this.2.2.2.2.2
  have q21p : q + 21 ≠ p ∧ q + 21 ≠ p + 8 ∧ q + 21 ≠ p + 6 ∧ q + 21 ≠ p + 7 := q21z qp
  rw [t3, f7, Int.toNat_natCast]
  refine ⟨t0, k6, ⟨by omega, by omega⟩, fun M16 e16 => ?_⟩
  have f16 : FI (fun b => b = p) M M16 := by rw [e16]; exact FI.ui rfl
  rw [f16.1, f16.2.1, f16.2.2.1, t3, t4, p10, np8, s3, f16.2.2.2.2.2.2 _ q21p.1, h21]
  refine ⟨k6, s1, ⟨by omega, by omega⟩, kp8, by omega, fun M23 e23 => ?_⟩
  have f23 : FI (fun b => b = p + 8) M16 M23 := by rw [e23]; exact FI.ui rfl
  rw [f23.1, f23.2.1, f23.2.2.1, f16.1, f16.2.1, f16.2.2.1, t2, t3, p8, np6, m6, nA]
  refine ⟨k6, km, kA, ⟨by omega, by omega⟩, kp6, by omega, fun M33 e33 => ?_⟩
  have f33 : FI (fun b => b = p + 6) M23 M33 := by rw [e33]; exact FI.ui rfl
  rw [f33.1, f33.2.1, f33.2.2.1, f23.1, f23.2.1, f23.2.2.1, f16.1, f16.2.1, f16.2.2.1, t2, t3, p9, np7, m7, nB]
  refine ⟨k6, km, kB, ⟨by omega, by omega⟩, kp7, by omega, fun M41 e41 => ?_⟩
  have f41 : FI (fun b => b = p + 7) M33 M41 := by rw [e41]; exact FI.ui rfl
  have i21 : mI M41 (q + 21) 0 = ((L : Nat) : Int) := by rw [f41.2.2.2.2.2.2 _ q21p.2.2.2, f33.2.2.2.2.2.2 _ q21p.2.2.1, f23.2.2.2.2.2.2 _ q21p.2.1, f16.2.2.2.2.2.2 _ q21p.1]; exact h21
  rw [f41.1, f41.2.1, f41.2.2.1, f33.1, f33.2.1, f33.2.2.1, f23.1, f23.2.1, f23.2.2.1, f16.1, f16.2.1, f16.2.2.1, t3, t4, s3, i21]
  refine ⟨s1, ⟨by omega, by omega⟩, k6, fun M46 e46 => ?_⟩
  have f46 : FI (fun b => b = p) M41 M46 := by rw [e46]; exact FI.ui rfl
  have iB : mI M33 Be 0 = mI M Be 0 := by rw [f33.2.2.2.2.2.2 _ Bp.2.2.1, f23.2.2.2.2.2.2 _ Bp.2.1, f16.2.2.2.2.2.2 _ Bp.1]
  have ff : FI (fun b => b = p ∨ b = p + 6 ∨ b = p + 7 ∨ b = p + 8) M M46 := ((((f16.mono (fun _ y => Or.inl y)).trans (f23.mono (fun _ y => Or.inr (Or.inr (Or.inr y))))).trans (f33.mono (fun _ y => Or.inr (Or.inl y)))).trans (f41.mono (fun _ y => Or.inr (Or.inr (Or.inl y))))).trans (f46.mono (fun _ y => Or.inl y))
  have o16 : mOk M16 := by rw [e16]; exact mOk_UI ok ⟨by omega, by omega⟩
  have o23 : mOk M23 := by rw [e23]; exact mOk_UI o16 ⟨by omega, by omega⟩
  have o33 : mOk M33 := by rw [e33]; exact mOk_UI o23 (o23 _ _).1
  have o41 : mOk M41 := by rw [e41]; exact mOk_UI o33 (o33 _ _).1
  have o46 : mOk M46 := by rw [e46]; exact mOk_UI o41 ⟨by omega, by omega⟩
  have ip : ∀ i, mI M46 p i = if i = 2 then ((L : Nat) : Int) else if i = 7 then (F : Int) + 1 else mI M p i := fun i => by
    rw [mI_ui p i e46]
    by_cases y2 : i = 2
    · rw [if_pos ⟨rfl, y2⟩, if_pos y2]
    · rw [if_neg (fun u => y2 u.2), if_neg y2, f41.2.2.2.2.2.2 p (by omega), f33.2.2.2.2.2.2 p (by omega), f23.2.2.2.2.2.2 p (by omega), mI_ui p i e16]
      by_cases y7 : i = 7
      · rw [if_pos ⟨rfl, y7⟩, if_pos y7]
      · rw [if_neg (fun u => y7 u.2), if_neg y7]
  have i7 : ∀ i, mI M46 (p + 7) i = if i = F then mI M Be 0 else mI M (p + 7) i := fun i => by
    rw [f46.2.2.2.2.2.2 _ (by omega), mI_ui _ i e41, iB]
    by_cases y : i = F
    · rw [if_pos ⟨rfl, y⟩, if_pos y]
    · rw [if_neg (fun u => y u.2), if_neg y, f33.2.2.2.2.2.2 _ (by omega), f23.2.2.2.2.2.2 _ (by omega), f16.2.2.2.2.2.2 _ (by omega)]
  have i8 : ∀ i, mI M46 (p + 8) i = if i = F then ((L : Nat) : Int) else mI M (p + 8) i := fun i => by
    rw [f46.2.2.2.2.2.2 _ (by omega), f41.2.2.2.2.2.2 _ (by omega), f33.2.2.2.2.2.2 _ (by omega), mI_ui _ i e23]
    by_cases y : i = F
    · rw [if_pos ⟨rfl, y⟩, if_pos y]
    · rw [if_neg (fun u => y u.2), if_neg y, f16.2.2.2.2.2.2 _ (by omega)]
  have iA : mI M23 Ab 0 = mI M Ab 0 := by rw [f23.2.2.2.2.2.2 _ Bp.2.2.2.2.2, f16.2.2.2.2.2.2 _ Bp.2.2.2.2.1]
  have i6 : ∀ i, mI M46 (p + 6) i = if i = F then mI M Ab 0 else mI M (p + 6) i := fun i => by
    rw [f46.2.2.2.2.2.2 _ (by omega), f41.2.2.2.2.2.2 _ (by omega), mI_ui _ i e33, iA]
    by_cases y : i = F
    · rw [if_pos ⟨rfl, y⟩, if_pos y]
    · rw [if_neg (fun u => y u.2), if_neg y, f23.2.2.2.2.2.2 _ (by omega), f16.2.2.2.2.2.2 _ (by omega)]
  have nb : ∀ b, b ≠ p → b ≠ p + 6 → b ≠ p + 7 → b ≠ p + 8 → mI M46 b = mI M b := fun b b1 b2 b3 b4 => ff.2.2.2.2.2.2 b (fun y => by
    have y' : b = p ∨ b = p + 6 ∨ b = p + 7 ∨ b = p + 8 := y
    exact y'.elim b1 (fun y => y.elim b2 (fun y => y.elim b3 b4)))
  have fx : FI (txS q p O P) M M46 := ff.mono (fun b y => by
    have y' : b = p ∨ b = p + 6 ∨ b = p + 7 ∨ b = p + 8 := y
    exact y4z y')
  exact sn_mono (x_sn_fin h h0 h60 hb hn h8 hLa ha han hd hf o46 fx ip i7 i8 nb i6 ct hl hc72 hv gv hrc) hQ
theorem x_sn_formula (h : TX M z q w T A B D N C n p O P K Ab Be Cm V F ns sf ef c cnt L) (h0 : mI M (q + 1) 3 = 0) (h60 : F < 60) (cd : Cod M O P V F ns L e H 1) (hn : mI M q 3 = ((nw : Nat) : Int) ∧ nw < n ∧ mI M A nw = 2) (h8 : mI M q 8 = 0 ∨ mI M q 8 = 1) (hp : mI M p 2 = ((e + 1 : Nat) : Int)) (hLa : e + 1 ≤ a) (ha : mI M (q + 1) 2 = ((a : Nat) : Int)) (han : a ≤ n) (hd : mI M (q + 1) 5 = 0) (e50 : M1 = mUI M p 7 ((F : Int) + 1)) (e57 : M2 = mUI M1 (p + 8) F ((L : Nat) : Int)) (ct : CT M (q + 1) p nms) (hl : nms.length = c) (hc72 : c < 72) (hrc : rcn nms = F) : h_TR_settleNamed_115 G (d + 5) q 7 F M2 (fun M9 => itE M z q w T A B D N C n p O P K Ab Be Cm M9 ∧ snY M q p F nms (nw, 2, mI M q 8, (0, 0, 1)) M9 ∧ snD p O P F M M9 ∧ mI M9 (p + 8) F = ((L : Nat) : Int) ∧ mI M9 p 2 = ((e + 1 : Nat) : Int)) := by
  have f50 : FI (fun b => b = p) M M1 := by rw [e50]; exact FI.ui rfl
  have f57 : FI (fun b => b = p + 8) M1 M2 := by rw [e57]; exact FI.ui rfl
  have ff : FI (fun b => b = p ∨ b = p + 8) M M2 := (f50.mono (fun _ y => Or.inl y)).trans (f57.mono (fun _ y => Or.inr y))
  have hLe : L ≤ e := cd.2.2.2.2.2
  have hN : n ≤ 16384 := by have := h.1.1.2.2.2.1.2.2.1; have := h.1.1.2.2.2.1.1.2.2.2.2.2.2.1; omega
  have o57 : mOk M2 := by rw [e57]; exact mOk_UI (by rw [e50]; exact mOk_UI h.1.1.1 ⟨by omega, by omega⟩) ⟨by omega, by omega⟩
  have ip : ∀ i, mI M2 p i = if i = 7 then (F : Int) + 1 else mI M p i := fun i => by
    rw [f57.2.2.2.2.2.2 p (by omega), mI_ui p i e50]
    by_cases y7 : i = 7
    · rw [if_pos ⟨rfl, y7⟩, if_pos y7]
    · rw [if_neg (fun u => y7 u.2), if_neg y7]
  have i8 : ∀ i, mI M2 (p + 8) i = if i = F then ((L : Nat) : Int) else mI M (p + 8) i := fun i => by
    rw [mI_ui _ i e57]
    by_cases y : i = F
    · rw [if_pos ⟨rfl, y⟩, if_pos y]
    · rw [if_neg (fun u => y u.2), if_neg y, f50.2.2.2.2.2.2 _ (by omega)]
  have nb : ∀ b, b ≠ p → b ≠ p + 8 → mI M2 b = mI M b := fun b b1 b2 => ff.2.2.2.2.2.2 b (fun y => y.elim b1 b2)
  have fx : FI (txS q p O P) M M2 := ff.mono (fun b y => by
    have y' : b = p ∨ b = p + 8 := y
    exact y4z (y'.imp id (fun y => Or.inr (Or.inr y))))
  have nO : mI M2 O = mI M O ∧ mI M2 P = mI M P ∧ (∀ i, i ≤ 10 → mI M2 (q + i) = mI M (q + i)) ∧ (∀ i, 9 ≤ i → i ≤ 15 → mI M2 (p + i) = mI M (p + i)) := by
    have ap := h.1.apart
    have qp := h.1.2.2.2.2.2.1.2.1
    clear h h0 hn h8 ha hd ip i8 fx f50 f57 ff cd
    exact ⟨nb O (pnz0 ap.2.2.2.1 (by decide)) (pnz ap.2.2.2.1 (by decide) (by decide) (Or.inr (by decide)) (by decide)), nb P (pnz0 ap.2.2.2.2.1 (by decide)) (pnz ap.2.2.2.2.1 (by decide) (by decide) (Or.inr (by decide)) (by decide)), fun i hi => nb _ (qnz (i := 0) qp (by omega) (by omega) (by decide)) (qnz qp (by omega) (by omega) (by decide)), fun i h9 h15 => nb _ (by omega) (by omega)⟩
  have h57 := tx_name (l1 := 7) (e := e) (H := H) (L' := e + 1) h h0 h60 o57 fx (fun i hi => by rw [show q + 1 + i = q + (1 + i) by omega]; exact nO.2.2.1 _ (by omega)) (fun i y2 y7 => by rw [ip, if_neg y7]) (by rw [ip, if_pos rfl]; rfl) nO.2.2.2 (fun i hi => by rw [nb (p + 7) (by omega) (by omega)]) (fun i hi => by rw [i8, if_neg (Nat.ne_of_lt hi)]) (fun i _ => ⟨by rw [nO.1], by rw [nO.2.1]⟩) (Nat.le_succ_of_le hLe) (Or.inr ⟨rfl, by rw [i8, if_pos rfl], cd.cg (fun i _ => by rw [nO.1]) (fun i _ => by rw [nO.2.1]), Nat.lt_succ_self _⟩)
  have wA := (h.1.words fx).1
  have n0 := nO.2.2.1 0 (by omega)
  have n1 := nO.2.2.1 1 (by omega)
  rw [Nat.add_zero] at n0
  have r6 : ∀ i, i ≤ 9 → mI M2 (q + 1 + i) = mI M (q + 1 + i) := fun i hi => by rw [show q + 1 + i = q + (1 + i) by omega]; exact nO.2.2.1 _ (by omega)
  have ct' : CT M2 (q + 1) p nms := ct.cg (by rw [n1]) (r6 6 (by omega)) (r6 7 (by omega)) (r6 8 (by omega)) (r6 9 (by omega)) (nb _ (by omega) (by omega)) (nb _ (by omega) (by omega))
  have pq : ∀ i, i ≤ 15 → p + i < q + 1 ∨ q + 1 + 9 < p + i := fun i hi => by
    have qp := h.1.2.2.2.2.2.1.2.1
    exact pqz qp hi
  have pO : (O < q + 1 ∨ q + 1 + 9 < O) ∧ (P < q + 1 ∨ q + 1 + 9 < P) := by
    have ap := h.1.apart
    have qp := h.1.2.2.2.2.2.1.2.1
    clear h h0 hn h8 ha hd ip i8 fx f50 f57 ff cd
    exact ⟨pOz ap.2.1, pOz ap.2.2.1⟩
  refine x_sn115 (e9 := (nw, 2, mI M q 8, (0, 0, 1))) (nms := nms) (Or.inr rfl) h57 h60 ⟨by rw [n0]; exact hn.1, hn.2.1, by rw [wA]; exact hn.2.2⟩ (by rw [n0]; exact h8) (by rw [ip, if_neg (by decide)]; exact hp) (by rw [n1]; exact ha) han hLa (by rw [n1]; exact hd) (trF.fi fx) ct' hl hc72 rfl rfl ⟨by simp, by simp⟩ (by rw [n0]) (fun u => absurd u (by simp)) (by show ((F : Nat) : Int) = if (2 : Nat) = 3 then _ else _; rw [if_neg (by decide), hrc]) (fun M9 e1 e2 e3 e4 e5 => ⟨e1, ⟨e2, fun i hi => by rw [e3 i hi, n1], fun i hi => by rw [e4, ip]⟩, ?_, ?_, by rw [e4, ip, if_neg (by decide)]; exact hp⟩)
  · exact ⟨fun i i9 i15 => by rw [e5 _ (pq i i15), nO.2.2.2 i i9 i15], fun i i3 i5 => by rw [e5 _ (pq i (by omega)), nb _ (by omega) (by omega)], fun j hj => ⟨by rw [e5 _ (pq 6 (by omega)), nb _ (by omega) (by omega)], by rw [e5 _ (pq 7 (by omega)), nb _ (by omega) (by omega)], by rw [e5 _ (pq 8 (by omega)), i8, if_neg (Nat.ne_of_lt hj)]⟩, by rw [e5 O pO.1, nO.1], by rw [e5 P pO.2, nO.2.1]⟩
  · rw [e5 _ (pq 8 (by omega)), i8, if_pos rfl]
end TXK
