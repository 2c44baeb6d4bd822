section
/-! The class's reader of texts, exactly: a const or formula is settled. -/
theorem bp9 {m p z Be Ab : Nat} (a1 : p + 15 < m ∨ m + 9 < p) (a7 : p + 16 ≤ z) (a8 : Ab = m + 3 ∨ z ≤ Ab) (a9 : Be = m + 4 ∨ z ≤ Be) : Be ≠ p ∧ Be ≠ p + 8 ∧ Be ≠ p + 6 ∧ Be ≠ p + 7 ∧ Ab ≠ p ∧ Ab ≠ p + 8 := by
  refine ⟨?_, ?_, ?_, ?_, ?_, ?_⟩
  · clear a8; omega
  · clear a8; omega
  · clear a8; omega
  · clear a8; omega
  · clear a9; omega
  · clear a9; omega
theorem q21z {q p : Nat} (qp : q + 22 < p ∨ p + 15 < q) : q + 21 ≠ p ∧ q + 21 ≠ p + 8 ∧ q + 21 ≠ p + 6 ∧ q + 21 ≠ p + 7 := by
  refine ⟨?_, ?_, ?_, ?_⟩ <;> omega
theorem pqz {q p i : Nat} (qp : q + 22 < p ∨ p + 15 < q) (hi : i ≤ 15) : p + i < q + 1 ∨ q + 1 + 9 < p + i := by omega
theorem pOz {q O : Nat} (o : O < q ∨ q + 22 < O) : O < q + 1 ∨ q + 1 + 9 < O := by omega
theorem pnz {p O i k : Nat} (o : O < p ∨ O = p + k ∨ p + 15 < O) (hk : k ≤ 2) (hk1 : 1 ≤ k) (hi : i = 0 ∨ 3 ≤ i) (h15 : i ≤ 15) : O ≠ p + i := by omega
theorem pnz0 {p O k : Nat} (o : O < p ∨ O = p + k ∨ p + 15 < O) (hk1 : 1 ≤ k) : O ≠ p := by omega
theorem qnz {q p x i : Nat} (qp : q + 22 < p ∨ p + 15 < q) (h1 : q ≤ x) (h2 : x ≤ q + 22) (h15 : i ≤ 15) : x ≠ p + i := by omega
theorem y4z {b p q O P : Nat} (y : b = p ∨ b = p + 6 ∨ b = p + 7 ∨ b = p + 8) : (q ≤ b ∧ b ≤ q + 10) ∨ b = q + 21 ∨ b = q + 22 ∨ b = p ∨ (p + 3 ≤ b ∧ b ≤ p + 15) ∨ b = O ∨ b = P := by
  rcases y with y | y | y | y
  · exact Or.inr (Or.inr (Or.inr (Or.inl y)))
  · exact Or.inr (Or.inr (Or.inr (Or.inr (Or.inl (by rw [y]; exact ⟨by omega, by omega⟩)))))
  · exact Or.inr (Or.inr (Or.inr (Or.inr (Or.inl (by rw [y]; exact ⟨by omega, by omega⟩)))))
  · exact Or.inr (Or.inr (Or.inr (Or.inr (Or.inl (by rw [y]; exact ⟨by omega, by omega⟩)))))
section TXK
variable {G : mG} {d z q w T A B D N C n p O P K Ab Be Cm V F c s s' L L' cnt Bn a d0 V1 F1 nw k e s9 Ab0 Be0 Cm0 Ab1 Be1 Cm1 : Nat} {M0 M M' M1 M2 : mM} {ns ns' ns1 : Nat → Int} {sf ef sf' ef' : Nat → Nat} {H : Nat → Nat} {S R : Nat → Prop} {W pl nq E : Nat → Int} {Cf : Nat → Int × Int} {sm : Nat → Nat → Prop} {nms : List nm9} {ft : Int × Int} {e9 : nm9} {v : vrs}
/-- a name has been added -/
def snY (M : mM) (q p F : Nat) (nms : List nm9) (e9 : nm9) (M' : mM) : Prop := CT M' (q + 1) p (nms ++ [e9]) ∧ (∀ i, i ≠ 19 → mI M' (q + 1) i = mI M (q + 1) i) ∧ ∀ i, i ≠ 2 → mI M' p i = if i = 7 then (F : Int) + 1 else mI M p i
/-- the program's tables but for const or formula number F -/
def snD (p O P F : Nat) (M M' : mM) : Prop := (∀ i, 9 ≤ i → i ≤ 15 → mI M' (p + i) = mI M (p + i)) ∧ (∀ i, 3 ≤ i → i ≤ 5 → mI M' (p + i) = mI M (p + i)) ∧ (∀ j, j < F → mI M' (p + 6) j = mI M (p + 6) j ∧ mI M' (p + 7) j = mI M (p + 7) j ∧ mI M' (p + 8) j = mI M (p + 8) j) ∧ mI M' O = mI M O ∧ mI M' P = mI M P
theorem sn_mono {l1 l2 : Int} {b : Nat} {Q Q' : mM → Prop} (h : h_TR_settleNamed_115 G d b l1 l2 M Q) (hq : ∀ M', Q M' → Q' M') : h_TR_settleNamed_115 G d b l1 l2 M Q' := mWm.mono h (fun _ M' u => ⟨u.1, hq M' u.2⟩)
theorem x_sn115 {l1 : Int} {Q : mM → Prop} (h4 : l1 = 4 ∨ l1 = 7) (h : TX M z q w T A B D N C n p O P K Ab Be Cm V (F + 1) (un ns F l1) sf ef c cnt L) (h60 : F < 60) (hn : mI M q 3 = ((nw : Nat) : Int) ∧ nw < n ∧ mI M A nw = 2) (h8 : mI M q 8 = 0 ∨ mI M q 8 = 1) (hp : mI M p 2 = ((L : Nat) : Int)) (ha : mI M (q + 1) 2 = ((a : Nat) : Int)) (han : a ≤ n) (hLa : L ≤ a) (hd : mI M (q + 1) 5 = 0) (hf : trF M0 q p O P Ab0 Be0 Cm0 M Ab Be Cm) (ct : CT M (q + 1) p nms) (hl : nms.length = c) (hc72 : c < 72) (f1 : e9.1 = nw) (f2 : srt9 e9.2.1 = l1) (f3 : 1 ≤ e9.2.1 ∧ e9.2.1 ≤ 3) (f4 : e9.2.2.1 = mI M q 8) (f5 : Hid (e9.2.1 = 1 → vgd e9.2.2.1 e9.2.2.2 ∧ ∃ x : Nat, (F : Int) = x ∧ x < 60 ∧ (1 ≤ mI M (p + 7) x ∧ mI M (p + 7) x < 1000000000) ∧ e9.2.2.2 = (0, mI M (p + 6) x, mI M (p + 7) x))) (f7 : ((F : Nat) : Int) = (if e9.2.1 = 3 then ((vcn nms : Nat) : Int) else ((rcn nms : Nat) : Int))) (hQ : ∀ M', itE M0 z q w T A B D N C n p O P K Ab0 Be0 Cm0 M' → CT M' (q + 1) p (nms ++ [e9]) → (∀ i, i ≠ 19 → mI M' (q + 1) i = mI M (q + 1) i) → mI M' p = mI M p → (∀ b, (b < q + 1 ∨ q + 1 + 9 < b) → mI M' b = mI M b) → Q M') : h_TR_settleNamed_115 G (d + 5) q l1 F M Q := by
  have il1 : -100 ≤ l1 ∧ l1 ≤ 100 := by rcases h4 with u | u <;> rw [u] <;> decide
  have il4 : ¬ l1 = 0 := by rcases h4 with u | u <;> rw [u] <;> decide
  replace h4 : Hid _ := h4
  replace h8 : Hid _ := h8
  replace f7 : Hid _ := f7
  have ap : Hid _ := h.1.apart
  have qp : Hid _ := h.1.2.2.2.2.2.1.2.1
  have ok := h.1.1.1
  obtain ⟨t0, t1, t2, t3, t4, t5⟩ := h.1.2.1
  refine k_TR_settleNamed_115 ok (i32s (by omega) (by omega)) (i32s (by omega) (by omega)) ?_
  rw [t1, hn.1]
  refine ⟨t0, h.1.1.2.1.1, (x_RR_know (v := nw) h.1.1 h.2.1.2.2.1 hn.2.1 hn.2.2 (i32s (by omega) (by omega)) (i32s (by omega) (by omega)) h8 (Or.inr ⟨h4, by omega, by omega, ?_⟩)).mono (fun M84 k => ?_)⟩
  · unfold un
    rw [if_pos (by omega)]
  obtain ⟨k1, k2, k3, k4, ⟨c', k5, -⟩, k6⟩ := k
  have f84 : FI (txS q p O P) M M84 := k2.mono (fun b y => Or.inl (by have y' : q + 1 ≤ b ∧ b ≤ q + 1 + 9 := y; omega))
  have nb : ∀ b, (b < q + 1 ∨ q + 1 + 9 < b) → mI M84 b = mI M b := fun b hb => k2.2.2.2.2.2.2 b (fun y => by have y' : q + 1 ≤ b ∧ b ≤ q + 1 + 9 := y; omega)
  have h84 : TX M84 z q w T A B D N C n p O P K Ab Be Cm V (F + 1) (un ns F l1) sf ef c' cnt L := by
    obtain ⟨hP, ⟨c1, c2, c3, c4⟩, hX⟩ := h
    refine ⟨hP.fi k1.1 f84, ⟨by rw [nb p (pqz (i := 0) qp (by decide))]; exact c1, by rw [nb p (pqz (i := 0) qp (by decide))]; exact c2, k5, fun j => by rw [show q + 6 = q + 1 + 5 by first | rfl | omega, k4 5 (by omega) (by omega)]; exact c4 j⟩, hX.cg (fun y => by rw [k3 3 (by decide)]; exact y) (fun i _ => by rw [nb p (pqz (i := 0) qp (by decide))]) (fun i _ i15 => nb _ (pqz qp i15)) (fun i _ => ⟨by rw [nb O (pOz ap.2.1)], by rw [nb P (pOz ap.2.2.1)]⟩)⟩
  exact ⟨k1.1, hQ M84 ⟨Ab, Be, Cm, V, F + 1, un ns F l1, sf, ef, c', cnt, L, a, h84, by rw [nb p (pqz (i := 0) qp (by decide))]; exact hp, by rw [k3 2 (by decide)]; exact ha, han, hLa, by rw [k3 5 (by decide)]; exact hd, hf.trans (trF.fi f84)⟩ (ct.kn hl (k6 hc72) (nb _ (pqz qp (by decide))) (nb _ (pqz qp (by decide))) f1 f2 f3 f4 f5 (fun u => by
    rw [u] at f2
    rcases h4 with v | v <;> rw [v] at f2 <;> exact absurd f2 (by decide)) f7) k3 (nb p (pqz (i := 0) qp (by decide))) nb⟩
theorem x_sn_fin (h : TX M z q w T A B D N C n p O P K Ab Be Cm V F ns sf ef c cnt L) (h0 : mI M (q + 1) 3 = 0) (h60 : F < 60) (hb : 1 ≤ mI M Be 0 ∧ mI M Be 0 < 1000000000) (hn : mI M q 3 = ((nw : Nat) : Int) ∧ nw < n ∧ mI M A nw = 2) (h8 : mI M q 8 = 0 ∨ mI M q 8 = 1) (hLa : L ≤ a) (ha : mI M (q + 1) 2 = ((a : Nat) : Int)) (han : a ≤ n) (hd : mI M (q + 1) 5 = 0) (hf : trF M0 q p O P Ab0 Be0 Cm0 M Ab Be Cm) (o46 : mOk M') (fx : FI (txS q p O P) M M') (ip : ∀ i, mI M' p i = if i = 2 then ((L : Nat) : Int) else if i = 7 then (F : Int) + 1 else mI M p i) (i7 : ∀ i, mI M' (p + 7) i = if i = F then mI M Be 0 else mI M (p + 7) i) (i8 : ∀ i, mI M' (p + 8) i = if i = F then ((L : Nat) : Int) else mI M (p + 8) i) (nb : ∀ b, b ≠ p → b ≠ p + 6 → b ≠ p + 7 → b ≠ p + 8 → mI M' b = mI M b) (i6 : ∀ i, mI M' (p + 6) i = if i = F then mI M Ab 0 else mI M (p + 6) i) (ct : CT M (q + 1) p nms) (hl : nms.length = c) (hc72 : c < 72) (hv : v.1 = 0 ∧ mI M Ab 0 = v.2.1 ∧ mI M Be 0 = v.2.2) (gv : vgd (mI M q 8) v) (hrc : rcn nms = F) : h_TR_settleNamed_115 G (d + 5) q 4 F M' (fun M9 => itE M0 z q w T A B D N C n p O P K Ab0 Be0 Cm0 M9 ∧ snY M q p F nms (nw, 1, mI M q 8, v) M9 ∧ snD p O P F M M9 ∧ (mI M9 (p + 6) F = v.2.1 ∧ mI M9 (p + 7) F = v.2.2) ∧ mI M9 p 2 = ((L : Nat) : Int)) := by
  have nO : mI M' O = mI M O ∧ mI M' P = mI M P ∧ (∀ i, i ≤ 10 → mI M' (q + i) = mI M (q + i)) ∧ (∀ i, 9 ≤ i → i ≤ 15 → mI M' (p + i) = mI M (p + i)) := by
    have ap := h.1.apart
    have qp := h.1.2.2.2.2.2.1.2.1
    clear h h0 hb hn h8 ha hd hf ip i7 i8 fx
    exact ⟨nb O (pnz0 ap.2.2.2.1 (by decide)) (pnz ap.2.2.2.1 (by decide) (by decide) (Or.inr (by decide)) (by decide)) (pnz ap.2.2.2.1 (by decide) (by decide) (Or.inr (by decide)) (by decide)) (pnz ap.2.2.2.1 (by decide) (by decide) (Or.inr (by decide)) (by decide)), nb P (pnz0 ap.2.2.2.2.1 (by decide)) (pnz ap.2.2.2.2.1 (by decide) (by decide) (Or.inr (by decide)) (by decide)) (pnz ap.2.2.2.2.1 (by decide) (by decide) (Or.inr (by decide)) (by decide)) (pnz ap.2.2.2.2.1 (by decide) (by decide) (Or.inr (by decide)) (by decide)), fun i hi => nb _ (qnz (i := 0) qp (by omega) (by omega) (by decide)) (qnz qp (by omega) (by omega) (by decide)) (qnz qp (by omega) (by omega) (by decide)) (qnz qp (by omega) (by omega) (by decide)), fun i h9 h15 => nb _ (by omega) (by omega) (by omega) (by omega)⟩
  have h46 := tx_name (l1 := 4) (e := 0) (H := fun _ => 0) (L' := L) h h0 h60 o46 fx (fun i hi => by rw [show q + 1 + i = q + (1 + i) by first | rfl | omega]; exact nO.2.2.1 _ (by omega)) (fun i y2 y7 => by rw [ip, if_neg y2, if_neg y7]) (by rw [ip, if_neg (by decide), if_pos rfl]; rfl) nO.2.2.2 (fun i hi => by rw [i7, if_neg (Nat.ne_of_lt hi)]) (fun i hi => by rw [i8, if_neg (Nat.ne_of_lt hi)]) (fun i _ => ⟨by rw [nO.1], by rw [nO.2.1]⟩) (Nat.le_refl _) (Or.inl ⟨rfl, by rw [i7, if_pos rfl]; exact hb⟩)
  have wA := (h.1.words fx).1
  have n0 := nO.2.2.1 0 (by omega)
  have n1 := nO.2.2.1 1 (by omega)
  rw [Nat.add_zero] at n0
  have r6 : ∀ i, i ≤ 9 → mI M' (q + 1 + i) = mI M (q + 1 + i) := fun i hi => by rw [show q + 1 + i = q + (1 + i) by first | rfl | omega]; exact nO.2.2.1 _ (by omega)
  have ct' : CT M' (q + 1) p nms := ct.tab h.2.1.2.2.1 hl (by rw [n1]) (r6 6 (by omega)) (r6 7 (by omega)) (r6 8 (by omega)) (r6 9 (by omega)) (fun i hi => by rw [i6, if_neg (Nat.ne_of_lt hi)]) (fun i hi => by rw [i7, if_neg (Nat.ne_of_lt hi)])
  have pq : ∀ i, i ≤ 15 → p + i < q + 1 ∨ q + 1 + 9 < p + i := fun i hi => by
    have qp := h.1.2.2.2.2.2.1.2.1
    exact pqz qp hi
  have pO : (O < q + 1 ∨ q + 1 + 9 < O) ∧ (P < q + 1 ∨ q + 1 + 9 < P) := by
    have ap := h.1.apart
    have qp := h.1.2.2.2.2.2.1.2.1
    clear h h0 hb hn h8 ha hd hf ip i7 i8 fx
    exact ⟨pOz ap.2.1, pOz ap.2.2.1⟩
  refine x_sn115 (e9 := (nw, 1, mI M q 8, v)) (nms := nms) (Or.inl rfl) h46 h60 ⟨by rw [n0]; exact hn.1, hn.2.1, by rw [wA]; exact hn.2.2⟩ (by rw [n0]; exact h8) (by rw [ip, if_pos rfl]) (by rw [n1]; exact ha) han hLa (by rw [n1]; exact hd) (hf.trans (trF.fi fx)) ct' hl hc72 rfl rfl ⟨by simp, by simp⟩ (by rw [n0]) (fun _ => ⟨gv, F, rfl, h60, by rw [i7, if_pos rfl]; exact hb, by rw [i6, if_pos rfl, i7, if_pos rfl, hv.2.1, hv.2.2, ← hv.1]⟩) (by show ((F : Nat) : Int) = if (1 : Nat) = 3 then _ else _; rw [if_neg (by decide), hrc]) (fun M9 e1 e2 e3 e4 e5 => ⟨e1, ⟨e2, fun i hi => by rw [e3 i hi, n1], fun i hi => by rw [e4, ip, if_neg hi]⟩, ?_, ⟨?_, ?_⟩, by rw [e4, ip, if_pos rfl]⟩)
  · exact ⟨fun i i9 i15 => by rw [e5 _ (pq i i15), nO.2.2.2 i i9 i15], fun i i3 i5 => by rw [e5 _ (pq i (by omega)), nb _ (by omega) (by omega) (by omega) (by omega)], fun j hj => ⟨by rw [e5 _ (pq 6 (by omega)), i6, if_neg (Nat.ne_of_lt hj)], by rw [e5 _ (pq 7 (by omega)), i7, if_neg (Nat.ne_of_lt hj)], by rw [e5 _ (pq 8 (by omega)), i8, if_neg (Nat.ne_of_lt hj)]⟩, by rw [e5 O pO.1, nO.1], by rw [e5 P pO.2, nO.2.1]⟩
  · rw [e5 _ (pq 6 (by omega)), i6, if_pos rfl]; exact hv.2.1
  · rw [e5 _ (pq 7 (by omega)), i7, if_pos rfl]; exact hv.2.2
theorem x_sn_const {Q : mM → Prop} (hrc : rcn nms = F) (hQ : ∀ M9, itE M0 z q w T A B D N C n p O P K Ab0 Be0 Cm0 M9 ∧ snY M q p F nms (nw, 1, mI M q 8, v) M9 ∧ snD p O P F M M9 ∧ (mI M9 (p + 6) F = v.2.1 ∧ mI M9 (p + 7) F = v.2.2) ∧ mI M9 p 2 = ((L : Nat) : Int) → Q M9) (h : TX M z q w T A B D N C n p O P K Ab Be Cm V F ns sf ef c cnt L) (h0 : mI M (q + 1) 3 = 0) (h60 : F < 60) (hb : 1 ≤ mI M Be 0 ∧ mI M Be 0 < 1000000000) (hn : mI M q 3 = ((nw : Nat) : Int) ∧ nw < n ∧ mI M A nw = 2) (h8 : mI M q 8 = 0 ∨ mI M q 8 = 1) (h21 : mI M (q + 21) 0 = ((L : Nat) : Int)) (hLa : L ≤ a) (ha : mI M (q + 1) 2 = ((a : Nat) : Int)) (han : a ≤ n) (hd : mI M (q + 1) 5 = 0) (hf : trF M0 q p O P Ab0 Be0 Cm0 M Ab Be Cm) (ct : CT M (q + 1) p nms) (hl : nms.length = c) (hc72 : c < 72) (hv : v.1 = 0 ∧ mI M Ab 0 = v.2.1 ∧ mI M Be 0 = v.2.2) (gv : vgd (mI M q 8) v) : mK M q = 3 ∧ mK M (mR M q 2) = 6 ∧ i32 ((mI M (mR M q 2) 7) + 1) ∧ ∀ M16, M16 = mUI M (mR M q 2) 7 ((mI M (mR M q 2) 7) + 1) → mK M16 (mR M16 q 2) = 6 ∧ mK M16 (mR M16 q 5) = 30 ∧ ((0 : Int) ≤ 0 ∧ 0 < (mN M16 (mR M16 q 5) : Int)) ∧ mK M16 (mR M16 (mR M16 q 2) 10) = 30 ∧ ((0 : Int) ≤ mI M (mR M q 2) 7 ∧ mI M (mR M q 2) 7 < (mN M16 (mR M16 (mR M16 q 2) 10) : Int)) ∧ ∀ M23, M23 = mUI M16 (mR M16 (mR M16 q 2) 10) (Int.toNat (mI M (mR M q 2) 7)) (mI M16 (mR M16 q 5) 0) → (mK M23 (mR M23 q 2) = 6 ∧ mK M23 (mR M23 q 1) = 5 ∧ mK M23 (mR M23 (mR M23 q 1) 6) = 30 ∧ ((0 : Int) ≤ 0 ∧ 0 < (mN M23 (mR M23 (mR M23 q 1) 6) : Int)) ∧ mK M23 (mR M23 (mR M23 q 2) 8) = 30 ∧ ((0 : Int) ≤ mI M (mR M q 2) 7 ∧ mI M (mR M q 2) 7 < (mN M23 (mR M23 (mR M23 q 2) 8) : Int)) ∧ ∀ M33, M33 = mUI M23 (mR M23 (mR M23 q 2) 8) (Int.toNat (mI M (mR M q 2) 7)) (mI M23 (mR M23 (mR M23 q 1) 6) 0) → mK M33 (mR M33 q 2) = 6 ∧ mK M33 (mR M33 q 1) = 5 ∧ mK M33 (mR M33 (mR M33 q 1) 7) = 30 ∧ ((0 : Int) ≤ 0 ∧ 0 < (mN M33 (mR M33 (mR M33 q 1) 7) : Int)) ∧ mK M33 (mR M33 (mR M33 q 2) 9) = 30 ∧ ((0 : Int) ≤ mI M (mR M q 2) 7 ∧ mI M (mR M q 2) 7 < (mN M33 (mR M33 (mR M33 q 2) 9) : Int)) ∧ ∀ M41, M41 = mUI M33 (mR M33 (mR M33 q 2) 9) (Int.toNat (mI M (mR M q 2) 7)) (mI M33 (mR M33 (mR M33 q 1) 7) 0) → mK M41 (mR M41 q 5) = 30 ∧ ((0 : Int) ≤ 0 ∧ 0 < (mN M41 (mR M41 q 5) : Int)) ∧ mK M41 (mR M41 q 2) = 6 ∧ ∀ M46, M46 = mUI M41 (mR M41 q 2) 2 (mI M41 (mR M41 q 5) 0) → h_TR_settleNamed_115 G (d + 5) q 4 (mI M (mR M q 2) 7) M46 Q) := by
  obtain ⟨⟨np0, np1, np21, -⟩, ⟨nO0, nO1, -, -, nOp⟩, nP0, nP1, -, -, nPp⟩ := h.1.ne
  have ap := h.1.apart
  have qp := h.1.2.2.2.2.2.1.2.1
  have ok := h.1.1.1
  obtain ⟨t0, t1, t2, t3, t4, t5⟩ := h.1.2.1
  obtain ⟨s1, s2, s3, s4⟩ := h.1.2.2.1
  obtain ⟨k6, ⟨-, -, -, p8, p9, p10, -⟩, ⟨-, -, -, kp6, kp7, kp8, -⟩, ⟨-, -, -, np6, np7, np8, -⟩⟩ := h.tab
  obtain ⟨⟨c1, c2⟩, ⟨f7, -⟩, -⟩ := h.2.1
  obtain ⟨km, ⟨-, -, m6, m7, -⟩, ⟨-, -, kA, kB, -⟩, ⟨-, nA, nB, -⟩, -, ⟨sA, sB, sne, sz⟩, -, ⟨c64, -⟩⟩ := h.1.2.2.2.1
  have hN : n ≤ 16384 := by have := h.1.1.2.2.2.1.2.2.1; have := h.1.1.2.2.2.1.1.2.2.2.2.2.2.1; omega
  have Bp : Be ≠ p ∧ Be ≠ p + 8 ∧ Be ≠ p + 6 ∧ Be ≠ p + 7 ∧ Ab ≠ p ∧ Ab ≠ p + 8 := by
    have := ap.1
    unfold Mpr at this
    exact bp9 this.1 this.2.2.2.1 this.2.2.2.2.1 this.2.2.2.2.2
  have q21p : q + 21 ≠ p ∧ q + 21 ≠ p + 8 ∧ q + 21 ≠ p + 6 ∧ q + 21 ≠ p + 7 := q21z qp
  rw [t3, f7, Int.toNat_natCast]
  refine ⟨t0, k6, ⟨by omega, by omega⟩, fun M16 e16 => ?_⟩
  have f16 : FI (fun b => b = p) M M16 := by rw [e16]; exact FI.ui rfl
  rw [f16.1, f16.2.1, f16.2.2.1, t3, t4, p10, np8, s3, f16.2.2.2.2.2.2 _ q21p.1, h21]
  refine ⟨k6, s1, ⟨by omega, by omega⟩, kp8, by omega, fun M23 e23 => ?_⟩
  have f23 : FI (fun b => b = p + 8) M16 M23 := by rw [e23]; exact FI.ui rfl
  rw [f23.1, f23.2.1, f23.2.2.1, f16.1, f16.2.1, f16.2.2.1, t2, t3, p8, np6, m6, nA]
  refine ⟨k6, km, kA, ⟨by omega, by omega⟩, kp6, by omega, fun M33 e33 => ?_⟩
  have f33 : FI (fun b => b = p + 6) M23 M33 := by rw [e33]; exact FI.ui rfl
  rw [f33.1, f33.2.1, f33.2.2.1, f23.1, f23.2.1, f23.2.2.1, f16.1, f16.2.1, f16.2.2.1, t2, t3, p9, np7, m7, nB]
  refine ⟨k6, km, kB, ⟨by omega, by omega⟩, kp7, by omega, fun M41 e41 => ?_⟩
  have f41 : FI (fun b => b = p + 7) M33 M41 := by rw [e41]; exact FI.ui rfl
  have i21 : mI M41 (q + 21) 0 = ((L : Nat) : Int) := by rw [f41.2.2.2.2.2.2 _ q21p.2.2.2, f33.2.2.2.2.2.2 _ q21p.2.2.1, f23.2.2.2.2.2.2 _ q21p.2.1, f16.2.2.2.2.2.2 _ q21p.1]; exact h21
  rw [f41.1, f41.2.1, f41.2.2.1, f33.1, f33.2.1, f33.2.2.1, f23.1, f23.2.1, f23.2.2.1, f16.1, f16.2.1, f16.2.2.1, t3, t4, s3, i21]
  refine ⟨s1, ⟨by omega, by omega⟩, k6, fun M46 e46 => ?_⟩
  have f46 : FI (fun b => b = p) M41 M46 := by rw [e46]; exact FI.ui rfl
  have iB : mI M33 Be 0 = mI M Be 0 := by rw [f33.2.2.2.2.2.2 _ Bp.2.2.1, f23.2.2.2.2.2.2 _ Bp.2.1, f16.2.2.2.2.2.2 _ Bp.1]
  have ff : FI (fun b => b = p ∨ b = p + 6 ∨ b = p + 7 ∨ b = p + 8) M M46 := ((((f16.mono (fun _ y => Or.inl y)).trans (f23.mono (fun _ y => Or.inr (Or.inr (Or.inr y))))).trans (f33.mono (fun _ y => Or.inr (Or.inl y)))).trans (f41.mono (fun _ y => Or.inr (Or.inr (Or.inl y))))).trans (f46.mono (fun _ y => Or.inl y))
  have o16 : mOk M16 := by rw [e16]; exact mOk_UI ok ⟨by omega, by omega⟩
  have o23 : mOk M23 := by rw [e23]; exact mOk_UI o16 ⟨by omega, by omega⟩
  have o33 : mOk M33 := by rw [e33]; exact mOk_UI o23 (o23 _ _).1
  have o41 : mOk M41 := by rw [e41]; exact mOk_UI o33 (o33 _ _).1
  have o46 : mOk M46 := by rw [e46]; exact mOk_UI o41 ⟨by omega, by omega⟩
  have ip : ∀ i, mI M46 p i = if i = 2 then ((L : Nat) : Int) else if i = 7 then (F : Int) + 1 else mI M p i := fun i => by
    rw [mI_ui p i e46]
    by_cases y2 : i = 2
    · rw [if_pos ⟨rfl, y2⟩, if_pos y2]
    · rw [if_neg (fun u => y2 u.2), if_neg y2, f41.2.2.2.2.2.2 p (by omega), f33.2.2.2.2.2.2 p (by omega), f23.2.2.2.2.2.2 p (by omega), mI_ui p i e16]
      by_cases y7 : i = 7
      · rw [if_pos ⟨rfl, y7⟩, if_pos y7]
      · rw [if_neg (fun u => y7 u.2), if_neg y7]
  have i7 : ∀ i, mI M46 (p + 7) i = if i = F then mI M Be 0 else mI M (p + 7) i := fun i => by
    rw [f46.2.2.2.2.2.2 _ (by omega), mI_ui _ i e41, iB]
    by_cases y : i = F
    · rw [if_pos ⟨rfl, y⟩, if_pos y]
    · rw [if_neg (fun u => y u.2), if_neg y, f33.2.2.2.2.2.2 _ (by omega), f23.2.2.2.2.2.2 _ (by omega), f16.2.2.2.2.2.2 _ (by omega)]
  have i8 : ∀ i, mI M46 (p + 8) i = if i = F then ((L : Nat) : Int) else mI M (p + 8) i := fun i => by
    rw [f46.2.2.2.2.2.2 _ (by omega), f41.2.2.2.2.2.2 _ (by omega), f33.2.2.2.2.2.2 _ (by omega), mI_ui _ i e23]
    by_cases y : i = F
    · rw [if_pos ⟨rfl, y⟩, if_pos y]
    · rw [if_neg (fun u => y u.2), if_neg y, f16.2.2.2.2.2.2 _ (by omega)]
  have iA : mI M23 Ab 0 = mI M Ab 0 := by rw [f23.2.2.2.2.2.2 _ Bp.2.2.2.2.2, f16.2.2.2.2.2.2 _ Bp.2.2.2.2.1]
  have i6 : ∀ i, mI M46 (p + 6) i = if i = F then mI M Ab 0 else mI M (p + 6) i := fun i => by
    rw [f46.2.2.2.2.2.2 _ (by omega), f41.2.2.2.2.2.2 _ (by omega), mI_ui _ i e33, iA]
    by_cases y : i = F
    · rw [if_pos ⟨rfl, y⟩, if_pos y]
    · rw [if_neg (fun u => y u.2), if_neg y, f23.2.2.2.2.2.2 _ (by omega), f16.2.2.2.2.2.2 _ (by omega)]
  have nb : ∀ b, b ≠ p → b ≠ p + 6 → b ≠ p + 7 → b ≠ p + 8 → mI M46 b = mI M b := fun b b1 b2 b3 b4 => ff.2.2.2.2.2.2 b (fun y => by
    have y' : b = p ∨ b = p + 6 ∨ b = p + 7 ∨ b = p + 8 := y
    exact y'.elim b1 (fun y => y.elim b2 (fun y => y.elim b3 b4)))
  have fx : FI (txS q p O P) M M46 := ff.mono (fun b y => by
    have y' : b = p ∨ b = p + 6 ∨ b = p + 7 ∨ b = p + 8 := y
    exact y4z y')
  exact sn_mono (x_sn_fin h h0 h60 hb hn h8 hLa ha han hd hf o46 fx ip i7 i8 nb i6 ct hl hc72 hv gv hrc) hQ
theorem x_sn_formula (h : TX M z q w T A B D N C n p O P K Ab Be Cm V F ns sf ef c cnt L) (h0 : mI M (q + 1) 3 = 0) (h60 : F < 60) (cd : Cod M O P V F ns L e H 1) (hn : mI M q 3 = ((nw : Nat) : Int) ∧ nw < n ∧ mI M A nw = 2) (h8 : mI M q 8 = 0 ∨ mI M q 8 = 1) (hp : mI M p 2 = ((e + 1 : Nat) : Int)) (hLa : e + 1 ≤ a) (ha : mI M (q + 1) 2 = ((a : Nat) : Int)) (han : a ≤ n) (hd : mI M (q + 1) 5 = 0) (e50 : M1 = mUI M p 7 ((F : Int) + 1)) (e57 : M2 = mUI M1 (p + 8) F ((L : Nat) : Int)) (ct : CT M (q + 1) p nms) (hl : nms.length = c) (hc72 : c < 72) (hrc : rcn nms = F) : h_TR_settleNamed_115 G (d + 5) q 7 F M2 (fun M9 => itE M z q w T A B D N C n p O P K Ab Be Cm M9 ∧ snY M q p F nms (nw, 2, mI M q 8, (0, 0, 1)) M9 ∧ snD p O P F M M9 ∧ mI M9 (p + 8) F = ((L : Nat) : Int) ∧ mI M9 p 2 = ((e + 1 : Nat) : Int)) := by
  have f50 : FI (fun b => b = p) M M1 := by rw [e50]; exact FI.ui rfl
  have f57 : FI (fun b => b = p + 8) M1 M2 := by rw [e57]; exact FI.ui rfl
  have ff : FI (fun b => b = p ∨ b = p + 8) M M2 := (f50.mono (fun _ y => Or.inl y)).trans (f57.mono (fun _ y => Or.inr y))
  have hLe : L ≤ e := cd.2.2.2.2.2
  have hN : n ≤ 16384 := by have := h.1.1.2.2.2.1.2.2.1; have := h.1.1.2.2.2.1.1.2.2.2.2.2.2.1; omega
  have o57 : mOk M2 := by rw [e57]; exact mOk_UI (by rw [e50]; exact mOk_UI h.1.1.1 ⟨by omega, by omega⟩) ⟨by omega, by omega⟩
  have ip : ∀ i, mI M2 p i = if i = 7 then (F : Int) + 1 else mI M p i := fun i => by
    rw [f57.2.2.2.2.2.2 p (by omega), mI_ui p i e50]
    by_cases y7 : i = 7
    · rw [if_pos ⟨rfl, y7⟩, if_pos y7]
    · rw [if_neg (fun u => y7 u.2), if_neg y7]
  have i8 : ∀ i, mI M2 (p + 8) i = if i = F then ((L : Nat) : Int) else mI M (p + 8) i := fun i => by
    rw [mI_ui _ i e57]
    by_cases y : i = F
    · rw [if_pos ⟨rfl, y⟩, if_pos y]
    · rw [if_neg (fun u => y u.2), if_neg y, f50.2.2.2.2.2.2 _ (by omega)]
  have nb : ∀ b, b ≠ p → b ≠ p + 8 → mI M2 b = mI M b := fun b b1 b2 => ff.2.2.2.2.2.2 b (fun y => y.elim b1 b2)
  have fx : FI (txS q p O P) M M2 := ff.mono (fun b y => by
    have y' : b = p ∨ b = p + 8 := y
    exact y4z (y'.imp id (fun y => Or.inr (Or.inr y))))
  have nO : mI M2 O = mI M O ∧ mI M2 P = mI M P ∧ (∀ i, i ≤ 10 → mI M2 (q + i) = mI M (q + i)) ∧ (∀ i, 9 ≤ i → i ≤ 15 → mI M2 (p + i) = mI M (p + i)) := by
    have ap := h.1.apart
    have qp := h.1.2.2.2.2.2.1.2.1
    clear h h0 hn h8 ha hd ip i8 fx f50 f57 ff cd
    exact ⟨nb O (pnz0 ap.2.2.2.1 (by decide)) (pnz ap.2.2.2.1 (by decide) (by decide) (Or.inr (by decide)) (by decide)), nb P (pnz0 ap.2.2.2.2.1 (by decide)) (pnz ap.2.2.2.2.1 (by decide) (by decide) (Or.inr (by decide)) (by decide)), fun i hi => nb _ (qnz (i := 0) qp (by omega) (by omega) (by decide)) (qnz qp (by omega) (by omega) (by decide)), fun i h9 h15 => nb _ (by omega) (by omega)⟩
  have h57 := tx_name (l1 := 7) (e := e) (H := H) (L' := e + 1) h h0 h60 o57 fx (fun i hi => by rw [show q + 1 + i = q + (1 + i) by first | rfl | omega]; exact nO.2.2.1 _ (by omega)) (fun i y2 y7 => by rw [ip, if_neg y7]) (by rw [ip, if_pos rfl]; rfl) nO.2.2.2 (fun i hi => by rw [nb (p + 7) (by omega) (by omega)]) (fun i hi => by rw [i8, if_neg (Nat.ne_of_lt hi)]) (fun i _ => ⟨by rw [nO.1], by rw [nO.2.1]⟩) (Nat.le_succ_of_le hLe) (Or.inr ⟨rfl, by rw [i8, if_pos rfl], cd.cg (fun i _ => by rw [nO.1]) (fun i _ => by rw [nO.2.1]), Nat.lt_succ_self _⟩)
  have wA := (h.1.words fx).1
  have n0 := nO.2.2.1 0 (by omega)
  have n1 := nO.2.2.1 1 (by omega)
  rw [Nat.add_zero] at n0
  have r6 : ∀ i, i ≤ 9 → mI M2 (q + 1 + i) = mI M (q + 1 + i) := fun i hi => by rw [show q + 1 + i = q + (1 + i) by first | rfl | omega]; exact nO.2.2.1 _ (by omega)
  have ct' : CT M2 (q + 1) p nms := ct.cg (by rw [n1]) (r6 6 (by omega)) (r6 7 (by omega)) (r6 8 (by omega)) (r6 9 (by omega)) (nb _ (by omega) (by omega)) (nb _ (by omega) (by omega))
  have pq : ∀ i, i ≤ 15 → p + i < q + 1 ∨ q + 1 + 9 < p + i := fun i hi => by
    have qp := h.1.2.2.2.2.2.1.2.1
    exact pqz qp hi
  have pO : (O < q + 1 ∨ q + 1 + 9 < O) ∧ (P < q + 1 ∨ q + 1 + 9 < P) := by
    have ap := h.1.apart
    have qp := h.1.2.2.2.2.2.1.2.1
    clear h h0 hn h8 ha hd ip i8 fx f50 f57 ff cd
    exact ⟨pOz ap.2.1, pOz ap.2.2.1⟩
  refine x_sn115 (e9 := (nw, 2, mI M q 8, (0, 0, 1))) (nms := nms) (Or.inr rfl) h57 h60 ⟨by rw [n0]; exact hn.1, hn.2.1, by rw [wA]; exact hn.2.2⟩ (by rw [n0]; exact h8) (by rw [ip, if_neg (by decide)]; exact hp) (by rw [n1]; exact ha) han hLa (by rw [n1]; exact hd) (trF.fi fx) ct' hl hc72 rfl rfl ⟨by simp, by simp⟩ (by rw [n0]) (fun u => absurd u (by simp)) (by show ((F : Nat) : Int) = if (2 : Nat) = 3 then _ else _; rw [if_neg (by decide), hrc]) (fun M9 e1 e2 e3 e4 e5 => ⟨e1, ⟨e2, fun i hi => by rw [e3 i hi, n1], fun i hi => by rw [e4, ip]⟩, ?_, ?_, by rw [e4, ip, if_neg (by decide)]; exact hp⟩)
  · exact ⟨fun i i9 i15 => by rw [e5 _ (pq i i15), nO.2.2.2 i i9 i15], fun i i3 i5 => by rw [e5 _ (pq i (by omega)), nb _ (by omega) (by omega)], fun j hj => ⟨by rw [e5 _ (pq 6 (by omega)), nb _ (by omega) (by omega)], by rw [e5 _ (pq 7 (by omega)), nb _ (by omega) (by omega)], by rw [e5 _ (pq 8 (by omega)), i8, if_neg (Nat.ne_of_lt hj)]⟩, by rw [e5 O pO.1, nO.1], by rw [e5 P pO.2, nO.2.1]⟩
  · rw [e5 _ (pq 8 (by omega)), i8, if_pos rfl]
end TXK
end
section
section
/-! The class's reader of texts, exactly: settleNamed. -/
section TXL
variable {G : mG} {d z q w T A B D N C n p O P K Ab Be Cm V F c L cnt a nw k e k0 e0 : Nat} {M0 M M' M1 M2 : mM} {ns : Nat → Int} {sf ef : Nat → Nat} {H : Nat → Nat} {W pl nq E : Nat → Int} {Cf : Nat → Int × Int} {sm : Nat → Nat → Prop} {s s' : st9} {ft : Int × Int} {v : vrs}
/-- the class's tables are the pure state s -/
def CSm (M : mM) (q p : Nat) (s : st9) : Prop := CT M (q + 1) p s.1 ∧ mI M p 3 = (s.2.1.1 : Int) ∧ mI M p 7 = (s.2.1.2.1 : Int) ∧ mI M p 12 = (s.2.1.2.2.1 : Int) ∧ (mI M p 11 = -1 ↔ s.2.1.2.2.2 = 0) ∧ s.1.length = s.2.1.1 + s.2.1.2.1 ∧ vcn s.1 = s.2.1.1 ∧ rcn s.1 = s.2.1.2.1
/-- an item has been settled, exactly -/
def itZ (q p : Nat) (s' : st9) (M' : mM) : Prop := FT M' (q + 1) s'.2.2 ∧ (s'.2.2.1 = 0 → CSm M' q p s')
theorem itZ.bad (h : FT M' (q + 1) s'.2.2) (h1 : s'.2.2.1 ≠ 0) : itZ q p s' M' := ⟨h, fun z => absurd z h1⟩
/-- a const or formula has been settled: the program's tables -/
def snZ (p O P F L e : Nat) (l1 : Int) (v : vrs) (M M' : mM) : Prop := snD p O P F M M' ∧ (l1 = 4 → (mI M' (p + 6) F = v.2.1 ∧ mI M' (p + 7) F = v.2.2) ∧ mI M' p 2 = ((L : Nat) : Int)) ∧ (l1 = 7 → mI M' (p + 8) F = ((L : Nat) : Int) ∧ mI M' p 2 = ((e + 1 : Nat) : Int)) ∧ mI M' p 11 = mI M p 11
theorem l47x {l : Int} (h : l = 4 ∨ l = 7) : i32 l := ⟨by omega, by omega⟩
theorem x_TR_settleNamed {l1 : Int} (hF : FMx G) (h4 : l1 = 4 ∨ l1 = 7) (h : TX M z q w T A B D N C n p O P K Ab Be Cm V F ns sf ef c cnt L) (y60 : 60 ≤ F → mI M (q + 1) 3 ≠ 0) (cd : Cod M O P (vco l1 V) F (nco l1 ns) L e H 1) (hp : mI M p 2 = ((e + 1 : Nat) : Int)) (ha : mI M (q + 1) 2 = ((a : Nat) : Int)) (han : a ≤ n) (hLa : e + 1 ≤ a) (hd : mI M (q + 1) 5 = 0) (hn : mI M q 3 = ((nw : Nat) : Int) ∧ nw < n ∧ mI M A nw = 2) (h8 : mI M q 8 = 0 ∨ mI M q 8 = 1) (h21 : mI M (q + 21) 0 = ((L : Nat) : Int)) (wt : WTq M T A B D n W pl nq sm) (hnw : nw = k0 + 1) (cs : CSm M q p s) (ec : ECq M (q + 1) p n W nq sm s.1 c (if l1 = 4 then 1 else 0) E Cf) (hkd : mI M q 8 = kdq W E 0 (k0 + 3) e0) (eo : Eo W 6 (k0 + 3) e0) (e0n : e0 ≤ n) (hc : Cd W Cf pl (mI M O) (mI M P) 0 0 0 (k0 + 3) e0 L e) (oe : mI M O e = 0) (hFT : FT M (q + 1) ft) (hfl : ft.1 = 0 → (fl W E pl 0 (k0 + 3) e0).1 = 0) (hv : v = vlq W (cv9 W nq sm s.1) pl 0 0 (k0 + 3) e0) (gv : ft.1 = 0 → l1 = 4 → vgd (kdq W E 0 (k0 + 3) e0) v) (flt : ft.1 ≠ 0 → s'.2.2 = ft) (es1 : ft.1 = 0 → l1 = 4 → v.1 ≠ 0 → s'.2.2 = (v.1, v.2.1)) (es2 : ft.1 = 0 → (l1 = 4 → v.1 = 0) → s' = (s.1 ++ [(k0 + 1, (if l1 = 4 then 1 else 2), kdq W E 0 (k0 + 3) e0, if l1 = 4 then v else (0, 0, 1))], (s.2.1.1, s.2.1.2.1 + 1, s.2.1.2.2), (0, 0))) : Cv G y_TR_settleNamed (d + 6) [vr q, vi l1] M (fun M' => itE M z q w T A B D N C n p O P K Ab Be Cm M' ∧ itZ q p s' M' ∧ mI M' (q + 1) 2 = ((a : Nat) : Int) ∧ (s'.2.2.1 = 0 → snZ p O P F L e l1 v M M')) := by
  obtain ⟨ct, j3, j7, j12, j11, jl, jv, jr⟩ := id cs
  have hl : s.1.length = c := by
    have y1 := ct.1
    have y2 := h.2.1.2.2.1.1
    omega
  have eF : s.2.1.2.1 = F := by
    have := h.2.1.2.1.1
    omega
  have eV : s.2.1.1 = V := by
    have := h.2.1.1.1
    omega
  have V12 := h.2.1.1.2
  have h9 : ∀ i, i < c → mI M (q + 1 + 9) i = 0 ∨ mI M (q + 1 + 9) i = 1 := fun i hi => (h.2.1.2.2.1.2.2 i hi).2.2
  have fin : ∀ {e9 : nm9} {Mx M9 : mM}, ft.1 = 0 → (∀ i, i ≠ 3 → i ≠ 4 → mI Mx (q + 1) i = mI M (q + 1) i) → mI Mx (q + 1) 3 = 0 → mI Mx p = mI M p → s' = (s.1 ++ [e9], (s.2.1.1, s.2.1.2.1 + 1, s.2.1.2.2), (0, 0)) → e9.2.1 ≠ 3 → snY Mx q p F s.1 e9 M9 → itZ q p s' M9 := fun {e9 Mx M9} _ _ g2 g3 g4 g6 g5 => by
    obtain ⟨y1, y2, y3⟩ := g5
    rw [g4]
    refine ⟨⟨by rw [y2 3 (by decide)]; exact g2, fun u => absurd rfl u⟩, fun _ => ⟨y1, ?_, ?_, ?_, ?_, ?_, ?_, ?_⟩⟩
    · rw [y3 3 (by decide), if_neg (by decide), g3]; exact j3
    · rw [y3 7 (by decide), if_pos rfl]
      show (F : Int) + 1 = ((s.2.1.2.1 + 1 : Nat) : Int)
      omega
    · rw [y3 12 (by decide), if_neg (by decide), g3]; exact j12
    · rw [y3 11 (by decide), if_neg (by decide), g3]; exact j11
    · show (s.1 ++ [e9]).length = s.2.1.1 + (s.2.1.2.1 + 1)
      rw [List.length_append, jl]
      simp
      omega
    · show vcn (s.1 ++ [e9]) = s.2.1.1
      rw [vcn_app]
      show vcn s.1 + (0 + (if e9.2.1 = 3 then 1 else 0)) = _
      rw [if_neg g6]
      omega
    · show rcn (s.1 ++ [e9]) = s.2.1.2.1 + 1
      rw [rcn_app]
      show rcn s.1 + (0 + (if e9.2.1 = 3 then 0 else 1)) = _
      rw [if_neg g6]
      omega
  have hLe : L ≤ e := cd.2.2.2.2.2
  obtain ⟨t0, t1, t2, t3, t4, t5⟩ := h.1.2.1
  obtain ⟨s1, s2, s3, s4⟩ := h.1.2.2.1
  obtain ⟨k6, ⟨-, -, -, p8, p9, p10, -⟩, ⟨-, -, -, kp6, kp7, kp8, -⟩, ⟨-, -, -, np6, np7, np8, -⟩⟩ := h.tab
  have f7 := h.2.1.2.1.1
  have hN : n ≤ 16384 := by have := h.1.1.2.2.2.1.2.2.1; have := h.1.1.2.2.2.1.1.2.2.2.2.2.2.1; omega
  have q21p : q + 21 ≠ p ∧ q + 21 ≠ p + 8 := by have := h.1.2.2.2.2.2.1.2.1; clear h4 y60 h8 j11 es1 es2 gv hfl flt; omega
  refine k_TR_settleNamed h.1.1.1 (l47x h4) ?_
  refine ⟨t0, by rw [t1]; exact h.1.1.2.1.1, fun y0 => ⟨fun y4 => ?_, fun y4 => ?_⟩, fun y0 => ?_⟩
  · rw [t1] at y0
    have h60 : F < 60 := by
      by_cases u : 60 ≤ F
      · exact absurd y0 (y60 u)
      · omega
    subst y4
    have cd' : Cod M O P 0 F (nsc ns) L e H 1 := cd
    have f0 : ft.1 = 0 := by rw [← hFT.1]; exact y0
    have ec' : ECq M (q + 1) p n W nq sm s.1 c 1 E Cf := ec
    have ev : vlq W (cvn W nq sm s.1 n) pl 0 0 (k0 + 3) e0 = v := by
      rw [hv]
      refine vl_ci0 (fun k _ k2 => ?_) eo
      unfold cvn
      rw [if_pos (by omega)]
    refine (x_TR_worksOut (k := 0) (l2 := 0) hF (by first | decide | omega) (i32s (by decide) (by decide)) h y0 h21 hp (by omega) (lf_ex wt ec' ct hl h9) eo (hfl f0) hc (Nat.lt_succ_self _) oe (fun z => absurd rfl z)).mono (fun x9 M8 k => ?_)
    obtain ⟨⟨Ab1, Be1, Cm1, h1, fa, hab, hr, ⟨q0, q1, q21, qp, qO, qP, qA⟩, k8⟩, wv, ct8, -⟩ := k
    rw [ev] at wv
    have tr := wu_tr (p := p) (O := O) (P := P) fa hab hr
    have i9 : i32 x9 := m_b32 (k8.imp (fun u => u) (fun u => u.1))
    have a8 : mI M8 (q + 1) 2 = ((a : Nat) : Int) := by rw [q1 2 (by decide) (by decide)]; exact ha
    have d8 : mI M8 (q + 1) 5 = 0 := by rw [q1 5 (by decide) (by decide)]; exact hd
    refine ⟨i9, h1.1.1.1, fun y => ?_, fun y => ?_⟩
    · refine ⟨⟨Ab1, Be1, Cm1, V, F, ns, sf, ef, c, cnt, e + 1, a, h1.any (fun _ => Nat.le_succ_of_le hLe), by rw [qp]; exact hp, a8, han, hLa, d8, tr⟩, ?_⟩
      obtain ⟨-, w2, w3⟩ := wv.resolve_right (fun u => by rw [y] at u; exact absurd u.1 (by decide))
      have v1 : v.1 ≠ 0 := fun u => w2 (by unfold wuf; rw [if_pos rfl, if_neg (fun z => z u)])
      have ew : wuf 0 v (pl (k0 + 3)) = (v.1, v.2.1) := by unfold wuf; rw [if_pos rfl, if_pos v1]
      rw [ew] at w3
      have es := es1 f0 rfl v1
      exact ⟨itZ.bad (by rw [es]; exact w3) (by rw [es]; exact v1), a8, fun t => absurd t (by rw [es]; exact v1)⟩
    · have wp := wu_p h fa
      obtain ⟨-, u2, u3⟩ := k8.resolve_left y
      obtain ⟨-, w2, w3, w4, w5⟩ := wv.resolve_left (fun u => y u.1)
      have mk := h1.1.2.2.2.1.2.1
      have pA : mI M8 Ab1 0 = v.2.1 := by rw [← mk.2.2.1]; exact w5.1
      have pB : mI M8 Be1 0 = v.2.2 := by rw [← mk.2.2.2.1]; exact w5.2
      have k88 : mI M8 q 8 = kdq W E 0 (k0 + 3) e0 := by rw [q0]; exact hkd
      have es := es2 f0 (fun _ => w3)
      rw [if_pos rfl, if_pos rfl, ← hnw, ← k88] at es
      obtain ⟨v1, v2, v3, v4⟩ := x_sn_const (G := G) (d := d) (v := v) (nms := s.1) (Q := fun M' => itE M z q w T A B D N C n p O P K Ab Be Cm M' ∧ itZ q p s' M' ∧ mI M' (q + 1) 2 = ((a : Nat) : Int) ∧ (s'.2.2.1 = 0 → snZ p O P F L e 4 v M M')) (by rw [jr, eF]) (fun M9 g => ⟨g.1, fin f0 q1 u2 qp es (by simp) g.2.1, by rw [g.2.1.2.1 2 (by decide)]; exact a8, fun _ => ⟨⟨fun i i9 i15 => by rw [g.2.2.1.1 i i9 i15, wp i i15], fun i i3 i5 => by rw [g.2.2.1.2.1 i i3 i5, wp i (by omega)], fun j hj => by rw [(g.2.2.1.2.2.1 j hj).1, (g.2.2.1.2.2.1 j hj).2.1, (g.2.2.1.2.2.1 j hj).2.2, wp 6 (by omega), wp 7 (by omega), wp 8 (by omega)]; exact ⟨rfl, rfl, rfl⟩, by rw [g.2.2.1.2.2.2.1, qO], by rw [g.2.2.1.2.2.2.2, qP]⟩, fun _ => g.2.2.2, fun t => absurd t (by decide), by rw [g.2.1.2.2 11 (by decide), if_neg (by decide), qp]⟩⟩) h1 u2 h60 u3 ⟨by rw [q0]; exact hn.1, hn.2.1, by rw [qA]; exact hn.2.2⟩ (by rw [q0]; exact h8) (by rw [q21]; exact h21) (show L ≤ a by omega) a8 han d8 tr (ct8 _ ct) hl (by omega) ⟨w3, pA, pB⟩ (by rw [k88]; exact gv f0 rfl)
      refine ⟨v1, v2, v3, fun M16 e16 => ?_⟩
      obtain ⟨w1, w2, w3, w4, w5, w6⟩ := v4 M16 e16
      exact ⟨w1, w2, w3, w4, w5, fun M23 e23 => ⟨fun _ => w6 M23 e23, fun u => absurd rfl u⟩⟩
  · have y7 : l1 = 7 := h4.resolve_left y4
    subst y7
    rw [t1] at y0
    have h60 : F < 60 := by
      by_cases u : 60 ≤ F
      · exact absurd y0 (y60 u)
      · omega
    have cd' : Cod M O P V F ns L e H 1 := cd
    rw [t3, f7, Int.toNat_natCast]
    refine ⟨k6, ⟨by omega, by omega⟩, fun M50 e50 => ?_⟩
    have f50 : FI (fun b => b = p) M M50 := by rw [e50]; exact FI.ui rfl
    rw [f50.1, f50.2.1, f50.2.2.1, t3, t4, p10, np8, s3, f50.2.2.2.2.2.2 _ q21p.1, h21]
    refine ⟨k6, s1, ⟨by omega, by omega⟩, kp8, by omega, fun M57 e57 => ⟨fun u => absurd u (by decide), fun _ => ?_⟩⟩
    have f0 : ft.1 = 0 := by rw [← hFT.1]; exact y0
    have es := es2 f0 (fun u => absurd u (by decide))
    rw [if_neg (by decide), if_neg (by decide), ← hnw, ← hkd] at es
    exact sn_mono (x_sn_formula (nms := s.1) h y0 h60 cd' hn h8 hp hLa ha han hd e50 e57 ct hl (by omega) (by rw [jr, eF])) (fun M9 g => ⟨g.1, fin f0 (fun _ _ _ => rfl) y0 rfl es (by simp) g.2.1, by rw [g.2.1.2.1 2 (by decide)]; exact ha, fun _ => ⟨g.2.2.1, fun t => absurd t (by decide), fun _ => g.2.2.2, by rw [g.2.1.2.2 11 (by decide), if_neg (by decide)]⟩⟩)
  · refine ⟨⟨Ab, Be, Cm, V, F, ns, sf, ef, c, cnt, e + 1, a, h.any (fun _ => Nat.le_succ_of_le hLe), hp, ha, han, hLa, hd, trF.refl⟩, ?_⟩
    rw [t1] at y0
    have f0 : ft.1 ≠ 0 := by rw [← hFT.1]; exact y0
    have es := flt f0
    exact ⟨itZ.bad (by rw [es]; exact hFT) (by rw [es]; exact f0), ha, fun t => absurd t (by rw [es]; exact f0)⟩
end TXL
end
section
/-! The class's reader of texts, exactly: a var is settled. -/
section TXM
variable {G : mG} {d z q w T A B D N C n p O P K Ab Be Cm V F c sl L cnt a nw k x y x2 y2 Ab0 Be0 Cm0 : Nat} {M0 M M' M1 M2 Mb : mM} {ns : Nat → Int} {sf ef : Nat → Nat} {W pl nq E : Nat → Int} {Cf : Nat → Int × Int} {cv : Nat → vrs} {sm : Nat → Nat → Prop} {nms : List nm9} {s s' : st9} {ft ff : Int × Int} {tr : Int}
theorem fst9_n {a b : Int × Int} (h : a.1 ≠ 0) : fst9 a b = a := if_neg h
theorem fst9_zr {a b : Int × Int} (h : a.1 = 0) : fst9 a b = b := if_pos h
theorem Lfo.cg {k : Nat} (h : Lfo M p W E cv Cf k) (h6 : mI M' (p + 6) = mI M (p + 6)) (h7 : mI M' (p + 7) = mI M (p + 7)) : Lfo M' p W E cv Cf k := by
  unfold Lfo at h ⊢
  rw [h6, h7]
  exact h
/-- what stays while a var is settled -/
def svK (q p O P : Nat) (nms : List nm9) (M0 M : mM) : Prop := CT M (q + 1) p nms ∧ mI M q = mI M0 q ∧ (mI M (q + 21) = mI M0 (q + 21) ∧ mI M (q + 22) = mI M0 (q + 22)) ∧ (mI M p = mI M0 p ∧ mI M O = mI M0 O ∧ mI M P = mI M0 P) ∧ mI M (p + 6) = mI M0 (p + 6) ∧ mI M (p + 7) = mI M0 (p + 7) ∧ ∀ i, 3 ≤ i → i ≤ 15 → mI M (p + i) = mI M0 (p + i)
/-- the item's rule k: its words x to y, without a fault, of kind tr -/
def rwE (W pl : Nat → Int) (cv : Nat → vrs) (q p O P sl k x y : Nat) (tr : Int) (M : mM) : Prop := ∃ (E : Nat → Int) (Cf : Nat → Int × Int), rvQz W pl Cf q O P k x y sl M ∧ (∀ k, (W k = 1 ∨ W k = 2 ∨ W k = 12 ∨ W k = 13) → (W k = 1 → E k ≠ -1) → Lfo M p W E cv Cf k) ∧ Eo W 6 x y ∧ (fl W E pl 0 x y).1 = 0 ∧ kdq W E 0 x y = tr
theorem rwE.gd (h : rwE W pl cv q p O P sl k x y tr M) : vgd tr (vlq W cv pl 0 0 x y) := by
  obtain ⟨E, Cf, -, h2, h3, h4, h5⟩ := h
  rw [← h5]
  exact vl_ok (fun k a b => (h2 k a b).1) _ 0 x y (Nat.le_refl _) (Or.inl ⟨rfl, h3⟩) h4 (fun u => absurd u (by decide)) 0
theorem x_sv_note {x y : Int} (hx : i32 x) (x0 : x ≠ 0) (hy : i32 y) (h : svS M0 z q w T A B D N C n p O P K Ab0 Be0 Cm0 V F ns sf ef c cnt L sl a nw M) (kk : svK q p O P nms Mb M) (hf : FT M (q + 1) ft) : Cv G y_RR_note d [vr (q + 1), vi x, vi y] M (fun M' => mOk M' ∧ svS M0 z q w T A B D N C n p O P K Ab0 Be0 Cm0 V F ns sf ef c cnt L sl a nw M' ∧ svK q p O P nms Mb M' ∧ FT M' (q + 1) (fst9 ft (x, y))) := by
  obtain ⟨Ab, Be, Cm, h1, tr, ⟨v1, v2, v3, v4, v5, v6, v7, v8, v9, v10, v11, v12⟩, r8, r7⟩ := h
  obtain ⟨⟨np0, np1, -, -⟩, ⟨nO0, nO1, -, -, -⟩, nP0, nP1, -, -, -⟩ := h1.1.ne
  obtain ⟨q01, q10, q210, q211, -, -, q220, q221, -⟩ := q_ne q
  have pq1 : ∀ i, i ≤ 15 → p + i ≠ q + 1 := fun i hi => by
    have := h1.1.2.2.2.2.2.1.2.1
    omega
  have p61 : p + 6 ≠ q + 1 ∧ p + 7 ≠ q + 1 := by
    have := h1.1.2.2.2.2.2.1.2.1
    omega
  refine (x_tx_note hx x0 hy h1).mono (fun M' k => ?_)
  obtain ⟨o1, h2, x2, -, r2, b2, fq⟩ := k
  have e0 := b2 q q01
  have cg : ∀ {k : Nat}, rvR M q O P F ns L sl k → rvR M' q O P F ns L sl k := fun hr => hr.cg (by rw [b2 _ q211]) (fun i _ => ⟨by rw [b2 O nO1], by rw [b2 P nP1]⟩) (Nat.le_refl _)
  refine ⟨o1, ⟨Ab, Be, Cm, h2, tr.trans (trF.fi x2.1), ⟨by rw [b2 p np1]; exact v1, v2, v3, by rw [r2 2 (by decide) (by decide)]; exact v4, v5, by rw [r2 5 (by decide) (by decide)]; exact v6, by rw [e0]; exact v7, v8, by rw [(h1.1.words x2.1).1]; exact v9, by rw [e0]; exact v10, by rw [e0]; exact v11, fun u => x2.2.2.1 (v12 u)⟩, fun u => ?_, fun u => ?_⟩, ?_, fq ft hf⟩
  · rw [e0] at u
    exact ⟨cg (r8 u).1, cg (r8 u).2⟩
  · rw [e0] at u
    exact cg (r7 u)
  · obtain ⟨ct, g0, ⟨g21, g22⟩, ⟨gp, gO, gP⟩, g6, g7, g8⟩ := kk
    exact ⟨ct.tx x2.2, by rw [e0]; exact g0, ⟨by rw [b2 _ q211]; exact g21, by rw [b2 _ q221]; exact g22⟩, ⟨by rw [b2 p np1]; exact gp, by rw [b2 O nO1]; exact gO, by rw [b2 P nP1]; exact gP⟩, by rw [b2 _ p61.1]; exact g6, by rw [b2 _ p61.2]; exact g7, fun i i3 i15 => by rw [b2 _ (pq1 i i15)]; exact g8 i i3 i15⟩
theorem x_sv_works (hF : FMx G) (hk : k < 3) (h : svS M0 z q w T A B D N C n p O P K Ab0 Be0 Cm0 V F ns sf ef c cnt L sl a nw M) (kk : svK q p O P nms Mb M) (hf : FT M (q + 1) (0, 0)) (hr : rwE W pl cv q p O P sl k x y tr Mb) : Ci G y_TR_worksOut (d + 5) [vr q, vi k, vi 1] M (fun r M' => i32 r ∧ mOk M' ∧ svS M0 z q w T A B D N C n p O P K Ab0 Be0 Cm0 V F ns sf ef c cnt L sl a nw M' ∧ svK q p O P nms Mb M' ∧ ((r = 0 ∧ (wh9 (vlq W cv pl 0 0 x y) (pl x)).1 ≠ 0 ∧ FT M' (q + 1) (wh9 (vlq W cv pl 0 0 x y) (pl x))) ∨ (r = 1 ∧ (wh9 (vlq W cv pl 0 0 x y) (pl x)).1 = 0 ∧ (vlq W cv pl 0 0 x y).1 = 0 ∧ FT M' (q + 1) (0, 0) ∧ mI M' (mR M' (q + 11) 6) 0 = (vlq W cv pl 0 0 x y).2.1))) := by
  obtain ⟨Ab, Be, Cm, h1, trf, ⟨v1, v2, v3, v4, v5, v6, v7, v8, v9, v10, v11, v12⟩, r8, r7⟩ := h
  obtain ⟨ct, e0, ⟨e21, e22⟩, ⟨ep, eO, eP⟩, e6, e7, e8⟩ := kk
  obtain ⟨E, Cf, ⟨sr, er, u1, u2, u3, u4, u5⟩, hlf, eo, hfl, -⟩ := hr
  have h0 : mI M (q + 1) 3 = 0 := hf.1
  refine (x_TR_worksOut (k := k) (l2 := 1) (cv := cv) hF hk (i32s (by omega) (by omega)) h1 h0 (by rw [e21]; exact u1) v1 (Nat.le_trans v3 v5) (fun j i1 i2 => (hlf j i1 i2).cg e6 e7) eo hfl (by rw [eO, eP]; exact u3) u4 (by rw [eO]; exact u2) (fun _ => by rw [e22]; exact u5)).mono (fun r M' k => ?_)
  obtain ⟨⟨Ab1, Be1, Cm1, h2, fa, hab, hrm, ⟨q0, q1, q21, qp, qO, qP, qA⟩, k8⟩, wv, ctk, w22, w6, w7⟩ := k
  have i9 : i32 r := m_b32 (k8.imp (fun u => u) (fun u => u.1))
  have cg : ∀ {k : Nat}, rvR M q O P F ns L sl k → rvR M' q O P F ns L sl k := fun hr => hr.cg (by rw [q21]) (fun i _ => ⟨by rw [qO], by rw [qP]⟩) (Nat.le_refl _)
  have v12' : 12 ≤ V → mI M' (q + 1) 3 ≠ 0 := fun u => absurd h0 (v12 u)
  refine ⟨i9, h2.1.1.1, ⟨Ab1, Be1, Cm1, h2, trf.trans (wu_tr fa hab hrm), ⟨by rw [qp]; exact v1, v2, v3, by rw [q1 2 (by decide) (by decide)]; exact v4, v5, by rw [q1 5 (by decide) (by decide)]; exact v6, by rw [q0]; exact v7, v8, by rw [qA]; exact v9, by rw [q0]; exact v10, by rw [q0]; exact v11, v12'⟩, fun u => ?_, fun u => ?_⟩, ⟨ctk _ ct, by rw [q0]; exact e0, ⟨by rw [q21]; exact e21, by rw [w22]; exact e22⟩, ⟨by rw [qp]; exact ep, by rw [qO]; exact eO, by rw [qP]; exact eP⟩, by rw [w6]; exact e6, by rw [w7]; exact e7, fun i i3 i15 => by rw [wu_p h1 fa i i15]; exact e8 i i3 i15⟩, ?_⟩
  · rw [q0] at u
    exact ⟨cg (r8 u).1, cg (r8 u).2⟩
  · rw [q0] at u
    exact cg (r7 u)
  · have ew : wuf 1 (vlq W cv pl 0 0 x y) (pl x) = wh9 (vlq W cv pl 0 0 x y) (pl x) := by
      unfold wuf
      rw [if_neg (by decide)]
    unfold wuV at wv
    rw [ew] at wv
    exact wv.imp (fun u => u) (fun u => ⟨u.1, u.2.1, u.2.2.1, u.2.2.2.1, u.2.2.2.2.1⟩)
/-- the program's tables with var number V -/
def svD (p O P V L : Nat) (l1 l2 l3 : Int) (M M' : mM) : Prop := (∀ i, 6 ≤ i → i ≤ 15 → mI M' (p + i) = mI M (p + i)) ∧ (∀ j, mI M' (p + 3) j = (if j = V then l1 else mI M (p + 3) j) ∧ mI M' (p + 4) j = (if j = V then l2 else mI M (p + 4) j) ∧ mI M' (p + 5) j = (if j = V then l3 else mI M (p + 5) j)) ∧ (mI M' O = mI M O ∧ mI M' P = mI M P) ∧ mI M' p 2 = ((L : Nat) : Int) ∧ mI M' p 11 = mI M p 11
/-- a var has been added -/
def svY (M : mM) (q p V : Nat) (nms : List nm9) (e9 : nm9) (M' : mM) : Prop := CT M' (q + 1) p (nms ++ [e9]) ∧ (∀ i, i ≠ 19 → mI M' (q + 1) i = mI M (q + 1) i) ∧ ∀ i, i ≠ 2 → mI M' p i = if i = 3 then (V : Int) + 1 else mI M p i
theorem x_sv_fin {l1 l2 l3 : Int} (hvc : vcn nms = V) (wv : ∀ j, mI M1 (p + 3) j = (if j = V then l1 else mI M (p + 3) j) ∧ mI M1 (p + 4) j = (if j = V then l2 else mI M (p + 4) j) ∧ mI M1 (p + 5) j = (if j = V then l3 else mI M (p + 5) j)) (h : TX M z q w T A B D N C n p O P K Ab Be Cm V F ns sf ef c cnt L) (hv : vrS M q A n p L sl a nw V) (hV : V < 12) (hf : trF M0 q p O P Ab0 Be0 Cm0 M Ab Be Cm) (o1 : mOk M1) (f1 : FI (fun b => b = p + 3 ∨ b = p + 4 ∨ b = p + 5) M M1) (ct : CT M (q + 1) p nms) (hl : nms.length = c) (hc72 : c < 72) : Cv G y_RR_know d [vr (q + 1), vi (mI M1 q 3), vi 5, vi (mI M1 p 3), vi (mI M1 q 8)] M1 (fun M136 => mOk M136 ∧ (mK M136 q = 3 ∧ mK M136 (mR M136 q 2) = 6 ∧ i32 ((mI M136 (mR M136 q 2) 3) + 1) ∧ ∀ M142, M142 = mUI M136 (mR M136 q 2) 3 ((mI M136 (mR M136 q 2) 3) + 1) → mK M142 (mR M142 q 2) = 6 ∧ ∀ M145, M145 = mUI M142 (mR M142 q 2) 2 (mI M142 q 4) → (itE M0 z q w T A B D N C n p O P K Ab0 Be0 Cm0 M145 ∧ svY M q p V nms (nw, 3, mI M q 8, (0, 0, 1)) M145 ∧ svD p O P V L l1 l2 l3 M M145))) := by
  obtain ⟨v1, v2, v3, v4, v5, v6, v7, v8, v9, v10, v11, v12⟩ := hv
  have ap := h.1.apart
  have qp := h.1.2.2.2.2.2.1.2.1
  have c3 := h.2.1.1.1
  have hN : n ≤ 16384 := by have := h.1.1.2.2.2.1.2.2.1; have := h.1.1.2.2.2.1.1.2.2.2.2.2.2.1; omega
  have nb1 : ∀ b, b ≠ p + 3 → b ≠ p + 4 → b ≠ p + 5 → mI M1 b = mI M b := fun b b1 b2 b3 => f1.2.2.2.2.2.2 b (fun y => by
    have y' : b = p + 3 ∨ b = p + 4 ∨ b = p + 5 := y
    omega)
  have fx1 : FI (txS q p O P) M M1 := f1.mono (fun b y => by
    have y' : b = p + 3 ∨ b = p + 4 ∨ b = p + 5 := y
    show (q ≤ b ∧ b ≤ q + 10) ∨ b = q + 21 ∨ b = q + 22 ∨ b = p ∨ (p + 3 ≤ b ∧ b ≤ p + 15) ∨ b = O ∨ b = P
    omega)
  have P1 := h.1.fi o1 fx1
  have A1 := (h.1.words fx1).1
  have e1 := nb1 q (by omega) (by omega) (by omega)
  have e2 := nb1 p (by first | (have h1 := qp; omega) | omega) (by first | (have h1 := qp; omega) | omega) (by first | (have h1 := qp; omega) | omega)
  have e3 := nb1 (q + 1) (by omega) (by omega) (by omega)
  have tn : TN M1 (q + 1) A n (V + 1) F ns c := h.2.1.2.2.1.more A1 e3 (fun i _ _ => nb1 _ (by omega) (by omega) (by omega))
  have eO := nb1 O (by first | (have h1 := ap.2.2.2.1; have h2 := ap.2.1; omega) | omega) (by first | (have h1 := ap.2.2.2.1; have h2 := ap.2.1; omega) | omega) (by first | (have h1 := ap.2.2.2.1; have h2 := ap.2.1; omega) | omega)
  have eP := nb1 P (by first | (have h1 := ap.2.2.2.2.1; have h2 := ap.2.2.1; omega) | omega) (by first | (have h1 := ap.2.2.2.2.1; have h2 := ap.2.2.1; omega) | omega) (by first | (have h1 := ap.2.2.2.2.1; have h2 := ap.2.2.1; omega) | omega)
  have e6 : ∀ i, 6 ≤ i → i ≤ 15 → mI M1 (p + i) = mI M (p + i) := fun i h6 h15 => nb1 _ (by omega) (by omega) (by omega)
  have e5 : mI M1 (q + 6) = mI M (q + 6) := nb1 _ (by omega) (by omega) (by omega)
  have ct1 : CT M1 (q + 1) p nms := ct.cg (by rw [e3]) (nb1 _ (by omega) (by omega) (by omega)) (nb1 _ (by omega) (by omega) (by omega)) (nb1 _ (by omega) (by omega) (by omega)) (nb1 _ (by omega) (by omega) (by omega)) (e6 6 (by omega) (by omega)) (e6 7 (by omega) (by omega))
  rw [e1, e2, v7, c3]
  refine (x_RR_know (v := nw) (l2 := 5) (l3 := V) P1.1 tn v8 (by rw [A1]; exact v9) (i32s (by omega) (by omega)) (i32s (by omega) (by omega)) v11 (Or.inl ⟨rfl, by omega, by omega⟩)).mono (fun M136 k => ?_)
  obtain ⟨k1, k2, k3, k4, ⟨c', k5, -⟩, k6⟩ := k
  have nb2 : ∀ b, (b < q + 1 ∨ q + 1 + 9 < b) → mI M136 b = mI M1 b := fun b hb => k2.2.2.2.2.2.2 b (fun y => by have y' : q + 1 ≤ b ∧ b ≤ q + 1 + 9 := y; omega)
  have fx2 : FI (txS q p O P) M1 M136 := k2.mono (fun b y => Or.inl (by have y' : q + 1 ≤ b ∧ b ≤ q + 1 + 9 := y; omega))
  have P2 := P1.fi k1.1 fx2
  obtain ⟨t0, t1, t2, t3, t4, t5⟩ := P2.2.1
  have p2 : mI M136 p = mI M p := by rw [nb2 p (by first | (have h1 := qp; omega) | omega), e2]
  have q2 : mI M136 q = mI M q := by rw [nb2 q (by omega), e1]
  rw [t3, p2, c3]
  refine ⟨k1.1, t0, P2.1.2.2.2.2.1.1, ⟨by omega, by omega⟩, fun M142 e142 => ?_⟩
  have f142 : FI (fun b => b = p) M136 M142 := by rw [e142]; exact FI.ui rfl
  have q3 : mI M142 q 4 = ((L : Nat) : Int) := by rw [f142.2.2.2.2.2.2 q (by omega), q2]; exact v10
  rw [f142.1, f142.2.2.1, t3, q3]
  refine ⟨P2.1.2.2.2.2.1.1, fun M145 e145 => ?_⟩
  have f145 : FI (fun b => b = p) M142 M145 := by rw [e145]; exact FI.ui rfl
  have ff := f142.trans f145
  have fx3 : FI (txS q p O P) M136 M145 := ff.mono (fun b y => Or.inr (Or.inr (Or.inr (Or.inl y))))
  have o145 : mOk M145 := by rw [e145]; exact mOk_UI (by rw [e142]; exact mOk_UI k1.1 ⟨by omega, by omega⟩) ⟨by omega, by omega⟩
  have nb3 : ∀ b, b ≠ p → mI M145 b = mI M136 b := fun b hb => ff.2.2.2.2.2.2 b hb
  have ip : ∀ i, mI M145 p i = if i = 2 then ((L : Nat) : Int) else if i = 3 then (V : Int) + 1 else mI M p i := fun i => by
    rw [mI_ui p i e145]
    by_cases y2 : i = 2
    · rw [if_pos ⟨rfl, y2⟩, if_pos y2]
    · rw [if_neg (fun u => y2 u.2), if_neg y2, mI_ui p i e142]
      by_cases y3 : i = 3
      · rw [if_pos ⟨rfl, y3⟩, if_pos y3]
      · rw [if_neg (fun u => y3 u.2), if_neg y3, p2]
  have rr : ∀ i, i ≠ 19 → mI M145 (q + 1) i = mI M (q + 1) i := fun i hi => by rw [nb3 _ (by omega), k3 i hi, e3]
  have P3 := P2.fi o145 fx3
  have h145 : TX M145 z q w T A B D N C n p O P K Ab Be Cm (V + 1) F ns sf ef c' cnt L := by
    obtain ⟨-, ⟨c1, c2, c3', c4⟩, hX⟩ := h
    refine ⟨P3, ⟨⟨by rw [ip, if_neg (by decide), if_pos rfl]; omega, by omega⟩, by rw [ip, if_neg (by decide), if_neg (by decide)]; exact c2, ?_, fun j => by rw [nb3 _ (by omega), show q + 6 = q + 1 + 5 by first | rfl | omega, k4 5 (by omega) (by omega), show q + 1 + 5 = q + 6 by first | rfl | omega, e5]; exact c4 j⟩, hX.var (fun y => by rw [rr 3 (by decide)]; exact y) (fun i i2 i3 => by rw [ip, if_neg i2, if_neg i3]) (fun i i6 i15 => by rw [nb3 _ (by omega), nb2 _ (by omega), e6 i i6 i15]) (fun i _ => ⟨by rw [nb3 O (by first | (have h1 := ap.2.2.2.1; have h2 := ap.2.1; omega) | omega), nb2 O (by first | (have h1 := ap.2.2.2.1; have h2 := ap.2.1; omega) | omega), eO], by rw [nb3 P (by first | (have h1 := ap.2.2.2.2.1; have h2 := ap.2.2.1; omega) | omega), nb2 P (by first | (have h1 := ap.2.2.2.2.1; have h2 := ap.2.2.1; omega) | omega), eP]⟩)⟩
    have A3 := (P2.words fx3).1
    unfold TN at k5 ⊢
    rw [A3, nb3 (q + 1) (by omega), nb3 (q + 1 + 6) (by omega), nb3 (q + 1 + 7) (by omega), nb3 (q + 1 + 8) (by omega), nb3 (q + 1 + 9) (by omega)]
    exact k5
  have ct2 : CT M136 (q + 1) p (nms ++ [(nw, 3, mI M q 8, (0, 0, 1))]) := ct1.kn hl (k6 hc72) (nb2 _ (by omega)) (nb2 _ (by omega)) rfl rfl ⟨by simp, by simp⟩ rfl (fun u => absurd u (by simp)) (fun _ j e' hj he => by
    have jc : j < c := by rw [← hl]; exact (List.getElem?_eq_some_iff.mp hj).1
    have s5 : mI M1 (q + 1 + 7) j = 5 := by rw [(ct1.2 j e' hj).2.1, he]; rfl
    obtain ⟨-, u, -⟩ := h.2.1.2.2.1.2.2 j jc
    have s5' : mI M (q + 1 + 7) j = 5 := by rw [← s5, nb1 _ (by omega) (by omega) (by omega)]
    rw [nb1 (q + 1 + 8) (by omega) (by omega) (by omega)]
    clear k6 ct ct1
    rcases u with u | u
    · omega
    · rcases u.1 with v | v <;> rw [s5'] at v <;> exact absurd v (by decide)) (by show ((V : Nat) : Int) = if (3 : Nat) = 3 then _ else _; rw [if_pos rfl, hvc])
  have ct3 : CT M145 (q + 1) p (nms ++ [(nw, 3, mI M q 8, (0, 0, 1))]) := ct2.cg (by rw [nb3 _ (by omega)]) (nb3 _ (by omega)) (nb3 _ (by omega)) (nb3 _ (by omega)) (nb3 _ (by omega)) (nb3 _ (by omega)) (nb3 _ (by omega))
  have nbp : ∀ i, 3 ≤ i → i ≤ 15 → mI M145 (p + i) = mI M1 (p + i) := fun i i3 i15 => by rw [nb3 _ (by omega), nb2 _ (by omega)]
  refine ⟨?_, ⟨ct3, rr, fun i hi => by rw [ip, if_neg hi]⟩, fun i i6 i15 => by rw [nbp i (by omega) i15, e6 i i6 i15], fun j => by rw [nbp 3 (by omega) (by omega), nbp 4 (by omega) (by omega), nbp 5 (by omega) (by omega)]; exact wv j, ⟨by rw [nb3 O (by first | (have h1 := ap.2.2.2.1; have h2 := ap.2.1; omega) | omega), nb2 O (by first | (have h1 := ap.2.2.2.1; have h2 := ap.2.1; omega) | omega), eO], by rw [nb3 P (by first | (have h1 := ap.2.2.2.2.1; have h2 := ap.2.2.1; omega) | omega), nb2 P (by first | (have h1 := ap.2.2.2.2.1; have h2 := ap.2.2.1; omega) | omega), eP]⟩, by rw [ip, if_pos rfl], by rw [ip, if_neg (by decide), if_neg (by decide)]⟩
  exact ⟨Ab, Be, Cm, V + 1, F, ns, sf, ef, c', cnt, L, a, h145, by rw [ip, if_pos rfl], by rw [rr 2 (by decide)]; exact v4, v5, by omega, by rw [rr 5 (by decide)]; exact v6, ((hf.trans (trF.fi fx1)).trans (trF.fi fx2)).trans (trF.fi fx3)⟩
end TXM
end
end
section
section
/-! The class's reader of texts, exactly: settleVar. -/
section TXN
variable {G : mG} {d z q w T A B D N C n p O P K Ab Be Cm V F c sl L cnt a nw k x0 y0 x1 y1 x2 y2 Ab0 Be0 Cm0 : Nat} {M0 M M' M1 M2 Mb : mM} {ns : Nat → Int} {sf ef : Nat → Nat} {W pl nq E : Nat → Int} {Cf : Nat → Int × Int} {cv : Nat → vrs} {sm : Nat → Nat → Prop} {nms : List nm9} {s s' : st9} {ft ff : Int × Int} {tr : Int} {lo hi be : vrs}
/-- the state with one var more -/
def svN (s : st9) (nw : Nat) (t : Int) : st9 := (s.1 ++ [(nw, 3, t, (0, 0, 1))], (s.2.1.1 + 1, s.2.1.2), (0, 0))
theorem x_sv171 {l1 l2 l3 v19 v29 v39 : Int} (ht : ff.1 = 0 → l1 = v19 ∧ l2 = v29 ∧ l3 = v39) (i1 : i32 l1) (i2 : i32 l2) (i3 : i32 l3) (cs : CSm Mb q p s) (h : svS M0 z q w T A B D N C n p O P K Ab0 Be0 Cm0 V F ns sf ef c cnt L sl a nw M) (kk : svK q p O P s.1 Mb M) (hf : FT M (q + 1) ff) (hs1 : ff.1 ≠ 0 → s'.2.2 = ff) (hs2 : ff.1 = 0 → s' = svN s nw (mI Mb q 8)) : h_TR_settleVar_171 G (d + 5) q l1 l2 l3 M (fun M' => itE M0 z q w T A B D N C n p O P K Ab0 Be0 Cm0 M' ∧ itZ q p s' M' ∧ mI M' (q + 1) 2 = ((a : Nat) : Int) ∧ (s'.2.2.1 = 0 → svD p O P V L v19 v29 v39 Mb M')) := by
  obtain ⟨Ab, Be, Cm, h1, tr, hv, -, -⟩ := h
  obtain ⟨t0, t1, t2, t3, t4, t5⟩ := h1.1.2.1
  obtain ⟨k6, ⟨p4, p5, p6, -⟩, ⟨kp3, kp4, kp5, -⟩, ⟨np3, np4, np5, -⟩⟩ := h1.tab
  have c3 := h1.2.1.1.1
  refine k_TR_settleVar_171 h1.1.1.1 i1 i2 i3 ?_
  refine ⟨t0, by rw [t1]; exact h1.1.1.2.1.1, fun y0 => ?_, fun y0 => ?_⟩
  · rw [t1] at y0
    have hV : V < 12 := by
      by_cases u : 12 ≤ V
      · exact absurd y0 (hv.2.2.2.2.2.2.2.2.2.2.2 u)
      · omega
    have e8 : mI M q 8 = mI Mb q 8 := by rw [kk.2.1]
    obtain ⟨ct, -, -, ⟨gp, gO, gP⟩, -, -, g8⟩ := kk
    obtain ⟨-, j3, j7, j12, j11, jl, jv, jr⟩ := cs
    obtain ⟨h9a, h9b, h9c⟩ := ht (by rw [← hf.1]; exact y0)
    have hl : s.1.length = c := by
      have w1 := ct.1
      have w2 := h1.2.1.2.2.1.1
      omega
    have hc : c < 72 := by
      have w1 := h1.2.1.2.1.1
      have w2 := h1.2.1.2.1.2
      rw [gp] at c3 w1
      omega
    have es := hs2 (by rw [← hf.1]; exact y0)
    have fin : ∀ M9, itE M0 z q w T A B D N C n p O P K Ab0 Be0 Cm0 M9 ∧ svY M q p V s.1 (nw, 3, mI M q 8, (0, 0, 1)) M9 ∧ svD p O P V L l1 l2 l3 M M9 → itE M0 z q w T A B D N C n p O P K Ab0 Be0 Cm0 M9 ∧ itZ q p s' M9 ∧ mI M9 (q + 1) 2 = ((a : Nat) : Int) ∧ (s'.2.2.1 = 0 → svD p O P V L v19 v29 v39 Mb M9) := fun M9 g => by
      obtain ⟨g1, ⟨w1, w2, w3⟩, d1, d2, ⟨d3, d4⟩, d5, d6⟩ := g
      rw [e8] at w1
      rw [es]
      refine ⟨g1, ⟨⟨by rw [w2 3 (by decide)]; exact y0, fun u => absurd rfl u⟩, fun _ => ⟨w1, ?_, ?_, ?_, ?_, ?_, ?_, ?_⟩⟩, by rw [w2 2 (by decide)]; exact hv.2.2.2.1, fun _ => ⟨fun i i6 i15 => by rw [d1 i i6 i15, g8 i (by omega) i15], fun j => by rw [(d2 j).1, (d2 j).2.1, (d2 j).2.2, g8 3 (by omega) (by omega), g8 4 (by omega) (by omega), g8 5 (by omega) (by omega), h9a, h9b, h9c]; exact ⟨rfl, rfl, rfl⟩, ⟨by rw [d3, gO], by rw [d4, gP]⟩, d5, by rw [d6, gp]⟩⟩
      · rw [w3 3 (by decide), if_pos rfl]
        show (V : Int) + 1 = ((s.2.1.1 + 1 : Nat) : Int)
        rw [gp] at c3
        omega
      · rw [w3 7 (by decide), if_neg (by decide), gp]; exact j7
      · rw [w3 12 (by decide), if_neg (by decide), gp]; exact j12
      · rw [w3 11 (by decide), if_neg (by decide), gp]; exact j11
      · show (s.1 ++ [(nw, 3, mI Mb q 8, (0, 0, 1))]).length = s.2.1.1 + 1 + s.2.1.2.1
        rw [List.length_append, jl]
        simp
        omega
      · show vcn (s.1 ++ [(nw, 3, mI Mb q 8, (0, 0, 1))]) = s.2.1.1 + 1
        rw [vcn_app, jv]
        rfl
      · show rcn (s.1 ++ [(nw, 3, mI Mb q 8, (0, 0, 1))]) = s.2.1.2.1
        rw [rcn_app, jr]
        rfl
    rw [t3, p4, np3, c3, Int.toNat_natCast]
    refine ⟨k6, kp3, by omega, fun M122 e122 => ?_⟩
    have f122 : FI (fun b => b = p + 3) M M122 := by rw [e122]; exact FI.ui rfl
    rw [f122.1, f122.2.1, f122.2.2.1, t3, p5, np4, f122.2.2.2.2.2.2 p (by omega), c3, Int.toNat_natCast]
    refine ⟨k6, kp4, by omega, fun M127 e127 => ?_⟩
    have f127 : FI (fun b => b = p + 4) M122 M127 := by rw [e127]; exact FI.ui rfl
    rw [f127.1, f127.2.1, f127.2.2.1, f122.1, f122.2.1, f122.2.2.1, t3, p6, np5, f127.2.2.2.2.2.2 p (by omega), f122.2.2.2.2.2.2 p (by omega), c3, Int.toNat_natCast]
    refine ⟨k6, kp5, by omega, fun M132 e132 => ?_⟩
    have f132 : FI (fun b => b = p + 5) M127 M132 := by rw [e132]; exact FI.ui rfl
    have ff : FI (fun b => b = p + 3 ∨ b = p + 4 ∨ b = p + 5) M M132 := ((f122.mono (fun _ y => Or.inl y)).trans (f127.mono (fun _ y => Or.inr (Or.inl y)))).trans (f132.mono (fun _ y => Or.inr (Or.inr y)))
    have wv : ∀ j, mI M132 (p + 3) j = (if j = V then l1 else mI M (p + 3) j) ∧ mI M132 (p + 4) j = (if j = V then l2 else mI M (p + 4) j) ∧ mI M132 (p + 5) j = (if j = V then l3 else mI M (p + 5) j) := fun j => by
      rw [f132.2.2.2.2.2.2 _ (show ¬ p + 3 = p + 5 by first | rfl | omega), f127.2.2.2.2.2.2 _ (show ¬ p + 3 = p + 4 by first | rfl | omega), mI_ui _ j e122, f132.2.2.2.2.2.2 _ (show ¬ p + 4 = p + 5 by first | rfl | omega), mI_ui _ j e127, f122.2.2.2.2.2.2 _ (show ¬ p + 4 = p + 3 by first | rfl | omega), mI_ui _ j e132, f127.2.2.2.2.2.2 _ (show ¬ p + 5 = p + 4 by first | rfl | omega), f122.2.2.2.2.2.2 _ (show ¬ p + 5 = p + 3 by first | rfl | omega)]
      by_cases y : j = V
      · simp [y]
      · simp [y]
    have o132 : mOk M132 := by rw [e132]; exact mOk_UI (by rw [e127]; exact mOk_UI (by rw [e122]; exact mOk_UI h1.1.1.1 i1) i2) i3
    rw [ff.1, ff.2.2.1, t1, t3]
    have hvc : vcn s.1 = V := by
      rw [jv]
      rw [gp] at c3
      omega
    refine ⟨k6, h1.1.1.2.1.1, (x_sv_fin (l1 := l1) (l2 := l2) (l3 := l3) hvc wv h1 hv hV tr o132 ff ct hl hc).mono (fun M136 g => ?_)⟩
    obtain ⟨g1, g2, g3, g4, g5⟩ := g
    refine ⟨g1, g2, g3, g4, fun M142 e142 => ?_⟩
    obtain ⟨g6, g7⟩ := g5 M142 e142
    exact ⟨g6, fun M145 e145 => fin M145 (g7 M145 e145)⟩
  · obtain ⟨v1, v2, v3, v4, v5, v6, -⟩ := hv
    rw [t1] at y0
    have f0 : ff.1 ≠ 0 := by rw [← hf.1]; exact y0
    have es := hs1 f0
    exact ⟨⟨Ab, Be, Cm, V, F, ns, sf, ef, c, cnt, sl, a, h1.any (fun _ => v2), v1, v4, v5, v3, v6, tr⟩, itZ.bad (by rw [es]; exact hf) (by rw [es]; exact f0), v4, fun t => absurd t (by rw [es]; exact f0)⟩
theorem FT.zz {r : Nat} (h : mI M r 3 = 0) : FT M r (0, 0) := ⟨h, fun u => absurd rfl u⟩
/-- the fault of a var's begin -/
def sv2 (i7 : Int) (be : vrs) (l1 l2 p2 : Int) : Int × Int := if i7 = 0 then (0, 0) else fst9 (wh9 be p2) (if l1 ≤ be.2.1 ∧ be.2.1 ≤ l2 then (0, 0) else (9, p2))
/-- the fault of a var's range -/
def sv1 (l1 l2 p1 : Int) : Int × Int := if l1 ≤ l2 ∧ l2 - l1 < 10000 then (0, 0) else (9, p1)
theorem x_sv106 {l1 l2 v19 v29 v39 : Int} (ht : ff.1 = 0 → l1 = v19 ∧ l2 = v29 ∧ (if mI Mb q 7 = 0 then l1 else be.2.1) = v39) (hF : FMx G) (i1 : i32 l1) (i2 : i32 l2) (cs : CSm Mb q p s) (h : svS M0 z q w T A B D N C n p O P K Ab0 Be0 Cm0 V F ns sf ef c cnt L sl a nw M) (kk : svK q p O P s.1 Mb M) (hf : FT M (q + 1) ft) (hle : ft.1 = 0 → l1 ≤ l2) (h2 : ft.1 = 0 → mI Mb q 7 ≠ 0 → rwE W pl cv q p O P sl 2 x2 y2 tr Mb) (hbe : be = vlq W cv pl 0 0 x2 y2) (hff : ff = fst9 ft (sv2 (mI Mb q 7) be l1 l2 (pl x2))) (hs1 : ff.1 ≠ 0 → s'.2.2 = ff) (hs2 : ff.1 = 0 → s' = svN s nw (mI Mb q 8)) : h_TR_settleVar_106 G (d + 5) q l1 l2 M (fun M' => itE M0 z q w T A B D N C n p O P K Ab0 Be0 Cm0 M' ∧ itZ q p s' M' ∧ mI M' (q + 1) 2 = ((a : Nat) : Int) ∧ (s'.2.2.1 = 0 → svD p O P V L v19 v29 v39 Mb M')) := by
  obtain ⟨ok, t0, t1, k4, t2, k5, kA, nA, t6, k22, n22⟩ := h.pl
  have q7 : mI M q 7 = mI Mb q 7 := by rw [kk.2.1]
  refine k_TR_settleVar_106 ok i1 i2 ?_
  refine ⟨t0, by rw [t1]; exact k4, fun y => ⟨fun y2 => ?_, fun _ => ?_⟩, fun y => ?_⟩
  · have ne : ft.1 ≠ 0 := fun u => by
      have := hle u
      omega
    rw [fst9_n ne] at hff
    rw [t1, t6, n22]
    refine ⟨k22, ⟨by omega, by omega⟩, (x_sv_note (i32s (by omega) (by omega)) (by decide) (ok _ _).1 h kk hf).mono (fun M' k => ⟨k.1, x_sv171 (fun u => absurd (by rw [hff] at u; exact u) ne) i1 i2 i1 cs k.2.1 k.2.2.1 ?_ hs1 hs2⟩)⟩
    have u := k.2.2.2
    rw [fst9_n ne] at u
    rw [hff]
    exact u
  · have e7f : ff.1 = 0 → mI Mb q 7 = 0 := fun u => by
      rw [hff] at u
      have f0 := (fst9_1.mp u).1
      rw [t1] at y
      rw [← q7]
      exact y.resolve_left (fun v => v (by rw [hf.1]; exact f0))
    refine x_sv171 (fun u => ⟨(ht u).1, (ht u).2.1, by have a := (ht u).2.2; rw [if_pos (e7f u)] at a; exact a⟩) i1 i2 i1 cs h kk ?_ hs1 hs2
    rw [hff]
    rw [t1] at y
    by_cases f0 : ft.1 = 0
    · have e7 : mI Mb q 7 = 0 := by
        rw [← q7]
        exact y.resolve_left (fun u => u (by rw [hf.1]; exact f0))
      unfold sv2
      rw [if_pos e7]
      exact hf.none
    · rw [fst9_n f0]
      exact hf
  · rw [t1] at y
    have y0 : mI M (q + 1) 3 = 0 := Classical.byContradiction (fun u => y (Or.inl u))
    have y7 : mI Mb q 7 ≠ 0 := fun u => y (Or.inr (by rw [q7]; exact u))
    have f0 : ft.1 = 0 := by rw [← hf.1]; exact y0
    rw [fst9_zr f0] at hff
    unfold sv2 at hff
    rw [if_neg y7] at hff
    have hr2 := h2 f0 y7
    have e22 : mI Mb (q + 22) 2 = pl x2 := by
      obtain ⟨-, -, ⟨-, -, -, -, -, -, u⟩, -⟩ := hr2
      exact u
    have l12 := hle f0
    refine (x_sv_works (k := 2) hF (by omega) h kk (FT.zz y0) hr2).mono (fun x79 M78 k => ?_)
    rw [← hbe] at k
    obtain ⟨i79, o78, h78, k78, wv⟩ := k
    obtain ⟨-, u0, u1, w4, u2, w5, uA, vA, u6, w22, m22⟩ := h78.pl
    refine ⟨i79, o78, fun _ => ⟨u0, by rw [u2]; exact w5, by rw [u2]; exact uA, ⟨by omega, by rw [u2]; exact vA⟩⟩, fun v86 e86 => ?_⟩
    have i86 : i32 v86 := by
      rw [e86]
      split
      · exact i1
      · exact (o78 _ _).1
    rw [u2] at e86
    rcases wv with ⟨z0, z1, z2⟩ | ⟨z0, z1, z2, z3, z4⟩
    · rw [if_pos z0] at e86
      rw [fst9_n z1] at hff
      exact ⟨i86, fun u => absurd u (by omega), fun _ => x_sv171 (fun u => absurd (by rw [hff] at u; exact u) z1) i1 i2 i86 cs h78 k78 (by rw [hff]; exact z2) hs1 hs2⟩
    · rw [if_neg (by omega), z4] at e86
      rw [fst9_zr z1] at hff
      refine ⟨i86, fun u => ⟨u0, by rw [u6]; exact w22, ⟨by omega, by rw [u6, m22]; omega⟩, by rw [u1]; exact w4, ?_⟩, fun u => ?_⟩
      · rw [u1, u6]
        rw [if_neg (by omega)] at hff
        refine (x_sv_note (i32s (by omega) (by omega)) (by decide) (o78 _ _).1 h78 k78 z3).mono (fun M' k => ⟨k.1, x_sv171 (fun u => absurd (by rw [hff] at u; exact u) (by simp)) i1 i2 i86 cs k.2.1 k.2.2.1 ?_ hs1 hs2⟩)
        have v := k.2.2.2
        rw [fst9_zr rfl, k78.2.2.1.2, e22] at v
        rw [hff]
        exact v
      · rw [if_pos (by omega)] at hff
        exact x_sv171 (fun u => ⟨(ht u).1, (ht u).2.1, by have a := (ht u).2.2; rw [if_neg y7] at a; rw [e86]; exact a⟩) i1 i2 i86 cs h78 k78 (by rw [hff]; exact z3) hs1 hs2
theorem x_sv76 {l1 l2 v19 v29 v39 : Int} (ht : ff.1 = 0 → l1 = v19 ∧ l2 = v29 ∧ (if mI Mb q 7 = 0 then l1 else be.2.1) = v39) (hF : FMx G) (i1 : i32 l1) (i2 : i32 l2) (cs : CSm Mb q p s) (h : svS M0 z q w T A B D N C n p O P K Ab0 Be0 Cm0 V F ns sf ef c cnt L sl a nw M) (kk : svK q p O P s.1 Mb M) (hf : FT M (q + 1) ft) (hb : ft.1 = 0 → l1.natAbs ≤ 999999999 ∧ l2.natAbs ≤ 999999999) (h1 : ft.1 = 0 → mI Mb (q + 22) 1 = pl x1) (h2 : ft.1 = 0 → mI Mb q 7 ≠ 0 → rwE W pl cv q p O P sl 2 x2 y2 tr Mb) (hbe : be = vlq W cv pl 0 0 x2 y2) (hff : ff = fst9 (fst9 ft (sv1 l1 l2 (pl x1))) (sv2 (mI Mb q 7) be l1 l2 (pl x2))) (hs1 : ff.1 ≠ 0 → s'.2.2 = ff) (hs2 : ff.1 = 0 → s' = svN s nw (mI Mb q 8)) : h_TR_settleVar_76 G (d + 5) q l1 l2 M (fun M' => itE M0 z q w T A B D N C n p O P K Ab0 Be0 Cm0 M' ∧ itZ q p s' M' ∧ mI M' (q + 1) 2 = ((a : Nat) : Int) ∧ (s'.2.2.1 = 0 → svD p O P V L v19 v29 v39 Mb M')) := by
  obtain ⟨ok, t0, t1, k4, t2, k5, kA, nA, t6, k22, n22⟩ := h.pl
  have ew : ft.1 = 0 → w32 (l2 - l1) = l2 - l1 := fun u => by
    obtain ⟨b1, b2⟩ := hb u
    exact w32_id ⟨by omega, by omega⟩
  have v0 : ∀ {f : Int × Int}, f = fst9 ft (sv1 l1 l2 (pl x1)) → f.1 = 0 → ft.1 = 0 ∧ l1 ≤ l2 := fun {f} e u => by
    rw [e] at u
    obtain ⟨u1, u2⟩ := fst9_1.mp u
    refine ⟨u1, Classical.byContradiction (fun v => ?_)⟩
    unfold sv1 at u2
    rw [if_neg (fun t => v t.1)] at u2
    exact absurd u2 (by simp)
  refine k_TR_settleVar_76w ok i1 i2 ⟨trivial, fun y => ?_, fun y => ?_⟩
  · rw [t1, t6, n22]
    refine ⟨t0, k22, ⟨by omega, by omega⟩, k4, (x_sv_note (i32s (by omega) (by omega)) (by decide) (ok _ _).1 h kk hf).mono (fun M' k => ⟨k.1, x_sv106 (ft := fst9 ft (sv1 l1 l2 (pl x1))) ht hF i1 i2 cs k.2.1 k.2.2.1 ?_ (fun u => (v0 rfl u).2) (fun u => h2 (v0 rfl u).1) hbe hff hs1 hs2⟩)⟩
    have v := k.2.2.2
    by_cases f0 : ft.1 = 0
    · rw [ew f0] at y
      rw [kk.2.2.1.2, h1 f0] at v
      unfold sv1
      rw [if_neg (by omega)]
      exact v
    · rw [fst9_n f0] at v ⊢
      exact v
  · refine x_sv106 (ft := fst9 ft (sv1 l1 l2 (pl x1))) ht hF i1 i2 cs h kk ?_ (fun u => (v0 rfl u).2) (fun u => h2 (v0 rfl u).1) hbe hff hs1 hs2
    by_cases f0 : ft.1 = 0
    · rw [ew f0] at y
      unfold sv1
      rw [if_pos (by omega)]
      exact hf.none
    · rw [fst9_n f0]
      exact hf
/-- the faults of a var's values -/
def sv9 (t8 i7 : Int) (lo hi be : vrs) (p0 p1 p2 : Int) : Int × Int := fst9 (if t8 = 1 then (0, 0) else fst9 (fst9 (wh9 lo p0) (wh9 hi p1)) (if lo.2.1 ≤ hi.2.1 ∧ hi.2.1 - lo.2.1 < 10000 then (0, 0) else (9, p1))) (if i7 = 0 then (0, 0) else (if t8 = 1 then wh9 be p2 else fst9 (wh9 be p2) (if lo.2.1 ≤ be.2.1 ∧ be.2.1 ≤ hi.2.1 then (0, 0) else (9, p2))))
theorem rwE.p22 {k x y : Nat} (h : rwE W pl cv q p O P sl k x y tr M) : mI M (q + 22) k = pl x := by
  obtain ⟨-, -, ⟨-, -, -, -, -, -, u⟩, -⟩ := h
  exact u
theorem wh9_z {v : vrs} {pp : Int} (h : (wh9 v pp).1 = 0) : v.1 = 0 ∧ v.2.2 = 1 := by
  unfold wh9 at h
  by_cases c1 : v.1 = 0
  · rw [if_neg (fun u => u c1)] at h
    refine ⟨c1, Classical.byContradiction (fun u => ?_)⟩
    rw [if_pos u] at h
    exact absurd h (by simp)
  · rw [if_pos c1] at h
    exact absurd h c1
theorem x_TR_settleVar (hF : FMx G) (h : TX M z q w T A B D N C n p O P K Ab Be Cm V F ns sf ef c cnt L) (hv : vrS M q A n p L sl a nw V) (h8 : mI M q 8 = 0 → rvR M q O P F ns L sl 0 ∧ rvR M q O P F ns L sl 1) (h7 : mI M q 7 ≠ 0 → rvR M q O P F ns L sl 2) (hf : FT M (q + 1) ft) (cs : ft.1 = 0 → CSm M q p s) (r01 : ft.1 = 0 → mI M q 8 = 0 → rwE W pl cv q p O P sl 0 x0 y0 0 M ∧ rwE W pl cv q p O P sl 1 x1 y1 0 M) (r2 : ft.1 = 0 → mI M q 7 ≠ 0 → rwE W pl cv q p O P sl 2 x2 y2 (mI M q 8) M) (hlo : lo = vlq W cv pl 0 0 x0 y0) (hhi : hi = vlq W cv pl 0 0 x1 y1) (hbe : be = vlq W cv pl 0 0 x2 y2) (hs0 : ft.1 ≠ 0 → s'.2.2 = ft) (hs1 : ft.1 = 0 → (sv9 (mI M q 8) (mI M q 7) lo hi be (pl x0) (pl x1) (pl x2)).1 ≠ 0 → s'.2.2 = sv9 (mI M q 8) (mI M q 7) lo hi be (pl x0) (pl x1) (pl x2)) (hs2 : ft.1 = 0 → (sv9 (mI M q 8) (mI M q 7) lo hi be (pl x0) (pl x1) (pl x2)).1 = 0 → s' = svN s nw (mI M q 8)) : Cv G y_TR_settleVar (d + 6) [vr q] M (fun M' => itE M z q w T A B D N C n p O P K Ab Be Cm M' ∧ itZ q p s' M' ∧ mI M' (q + 1) 2 = ((a : Nat) : Int) ∧ (s'.2.2.1 = 0 → svD p O P V L (if mI M q 8 = 1 then 0 else lo.2.1) (if mI M q 8 = 1 then 1 else hi.2.1) (if mI M q 7 = 0 then (if mI M q 8 = 1 then 0 else lo.2.1) else be.2.1) M M')) := by
  have hs : svS M z q w T A B D N C n p O P K Ab Be Cm V F ns sf ef c cnt L sl a nw M := ⟨Ab, Be, Cm, h, trF.refl, hv, h8, h7⟩
  obtain ⟨ok, t0, t1, k4, t2, k5, kA, nA, t6, k22, n22⟩ := hs.pl
  have h801 : mI M q 8 = 0 ∨ mI M q 8 = 1 := hv.2.2.2.2.2.2.2.2.2.2.1
  by_cases f0 : ft.1 = 0
  · have cs := cs f0
    have r01 := r01 f0
    have r2 := r2 f0
    have hs1 := hs1 f0
    have hs2 := hs2 f0
    have f3 : mI M (q + 1) 3 = 0 := by rw [hf.1]; exact f0
    have kk : svK q p O P s.1 M M := ⟨cs.1, rfl, ⟨rfl, rfl⟩, ⟨rfl, rfl, rfl⟩, rfl, rfl, fun _ _ _ => rfl⟩
    refine k_TR_settleVar ok ?_
    refine ⟨t0, by rw [t1]; exact k4, fun y => ?_, fun y => ?_⟩
    rotate_left
    · rw [t1] at y
      have t8 : mI M q 8 = 1 := h801.resolve_left (fun u => y ⟨f3, u⟩)
      have e9 : sv9 (mI M q 8) (mI M q 7) lo hi be (pl x0) (pl x1) (pl x2) = fst9 (0, 0) (sv2 (mI M q 7) be 0 1 (pl x2)) := by
        unfold sv9 sv2
        rw [if_pos t8, if_pos t8]
        by_cases i7 : mI M q 7 = 0
        · rw [if_pos i7, if_pos i7]
        · rw [if_neg i7, if_neg i7, fst9_0, fst9_0]
          by_cases wz : (wh9 be (pl x2)).1 = 0
          · have g := (r2 i7).gd
            rw [← hbe, t8] at g
            obtain ⟨z1, z2⟩ := wh9_z wz
            have g2 := (g.resolve_right (fun u => by omega)).2.2.2.2 rfl
            have ew : wh9 be (pl x2) = (0, 0) := by
              unfold wh9
              rw [if_neg (fun u => u z1), if_neg (fun u => u z2)]
            rw [ew, if_pos (by omega), fst9_0]
          · rw [fst9_n wz]
      exact x_sv106 (ft := (0, 0)) (x2 := x2) (y2 := y2) (fun _ => by rw [if_pos t8, if_pos t8]; exact ⟨rfl, rfl, rfl⟩) hF (i32s (by omega) (by omega)) (i32s (by omega) (by omega)) cs hs kk (FT.zz f3) (fun _ => by omega) (fun _ u => r2 u) hbe e9 hs1 hs2
    rw [t1] at y
    obtain ⟨r0, r1⟩ := r01 y.2
    have g0 := r0.gd
    have g1 := r1.gd
    rw [← hlo] at g0
    rw [← hhi] at g1
    have p1 := r1.p22
    have e9 : sv9 (mI M q 8) (mI M q 7) lo hi be (pl x0) (pl x1) (pl x2) = fst9 (fst9 (fst9 (wh9 lo (pl x0)) (wh9 hi (pl x1))) (sv1 lo.2.1 hi.2.1 (pl x1))) (sv2 (mI M q 7) be lo.2.1 hi.2.1 (pl x2)) := by
      unfold sv9 sv1 sv2
      rw [y.2, if_neg (show ¬ (0:Int) = 1 by decide), if_neg (show ¬ (0:Int) = 1 by decide)]
    generalize eF : sv9 (mI M q 8) (mI M q 7) lo hi be (pl x0) (pl x1) (pl x2) = ff at hs1 hs2 e9
    refine (x_sv_works (k := 0) hF (by omega) hs kk (FT.zz f3) r0).mono (fun x8 M7 k => ?_)
    rw [← hlo] at k
    obtain ⟨i8, o7, h7', k7, wv⟩ := k
    obtain ⟨-, u0, u1, w4, u2, w5, uA, vA, u6, w22, m22⟩ := h7'.pl
    refine ⟨i8, o7, fun _ => ⟨u0, by rw [u2]; exact w5, by rw [u2]; exact uA, ⟨by omega, by rw [u2]; exact vA⟩⟩, fun v15 e15 => ?_⟩
    have i15 : i32 v15 := by
      rw [e15]
      split
      · exact i32s (by omega) (by omega)
      · exact (o7 _ _).1
    rw [u2] at e15
    rcases wv with ⟨z0, z1, z2⟩ | ⟨z0, z1, z2, z3, z4⟩
    · rw [fst9_n z1, fst9_n z1, fst9_n z1] at e9
      refine ⟨u0, by rw [u1]; exact w4, fun y3 => ?_, fun _ => ?_⟩
      · rw [u1] at y3
        exact absurd (by rw [← z2.1]; exact y3) z1
      · exact x_sv76 (ft := wh9 lo (pl x0)) (x1 := x1) (x2 := x2) (y2 := y2) (tr := mI M q 8) (fun u => absurd (by rw [e9] at u; exact u) z1) hF i15 i15 cs h7' k7 z2 (fun u => absurd u z1) (fun u => absurd u z1) (fun u => absurd u z1) hbe (by rw [fst9_n z1, fst9_n z1]; exact e9) hs1 hs2
    · rw [if_neg (by omega), z4] at e15
      have ew : wh9 lo (pl x0) = (0, 0) := by
        obtain ⟨w1, w2⟩ := wh9_z z1
        unfold wh9
        rw [if_neg (fun u => u w1), if_neg (fun u => u w2)]
      rw [ew, fst9_0] at e9
      have b0 : v15.natAbs ≤ 999999999 := by rw [e15]; exact (g0.un z2).1
      refine ⟨u0, by rw [u1]; exact w4, fun y3 => ?_, fun y3 => ?_⟩
      rotate_left
      · rw [u1] at y3
        exact absurd z3.1 y3
      refine (x_sv_works (k := 1) hF (by omega) h7' k7 z3 r1).mono (fun x23 M22 k => ?_)
      rw [← hhi] at k
      obtain ⟨i23, o22, h22, k22', wv⟩ := k
      obtain ⟨-, a0, a1, b4, a2, b5, aA, bA, a6, b22, c22⟩ := h22.pl
      rcases wv with ⟨s0, s1, s2⟩ | ⟨s0, s1, s2, s3, s4⟩
      · rw [fst9_n s1, fst9_n s1] at e9
        exact ⟨i23, o22, fun _ => x_sv76 (ft := wh9 hi (pl x1)) (x1 := x1) (x2 := x2) (y2 := y2) (tr := mI M q 8) (fun u => absurd (by rw [e9] at u; exact u) s1) hF i15 i15 cs h22 k22' s2 (fun u => absurd u s1) (fun u => absurd u s1) (fun u => absurd u s1) hbe (by rw [fst9_n s1, fst9_n s1]; exact e9) hs1 hs2, fun u => absurd s0 u⟩
      · have eh : wh9 hi (pl x1) = (0, 0) := by
          obtain ⟨w1, w2⟩ := wh9_z s1
          unfold wh9
          rw [if_neg (fun u => u w1), if_neg (fun u => u w2)]
        rw [eh] at e9
        refine ⟨i23, o22, fun u => absurd u (by omega), fun _ => ⟨a0, by rw [a2]; exact b5, by rw [a2]; exact aA, ⟨by omega, by rw [a2]; exact bA⟩, ?_⟩⟩
        rw [a2]
        refine x_sv76 (ft := (0, 0)) (x1 := x1) (x2 := x2) (y2 := y2) (tr := mI M q 8) (fun _ => by rw [if_neg (show ¬ mI M q 8 = 1 by first | rfl | omega), if_neg (show ¬ mI M q 8 = 1 by first | rfl | omega), e15, s4]; exact ⟨rfl, rfl, rfl⟩) hF i15 (o22 _ _).1 cs h22 k22' s3 (fun _ => ⟨b0, by rw [s4]; exact (g1.un s2).1⟩) (fun _ => p1) (fun _ u => r2 u) hbe ?_ hs1 hs2
        rw [s4, e15]
        exact e9
  · have f3 : mI M (q + 1) 3 ≠ 0 := by rw [hf.1]; exact f0
    have es := hs0 f0
    obtain ⟨v1, v2, v3, v4, v5, v6, -⟩ := hv
    have fin : itE M z q w T A B D N C n p O P K Ab Be Cm M ∧ itZ q p s' M ∧ mI M (q + 1) 2 = ((a : Nat) : Int) ∧ (s'.2.2.1 = 0 → svD p O P V L (if mI M q 8 = 1 then 0 else lo.2.1) (if mI M q 8 = 1 then 1 else hi.2.1) (if mI M q 7 = 0 then (if mI M q 8 = 1 then 0 else lo.2.1) else be.2.1) M M) := ⟨⟨Ab, Be, Cm, V, F, ns, sf, ef, c, cnt, sl, a, h.any (fun _ => v2), v1, v4, v5, v3, v6, trF.refl⟩, itZ.bad (by rw [es]; exact hf) (by rw [es]; exact f0), v4, fun t => absurd t (by rw [es]; exact f0)⟩
    refine k_TR_settleVar ok ⟨t0, by rw [t1]; exact k4, fun y => absurd (by rw [t1] at y; exact y.1) f3, fun _ => ?_⟩
    refine k_TR_settleVar_106 ok (i32s (by omega) (by omega)) (i32s (by omega) (by omega)) ⟨t0, by rw [t1]; exact k4, fun _ => ⟨fun u => absurd u (by omega), fun _ => ?_⟩, fun y => absurd (Or.inl (by rw [t1]; exact f3)) y⟩
    exact k_TR_settleVar_171 ok (i32s (by omega) (by omega)) (i32s (by omega) (by omega)) (i32s (by omega) (by omega)) ⟨t0, by rw [t1]; exact k4, fun y => absurd (by rw [t1] at y; exact y) f3, fun _ => fin⟩
end TXN
end
section
/-! The class's reader of texts, exactly: sets: bits of the vars that are set, names, one step of the pure sets. -/
theorem i_or9 {l m : Nat} (hl : l < 2147483648) (hm : m < 2147483648) : orI (l : Int) (m : Int) = ((l ||| m : Nat) : Int) := by
  unfold orI
  show (BitVec.ofInt 32 (l : Int) ||| BitVec.ofInt 32 (m : Int)).toInt = _
  have hb : ∀ x : Nat, x < 2147483648 → (BitVec.ofInt 32 (x : Int)).toNat = x := fun x hx => by
    rw [BitVec.toNat_ofInt]
    show ((x : Int) % 4294967296).toNat = x
    omega
  have hx : l ||| m < 2147483648 := Nat.or_lt_two_pow (n := 31) hl hm
  rw [BitVec.toInt_eq_toNat_cond, BitVec.toNat_or, hb l hl, hb m hm, if_pos (by omega)]
/-- the bit u of l -/
def sbt (l u : Nat) : Prop := l / 2 ^ u % 2 = 1
theorem sb_or {l u v : Nat} : sbt (l ||| 2 ^ v) u ↔ (sbt l u ∨ v = u) := by
  have h := Nat.testBit_or l (2 ^ v) u
  rw [Nat.testBit_eq_decide_div_mod_eq, Nat.testBit_eq_decide_div_mod_eq, Nat.testBit_two_pow, ← Bool.decide_or] at h
  exact decide_eq_decide.mp h
theorem sb_lt {l v : Nat} (hl : l < 4096) (hv : v < 12) : l ||| 2 ^ v < 4096 := Nat.or_lt_two_pow (n := 12) hl (Nat.pow_lt_pow_right (by decide) hv)
theorem sb_shl {v : Nat} (hv : v < 12) : shlI 1 (v : Int) = ((2 ^ v : Nat) : Int) := by
  have h : ∀ v, v < 12 → shlI 1 ((v : Nat) : Int) = ((2 ^ v : Nat) : Int) := by decide
  exact h v hv
theorem sb_and {l v : Nat} (hl : l < 4096) (hv : v < 12) : andI (shrI (l : Int) (v : Int)) 1 = 0 ↔ ¬ sbt l v := by
  rw [i_shr v (by omega) ⟨by omega, by omega⟩, i_and 1 (by decide) 1 (by decide) ⟨by decide, by decide⟩]
  have e : (l : Int) / 2 ^ v % 2 ^ 1 = ((l / 2 ^ v % 2 : Nat) : Int) := by norm_cast
  rw [e]
  unfold sbt
  omega
section TXO
variable {G : mG} {d z r q w T A B D N C n p O P K c V F k f i a : Nat} {M M' : mM} {ns : Nat → Int} {W pl nq : Nat → Int} {sm : Nat → Nat → Prop} {nms : List nm9} {seen : List Nat} {e : nm9}
theorem sefc_none (h : fnd9 sm nms (k + 1) = none) : sef W pl sm N nms (f + 1) k seen = ((2, pl (k + 1)), k) := by
  unfold sef
  rw [h]
theorem sefc_some (h : fnd9 sm nms (k + 1) = some e) : sef W pl sm N nms (f + 1) k seen = if e.2.1 ≠ 3 then ((2, pl (k + 1)), k) else if e.1 ∈ seen then ((4, pl (k + 1)), k) else if (rf9 W pl sm nms 0 e.2.2.1 (k + 4) (cpq W (k + 4) N)).1 ≠ 0 then (rf9 W pl sm nms 0 e.2.2.1 (k + 4) (cpq W (k + 4) N), k) else if W (cpq W (k + 4) N + 1) = 29 then sef W pl sm N nms f (cpq W (k + 4) N + 2) (e.1 :: seen) else ((0, 0), cpq W (k + 4) N + 1) := by
  conv => lhs; unfold sef
  rw [h]
/-- the first name of its word -/
def fst1 (nms : List nm9) (i : Nat) (e : nm9) : Prop := nms[i]? = some e ∧ ∀ (j : Nat) (e' : nm9), j < i → nms[j]? = some e' → e'.1 ≠ e.1
/-- which vars have been set -/
def snq (M : mM) (r : Nat) (nms : List nm9) (l : Nat) (seen : List Nat) : Prop := ∀ (i : Nat) (e : nm9), fst1 nms i e → e.2.1 = 3 → (sbt l (mI M (r + 8) i).toNat ↔ e.1 ∈ seen)
theorem snq.nil : snq M r nms 0 [] := fun i e _ _ => by
  unfold sbt
  simp
theorem snq.add {l v : Nat} (h : snq M r nms l seen) (ct : CT M r p nms) (tn : TN M r A n V F ns c) (hl : nms.length = c) (h1 : fst1 nms i e) (h3 : e.2.1 = 3) (hv : mI M (r + 8) i = (v : Int)) : snq M r nms (l ||| 2 ^ v) (e.1 :: seen) := fun j e' j1 j3 => by
  have jc : j < c := by rw [← hl]; exact (List.getElem?_eq_some_iff.mp j1.1).1
  have j0 : 0 ≤ mI M (r + 8) j := by
    obtain ⟨-, u, -⟩ := tn.2.2 j jc
    rcases u with u | u
    · exact u.2.1
    · exact u.2.1
  rw [sb_or, h j e' j1 j3, List.mem_cons]
  have key : v = (mI M (r + 8) j).toNat ↔ e'.1 = e.1 := by
    refine ⟨fun u => ?_, fun u => ?_⟩
    · have : j = i := (ct.2 i e h1.1).2.2.2.2.2.1 h3 j e' j1.1 j3 (by rw [hv, u, Int.toNat_of_nonneg j0])
      subst this
      have ee := j1.1.symm.trans h1.1
      rw [Option.some.inj ee]
    · have : j = i := by
        rcases Nat.lt_trichotomy j i with y | y | y
        · exact absurd u (h1.2 j e' y j1.1)
        · exact y
        · exact absurd u.symm (j1.2 i e y h1.1)
      rw [this, hv, Int.toNat_natCast]
  rw [key]
  exact Or.comm
/-- what find finds is the first of its word -/
theorem fm_fst {v : Nat} (ct : CT M r p nms) (h : fm M r T B D nms.length v i) (z : nms[i]? = some e) : fst1 nms i e := by
  refine ⟨z, fun j e' hj z' u => ?_⟩
  refine h.2.2 j hj ?_
  rw [(ct.2 j e' z').1, u, ← (ct.2 i e z).1]
  exact h.2.1
/-- varOf, exactly -/
theorem x_RR_varOf {v : Nat} (h : RB M z r w T A B D N C n p O P K) (nk : NK M r A n V F ns c) (hv : v < n) (h2 : mI M A v = 2) (h6 : mI M r 6 = 0) : Ci G y_RR_varOf (d + 2) [vr r, vi v] M (fun x M' => M' = M ∧ (x = -1 ∨ (0 ≤ x ∧ x < V)) ∧ ((nmn M r T B D c v ∧ x = -1) ∨ ∃ i : Nat, fm M r T B D c v i ∧ x = if mI M (r + 7) i = 5 then mI M (r + 8) i else -1)) := by
  obtain ⟨-, ⟨k0, ⟨-, -, -, -, -, -, q16, q17, q18⟩, ⟨-, -, -, -, -, -, kk7, kk8, kk9⟩, ⟨-, -, -, -, -, -, nn7, nn8, nn9⟩⟩, -⟩ := id h
  have hn := h.2.2.2.1.2.2.1
  have hN := h.2.2.2.1.1.2.2.2.2.2.2.1
  refine k_RR_varOf h.1 (i32s (by omega) (by omega)) ⟨k0, (x_RR_find h nk hv h2).mono (fun x3 M2 q => ?_)⟩
  obtain ⟨e2, hx⟩ := q
  subst e2
  rw [q16, q17, nn7, nn8]
  have hc := nk.2.1
  have hx0 : x3 = -1 ∨ ∃ i : Nat, x3 = i ∧ i < c := hx.imp (fun u => u.1) (fun ⟨i, u, v⟩ => ⟨i, u, v.1⟩)
  have hi3 : i32 x3 := by
    clear hx
    rcases hx0 with u | ⟨i, u, hi⟩ <;> rw [u] <;> exact i32s (by omega) (by omega)
  have rng : x3 ≠ -1 → (0 : Int) ≤ x3 ∧ x3 < ((72 : Nat) : Int) := fun y => by
    clear hx
    rcases hx0 with u | ⟨i, u, hi⟩
    · exact absurd u y
    · omega
  refine ⟨hi3, h.1, fun y => ⟨k0, kk7, rng y, fun _ => ⟨kk8, rng y⟩⟩, fun v12 e12 => ⟨rfl, ?_, ?_⟩⟩
  · clear hx0
    rcases hx with ⟨u, -⟩ | ⟨i, u, hi⟩
    · rw [if_pos (Or.inl u)] at e12
      exact Or.inl e12
    · rw [u, Int.toNat_natCast] at e12
      by_cases y : mI M2 (r + 7) i = 5
      · rw [if_neg (fun q => q.elim (fun v => by omega) (fun v => v y))] at e12
        rcases (nk.2.2 i hi.1).2.1 with ⟨-, v1, v2⟩ | ⟨v0, -⟩ | ⟨v0, -⟩
        · rw [e12]
          exact Or.inr ⟨v1, v2 h6⟩
        · exact absurd y (by omega)
        · exact absurd y (by omega)
      · rw [if_pos (Or.inr y)] at e12
        exact Or.inl e12
  · clear hx0
    rcases hx with ⟨u, u2⟩ | ⟨i, u, hi⟩
    · rw [if_pos (Or.inl u)] at e12
      exact Or.inl ⟨u2, e12⟩
    · rw [u, Int.toNat_natCast] at e12
      refine Or.inr ⟨i, hi, ?_⟩
      by_cases y : mI M2 (r + 7) i = 5
      · rw [if_neg (fun q => q.elim (fun v => by omega) (fun v => v y))] at e12
        rw [if_pos y]
        exact e12
      · rw [if_pos (Or.inr y)] at e12
        rw [if_neg y]
        exact e12
theorem x_RR_kindOf {v : Nat} (h : RB M z r w T A B D N C n p O P K) (nk : NK M r A n V F ns c) (hv : v < n) (h2 : mI M A v = 2) : Ci G y_RR_kindOf (d + 2) [vr r, vi v] M (fun x M' => M' = M ∧ (0 ≤ x ∧ x ≤ 2) ∧ ((nmn M r T B D c v ∧ x = 0) ∨ ∃ i : Nat, fm M r T B D c v i ∧ x = if mI M (r + 9) i = 0 then 1 else 2)) := by
  obtain ⟨-, ⟨k0, ⟨-, -, -, -, -, -, q16, q17, q18⟩, ⟨-, -, -, -, -, -, kk7, kk8, kk9⟩, ⟨-, -, -, -, -, -, nn7, nn8, nn9⟩⟩, -⟩ := id h
  have hn := h.2.2.2.1.2.2.1
  have hN := h.2.2.2.1.1.2.2.2.2.2.2.1
  refine k_RR_kindOf h.1 (i32s (by omega) (by omega)) ⟨k0, (x_RR_find h nk hv h2).mono (fun x3 M2 q => ?_)⟩
  obtain ⟨e2, hx⟩ := q
  subst e2
  rw [q18, nn9]
  have hc := nk.2.1
  have hx0 : x3 = -1 ∨ ∃ i : Nat, x3 = i ∧ i < c := hx.imp (fun u => u.1) (fun ⟨i, u, v⟩ => ⟨i, u, v.1⟩)
  have hi3 : i32 x3 := by
    clear hx
    rcases hx0 with u | ⟨i, u, hi⟩ <;> rw [u] <;> exact i32s (by omega) (by omega)
  refine ⟨hi3, h.1, fun y => ⟨k0, kk9, ?_⟩, fun v12 e12 => ⟨rfl, ?_, ?_⟩⟩
  · clear hx
    rcases hx0 with u | ⟨i, u, hi⟩
    · exact absurd u y
    · omega
  · clear hx hx0
    rw [e12]
    (repeat' split) <;> omega
  · clear hx0
    rcases hx with ⟨u, u2⟩ | ⟨i, u, hi⟩
    · rw [if_pos u] at e12
      exact Or.inl ⟨u2, e12⟩
    · rw [u, if_neg (by omega), Int.toNat_natCast] at e12
      exact Or.inr ⟨i, hi, e12⟩
end TXO
end
end
section
section
/-! The class's reader of texts: where the orders of sets, chances and guards lie. -/
/-- a set is sound -/
def sOk (W pl : Nat → Int) (sm : Nat → Nat → Prop) (n V : Nat) (nms : List nm9) (q' : Nat × Nat × Nat × Nat) : Prop := Eo W 6 q'.2.1 q'.2.2.1 ∧ q'.2.2.1 ≤ n ∧ (fl W (E9 sm nms 0) pl 0 q'.2.1 q'.2.2.1).1 = 0 ∧ q'.1 < V ∧ 0 ≤ pl q'.2.2.2 ∧ pl q'.2.2.2 ≤ 16384
/-- the sets of a branch whose first word behind ':' is k0 -/
noncomputable def sll (W : Nat → Int) (sm : Nat → Nat → Prop) (Nn : Nat) (nms : List nm9) (k0 : Nat) : List (Nat × Nat × Nat × Nat) := if W k0 = 10 then [] else sel9 W sm Nn nms Nn k0
/-- i sets have been read, the next begins at the word k: their orders lie from S0 on -/
def seL (W pl nq : Nat → Int) (sm : Nat → Nat → Prop) (Nn n V : Nat) (Mc : mM) (q p O P c k0 S0 : Nat) (nms : List nm9) (i k : Nat) (M : mM) : Prop := CT Mc (q + 1) p nms → nms.length = c → mI M (q + 1) 3 = 0 → ∃ (l : List (Nat × Nat × Nat × Nat)) (s9 : Nat), mI M p 2 = ((s9 : Nat) : Int) ∧ sel9 W sm Nn nms Nn k0 = l ++ sel9 W sm Nn nms (Nn - i) k ∧ Scw (LfC W nq sm n nms) W pl (mI M O) (mI M P) l S0 s9 ∧ ∀ q', q' ∈ l → sOk W pl sm n V nms q'
/-- all sets have been read -/
def seM (W pl nq : Nat → Int) (sm : Nat → Nat → Prop) (Nn n V : Nat) (Mc : mM) (q p O P c k0 S0 : Nat) (nms : List nm9) (M : mM) : Prop := CT Mc (q + 1) p nms → nms.length = c → mI M (q + 1) 3 = 0 → ∃ s9 : Nat, mI M p 2 = ((s9 : Nat) : Int) ∧ Scw (LfC W nq sm n nms) W pl (mI M O) (mI M P) (sll W sm Nn nms k0) S0 s9 ∧ ∀ q', q' ∈ sll W sm Nn nms k0 → sOk W pl sm n V nms q'
/-- and their end is put behind them -/
def seE (W pl nq : Nat → Int) (sm : Nat → Nat → Prop) (Nn n V : Nat) (Mc : mM) (q p O P c k0 S0 : Nat) (nms : List nm9) (M : mM) : Prop := CT Mc (q + 1) p nms → nms.length = c → mI M (q + 1) 3 = 0 → ∃ s9 : Nat, mI M p 2 = ((s9 + 1 : Nat) : Int) ∧ mI M O s9 = 0 ∧ Scw (LfC W nq sm n nms) W pl (mI M O) (mI M P) (sll W sm Nn nms k0) S0 s9 ∧ ∀ q', q' ∈ sll W sm Nn nms k0 → sOk W pl sm n V nms q'
/-- a chance's orders and place are put down -/
def chD (W pl nq : Nat → Int) (sm : Nat → Nat → Prop) (Cf : Nat → Int × Int) (q p O P n c L ix a j : Nat) (nms : List nm9) (M M' : mM) : Prop := (mI M' (q + 1) 3 = 0 → (∀ i, 3 ≤ i → i ≤ 12 → mI M' (p + i) = mI M (p + i)) ∧ mI M' p 11 = mI M p 11 ∧ ∃ v e : Nat, mI M (p + 12) (ix + 1) = ((v : Nat) : Int) ∧ (∀ t, mI M' (p + 13) t = (if t = v then pl a else mI M (p + 13) t) ∧ mI M' (p + 14) t = (if t = v then ((L : Nat) : Int) else mI M (p + 14) t) ∧ mI M' (p + 15) t = (if t = v then ((e + 1 : Nat) : Int) else mI M (p + 15) t)) ∧ mI M' p 2 = ((e + 1 : Nat) : Int) ∧ mI M' O e = 0 ∧ Cd W Cf pl (mI M' O) (mI M' P) 0 0 0 a j L e ∧ cdE O P L M M') ∧ (CT M (q + 1) p nms → nms.length = c → LfC W nq sm n nms Cf)
section TXO1
variable {p n c r : Nat} {M : mM} {W nq E : Nat → Int} {Cf : Nat → Int × Int} {sm : Nat → Nat → Prop} {nms : List nm9}
/-- the orders of words, where all names may stand -/
theorem ECq.lf (ec : ECq M r p n W nq sm nms c 0 E Cf) (ct : CT M r p nms) (hl : nms.length = c) (hk : ∀ i, i < c → mI M (r + 9) i = 0 ∨ mI M (r + 9) i = 1) : LfC W nq sm n nms Cf := by
  obtain ⟨big, ec⟩ := ec
  obtain ⟨eE, ec⟩ := ec ct hl
  rw [if_pos rfl] at eE
  refine ⟨big, fun k kn => ?_⟩
  obtain ⟨c2, c12, c13, c1⟩ := ec k kn
  refine ⟨c2, c12, c13, fun h1 l1 e l2 he hs hno => ?_⟩
  have gl : nms[l1.length]? = some e := by
    rw [he, List.getElem?_append_right (Nat.le_refl _), Nat.sub_self]
    rfl
  have ne : E k ≠ -1 := by
    have fe : fnd9 sm nms k = some e := by
      unfold fnd9
      rw [List.find?_eq_some_iff_append]
      exact ⟨by simpa using hs, l1, l2, he, fun a ha => by simpa using hno a ha⟩
    rw [eE]
    unfold E9
    rw [fe]
    show (if (0 : Int) = 1 ∧ e.2.1 ≠ 1 then (-1 : Int) else e.2.2.1) ≠ -1
    rw [if_neg (fun u => absurd u.1 (by decide)), ← (ct.2 _ e gl).2.2.2.1]
    have := hk l1.length (by rw [← hl, he, List.length_append, List.length_cons]; omega)
    omega
  obtain ⟨i, e', z1, z2, -, z4, z5⟩ := c1 h1 ne
  have se' : sm e'.1 k := (fnd_sp z2).elim (fun _ ⟨_, _, q, _⟩ => q)
  have ii : i = l1.length := by
    rcases Nat.lt_trichotomy i l1.length with y | y | y
    · rw [he, List.getElem?_append_left y] at z1
      exact absurd se' (hno e' (List.mem_of_getElem? z1))
    · exact y
    · exact absurd hs (z5 _ e y gl)
  subst ii
  rw [gl] at z1
  have ee := Option.some.inj z1
  subst ee
  obtain ⟨-, t2, -, -, -, -, t7⟩ := ct.2 _ e gl
  have tk : nms.take l1.length = l1 := by rw [he, List.take_left]
  rw [z4, t2, t7, tk]
end TXO1
section TXO2
variable {W pl nq : Nat → Int} {sm : Nat → Nat → Prop} {Nn n V q p O P c k0 S0 i k j : Nat} {Mc M M' : mM} {nms : List nm9} {e : nm9}
theorem twt9 {P9 : nm9 → Bool} : ∀ (l : List nm9) (j : Nat) (e : nm9), l[j]? = some e → P9 e = false → (∀ (j' : Nat) (e' : nm9), j' < j → l[j']? = some e' → P9 e' = true) → l.takeWhile P9 = l.take j
  | [], j, e, h, _, _ => absurd h (by simp)
  | a :: l, 0, e, h, h1, _ => by
    have : a = e := Option.some.inj h
    subst this
    rw [List.takeWhile_cons, h1]
    rfl
  | a :: l, j + 1, e, h, h1, h2 => by
    have ha := h2 0 a (by omega) rfl
    rw [List.takeWhile_cons, ha, List.take_succ_cons]
    show a :: l.takeWhile P9 = _
    rw [twt9 l j e h h1 (fun j' e' hj z => h2 (j' + 1) e' (by omega) z)]
theorem vix_at (h : nms[j]? = some e) (h1 : sm e.1 k) (h2 : ∀ (j' : Nat) (e' : nm9), j' < j → nms[j']? = some e' → ¬ sm e'.1 k) : vix9 sm nms k = vcn (nms.take j) := by
  unfold vix9
  rw [twt9 nms j e h (by simpa using h1) (fun j' e' hj z => by simpa using h2 j' e' hj z)]
theorem seL.cg (h : seL W pl nq sm Nn n V Mc q p O P c k0 S0 nms i k M) (h3 : mI M' (q + 1) 3 = 0 → mI M (q + 1) 3 = 0) (hp : mI M' p 2 = mI M p 2) (hO : mI M' O = mI M O) (hP : mI M' P = mI M P) : seL W pl nq sm Nn n V Mc q p O P c k0 S0 nms i k M' := fun ct hl y => by
  obtain ⟨l, s9, a1, a2, a3, a4⟩ := h ct hl (h3 y)
  exact ⟨l, s9, by rw [hp]; exact a1, a2, by rw [hO, hP]; exact a3, a4⟩
/-- one set more -/
theorem seL.next {Cf : Nat → Int × Int} {s9 e9 a' : Nat} (h : seL W pl nq sm Nn n V Mc q p O P c k0 S0 nms i k M) (h3 : mI M' (q + 1) 3 = 0 → mI M (q + 1) 3 = 0) (hp : mI M p 2 = ((s9 : Nat) : Int)) (hp' : mI M' p 2 = ((e9 + 1 : Nat) : Int)) (hc : ∀ t, t < s9 → mI M' O t = mI M O t ∧ mI M' P t = mI M P t) (hi : i < Nn) (hk : W k0 ≠ 10) (cp : cpq W (k + 4) Nn = a') (hx : CT Mc (q + 1) p nms → nms.length = c → mI M' (q + 1) 3 = 0 → LfC W nq sm n nms Cf ∧ Cd W Cf pl (mI M' O) (mI M' P) 0 0 0 (k + 4) a' s9 e9 ∧ mI M' O e9 = 43 ∧ mI M' P e9 = pl k * 16 + ((vix9 sm nms (k + 1) : Nat) : Int) ∧ sOk W pl sm n V nms (vix9 sm nms (k + 1), k + 4, a', k)) : (W (a' + 1) = 29 → seL W pl nq sm Nn n V Mc q p O P c k0 S0 nms (i + 1) (a' + 2) M') ∧ (W (a' + 1) ≠ 29 → seM W pl nq sm Nn n V Mc q p O P c k0 S0 nms M') := by
  have key : CT Mc (q + 1) p nms → nms.length = c → mI M' (q + 1) 3 = 0 → ∃ l, sel9 W sm Nn nms Nn k0 = (l ++ [(vix9 sm nms (k + 1), k + 4, a', k)]) ++ (if W (a' + 1) = 29 then sel9 W sm Nn nms (Nn - (i + 1)) (a' + 2) else []) ∧ Scw (LfC W nq sm n nms) W pl (mI M' O) (mI M' P) (l ++ [(vix9 sm nms (k + 1), k + 4, a', k)]) S0 (e9 + 1) ∧ ∀ q', q' ∈ l ++ [(vix9 sm nms (k + 1), k + 4, a', k)] → sOk W pl sm n V nms q' := fun ct hl y => by
    obtain ⟨l, s9', a1, a2, a3, a4⟩ := h ct hl (h3 y)
    have es : s9' = s9 := by rw [hp] at a1; omega
    subst es
    obtain ⟨x1, x2, x3, x4, x5⟩ := hx ct hl y
    refine ⟨l, ?_, Scw.add (q := (vix9 sm nms (k + 1), k + 4, a', k)) x1 l (Scw.cg l a3 (fun t _ t2 => hc t t2)) x2 x3 x4, fun q' hq => ?_⟩
    · obtain ⟨f, hf⟩ : ∃ f, Nn - i = f + 1 := ⟨Nn - i - 1, by omega⟩
      rw [a2, hf, sel9, cp, show Nn - (i + 1) = f by first | rfl | omega, List.append_assoc]
      rfl
    · rcases List.mem_append.mp hq with u | u
      · exact a4 q' u
      · rw [List.mem_singleton.mp u]
        exact x5
  refine ⟨fun w29 ct hl y => ?_, fun w29 ct hl y => ?_⟩
  · obtain ⟨l, b1, b2, b3⟩ := key ct hl y
    rw [if_pos w29] at b1
    exact ⟨_, e9 + 1, hp', b1, b2, b3⟩
  · obtain ⟨l, b1, b2, b3⟩ := key ct hl y
    rw [if_neg w29, List.append_nil] at b1
    have e1 : sll W sm Nn nms k0 = l ++ [(vix9 sm nms (k + 1), k + 4, a', k)] := by
      unfold sll
      rw [if_neg hk, b1]
    refine ⟨e9 + 1, hp', ?_, ?_⟩
    · rw [e1]; exact b2
    · rw [e1]; exact b3
theorem seM.fin {s9 : Nat} (h : seM W pl nq sm Nn n V Mc q p O P c k0 S0 nms M) (h3 : mI M' (q + 1) 3 = 0 → mI M (q + 1) 3 = 0) (hp : mI M p 2 = ((s9 : Nat) : Int)) (hp' : mI M' p 2 = ((s9 + 1 : Nat) : Int)) (hc : ∀ t, t < s9 → mI M' O t = mI M O t ∧ mI M' P t = mI M P t) (h0 : mI M' O s9 = 0) : seE W pl nq sm Nn n V Mc q p O P c k0 S0 nms M' := fun ct hl y => by
  obtain ⟨s9', a1, a2, a3⟩ := h ct hl (h3 y)
  have es : s9' = s9 := by rw [hp] at a1; omega
  subst es
  exact ⟨s9', hp', h0, Scw.cg _ a2 (fun t _ t2 => hc t t2), a3⟩
end TXO2
end
section
/-! The class's reader of texts, exactly: the sets' faults, and one set. -/
section TXP
variable {G : mG} {d z q w T A B D N C n p O P K Ab Be Cm V F c s L cnt a s9 S0 k i k0 Nn a' : Nat} {M0 M M' M1 M2 Mc : mM} {ns : Nat → Int} {sf ef : Nat → Nat} {W pl nq E : Nat → Int} {sm : Nat → Nat → Prop} {nms : List nm9} {ft fS vR : Int × Int} {l2 l6 x : Int}
/-- the pure sets from the word k0 on -/
noncomputable abbrev sef0 (W pl : Nat → Int) (sm : Nat → Nat → Prop) (Nn : Nat) (nms : List nm9) (k0 : Nat) : (Int × Int) × Nat := sef W pl sm Nn nms Nn k0 []
/-- i sets have been read, the next begins at the word k; their fault fS, their vars l2 -/
def seK (W pl : Nat → Int) (sm : Nat → Nat → Prop) (Nn : Nat) (Mc : mM) (q p c k0 : Nat) (nms : List nm9) (fS : Int × Int) (l2 : Int) (i k : Nat) : Prop := CT Mc (q + 1) p nms → nms.length = c → (fS.1 ≠ 0 → (sef0 W pl sm Nn nms k0).1 = fS) ∧ (fS.1 = 0 → ∃ (l : Nat) (seen : List Nat), l2 = l ∧ l < 4096 ∧ snq Mc (q + 1) nms l seen ∧ sef0 W pl sm Nn nms k0 = sef W pl sm Nn nms (Nn - i) k seen)
/-- they are over at the word a -/
def seO (W pl : Nat → Int) (sm : Nat → Nat → Prop) (Nn : Nat) (Mc : mM) (q p c k0 : Nat) (nms : List nm9) (fS : Int × Int) (a : Nat) : Prop := CT Mc (q + 1) p nms → nms.length = c → (fS.1 ≠ 0 → (sef0 W pl sm Nn nms k0).1 = fS) ∧ (fS.1 = 0 → (sef0 W pl sm Nn nms k0).1.1 = 0 ∧ a = (sef0 W pl sm Nn nms k0).2)
def seNb (W pl : Nat → Int) (sm : Nat → Nat → Prop) (Nn : Nat) (Mc : mM) (q k0 : Nat) (nms : List nm9) (fS : Int × Int) (l2 l6 : Int) (i k : Nat) : Prop := (fS.1 ≠ 0 → (sef0 W pl sm Nn nms k0).1 = fS) ∧ (fS.1 = 0 → ∃ (l : Nat) (seen : List Nat) (j : Nat) (e : nm9), l2 = l ∧ l < 4096 ∧ snq Mc (q + 1) nms l seen ∧ sef0 W pl sm Nn nms k0 = sef W pl sm Nn nms (Nn - i) k seen ∧ fnd9 sm nms (k + 1) = some e ∧ fst1 nms j e ∧ e.2.1 = 3 ∧ e.1 ∉ seen ∧ l6 = mI Mc (q + 1 + 8) j ∧ l6 = ((vix9 sm nms (k + 1) : Nat) : Int))
/-- the next set's name has been read, its var is l6 -/
def seN (W pl : Nat → Int) (sm : Nat → Nat → Prop) (Nn : Nat) (Mc : mM) (q p c k0 : Nat) (nms : List nm9) (fS : Int × Int) (l2 l6 : Int) (i k : Nat) : Prop := CT Mc (q + 1) p nms → nms.length = c → seNb W pl sm Nn Mc q k0 nms fS l2 l6 i k
theorem srt9_5 {y : Nat} (h : 1 ≤ y ∧ y ≤ 3) : srt9 y = 5 ↔ y = 3 := by
  unfold srt9
  split
  · omega
  · split <;> omega
theorem seK.nm (h : seK W pl sm Nn Mc q p c k0 nms fS l2 i k) (hik : i ≤ k) (hN : n ≤ Nn) (hk : k + 1 < n) (ctM : CT Mc (q + 1) p nms → CT M (q + 1) p nms) (e8 : mI M (q + 1 + 8) = mI Mc (q + 1 + 8)) (wt : WTq M T A B D n W pl nq sm) (tn : TN M (q + 1) A n V F ns c) (V12 : V ≤ 12) (w1 : W (k + 1) = 1) (hx : (nmn M (q + 1) T B D c (k + 1) ∧ x = -1) ∨ ∃ i : Nat, fm M (q + 1) T B D c (k + 1) i ∧ x = if mI M (q + 1 + 7) i = 5 then mI M (q + 1 + 8) i else -1) : (x = -1 → seN W pl sm Nn Mc q p c k0 nms (fst9 fS (2, pl (k + 1))) l2 x i k) ∧ (x ≠ -1 → andI (shrI l2 x) 1 = 0 → seN W pl sm Nn Mc q p c k0 nms fS l2 x i k) ∧ (x ≠ -1 → andI (shrI l2 x) 1 ≠ 0 → seN W pl sm Nn Mc q p c k0 nms (fst9 fS (4, pl (k + 1))) l2 x i k) := by
  have key : CT Mc (q + 1) p nms → nms.length = c → (x = -1 → seNb W pl sm Nn Mc q k0 nms (fst9 fS (2, pl (k + 1))) l2 x i k) ∧ (x ≠ -1 → andI (shrI l2 x) 1 = 0 → seNb W pl sm Nn Mc q k0 nms fS l2 x i k) ∧ (x ≠ -1 → andI (shrI l2 x) 1 ≠ 0 → seNb W pl sm Nn Mc q k0 nms (fst9 fS (4, pl (k + 1))) l2 x i k) := fun ct hl => by
    obtain ⟨h1, h2⟩ := h ct hl
    by_cases f0 : fS.1 = 0
    · obtain ⟨l, seen, e2, l4, sn, es⟩ := h2 f0
      have es' := es
      obtain ⟨f, hf⟩ : ∃ f, Nn - i = f + 1 := ⟨Nn - i - 1, by
        clear hx h h1 h2
        omega⟩
      rw [hf] at es
      have cM := ctM ct
      have hw : ∀ i, i < nms.length → ∃ v : Nat, mI M (q + 1 + 6) i = v ∧ v < n ∧ mI M A v = 2 := fun i hi => (tn.2.2 i (by rw [← hl]; exact hi)).1
      rw [fst9_zr f0, fst9_zr f0]
      have bad : ∀ {y : Int}, y ≠ 0 → sef0 W pl sm Nn nms k0 = ((y, pl (k + 1)), k) → seNb W pl sm Nn Mc q k0 nms (y, pl (k + 1)) l2 x i k := fun {y} y0 u => ⟨fun _ => by rw [u], fun v => absurd v y0⟩
      rcases cM.fnd wt hw hk w1 with ⟨q1, q2⟩ | ⟨j, e, q1, q2, q3, q9⟩
      · rw [hl] at q1
        have ex : x = -1 := by
          rcases hx with u | ⟨j, u, -⟩
          · exact u.2
          · exact absurd u.2.1 (q1 j u.1)
        rw [sefc_none q2] at es
        exact ⟨fun _ => bad (by decide) es, fun u => absurd ex u, fun u => absurd ex u⟩
      · have f1 := fm_fst cM q1 q2
        rw [hl] at q1
        have ex : x = if mI M (q + 1 + 7) j = 5 then mI M (q + 1 + 8) j else -1 := by
          rcases hx with u | ⟨j', u, v⟩
          · exact absurd q1.2.1 (u.1 j q1.1)
          · rw [fm_un q1 u]
            exact v
        obtain ⟨-, s2, s3, -⟩ := cM.2 j e q2
        rw [sefc_some q3] at es
        by_cases e3 : e.2.1 = 3
        · have s5 : mI M (q + 1 + 7) j = 5 := by rw [s2]; exact (srt9_5 s3).mpr e3
          rw [if_pos s5] at ex
          have rg : 0 ≤ mI M (q + 1 + 8) j ∧ mI M (q + 1 + 8) j < V := by
            obtain ⟨-, u, -⟩ := tn.2.2 j q1.1
            rcases u with u | u
            · exact ⟨u.2.1, u.2.2⟩
            · rcases u.1 with v | v <;> rw [s5] at v <;> exact absurd v (by first | decide | simp)
          obtain ⟨v, hv⟩ : ∃ v : Nat, mI M (q + 1 + 8) j = v := ⟨(mI M (q + 1 + 8) j).toNat, by rw [Int.toNat_of_nonneg rg.1]⟩
          have v12 : v < 12 := by
            clear hx h h1 h2
            omega
          have vn : ((v : Nat) : Int) ≠ -1 := by
            clear hx h h1 h2
            omega
          rw [if_neg (fun u => u e3)] at es
          have sb := sn j e f1 e3
          rw [← e8, hv, Int.toNat_natCast] at sb
          have sb := (sb_and l4 v12).trans (not_congr sb)
          rw [← e2] at sb
          have vx : ((v : Nat) : Int) = ((vix9 sm nms (k + 1) : Nat) : Int) := by
            have t7 := (cM.2 j e q2).2.2.2.2.2.2
            rw [if_pos e3, hv] at t7
            rw [t7, vix_at q2 (by obtain ⟨_, _, _, qs, _⟩ := fnd_sp q3; exact qs) q9]
          rw [ex, hv]
          refine ⟨fun u => absurd u vn, fun _ u => ⟨fun u => absurd f0 u, fun _ => ⟨l, seen, j, e, e2, l4, sn, es', q3, f1, e3, sb.mp u, by rw [← e8, hv], vx⟩⟩, fun _ u => ?_⟩
          have mem : e.1 ∈ seen := Classical.byContradiction (fun z => u (sb.mpr z))
          rw [if_pos mem] at es
          have b := bad (y := 4) (by decide) es
          rw [ex, hv] at b
          exact b
        · have s5 : mI M (q + 1 + 7) j ≠ 5 := by
            rw [s2]
            exact fun u => e3 ((srt9_5 s3).mp u)
          rw [if_neg s5] at ex
          rw [if_pos e3] at es
          exact ⟨fun _ => bad (by decide) es, fun u => absurd ex u, fun u => absurd ex u⟩
    · rw [fst9_n f0, fst9_n f0]
      have all : seNb W pl sm Nn Mc q k0 nms fS l2 x i k := ⟨h1, fun u => absurd u f0⟩
      exact ⟨fun _ => all, fun _ _ => all, fun _ _ => all⟩
  exact ⟨fun u ct hl => (key ct hl).1 u, fun u v ct hl => (key ct hl).2.1 u v, fun u v ct hl => (key ct hl).2.2 u v⟩
theorem seN.next (h : seN W pl sm Nn Mc q p c k0 nms fS l2 l6 i k) (hik : i ≤ k) (hN : n ≤ Nn) (hk : k < n) (tn : TN Mc (q + 1) A n V F ns c) (V12 : V ≤ 12) (eo : Eo W 6 (k + 4) a') (w37 : W a' = 37) (ha' : a' < n) (hvr : CT Mc (q + 1) p nms → nms.length = c → ∀ e, fnd9 sm nms (k + 1) = some e → vR = rf9 W pl sm nms 0 e.2.2.1 (k + 4) a') : (W (a' + 1) = 29 → seK W pl sm Nn Mc q p c k0 nms (fst9 fS vR) (orI l2 (if l6 = -1 then 0 else shlI 1 l6)) (i + 1) (a' + 2)) ∧ (W (a' + 1) ≠ 29 → seO W pl sm Nn Mc q p c k0 nms (fst9 fS vR) (a' + 1)) := by
  have es9 : ∀ {e : nm9} {seen : List Nat}, CT Mc (q + 1) p nms → nms.length = c → sef0 W pl sm Nn nms k0 = sef W pl sm Nn nms (Nn - i) k seen → fnd9 sm nms (k + 1) = some e → e.2.1 = 3 → e.1 ∉ seen → sef0 W pl sm Nn nms k0 = if vR.1 ≠ 0 then (vR, k) else if W (a' + 1) = 29 then sef W pl sm Nn nms (Nn - (i + 1)) (a' + 2) (e.1 :: seen) else ((0, 0), a' + 1) := fun {e seen} ct hl es fe e3 nS => by
    have ev := hvr ct hl e fe
    have cp : cpq W (k + 4) Nn = a' := cpq_at eo w37 (by omega)
    obtain ⟨f, hf⟩ : ∃ f, Nn - i = f + 1 := ⟨Nn - i - 1, by omega⟩
    have hf2 : Nn - (i + 1) = f := by omega
    rw [hf, sefc_some fe, if_neg (fun u => u e3), if_neg nS, cp, ← ev] at es
    rw [hf2]
    exact es
  by_cases f0 : fS.1 = 0
  · rw [fst9_zr f0]
    refine ⟨fun w29 ct hl => ?_, fun w29 ct hl => ?_⟩
    · obtain ⟨l, seen, j, e, e2, l4, sn, es, fe, f1, e3, nS, e6, -⟩ := (h ct hl).2 f0
      have es := es9 ct hl es fe e3 nS
      refine ⟨fun v0 => by rw [es, if_pos v0], fun v0 => ?_⟩
      rw [if_neg (fun u => u v0), if_pos w29] at es
      have jc : j < c := by rw [← hl]; exact (List.getElem?_eq_some_iff.mp f1.1).1
      have s5 : mI Mc (q + 1 + 7) j = 5 := by
        obtain ⟨-, s2, s3, -⟩ := ct.2 j e f1.1
        rw [s2]
        exact (srt9_5 s3).mpr e3
      have rg : 0 ≤ mI Mc (q + 1 + 8) j ∧ mI Mc (q + 1 + 8) j < V := by
        obtain ⟨-, u, -⟩ := tn.2.2 j jc
        rcases u with u | u
        · exact ⟨u.2.1, u.2.2⟩
        · rcases u.1 with v | v <;> rw [s5] at v <;> exact absurd v (by first | decide | simp)
      obtain ⟨v, hv⟩ : ∃ v : Nat, mI Mc (q + 1 + 8) j = v := ⟨(mI Mc (q + 1 + 8) j).toNat, by rw [Int.toNat_of_nonneg rg.1]⟩
      have v12 : v < 12 := by
        clear h hvr
        omega
      have p12 : 2 ^ v < 2147483648 := Nat.lt_trans (Nat.pow_lt_pow_right (by decide) v12) (by decide)
      refine ⟨l ||| 2 ^ v, e.1 :: seen, ?_, sb_lt l4 v12, sn.add ct tn hl f1 e3 hv, es⟩
      rw [e2, e6, hv, if_neg (by omega), sb_shl v12, i_or9 (by omega) p12]
    · obtain ⟨l, seen, j, e, e2, l4, sn, es, fe, f1, e3, nS, e6, -⟩ := (h ct hl).2 f0
      have es := es9 ct hl es fe e3 nS
      refine ⟨fun v0 => by rw [es, if_pos v0], fun v0 => ?_⟩
      rw [if_neg (fun u => u v0), if_neg w29] at es
      exact ⟨by rw [es], by rw [es]⟩
  · rw [fst9_n f0]
    exact ⟨fun _ ct hl => ⟨(h ct hl).1, fun u => absurd u f0⟩, fun _ ct hl => ⟨(h ct hl).1, fun u => absurd u f0⟩⟩
/-- no ';' from k up to a -/
def no34 (W : Nat → Int) (k a : Nat) : Prop := k ≤ a ∧ ∀ j, k ≤ j → j < a → W j ≠ 34
theorem no34.sc (h : no34 W k a) (w : W a ≠ 34) : no34 W k (a + 1) := ⟨Nat.le_succ_of_le h.1, fun j h1 h2 => by
  by_cases e : j = a
  · rw [e]; exact w
  · exact h.2 j h1 (by omega)⟩
theorem Eo.rw9 {b j : Nat} (eo : Eo W 6 a b) (h1 : a ≤ j) (h2 : j < b) : rwd (W j) := by
  have u := (eo.pr.2.2.2.2.1.2.2.2 (j - a) (by omega)).1
  rw [show a + (j - a) = j by first | rfl | omega] at u
  exact u
theorem no34.eo {b : Nat} (h : no34 W k a) (eo : Eo W 6 a b) : no34 W k b := ⟨Nat.le_trans h.1 (Nat.le_of_lt eo.pr.1), fun j h1 h2 => by
  by_cases e : j < a
  · exact h.2 j h1 e
  · have u := eo.rw9 (j := j) (by omega) h2
    unfold rwd at u
    omega⟩
theorem no34.join {b : Nat} (h : no34 W k a) (g : no34 W a b) : no34 W k b := ⟨Nat.le_trans h.1 g.1, fun j h1 h2 => by
  by_cases e : j < a
  · exact h.2 j h1 e
  · exact g.2 j (by omega) h2⟩
/-- the sets are over, and no ';' stands in them -/
def seP (W pl : Nat → Int) (sm : Nat → Nat → Prop) (Nn : Nat) (Mc : mM) (q p c k0 : Nat) (nms : List nm9) (fS : Int × Int) (a : Nat) : Prop := seO W pl sm Nn Mc q p c k0 nms fS a ∧ no34 W k0 a
/-- the sets' end, exactly -/
def rsV (W : Nat → Int) (q : Nat) (ft : Int × Int) (X : Int × Int → Nat → Prop) (Y : mM → Prop) (x : Int) (M' : mM) : Prop := ∃ a' : Nat, mI M' (q + 1) 2 = a' ∧ ((x = 0 ∧ Rf W [50] 0 a') ∨ (x = 1 ∧ Rc W [50] 0 [57, 34, 50] a' ∧ ∃ fS : Int × Int, FT M' (q + 1) (fst9 ft fS) ∧ X fS a' ∧ Y M'))
/-- before a set, or behind the last -/
def rsJ (T A B D n V O P S0 : Nat) (W pl nq : Nat → Int) (sm : Nat → Nat → Prop) (Nn : Nat) (Mc : mM) (q p c k0 : Nat) (nms : List nm9) (ft : Int × Int) (X : Int × Int → Nat → Prop) (l1 l2 : Int) (i a : Nat) (M : mM) : Prop := WTq M T A B D n W pl nq sm ∧ ∃ fS : Int × Int, FT M (q + 1) (fst9 ft fS) ∧ ((l1 ≠ 0 ∧ i ≤ a ∧ Rc W [50] 0 [59, 60, 57, 34, 50] a ∧ seK W pl sm Nn Mc q p c k0 nms fS l2 i a ∧ no34 W k0 a ∧ seL W pl nq sm Nn n V Mc q p O P c k0 S0 nms i a M) ∨ (l1 = 0 ∧ Rc W [50] 0 [57, 34, 50] a ∧ X fS a ∧ seM W pl nq sm Nn n V Mc q p O P c k0 S0 nms M))
theorem x_rs_end {X : Int × Int → Nat → Prop} (h : rsI M0 z q w T A B D N C n p O P K Ab Be Cm V F ns sf ef c cnt L S0 a s9 M) (hF : FT M (q + 1) (fst9 ft fS)) (hR : Rc W [50] 0 [57, 34, 50] a) (hX : X fS a) (hY : seM W pl nq sm Nn n V Mc q p O P c k0 S0 nms M) : Ci G y_Pr_add d [vr p, vi 0, vi 0] M (fun x22 M21 => i32 x22 ∧ mOk M21 ∧ (rsQ9 M0 z q w T A B D N C n p O P K Ab Be Cm V F ns sf ef c cnt L S0 1 M21 ∧ rsV W q ft X (seE W pl nq sm Nn n V Mc q p O P c k0 S0 nms) 1 M21)) := by
  obtain ⟨h1, f1, a1, a2, p1, p2, p3, d1, c1, sc, hL⟩ := h
  obtain ⟨⟨np0, np1, -, -⟩, ⟨nO0, nO1, -, -, -⟩, nP0, nP1, -, -, -⟩ := h1.1.ne
  refine (s_tx_add (i32s (by omega) (by omega)) (i32s (by omega) (by omega)) h1 p1 (by omega) (by omega)).mono (fun v M' k => ?_)
  obtain ⟨v1, v2, v3, v4, v5, v6, v7, v8⟩ := k
  have e1 := v8 (q + 1) np1.symm nO1.symm nP1.symm
  refine ⟨v1, v2, ⟨f1.trans (v4.less p2), Or.inr ⟨rfl, v3, a, s9, by rw [e1]; exact a1, a2, v5, p2, p3, by rw [e1]; exact d1, by rw [e1]; exact c1, fun y => ?_⟩⟩, a, by rw [e1]; exact a1, Or.inr ⟨rfl, hR, fS, hF.same (by rw [e1]) (by rw [e1]), hX, hY.fin (s9 := s9) (fun u => by rw [e1] at u; exact u) p1 v5 (fun t ht => ⟨by rw [v6, if_neg (by omega)], by rw [v7, if_neg (by omega)]⟩) (by rw [v6, if_pos rfl])⟩⟩
  rw [e1] at y
  obtain ⟨H, u1, u2, u3, u4⟩ := sc y
  refine ⟨H, fun pc h0 h2 => ?_, u2, u3, by omega, by rw [v6, if_pos rfl], u4⟩
  rw [v6, v7, if_neg (by omega), if_neg (by omega)]
  exact u1 pc h0 h2
end TXP
end
end
section
/-! The class's reader of texts, exactly: one set, from behind its name on. -/
section TXQ
variable {G : mG} {d z q w T A B D N C n p O P K Ab Be Cm V F c s L cnt a s9 S0 k i k0 Nn : Nat} {M0 M M' M1 M2 : mM} {ns : Nat → Int} {sf ef : Nat → Nat} {W pl nq : Nat → Int} {sm : Nat → Nat → Prop} {nms : List nm9} {ft fS : Int × Int}
theorem kft_kd {tr : Int} {E : Nat → Int} {x y : Nat} (l1 : Int) (ht : tr = 0 ∨ tr = 1) (hl : l1 = if tr = 0 then 1 else 2) : (l1 = 0 ∨ kdq W E 0 x y = (if l1 = 2 then 1 else 0)) ↔ kdq W E 0 x y = tr := by
  rcases ht with u | u
  · rw [u, if_pos rfl] at hl
    rw [hl, u]
    simp
  · rw [u, if_neg (by decide)] at hl
    rw [hl, u]
    simp
theorem hz37 : ∀ j, lwx (W j) = 3 → Rf W [37, 75, 60, 57, 34, 50] j j := fun j hj => Rf.of (mst_tn (by decide) (fun u => by
  rw [← u] at hj
  exact absurd hj (by first | decide | simp)))
theorem rc60 {zr : List Int} (h : W a ≠ 29) : Rc W (60 :: zr) a zr a := Rc.one (mst_n (by decide) (by decide) (ys := []) (t := 0) (by
  show ex60 (W a) = _
  unfold ex60
  rw [if_neg h]) (Or.inl (by decide)))
theorem rc60m {zr : List Int} (h : W a = 29) : Rc W (60 :: zr) a (59 :: 60 :: zr) (a + 1) := Rc.one (mst_n (by decide) (by decide) (ys := [59, 60]) (t := 1) (by
  show ex60 (W a) = _
  unfold ex60
  rw [if_pos h]) (Or.inl (by decide)))
theorem i43_ {l4 l6 : Int} {V : Nat} (b4 : 0 ≤ l4 ∧ l4 ≤ 16384) (h6 : l6 = -1 ∨ (0 ≤ l6 ∧ l6 < V)) (hV : V ≤ 16384) : i32 ((l4 * 16) + (if l6 < 0 then 0 else l6)) := by
  split <;> exact ⟨by omega, by omega⟩
theorem x_rs168 {l2 l3 l4 l6 : Int} (i2 : i32 l2) (i3 : i32 l3) (b4 : 0 ≤ l4 ∧ l4 ≤ 16384) (h6 : l6 = -1 ∨ (0 ≤ l6 ∧ l6 < V)) (e4 : l4 = pl k) (w10 : W k0 ≠ 10) (sl : seL W pl nq sm Nn n V M0 q p O P c k0 S0 nms i k M) (hw : k + 1 < n ∧ mI M A (k + 1) = 2) (h : rsI M0 z q w T A B D N C n p O P K Ab Be Cm V F ns sf ef c cnt L S0 (k + 2) s9 M) (hf : l6 = -1 → mI M (q + 1) 3 ≠ 0) (wt : WTq M T A B D n W pl nq sm) (hFT : FT M (q + 1) (fst9 ft fS)) (w1 : W (k + 1) = 1) (sn : seN W pl sm Nn M0 q p c k0 nms fS l2 l6 i k) (hR : Rc W [50] 0 [38, 23, 61, 37, 75, 60, 57, 34, 50] (k + 2)) (hik : i ≤ k) (hNn : n ≤ Nn) (tn0 : TN M0 (q + 1) A n V F ns c) (n4 : no34 W k0 (k + 2)) (nx : ∀ (M1 : mM) (l1 l2 : Int) (a' s' : Nat), i32 l1 → i32 l2 → rsI M0 z q w T A B D N C n p O P K Ab Be Cm V F ns sf ef c cnt L S0 a' s' M1 → rsJ T A B D n V O P S0 W pl nq sm Nn M0 q p c k0 nms ft (seP W pl sm Nn M0 q p c k0 nms) l1 l2 (i + 1) a' M1 → h_TR_readSets_22 G (d + 5) q l1 l2 (l3 + 1) M1 (fun x M' => rsQ9 M0 z q w T A B D N C n p O P K Ab Be Cm V F ns sf ef c cnt L S0 x M' ∧ rsV W q ft (seP W pl sm Nn M0 q p c k0 nms) (seE W pl nq sm Nn n V M0 q p O P c k0 S0 nms) x M')) : h_TR_readSets_168 G (d + 5) q l2 l3 l4 ((k + 1 : Nat) : Int) l6 M (fun x M' => rsQ9 M0 z q w T A B D N C n p O P K Ab Be Cm V F ns sf ef c cnt L S0 x M' ∧ rsV W q ft (seP W pl sm Nn M0 q p c k0 nms) (seE W pl nq sm Nn n V M0 q p O P c k0 S0 nms) x M') := by
  obtain ⟨h1, f1, a1, a2, p1, p2, p3, d1, c1, sc, hL⟩ := h
  obtain ⟨⟨np0, np1, -, -⟩, ⟨nO0, nO1, -, -, nOp⟩, nP0, nP1, -, -, nPp⟩ := h1.1.ne
  obtain ⟨q01, q10, q210, q211, -⟩ := q_ne q
  have hV := h1.2.1.1.2
  have hN : n ≤ 16384 := by have := h1.1.1.2.2.2.1.2.2.1; have := h1.1.1.2.2.2.1.1.2.2.2.2.2.2.1; omega
  obtain ⟨t0, t1, t2, t3, t4, t5⟩ := h1.1.2.1
  refine k_TR_readSets_168 h1.1.1.1 i2 i3 (i32s (by omega) (by omega)) (i32s (by omega) (by omega)) (i32s (by omega) (by omega)) (fun v73 e73 => ?_)
  have i73 : i32 (orI l2 v73) := m_i32 _
  rw [t1, d1]
  refine ⟨t0, h1.1.1.2.1.1, ⟨by decide, by decide⟩, fun M80 e80 => ?_⟩
  obtain ⟨h80, x80, g80⟩ := tx_ui h1 ⟨by decide, by decide⟩ e80 (Or.inr (Or.inr (Or.inr (Or.inl ⟨rfl, Or.inr (Or.inl rfl)⟩))))
  have f80 : txF M0 q p O P S0 M80 := f1.trans ⟨x80.1, x80.2.1, x80.2.2.1, x80.2.2.2.1, x80.2.2.2.2.1, x80.2.2.2.2.2.1, fun i _ => ⟨by rw [g80, if_neg (fun u => nO1 u.1)], by rw [g80, if_neg (fun u => nP1 u.1)]⟩⟩
  have r80 : ∀ i, i ≠ 5 → mI M80 (q + 1) i = mI M (q + 1) i := fun i hi => by rw [g80, if_neg (fun u => hi u.2)]
  have b80 : ∀ b, b ≠ q + 1 → mI M80 b = mI M b := fun b hb => by
    funext i
    rw [g80, if_neg (fun u => hb u.1)]
  have d80 : mI M80 (q + 1) 5 = ((1 : Nat) : Int) := by rw [g80, if_pos ⟨rfl, rfl⟩]; rfl
  have a80 : mI M80 (q + 1) 2 = ((k + 2 : Nat) : Int) := by rw [r80 2 (by decide)]; exact a1
  have wt80 : WTq M80 T A B D n W pl nq sm := wt.fi h1.1 x80.1
  rw [h80.1.2.1.2.1]
  refine ⟨h80.1.1.2.1.1, (x_tx_accept (x := 39) (i32s (by omega) (by omega)) (by omega) h80 a80 a2).mono (fun x84 M83 kk => ?_)⟩
  obtain ⟨i84, o83, -, h83, x83, k83, r83, b83, m83⟩ := kk
  have f83 : txF M0 q p O P S0 M83 := f80.trans ⟨x83.1, x83.2.1, x83.2.2.1, x83.2.2.2.1, x83.2.2.2.2.1, x83.2.2.2.2.2.1, fun i _ => ⟨by rw [b83 O nO1], by rw [b83 P nP1]⟩⟩
  refine ⟨i84, o83, fun y => ?_, fun y => ?_⟩
  · rw [(k83.resolve_left (fun u => by rw [y] at u; exact absurd u.1 (by first | decide | simp))).2]
    exact ⟨⟨f80, Or.inl ⟨rfl, h80, k + 2, a80, a2⟩⟩, k + 2, a80, Or.inl ⟨rfl, rf_t hR (fun u => m83 y ((wt80.is a2 (by decide) (by decide)).mpr u)) (by decide)⟩⟩
  obtain ⟨-, e38, a83, an83⟩ := k83.resolve_right (fun u => y u.1)
  clear k83
  have rc3 : Rc W [50] 0 [23, 61, 37, 75, 60, 57, 34, 50] (k + 3) := rc_t hR ((wt80.is a2 (by decide) (by decide)).mp e38) (by decide)
  have wt83 : WTq M83 T A B D n W pl nq sm := wt80.fi h80.1 x83.1
  rw [h83.1.2.1.2.1]
  refine ⟨h83.1.2.1.1, h83.1.1.2.1.1, (x_tx_accept (x := 24) (i32s (by omega) (by omega)) (by omega) h83 a83 an83).mono (fun x91 M90 kk => ?_)⟩
  obtain ⟨i91, o90, -, h90, x90, k90, r90, b90, m90⟩ := kk
  have f90 : txF M0 q p O P S0 M90 := f83.trans ⟨x90.1, x90.2.1, x90.2.2.1, x90.2.2.2.1, x90.2.2.2.2.1, x90.2.2.2.2.2.1, fun i _ => ⟨by rw [b90 O nO1], by rw [b90 P nP1]⟩⟩
  refine ⟨i91, o90, fun y => ?_, fun y => ?_⟩
  · rw [(k90.resolve_left (fun u => by rw [y] at u; exact absurd u.1 (by first | decide | simp))).2]
    exact ⟨⟨f83, Or.inl ⟨rfl, h83, k + 3, a83, an83⟩⟩, k + 3, a83, Or.inl ⟨rfl, rf_t rc3 (fun u => m90 y ((wt83.is an83 (by decide) (by decide)).mpr u)) (by decide)⟩⟩
  obtain ⟨-, e23, a90, an90⟩ := k90.resolve_right (fun u => y u.1)
  clear k90
  have rc4 : Rc W [50] 0 [61, 37, 75, 60, 57, 34, 50] (k + 4) := rc_t rc3 ((wt83.is an83 (by decide) (by decide)).mp e23) (by decide)
  have wt90 : WTq M90 T A B D n W pl nq sm := wt83.fi h83.1 x90.1
  have A90 : mI M90 A (k + 1) = 2 := by rw [(h83.1.words x90.1).1, (h80.1.words x83.1).1, (h1.1.words x80.1).1]; exact hw.2
  have p90 : mI M90 p 2 = ((s9 : Nat) : Int) := by rw [b90 p np1, b83 p np1, b80 p np1]; exact p1
  have d90 : mI M90 (q + 1) 5 = ((1 : Nat) : Int) := by rw [r90 5 (by decide), r83 5 (by decide)]; exact d80
  have c90 : mI M90 (q + 1) 6 = 0 := by rw [r90 6 (by decide), r83 6 (by decide), r80 6 (by decide)]; exact c1
  have l90 : mI M90 (q + 1) 3 = mI M (q + 1) 3 := by rw [r90 3 (by decide), r83 3 (by decide), r80 3 (by decide)]
  have F90 : FT M90 (q + 1) (fst9 ft fS) := hFT.same l90 (by rw [r90 4 (by decide), r83 4 (by decide), r80 4 (by decide)])
  have sc90 : mI M (q + 1) 3 = 0 → scI M90 O P V F ns S0 s9 := fun y => (sc y).cg (fun i _ => ⟨by rw [b90 O nO1, b83 O nO1, b80 O nO1], by rw [b90 P nP1, b83 P nP1, b80 P nP1]⟩)
  have n5 : no34 W k0 (k + 4) := (n4.sc (by rw [(wt80.is (y := 38) a2 (by decide) (by decide)).mp e38]; decide)).sc (by rw [(wt83.is (y := 23) an83 (by decide) (by decide)).mp e23]; decide)
  have pM := p1
  have oo9 : ∀ t, mI M90 O t = mI M O t ∧ mI M90 P t = mI M P t := fun t => by rw [b90 O nO1, b83 O nO1, b80 O nO1, b90 P nP1, b83 P nP1, b80 P nP1]; exact ⟨rfl, rfl⟩
  clear x80 g80 r80 b80 d80 a80 f80 f83 r83 b83 r90 b90 x83 x90 h80 sc a1 p1 d1 c1 f1 m83 m90 wt80 wt83 wt hFT hR rc3
  rw [h90.1.2.1.2.1]
  refine ⟨h90.1.2.1.1, h90.1.1.2.1.1, (x_RR_kindOf h90.1.1 h90.2.1.2.2.1.nk hw.1 A90).mono (fun x98 M97 kk => ?_)⟩
  obtain ⟨e97, ⟨x980, x981⟩, x982⟩ := kk
  subst e97
  have x982 : Hid ((nmn M97 (q + 1) T B D c (k + 1) ∧ x98 = 0) ∨ ∃ i : Nat, fm M97 (q + 1) T B D c (k + 1) i ∧ x98 = if mI M97 (q + 1 + 9) i = 0 then 1 else 2) := x982
  have hw97 : ∀ i, i < c → ∃ v : Nat, mI M97 (q + 1 + 6) i = v ∧ v < n ∧ mI M97 A v = 2 := fun i hi => (h90.2.1.2.2.1.2.2 i hi).1
  have k01 : ∀ i, i < c → mI M97 (q + 1 + 9) i = 0 ∨ mI M97 (q + 1 + 9) i = 1 := fun i hi => (h90.2.1.2.2.1.2.2 i hi).2.2
  obtain ⟨E, Cf, uq, big, ec⟩ := uq_ex (p := p) (nms := nms) (c := c) wt90 hw97 c90
  have lf9 : CT M97 (q + 1) p nms → nms.length = c → LfC W nq sm n nms Cf := fun ct hl => ECq.lf (c := c) (E := E) (M := M97) (r := q + 1) (p := p) ⟨big, ec⟩ ct hl k01
  have ec : CT M97 (q + 1) p nms → nms.length = c → E = E9 sm nms 0 := fun ct hl => (ec ct hl).1
  refine ⟨i32s (by omega) (by omega), o90, h90.1.1.2.1.1, (x_tx_rule (u := (W, E, pl, Cf, (k + 4, fst9 ft fS), ([37, 75, 60, 57, 34, 50], 6), ([50], 0))) (d0 := 1) (i32s (by omega) (by omega)) (i32s (by omega) (by omega)) h90 a90 (by omega) p90 (by omega) (by omega) d90 (by omega) h90.2.1.2.2.1.nk (uq _) rfl F90 (by rw [d90]; rfl) ⟨fun y => absurd y (by first | decide | simp), fun _ => rfl⟩ hz37 rc4).mono (fun x102 M101 kk => ?_)⟩
  obtain ⟨i102, o101, ⟨h101, x101, ⟨c101, -⟩, k101⟩, a9, ea9, rv⟩ := kk
  have f101 : txF M0 q p O P S0 M101 := f90.trans (x101.less p2)
  refine ⟨i102, o101, fun y => ?_, fun y => ?_⟩
  · obtain ⟨-, u⟩ := k101.resolve_right (fun u => by rw [y] at u; exact absurd u.1 (by first | decide | simp))
    refine ⟨⟨f101, Or.inl ⟨rfl, h101, u⟩⟩, a9, ea9, Or.inl ⟨rfl, ?_⟩⟩
    rcases rv with ⟨-, rv⟩ | ⟨rv, -⟩
    · exact rv
    · exact absurd y (by rw [rv]; decide)
  obtain ⟨-, e, H1, a', u1, u2, u3, u4, u5, u6, u7, u8, u9, u10⟩ := k101.resolve_left (fun u => y u.1)
  clear k101
  have ea' : a' = a9 := by
    rw [u6] at ea9
    clear rv nx sc90 u1
    omega
  obtain ⟨L9, g1, g2, g3, g4, g5, g6, g7⟩ : rlD (W, E, pl, Cf, (k + 4, fst9 ft fS), ([37, 75, 60, 57, 34, 50], 6), ([50], 0)) (q + 1) p O P s9 a9 _ M101 := (rv.resolve_left (fun u => y u.1)).2
  clear rv
  subst ea'
  have g2 : Eo W 6 (k + 4) a' := g2
  have g7 : Rc W [50] 0 [37, 75, 60, 57, 34, 50] a' := g7
  have g4 : FT M101 (q + 1) (fst9 (fst9 (fst9 ft fS) (fl W E pl 0 (k + 4) a')) (kft (x98 = 0 ∨ kdq W E 0 (k + 4) a' = (if x98 = 2 then 1 else 0)) (pl (k + 4)))) := g4
  obtain ⟨vr, hvr⟩ : ∃ vr, vr = fst9 (fl W E pl 0 (k + 4) a') (kft (x98 = 0 ∨ kdq W E 0 (k + 4) a' = (if x98 = 2 then 1 else 0)) (pl (k + 4))) := ⟨_, rfl⟩
  rw [fst9_as, fst9_as, ← hvr] at g4
  have vr9 : CT M0 (q + 1) p nms → nms.length = c → ∀ e, fnd9 sm nms (k + 1) = some e → vr = rf9 W pl sm nms 0 e.2.2.1 (k + 4) a' := fun ct hl e fe => by
    have ct9 := ct.tx f90.2
    have eE := ec ct9 hl
    rcases ct9.fnd wt90 (by rw [hl]; exact hw97) hw.1 w1 with ⟨-, z2⟩ | ⟨j, e', z1, z2, z3, -⟩
    · rw [fe] at z2
      exact absurd z2 (by simp)
    · rw [fe] at z3
      have ee : e = e' := Option.some.inj z3
      subst ee
      rw [hl] at z1
      have xe : x98 = if e.2.2.1 = 0 then 1 else 2 := by
        rcases x982 with v | ⟨j', v1, v2⟩
        · exact absurd z1.2.1 (v.1 j z1.1)
        · rw [← fm_un z1 v1, (ct9.2 j e z2).2.2.2.1] at v2
          exact v2
      have e01 : e.2.2.1 = 0 ∨ e.2.2.1 = 1 := by
        rw [← (ct9.2 j e z2).2.2.2.1]
        exact k01 j z1.1
      rw [hvr, propext (kft_kd x98 e01 xe), eE]
      rfl
  have wt101 : WTq M101 T A B D n W pl nq sm := wt90.fi h90.1 x101.1
  have g5 : Cd W Cf pl (mI M101 O) (mI M101 P) 0 0 0 (k + 4) a' s9 L9 := g5
  have eL9 : e = L9 := by rw [u5] at g1; omega
  subst eL9
  clear g1 g3 g6 ec uq x982 hw97 k01 hvr
  rw [h101.1.2.1.2.1]
  refine ⟨h101.1.2.1.1, h101.1.1.2.1.1, (x_tx_accept (x := 38) (i32s (by omega) (by omega)) (by omega) h101 u6 u8).mono (fun x109 M108 kk => ?_)⟩
  obtain ⟨i109, o108, -, h108, x108, k108, r108, b108, m108⟩ := kk
  refine ⟨i109, o108, fun y => ?_, fun y => ?_⟩
  · rw [(k108.resolve_left (fun u => by rw [y] at u; exact absurd u.1 (by first | decide | simp))).2]
    exact ⟨⟨f101, Or.inl ⟨rfl, h101, a', u6, u8⟩⟩, a', u6, Or.inl ⟨rfl, rf_t g7 (fun u => m108 y ((wt101.is u8 (by decide) (by decide)).mpr u)) (by decide)⟩⟩
  obtain ⟨-, e37, a108, an108⟩ := k108.resolve_right (fun u => y u.1)
  clear k108
  have w37 : W a' = 37 := (wt101.is u8 (by decide) (by decide)).mp e37
  have n6 : no34 W k0 (a' + 1) := (n5.eo g2).sc (by rw [w37]; decide)
  have rc6 : Rc W [50] 0 [60, 57, 34, 50] (a' + 1) := (rc_t g7 w37 (by decide)).trans (Rc.zero mst_75)
  have wt108 : WTq M108 T A B D n W pl nq sm := wt101.fi h101.1 x108.1
  have d108 : mI M108 (q + 1) 5 = 1 := by rw [r108 5 (by decide), u10]; exact d90
  rw [h108.1.2.1.2.1, d108]
  refine ⟨h108.1.2.1.1, h108.1.1.2.1.1, ⟨by decide, by decide⟩, fun M116 e116 => ?_⟩
  obtain ⟨h116, x116, g116⟩ := tx_ui h108 ⟨by decide, by decide⟩ e116 (Or.inr (Or.inr (Or.inr (Or.inl ⟨rfl, Or.inr (Or.inl rfl)⟩))))
  have b116 : ∀ b, b ≠ q + 1 → mI M116 b = mI M101 b := fun b hb => by
    rw [← b108 b hb]
    funext i
    rw [g116, if_neg (fun u => hb u.1)]
  have r116 : ∀ i, i ≠ 5 → i ≠ 2 → mI M116 (q + 1) i = mI M101 (q + 1) i := fun i hi hj => by rw [g116, if_neg (fun u => hi u.2), r108 i hj]
  have a116 : mI M116 (q + 1) 2 = ((a' + 1 : Nat) : Int) := by rw [g116, if_neg (fun u => absurd u.2 (by first | decide | simp))]; exact a108
  have d116 : mI M116 (q + 1) 5 = 0 := by rw [g116, if_pos ⟨rfl, rfl⟩]; rfl
  have xx : txF M101 q p O P S0 M116 := by
    have u := x108.trans x116
    exact ⟨u.1, u.2.1, u.2.2.1, u.2.2.2.1, u.2.2.2.2.1, u.2.2.2.2.2.1, fun i _ => ⟨by rw [b116 O nO1], by rw [b116 P nP1]⟩⟩
  have f116 := f101.trans xx
  have wt116 : WTq M116 T A B D n W pl nq sm := wt108.fi h108.1 x116.1
  have p116 : mI M116 p 2 = ((e : Nat) : Int) := by rw [b116 p np1]; exact u5
  rw [h116.1.2.1.2.2.2.1]
  have i43 : i32 ((l4 * 16) + (if l6 < 0 then 0 else l6)) := by
    exact i43_ b4 h6 (Nat.le_trans hV (by decide))
  refine ⟨h116.1.1.2.2.2.2.1.1, (s_tx_add (i32s (by omega) (by omega)) i43 h116 p116 (by omega) (by omega)).mono (fun v M119 kk => ?_)⟩
  obtain ⟨v1, v2, v3, v4, v5, v6, v7, v8⟩ := kk
  have e1 := v8 (q + 1) np1.symm nO1.symm nP1.symm
  have f119 := f116.trans (v4.less (show S0 ≤ e by omega))
  have wt119 : WTq M119 T A B D n W pl nq sm := wt116.fi h116.1 v4.1
  rw [v3.1.2.1.2.1]
  refine ⟨v1, v2, v3.1.2.1.1, v3.1.1.2.1.1, (x_tx_accept (x := 30) (a := a' + 1) (i32s (by omega) (by omega)) (by omega) v3 (by rw [e1]; exact a116) an108).mono (fun x125 M124 kk => ?_)⟩
  obtain ⟨i125, o124, -, h124, x124, k124, r124, b124, m124⟩ := kk
  have f124 : txF M0 q p O P S0 M124 := f119.trans ⟨x124.1, x124.2.1, x124.2.2.1, x124.2.2.2.1, x124.2.2.2.2.1, x124.2.2.2.2.2.1, fun i _ => ⟨by rw [b124 O nO1], by rw [b124 P nP1]⟩⟩
  have sc124 : mI M124 (q + 1) 3 = 0 → scI M124 O P V F ns S0 (e + 1) := fun y => by
    rw [r124 3 (by decide), e1, r116 3 (by decide) (by decide)] at y
    have y90 : mI M (q + 1) 3 = 0 := by
      rw [← l90]
      exact Classical.byContradiction (fun u => x101.2.2.1 u y)
    have y6 : 0 ≤ l6 ∧ l6 < V := h6.resolve_left (fun u => hf u y90)
    have s1 : scI M101 O P V F ns S0 s9 := (sc90 y90).cg (fun i hi => x101.2.2.2.2.2.2 i hi)
    refine s1.set (x := (l4 * 16) + (if l6 < 0 then 0 else l6)) u1 u2 u3 u4 (fun i => ?_) (fun i => ?_) ?_
    · rw [b124 O nO1, v6, b116 O nO1]
    · rw [b124 P nP1, v7, b116 P nP1]
    · rw [if_neg (by omega)]
      clear h1 h83 h90 h101 h108 h116 nx sc90 u1 s1
      exact ⟨by omega, by omega, by omega⟩
  have p124 : mI M124 p 2 = ((e + 1 : Nat) : Int) := by rw [b124 p np1]; exact v5
  have d124 : mI M124 (q + 1) 5 = 0 := by rw [r124 5 (by decide), e1]; exact d116
  have c124 : mI M124 (q + 1) 6 = 0 := by rw [r124 6 (by decide), e1, r116 6 (by decide) (by decide), c101]; exact c90
  have wt124 : WTq M124 T A B D n W pl nq sm := wt119.fi v3.1 x124.1
  have F124 : FT M124 (q + 1) (fst9 ft (fst9 fS vr)) := g4.same (by rw [r124 3 (by decide), e1, r116 3 (by decide) (by decide)]) (by rw [r124 4 (by decide), e1, r116 4 (by decide) (by decide)])
  have an1 : a' < n := by omega
  obtain ⟨nx1, nx2⟩ := sn.next hik hNn (show k < n by omega) tn0 hV g2 w37 an1 vr9
  have O124 : ∀ t, mI M124 O t = (if t = e then 43 else mI M101 O t) ∧ mI M124 P t = (if t = e then (l4 * 16) + (if l6 < 0 then 0 else l6) else mI M101 P t) := fun t => by rw [b124 O nO1, b124 P nP1, v6, v7, b116 O nO1, b116 P nP1]; exact ⟨rfl, rfl⟩
  have y124 : mI M124 (q + 1) 3 = 0 → mI M101 (q + 1) 3 = 0 := fun u => by rw [r124 3 (by decide), e1, r116 3 (by decide) (by decide)] at u; exact u
  have s9L : s9 < e := g5.lt
  obtain ⟨ml1, ml2⟩ := sl.next (M' := M124) (Cf := Cf) (s9 := s9) (e9 := e) (a' := a') (fun u => by
      rw [← l90]
      exact Classical.byContradiction (fun v => x101.2.2.1 v (y124 u))) pM p124 (fun t ht => by
      rw [(O124 t).1, (O124 t).2, if_neg (by omega), if_neg (by omega), (x101.2.2.2.2.2.2 t ht).1, (x101.2.2.2.2.2.2 t ht).2]
      exact oo9 t) (show i < Nn by omega) w10 (cpq_at g2 w37 (by omega)) (fun ct hl y => by
      have ft0 := F124.1.symm.trans y
      obtain ⟨-, fz⟩ := fst9_1.mp ft0
      obtain ⟨f0, vz⟩ := fst9_1.mp fz
      obtain ⟨l, seen, j, e', -, -, -, -, fe, -, e3, -, -, e7⟩ := (sn ct hl).2 f0
      have ev := vr9 ct hl e' fe
      rw [ev] at vz
      have fl0 : (fl W (E9 sm nms 0) pl 0 (k + 4) a').1 = 0 := (fst9_1.mp vz).1
      have l60 : 0 ≤ l6 ∧ l6 < V := h6.resolve_left (fun u => by rw [u] at e7; omega)
      refine ⟨lf9 (ct.tx f90.2) hl, g5.cg (fun t _ t2 => by rw [(O124 t).1, (O124 t).2, if_neg (by omega), if_neg (by omega)]; exact ⟨rfl, rfl⟩), by rw [(O124 _).1, if_pos rfl], ?_, g2, by omega, fl0, ?_, ?_⟩
      · rw [(O124 _).2, if_pos rfl, if_neg (by omega), e4, e7]
      · show vix9 sm nms (k + 1) < V
        omega
      · show 0 ≤ pl k ∧ pl k ≤ 16384
        rw [← e4]
        exact b4)
  have le1 : i + 1 ≤ a' + 1 + 1 := by
    clear nx sc90 u1 nx1 nx2
    omega
  refine ⟨i125, o124, ?_⟩
  rw [e73]
  rw [e73] at i73
  rcases k124 with ⟨ex, e30, a124, an124⟩ | ⟨ex, e2⟩
  · have w29 : W (a' + 1) = 29 := (wt119.is an108 (by decide) (by decide)).mp e30
    exact nx M124 x125 _ (a' + 1 + 1) (e + 1) i125 i73 ⟨h124, f124, a124, an124, p124, by omega, by omega, d124, c124, sc124, hL⟩ ⟨wt124, fst9 fS vr, F124, Or.inl ⟨by rw [ex]; decide, le1, rc6.trans (rc60m w29), nx1 w29, n6.sc (by rw [w29]; decide), ml1 w29⟩⟩
  · have w29 : W (a' + 1) ≠ 29 := fun u => m124 ex ((wt119.is an108 (by decide) (by decide)).mpr u)
    exact nx M124 x125 _ (a' + 1) (e + 1) i125 i73 ⟨h124, f124, by rw [e2, e1]; exact a116, an108, p124, by omega, by omega, d124, c124, sc124, hL⟩ ⟨wt124, fst9 fS vr, F124, Or.inr ⟨ex, rc6.trans (rc60 w29), ⟨nx2 w29, n6⟩, ml2 w29⟩⟩
end TXQ
end
section
section
/-! The class's reader of texts, exactly: readSets. -/
section TXR
variable {G : mG} {d z q w T A B D N C n p O P K Ab Be Cm V F c s L cnt a s9 S0 k0 Nn : Nat} {M0 M M' M1 M2 : mM} {ns : Nat → Int} {sf ef : Nat → Nat} {W pl nq : Nat → Int} {sm : Nat → Nat → Prop} {nms : List nm9} {ft fS : Int × Int}
theorem rc59 {zr : List Int} (h : W a = 36) (h4 : slv (59 :: zr) < 40) : Rc W (59 :: zr) a (1 :: 38 :: 23 :: 61 :: 37 :: 75 :: zr) (a + 1) := Rc.one (mst_n (by decide) (by decide) (ys := [1, 38, 23, 61, 37, 75]) (t := 1) (by
  show ex59 (W a) = _
  unfold ex59
  rw [if_pos h]) (Or.inr h4))
theorem rf59 {zr : List Int} (hR : Rc W [50] 0 (59 :: zr) a) (h : W a ≠ 36) : Rf W [50] 0 a := hR.rf (Rf.of (mst_no (by decide) (by decide) (by
  show ex59 (W a) = _
  unfold ex59
  rw [if_neg h])))
theorem rc58 {zr : List Int} (h : W a = 10) : Rc W (58 :: zr) a zr (a + 1) := Rc.one (mst_n (by decide) (by decide) (ys := []) (t := 1) (by
  show ex58 (W a) = _
  unfold ex58
  rw [if_pos h]) (Or.inl (by decide)))
theorem rc58n {zr : List Int} (h : W a ≠ 10) : Rc W (58 :: zr) a (59 :: 60 :: zr) a := Rc.one (mst_n (by decide) (by decide) (ys := [59, 60]) (t := 0) (by
  show ex58 (W a) = _
  unfold ex58
  rw [if_neg h]) (Or.inl (by decide)))
theorem x_rs22 (w10 : W k0 ≠ 10) (hNn : n ≤ Nn) (tn0 : TN M0 (q + 1) A n V F ns c) : ∀ (t i : Nat) (M : mM) (l1 l2 : Int) (a s9 : Nat), n + 1 ≤ i + t → i ≤ n + 1 → i32 l1 → i32 l2 → rsI M0 z q w T A B D N C n p O P K Ab Be Cm V F ns sf ef c cnt L S0 a s9 M → rsJ T A B D n V O P S0 W pl nq sm Nn M0 q p c k0 nms ft (seP W pl sm Nn M0 q p c k0 nms) l1 l2 i a M → h_TR_readSets_22 G (d + 5) q l1 l2 i M (fun x M' => rsQ9 M0 z q w T A B D N C n p O P K Ab Be Cm V F ns sf ef c cnt L S0 x M' ∧ rsV W q ft (seP W pl sm Nn M0 q p c k0 nms) (seE W pl nq sm Nn n V M0 q p O P c k0 S0 nms) x M') := by
  intro t
  induction t with
  | zero =>
    intro i M l1 l2 a s9 ht hi i1 i2 h J
    have h1 := h.1
    have a2 := h.2.2.2.1
    obtain ⟨t0, t1, t2, t3, t4, t5⟩ := h1.1.2.1
    have r0 := h1.1.1.2.2.1.1
    have w1 := h1.1.1.2.2.2.1.1.1
    have w2 := h1.1.1.2.2.2.1.2.1
    have hN : n ≤ 16384 := by have := h1.1.1.2.2.2.1.2.2.1; have := h1.1.1.2.2.2.1.1.2.2.2.2.2.2.1; omega
    obtain ⟨wt, fS, hFT, J⟩ := J
    have J := J.resolve_left (fun u => by
      have := u.2.1
      clear J
      omega)
    refine k_TR_readSets_22 h1.1.1.1 i1 i2 (i32s (by omega) (by omega)) ?_
    rw [t1, r0, w2, t3]
    exact ⟨t0, h1.1.1.2.1.1, w1, fun _ => ⟨h1.1.1.2.2.2.2.1.1, x_rs_end h hFT J.2.1 J.2.2.1 J.2.2.2⟩, fun y => absurd (Or.inl (by omega)) y⟩
  | succ t ih =>
    intro i M l1 l2 a s9 ht hi i1 i2 h J
    have h1 := h.1
    have a1 := h.2.2.1
    have a2 := h.2.2.2.1
    have d1 := h.2.2.2.2.2.2.2.1
    have f1 := h.2.1
    obtain ⟨t0, t1, t2, t3, t4, t5⟩ := h1.1.2.1
    have r0 := h1.1.1.2.2.1.1
    have w1 := h1.1.1.2.2.2.1.1.1
    have w2 := h1.1.1.2.2.2.1.2.1
    have hN : n ≤ 16384 := by have := h1.1.1.2.2.2.1.2.2.1; have := h1.1.1.2.2.2.1.1.2.2.2.2.2.2.1; omega
    obtain ⟨wt, fS, hFT, J⟩ := J
    by_cases l10 : l1 = 0
    · have J := J.resolve_left (fun u => u.1 l10)
      refine k_TR_readSets_22 h1.1.1.1 i1 i2 (i32s (by omega) (by omega)) ?_
      rw [t1, r0, w2, t3]
      exact ⟨t0, h1.1.1.2.1.1, w1, fun _ => ⟨h1.1.1.2.2.2.2.1.1, x_rs_end h hFT J.2.1 J.2.2.1 J.2.2.2⟩, fun y => absurd (Or.inr l10) y⟩
    obtain ⟨-, hik, hR, sk, n4, sl⟩ := J.resolve_right (fun u => l10 u.1)
    clear J
    refine k_TR_readSets_22 h1.1.1.1 i1 i2 (i32s (by omega) (by omega)) ?_
    rw [t1, r0, w2, t3]
    refine ⟨t0, h1.1.1.2.1.1, w1, fun y => absurd y (by omega), fun y => (s_RR_here h1.1.1 a1 a2).mono (fun x26 M25 k => ?_)⟩
    have i1n : i < n + 1 := by omega
    obtain ⟨e25, ex26, x0, x1⟩ := k
    subst e25
    have e26 : x26 = pl a := by rw [ex26]; exact (wt.1 a a2).2.2
    rw [t1, d1]
    refine ⟨i32s (by omega) (by omega), h1.1.1.1, t0, h1.1.1.2.1.1, fun u => absurd u (by first | decide | simp), fun _ => (x_tx_accept (x := 37) (i32s (by omega) (by omega)) (by omega) h1 a1 a2).mono (fun x33 M32 k => ?_)⟩
    obtain ⟨i33, o32, -, h32, x32, k32, r32, b32, m32⟩ := k
    refine ⟨i33, o32, fun u => ?_, fun u => ?_⟩
    · rw [(k32.resolve_left (fun v => by rw [u] at v; exact absurd v.1 (by first | decide | simp))).2]
      exact ⟨⟨f1, Or.inl ⟨rfl, h1, a, a1, a2⟩⟩, a, a1, Or.inl ⟨rfl, rf59 hR (fun v => m32 u ((wt.is a2 (by decide) (by decide)).mpr v))⟩⟩
    obtain ⟨-, e36, a32, an32⟩ := k32.resolve_right (fun v => u v.1)
    clear k32
    have rc1 : Rc W [50] 0 [1, 38, 23, 61, 37, 75, 60, 57, 34, 50] (a + 1) := hR.trans (rc59 ((wt.is a2 (by decide) (by decide)).mp e36) (by decide))
    have wt32 : WTq M32 T A B D n W pl nq sm := wt.fi h1.1 x32.1
    have F32 : FT M32 (q + 1) (fst9 ft fS) := hFT.same (r32 3 (by decide)) (r32 4 (by decide))
    have I32 := h.acc h32 x32 a32 an32 r32 b32
    obtain ⟨⟨np0, np1, -, -⟩, ⟨nO0, nO1, -, -, nOp⟩, nP0, nP1, -, -, nPp⟩ := h1.1.ne
    have sl32 := sl.cg (M' := M32) (fun u => by rw [r32 3 (by decide)] at u; exact u) (by rw [b32 p np1]) (b32 O nO1) (b32 P nP1)
    clear x32 r32 b32
    rw [h32.1.2.1.2.1, a32]
    refine ⟨h32.1.2.1.1, h32.1.1.2.1.1, (x_tx_accept (x := 2) (i32s (by omega) (by omega)) (by omega) h32 a32 an32).mono (fun x40 M39 k => ?_)⟩
    obtain ⟨i40, o39, -, h39, x39, k39, r39, b39, m39⟩ := k
    refine ⟨i40, o39, fun u => ?_, fun u => ?_⟩
    · rw [(k39.resolve_left (fun v => by rw [u] at v; exact absurd v.1 (by first | decide | simp))).2]
      exact ⟨⟨I32.2.1, Or.inl ⟨rfl, h32, a + 1, a32, an32⟩⟩, a + 1, a32, Or.inl ⟨rfl, rf_t rc1 (fun v => m39 u ((wt32.is an32 (by decide) (by decide)).mpr v)) (by decide)⟩⟩
    obtain ⟨-, e39, a39, an39⟩ := k39.resolve_right (fun v => u v.1)
    clear k39
    have W1 : W (a + 1) = 1 := (wt32.is an32 (by decide) (by decide)).mp e39
    have rc2 := rc_t rc1 W1 (by decide)
    have n6 : no34 W k0 (a + 2) := (n4.sc (by rw [(wt.is (y := 36) a2 (by decide) (by decide)).mp e36]; decide)).sc (by rw [W1]; decide)
    have wt39 : WTq M39 T A B D n W pl nq sm := wt32.fi h32.1 x39.1
    have F39 : FT M39 (q + 1) (fst9 ft fS) := F32.same (r39 3 (by decide)) (r39 4 (by decide))
    have I39 := I32.acc h39 x39 a39 an39 r39 b39
    have sl39 := sl32.cg (M' := M39) (fun u => by rw [r39 3 (by decide)] at u; exact u) (by rw [b39 p np1]) (b39 O nO1) (b39 P nP1)
    have A39 : mI M39 A (a + 1) = 2 := by rw [(h32.1.words x39.1).1]; exact e39
    clear x39 r39 b39 e39
    have c39 := I39.2.2.2.2.2.2.2.2.1
    have hV := h39.2.1.1.2
    have nxt : ∀ (M1 : mM) (l1 l2 : Int) (a' s' : Nat), i32 l1 → i32 l2 → rsI M0 z q w T A B D N C n p O P K Ab Be Cm V F ns sf ef c cnt L S0 a' s' M1 → rsJ T A B D n V O P S0 W pl nq sm Nn M0 q p c k0 nms ft (seP W pl sm Nn M0 q p c k0 nms) l1 l2 (i + 1) a' M1 → h_TR_readSets_22 G (d + 5) q l1 l2 ((i : Int) + 1) M1 (fun x M' => rsQ9 M0 z q w T A B D N C n p O P K Ab Be Cm V F ns sf ef c cnt L S0 x M' ∧ rsV W q ft (seP W pl sm Nn M0 q p c k0 nms) (seE W pl nq sm Nn n V M0 q p O P c k0 S0 nms) x M') := fun M1 l1 l2 a' s' j1 j2 hh jj => by
      rw [show ((i : Int) + 1) = ((i + 1 : Nat) : Int) by first | rfl | omega]
      exact ih (i + 1) M1 l1 l2 a' s' (by omega) (by omega) j1 j2 hh jj
    obtain ⟨⟨ww1, ⟨p0, p3, p4, p5⟩, -, ⟨kA, kB, kD⟩, ⟨cA, cB, cD⟩, w6, w7, w8, -⟩, -⟩ := id h39.1.1.2.2.2.1
    have nN := h39.1.1.2.2.2.1.2.2.1
    have rr0 := h39.1.1.2.2.1.1
    have eB : mI M39 B (a + 1) = pl (a + 1) := (wt39.1 (a + 1) an32).2.2
    rw [h39.1.2.1.2.1]
    refine ⟨h39.1.2.1.1, h39.1.1.2.1.1, (x_RR_varOf h39.1.1 h39.2.1.2.2.1.nk an39 A39 c39).mono (fun x47 M46 k => ?_)⟩
    obtain ⟨e46, hx, hx2⟩ := k
    subst e46
    have I90 := I39.2.1
    obtain ⟨s1, s2, s3⟩ := sk.nm hik hNn an39 (fun ct => ct.tx I90.2) (I90.2.2.2.1 8 (by decide) (by decide)) wt39 h39.2.1.2.2.1 hV W1 hx2
    clear hx2
    have i47 : i32 x47 := ⟨by omega, by omega⟩
    rw [h39.1.2.1.2.1, rr0, p4, cB, Int.toNat_natCast, eB]
    have ipl : i32 (pl (a + 1)) := by rw [← eB]; exact (o39 _ _).1
    refine ⟨i47, o39, fun v => ⟨h39.1.2.1.1, h39.1.1.2.1.1, ww1, kB, by omega, ?_⟩, fun v => ⟨fun v2 => x_rs168 i2 (i32s (by omega) (by omega)) ⟨x0, x1⟩ hx e26 w10 sl39 ⟨an39, A39⟩ I39 (fun e => absurd e v) wt39 F39 W1 (s2 v v2) rc2 hik hNn tn0 n6 nxt, fun v2 => ⟨h39.1.2.1.1, h39.1.1.2.1.1, ww1, kB, by omega, ?_⟩⟩⟩
    · refine (x_tx_note (x := 2) (i32s (by omega) (by omega)) (by omega) ipl h39).mono (fun M57 k => ?_)
      obtain ⟨o57, h57, x57, u3, u4, u5, u6⟩ := k
      have F57 := u6 _ F39
      rw [fst9_as] at F57
      exact ⟨o57, x_rs168 i2 (i32s (by omega) (by omega)) ⟨x0, x1⟩ hx e26 w10 (sl39.cg (fun u => absurd u u3) (by rw [u5 p np1]) (u5 O nO1) (u5 P nP1)) ⟨an39, by rw [(h39.1.words x57.1).1]; exact A39⟩ (I39.note h57 x57 u4 u5) (fun _ => u3) (wt39.fi h39.1 x57.1) F57 W1 (s1 v) rc2 hik hNn tn0 n6 nxt⟩
    · refine (x_tx_note (x := 4) (i32s (by omega) (by omega)) (by omega) ipl h39).mono (fun M57 k => ?_)
      obtain ⟨o57, h57, x57, u3, u4, u5, u6⟩ := k
      have F57 := u6 _ F39
      rw [fst9_as] at F57
      exact ⟨o57, x_rs168 i2 (i32s (by omega) (by omega)) ⟨x0, x1⟩ hx e26 w10 (sl39.cg (fun u => absurd u u3) (by rw [u5 p np1]) (u5 O nO1) (u5 P nP1)) ⟨an39, by rw [(h39.1.words x57.1).1]; exact A39⟩ (I39.note h57 x57 u4 u5) (fun _ => u3) (wt39.fi h39.1 x57.1) F57 W1 (s3 v v2) rc2 hik hNn tn0 n6 nxt⟩
/-- the sets of a branch, from the word k0 on -/
def rsX (W pl : Nat → Int) (sm : Nat → Nat → Prop) (Nn : Nat) (Mc : mM) (q p c k0 : Nat) (nms : List nm9) (fS : Int × Int) (a : Nat) : Prop := (W k0 = 10 ∧ fS = (0, 0) ∧ a = k0 + 1) ∨ (W k0 ≠ 10 ∧ seP W pl sm Nn Mc q p c k0 nms fS a)
theorem rsV.mono {X Y : Int × Int → Nat → Prop} {Y9 : mM → Prop} {x : Int} (h : rsV W q ft X Y9 x M) (hX : ∀ f a, X f a → Y f a) : rsV W q ft Y Y9 x M := by
  obtain ⟨a, h1, h2⟩ := h
  exact ⟨a, h1, h2.imp (fun u => u) (fun ⟨u1, u2, f, u3, u4, u5⟩ => ⟨u1, u2, f, u3, hX f a u4, u5⟩)⟩
theorem x_TR_readSets (hs9 : s9 = S0) (hNn : n ≤ Nn) (tn0 : TN M0 (q + 1) A n V F ns c) (h : rsI M0 z q w T A B D N C n p O P K Ab Be Cm V F ns sf ef c cnt L S0 a s9 M) (wt : WTq M T A B D n W pl nq sm) (hFT : FT M (q + 1) ft) (hR : Rc W [50] 0 [58, 57, 34, 50] a) : Ci G y_TR_readSets (d + 6) [vr q] M (fun x M' => rsQ9 M0 z q w T A B D N C n p O P K Ab Be Cm V F ns sf ef c cnt L S0 x M' ∧ rsV W q ft (rsX W pl sm Nn M0 q p c a nms) (seE W pl nq sm Nn n V M0 q p O P c a S0 nms) x M') := by
  have h1 := h.1
  have a1 := h.2.2.1
  have a2 := h.2.2.2.1
  obtain ⟨t0, t1, t2, t3, t4, t5⟩ := h1.1.2.1
  have r0 := h1.1.1.2.2.1.1
  have w1 := h1.1.1.2.2.2.1.1.1
  have w2 := h1.1.1.2.2.2.1.2.1
  refine k_TR_readSets h1.1.1.1 ?_
  rw [t1]
  refine ⟨t0, h1.1.1.2.1.1, (x_tx_accept (x := 11) (i32s (by omega) (by omega)) (by omega) h1 a1 a2).mono (fun x4 M3 k => ?_)⟩
  obtain ⟨i4, o3, -, h3, x3, k3, r3, b3, m3⟩ := k
  refine ⟨i4, o3, fun v7 e7 => ?_⟩
  have i7 : i32 v7 := by rw [e7]; split <;> exact i32s (by omega) (by omega)
  rcases k3 with ⟨ex, e10, a3, an3⟩ | ⟨ex, e3⟩
  · obtain ⟨⟨np0, np1, -, -⟩, -, -⟩ := h1.1.ne
    have w10 : W a = 10 := (wt.is a2 (by decide) (by decide)).mp e10
    have I3 := h.acc h3 x3 a3 an3 r3 b3
    rw [if_neg (by omega)] at e7
    obtain ⟨t0', t1', t2', t3', -⟩ := h3.1.2.1
    refine k_TR_readSets_22 o3 i7 (i32s (by omega) (by omega)) (i32s (by omega) (by omega)) ?_
    rw [t1', h3.1.1.2.2.1.1, h3.1.1.2.2.2.1.2.1, t3']
    have F3 : FT M3 (q + 1) (fst9 ft (0, 0)) := (hFT.same (r3 3 (by decide)) (r3 4 (by decide))).none
    exact ⟨t0', h3.1.1.2.1.1, h3.1.1.2.2.2.1.1.1, fun _ => ⟨h3.1.1.2.2.2.2.1.1, x_rs_end (X := rsX W pl sm Nn M0 q p c a nms) I3 F3 (hR.trans (rc58 w10)) (Or.inl ⟨w10, rfl, rfl⟩) (fun _ _ _ => ⟨s9, by rw [b3 p np1]; exact h.2.2.2.2.1, by unfold sll; rw [if_pos w10]; exact hs9.symm, fun q' hq => by unfold sll at hq; rw [if_pos w10] at hq; exact absurd hq (by simp)⟩)⟩, fun y => absurd (Or.inr e7) y⟩
  · have w10 : W a ≠ 10 := fun u => m3 ex ((wt.is a2 (by decide) (by decide)).mpr u)
    rw [if_pos ex] at e7
    rw [e3]
    have F0 : FT M (q + 1) (fst9 ft (0, 0)) := hFT.none
    have key := x_rs22 (G := G) (d := d) (k0 := a) (nms := nms) (ft := ft) w10 hNn tn0 (n + 1) 0 M v7 0 a s9 (by omega) (by omega) i7 (i32s (by omega) (by omega)) h ⟨wt, (0, 0), F0, Or.inl ⟨by rw [e7]; decide, Nat.zero_le _, hR.trans (rc58n w10), fun ct hl => ⟨fun u => absurd rfl u, fun _ => ⟨0, [], rfl, by decide, snq.nil, rfl⟩⟩, ⟨Nat.le_refl _, fun j j1 j2 => absurd j2 (by omega)⟩, fun _ _ _ => ⟨[], s9, h.2.2.2.2.1, rfl, hs9.symm, fun q' hq => absurd hq (by simp)⟩⟩⟩
    exact mWm.mono key (fun r M' u => by
      obtain ⟨y, u1, u2, u3⟩ := u
      exact ⟨y, u1, u2, u3.mono (fun f b hb => Or.inr ⟨w10, hb⟩)⟩)
end TXR
end
section
/-! The class's reader of texts, exactly: a chance. -/
section TXS
variable {G : mG} {d z q w T A B D N C n p O P K Ab Be Cm V F c s L cnt a k e ix nbr : Nat} {M0 M M' M1 M2 : mM} {ns : Nat → Int} {sf ef : Nat → Nat} {W pl nq : Nat → Int} {sm : Nat → Nat → Prop} {nms : List nm9} {ft : Int × Int}
/-- names and counts stay -/
def cmK (q p : Nat) (M M' : mM) : Prop := mI M' (q + 1) 19 = mI M (q + 1) 19 ∧ (∀ i, 6 ≤ i → i ≤ 9 → mI M' (q + 1 + i) = mI M (q + 1 + i)) ∧ (∀ i, i ≠ 2 → mI M' p i = mI M p i) ∧ mI M' (p + 6) = mI M (p + 6) ∧ mI M' (p + 7) = mI M (p + 7)
theorem cmK.refl : cmK q p M M := ⟨rfl, fun _ _ _ => rfl, fun _ _ => rfl, rfl, rfl⟩
theorem cmK.trans (h : cmK q p M M1) (k : cmK q p M1 M2) : cmK q p M M2 := ⟨k.1.trans h.1, fun i i6 i9 => (k.2.1 i i6 i9).trans (h.2.1 i i6 i9), fun i i2 => (k.2.2.1 i i2).trans (h.2.2.1 i i2), k.2.2.2.1.trans h.2.2.2.1, k.2.2.2.2.trans h.2.2.2.2⟩
theorem cmK.tx (f : txE M q p O P s M') : cmK q p M M' := ⟨f.1 19 (by decide) (by decide) (by decide) (by decide) (by decide) (by decide) (by decide) (by decide), f.2.2.1, f.2.2.2.1, f.2.2.2.2.1 6 (by decide) (by decide), f.2.2.2.2.1 7 (by decide) (by decide)⟩
theorem CT.cm (ct : CT M (q + 1) p nms) (k : cmK q p M M') : CT M' (q + 1) p nms := ct.cg k.1 (k.2.1 6 (by decide) (by decide)) (k.2.1 7 (by decide) (by decide)) (k.2.1 8 (by decide) (by decide)) (k.2.1 9 (by decide) (by decide)) k.2.2.2.1 k.2.2.2.2
theorem hz33 : ∀ j, lwx (W j) = 3 → Rf W [33, 58, 57, 34, 50] j j := fun j hj => Rf.of (mst_tn (by decide) (fun u => by
  rw [← u] at hj
  exact absurd hj (by first | decide | simp)))
/-- a chance has been read, exactly -/
def chV (W pl nq : Nat → Int) (sm : Nat → Nat → Prop) (q p O P n c L ix a : Nat) (nms : List nm9) (ft : Int × Int) (M : mM) (x : Int) (M' : mM) : Prop := ∃ a' : Nat, mI M' (q + 1) 2 = a' ∧ ((x = 0 ∧ Rf W [50] 0 a') ∨ (x = 1 ∧ ∃ (j : Nat) (E : Nat → Int), a' = j + 1 ∧ W j = 33 ∧ Eo W 6 a j ∧ Rc W [50] 0 [58, 57, 34, 50] (j + 1) ∧ FT M' (q + 1) (fst9 ft (vrf W E pl 0 a j)) ∧ (CT M (q + 1) p nms → nms.length = c → E = E9 sm nms 0) ∧ cmK q p M M' ∧ ∃ Cf : Nat → Int × Int, chD W pl nq sm Cf q p O P n c L ix a j nms M M'))
theorem x_TR_readChance (h : TX M z q w T A B D N C n p O P K Ab Be Cm V F ns sf ef c cnt L) (cy : CY M q p O P V F ns sf ef L cnt ix nbr) (n8 : mI M (q + 1) 3 = 0 → nbr < 8) (ha : mI M (q + 1) 2 = ((a : Nat) : Int)) (han : a ≤ n) (hs : mI M p 2 = ((L : Nat) : Int)) (hsa : L ≤ a) (hd : mI M (q + 1) 5 = 0) (h6 : mI M (q + 1) 6 = 0) (hix : ix ≤ 59) (wt : WTq M T A B D n W pl nq sm) (hF : FT M (q + 1) ft) (hR : Rc W [50] 0 [63, 33, 58, 57, 34, 50] a) : Ci G y_TR_readChance (d + 5) [vr q, vi ix] M (fun x M' => chQ9 M z q w T A B D N C n p O P K Ab Be Cm V F ns sf ef c cnt L ix nbr x M' ∧ chV W pl nq sm q p O P n c L ix a nms ft M x M') := by
  obtain ⟨⟨np0, np1, -, -⟩, ⟨nO0, nO1, -, -, nOp⟩, nP0, nP1, -, -, nPp⟩ := h.1.ne
  obtain ⟨q01, q10, q210, q211, -⟩ := q_ne q
  have hN : n ≤ 16384 := by have := h.1.1.2.2.2.1.2.2.1; have := h.1.1.2.2.2.1.1.2.2.2.2.2.2.1; omega
  obtain ⟨t0, t1, t2, t3, t4, t5⟩ := h.1.2.1
  refine k_TR_readChance h.1.1.1 (i32s (by omega) (by omega)) ?_
  rw [t1]
  refine ⟨t0, h.1.1.2.1.1, (s_RR_here h.1.1 ha han).mono (fun x4 M3 k => ?_)⟩
  obtain ⟨e3, ex4, x0, x1⟩ := k
  subst e3
  have e4 : x4 = pl a := by rw [ex4]; exact (wt.1 a han).2.2
  have i4 : i32 x4 := i32s (by omega) (by omega)
  rw [t1, t3, hs]
  have hw3 : ∀ i, i < c → ∃ v : Nat, mI M3 (q + 1 + 6) i = v ∧ v < n ∧ mI M3 A v = 2 := fun i hi => (h.2.1.2.2.1.2.2 i hi).1
  obtain ⟨E, Cf, uq, big, ec⟩ := uq_ex (p := p) (nms := nms) (c := c) wt hw3 h6
  have lf9 : CT M3 (q + 1) p nms → nms.length = c → LfC W nq sm n nms Cf := fun ct hl => ECq.lf (c := c) (E := E) (M := M3) (r := q + 1) (p := p) ⟨big, ec⟩ ct hl (fun i hi => (h.2.1.2.2.1.2.2 i hi).2.2)
  have ec : CT M3 (q + 1) p nms → nms.length = c → E = E9 sm nms 0 := fun ct hl => (ec ct hl).1
  refine ⟨i4, h.1.1.1, t0, h.1.1.2.2.2.2.1.1, h.1.1.2.1.1, (x_tx_rule (u := (W, E, pl, Cf, (a, ft), ([33, 58, 57, 34, 50], 5), ([50], 0))) (d0 := 0) (i32s (by omega) (by omega)) (i32s (by omega) (by omega)) h ha han hs (Nat.le_refl _) hsa hd (by omega) h.2.1.2.2.1.nk (uq _) rfl hF (by rw [hd]; rfl) ⟨fun _ => rfl, fun y => absurd rfl y⟩ hz33 hR).mono (fun x10 M9 k => ?_)⟩
  obtain ⟨i10, o9, ⟨h9, x9, ⟨c9, -⟩, k9⟩, a9, ea9, rv⟩ := k
  refine ⟨i10, o9, fun y => ?_, fun y => ?_⟩
  · obtain ⟨-, u⟩ := k9.resolve_right (fun u => by rw [y] at u; exact absurd u.1 (by first | decide | simp))
    refine ⟨⟨x9.1, Or.inl ⟨rfl, h9, u⟩⟩, a9, ea9, Or.inl ⟨rfl, ?_⟩⟩
    rcases rv with ⟨-, rv⟩ | ⟨rv, -⟩
    · exact rv
    · exact absurd y (by rw [rv]; decide)
  obtain ⟨-, e, H, a', u1, u2, u3, u4, u5, u6, u7, u8, u9, u10⟩ := k9.resolve_left (fun u => y u.1)
  clear k9
  have ea' : a' = a9 := by
    rw [u6] at ea9
    clear rv u1
    omega
  obtain ⟨L9, q1, q2, q3, q4, q5, q6, q7⟩ : rlD (W, E, pl, Cf, (a, ft), ([33, 58, 57, 34, 50], 5), ([50], 0)) (q + 1) p O P L a9 _ M9 := (rv.resolve_left (fun u => y u.1)).2
  clear rv uq
  have q5 : Cd W Cf pl (mI M9 O) (mI M9 P) 0 0 0 a a9 L L9 := q5
  have eL9 : e = L9 := by rw [u5] at q1; omega
  subst eL9
  subst ea'
  have q2 : Eo W 6 a a' := q2
  have q7 : Rc W [50] 0 [33, 58, 57, 34, 50] a' := q7
  have q4 : FT M9 (q + 1) (fst9 ft (vrf W E pl 0 a a')) := irv_ft (x := 0) (l2 := 1) (tr := 0) q4 (by simp)
  have wt9 : WTq M9 T A B D n W pl nq sm := wt.fi h.1 x9.1
  rw [h9.1.2.1.2.2.2.1]
  refine ⟨h9.1.2.1.1, h9.1.1.2.2.2.2.1.1, (s_tx_add (i32s (by omega) (by omega)) (i32s (by omega) (by omega)) h9 u5 (by omega) (by omega)).mono (fun x17 M16 k => ?_)⟩
  obtain ⟨v1, v2, v3, v4, v5, v6, v7, v8⟩ := k
  have e1 := v8 (q + 1) np1.symm nO1.symm nP1.symm
  have f16 : txF M3 q p O P L M16 := x9.trans (v4.less (by omega))
  have cy16 := cy.tx f16.2
  have wt16 : WTq M16 T A B D n W pl nq sm := wt9.fi h9.1 v4.1
  have F16 : FT M16 (q + 1) (fst9 ft (vrf W E pl 0 a a')) := q4.same (by rw [e1]) (by rw [e1])
  have K16 : cmK q p M3 M16 := cmK.tx f16.2
  have cd : Cod M16 O P V F ns L e H 1 := by
    refine ⟨fun pc h0 h2 => ?_, u2, u3, u4, by rw [v6, if_pos rfl], by omega⟩
    rw [v6, v7, if_neg (by omega), if_neg (by omega)]
    exact u1 pc h0 h2
  have a16 : mI M16 (q + 1) 2 = ((a' : Nat) : Int) := by rw [e1]; exact u6
  have d16 : mI M16 (q + 1) 5 = 0 := by rw [e1, u10]; exact hd
  have c16 : mI M16 (q + 1) 6 = 0 := by rw [e1, c9]; exact h6
  obtain ⟨w0, w1, w2, w3, w4, w5⟩ := v3.1.2.1
  obtain ⟨k6, ⟨-, -, -, -, -, -, -, -, -, p16, p17, p18, p19⟩, ⟨-, -, -, -, -, -, -, -, -, kp12, kp13, kp14, kp15⟩, ⟨-, -, -, -, -, -, -, -, -, np12, np13, np14, np15⟩⟩ := v3.tab
  have q516 : Cd W Cf pl (mI M16 O) (mI M16 P) 0 0 0 a a' L e := q5.cg (fun t _ t2 => ⟨by rw [v6, if_neg (by omega)], by rw [v7, if_neg (by omega)]⟩)
  have o16 : mI M16 O e = 0 := by rw [v6, if_pos rfl]
  clear u1 u2 u3 u5 u6 u10 c9 h9 x9 v4 v6 v7 v8 q5
  rw [w1, w3, p16, p17, np12, np13]
  refine ⟨v1, v2, w0, v3.1.1.2.1.1, fun y0 => ?_, fun y0 => ?_⟩
  · obtain ⟨g1, g2, u, v, g3, g4, g5, g6, g7, -⟩ := cy16 y0
    have n8' : nbr < 8 := n8 (by
      have := f16.2.2.1
      exact Classical.byContradiction (fun t => this t y0))
    obtain ⟨u', g9, -, g10⟩ := g7.2.2.2.2.2.1
    have vb : v < 480 := by
      rw [g3] at g9
      omega
    have gv : mI M16 (p + 12) (Int.toNat ((ix : Int) + 1)) = ((v : Nat) : Int) := by
      rw [show Int.toNat ((ix : Int) + 1) = cnt + 1 by first | rfl | omega]
      exact g4
    rw [gv, Int.toNat_natCast]
    refine ⟨k6, kp12, by omega, kp13, by omega, fun M37 e37 => ?_⟩
    have f37 : FI (fun b => b = p + 13) M16 M37 := by rw [e37]; exact FI.ui rfl
    rw [f37.1, f37.2.1, f37.2.2.1, w3, p18, np14]
    refine ⟨k6, kp14, by omega, fun M42 e42 => ?_⟩
    have f42 : FI (fun b => b = p + 14) M37 M42 := by rw [e42]; exact FI.ui rfl
    have p42 : mI M42 p 2 = ((e + 1 : Nat) : Int) := by rw [f42.2.2.2.2.2.2 p (by omega), f37.2.2.2.2.2.2 p (by omega)]; exact v5
    rw [f42.1, f42.2.1, f42.2.2.1, f37.1, f37.2.1, f37.2.2.1, w3, p19, np15, p42]
    refine ⟨k6, kp15, by omega, fun M47 e47 => ?_⟩
    have f47 : FI (fun b => b = p + 15) M42 M47 := by rw [e47]; exact FI.ui rfl
    have o47 : mOk M47 := by rw [e47]; exact mOk_UI (by rw [e42]; exact mOk_UI (by rw [e37]; exact mOk_UI v2 i4) ⟨by omega, by omega⟩) ⟨by omega, by omega⟩
    have ff : FI (fun b => b = p + 13 ∨ b = p + 14 ∨ b = p + 15) M16 M47 := ((f37.mono (fun _ y => Or.inl y)).trans (f42.mono (fun _ y => Or.inr (Or.inl y)))).trans (f47.mono (fun _ y => Or.inr (Or.inr y)))
    have e13 : ∀ i, mI M47 (p + 13) i = if i = v then pl a else mI M16 (p + 13) i := fun i => by
      rw [f47.2.2.2.2.2.2 _ (by omega), f42.2.2.2.2.2.2 _ (by omega), mI_ui _ i e37]
      by_cases yv : i = v
      · rw [if_pos ⟨rfl, yv⟩, if_pos yv, e4]
      · rw [if_neg (fun t => yv t.2), if_neg yv]
    have e14 : ∀ i, mI M47 (p + 14) i = if i = v then ((L : Nat) : Int) else mI M16 (p + 14) i := fun i => by
      rw [f47.2.2.2.2.2.2 _ (by omega), mI_ui _ i e42]
      by_cases yv : i = v
      · rw [if_pos ⟨rfl, yv⟩, if_pos yv]
      · rw [if_neg (fun t => yv t.2), if_neg yv, f37.2.2.2.2.2.2 _ (by omega)]
    have e15 : ∀ i, mI M47 (p + 15) i = if i = v then ((e + 1 : Nat) : Int) else mI M16 (p + 15) i := fun i => by
      rw [mI_ui _ i e47]
      by_cases yv : i = v
      · rw [if_pos ⟨rfl, yv⟩, if_pos yv]
      · rw [if_neg (fun t => yv t.2), if_neg yv, f42.2.2.2.2.2.2 _ (by omega), f37.2.2.2.2.2.2 _ (by omega)]
    have apO : (q + 1 ≠ p + 13 ∧ q + 1 ≠ p + 14 ∧ q + 1 ≠ p + 15) ∧ (O ≠ p + 13 ∧ O ≠ p + 14 ∧ O ≠ p + 15) ∧ (P ≠ p + 13 ∧ P ≠ p + 14 ∧ P ≠ p + 15) ∧ p + 12 ≠ q + 1 := by
      have ap := v3.1.apart
      have qp := v3.1.2.2.2.2.2.1.2.1
      clear v3 cy16 cy h cd g7 e14 e15
      exact ⟨⟨u7d qp (by omega) (by omega) (by decide), u7d qp (by omega) (by omega) (by decide), u7d qp (by omega) (by omega) (by decide)⟩, ⟨u7b ap.2.2.2.1 (by decide) (by decide) (by decide), u7b ap.2.2.2.1 (by decide) (by decide) (by decide), u7b ap.2.2.2.1 (by decide) (by decide) (by decide)⟩, ⟨u7b ap.2.2.2.2.1 (by decide) (by decide) (by decide), u7b ap.2.2.2.2.1 (by decide) (by decide) (by decide), u7b ap.2.2.2.2.1 (by decide) (by decide) (by decide)⟩, fun e => u7d qp (x := q + 1) (by omega) (by omega) (by decide) e.symm⟩
    have apQ : ∀ i, i ≤ 9 → q + 1 + i ≠ p + 13 ∧ q + 1 + i ≠ p + 14 ∧ q + 1 + i ≠ p + 15 := fun i i9 => by
      have qp := v3.1.2.2.2.2.2.1.2.1
      clear v3 cy16 cy h cd g7 e14 e15
      omega
    obtain ⟨h47, cy47, fx47, nb⟩ := tx_br (x := ((e + 1 : Nat) : Int)) v3 cy16 y0 g4 o47 ff e14 e15
    clear f37 f42 f47 ff e37 e42 e47 p42 cy16
    have r47 := nb (q + 1) apO.1.1 apO.1.2.1 apO.1.2.2
    have nO47 := nb O apO.2.1.1 apO.2.1.2.1 apO.2.1.2.2
    have nP47 := nb P apO.2.2.1.1 apO.2.2.1.2.1 apO.2.2.1.2.2
    have p47 := nb p (by first | (have h1 := qp; omega) | omega) (by first | (have h1 := qp; omega) | omega) (by first | (have h1 := qp; omega) | omega)
    have t12 := nb (p + 12) (by omega) (by omega) (by omega)
    have wt47 : WTq M47 T A B D n W pl nq sm := wt16.fi v3.1 fx47
    have F47 : FT M47 (q + 1) (fst9 ft (vrf W E pl 0 a a')) := F16.same (by rw [r47]) (by rw [r47])
    have K47 : cmK q p M3 M47 := K16.trans ⟨by rw [r47], fun i i6 i9 => nb _ (apQ i i9).1 (apQ i i9).2.1 (apQ i i9).2.2, fun i _ => by rw [p47], nb _ (by omega) (by omega) (by omega), nb _ (by omega) (by omega) (by omega)⟩
    rw [h47.1.2.1.2.1]
    refine ⟨h47.1.1.2.1.1, (x_tx_accept (x := 34) (i32s (by omega) (by omega)) (by omega) h47 (by rw [r47]; exact a16) u8).mono (fun x51 M50 k => ?_)⟩
    obtain ⟨i51, o50, hx51, h50, x50, k50, r50, b50, m50⟩ := k
    refine ⟨i51, o50, hx51, ?_⟩
    rcases k50 with ⟨e51, e33, a50, an50⟩ | ⟨e51, e2⟩
    · have w33 : W a' = 33 := (wt47.is u8 (by decide) (by decide)).mp e33
      have pq1 : ∀ i, i ≤ 15 → p + i ≠ q + 1 := fun i hi => by
        have qp := v3.1.2.2.2.2.2.1.2.1
        omega
      have t16 := f16.2.2.2.2.2.1
      have chd : chD W pl nq sm Cf q p O P n c L ix a a' nms M3 M50 := by
        refine ⟨fun _ => ⟨fun i i3 i12 => by rw [b50 _ (pq1 i (by omega)), nb _ (by omega) (by omega) (by omega), t16 i i3 (by omega)], by rw [b50 p np1, p47, f16.2.2.2.2.1 11 (by decide)], v, e, ?_, fun t => ?_, by rw [b50 p np1, p47]; exact v5, by rw [b50 O nO1, nO47]; exact o16, q516.cg (fun t _ _ => ⟨by rw [b50 O nO1, nO47], by rw [b50 P nP1, nP47]⟩), fun t ht => ?_⟩, lf9⟩
        · rw [g1, ← t16 12 (by omega) (by omega)]; exact g4
        · rw [b50 _ (pq1 13 (by omega)), b50 _ (pq1 14 (by omega)), b50 _ (pq1 15 (by omega)), e13, e14, e15, t16 13 (by omega) (by omega), t16 14 (by omega) (by omega), t16 15 (by omega) (by omega)]
          exact ⟨rfl, rfl, rfl⟩
        · rw [b50 O nO1, nO47, b50 P nP1, nP47]
          exact f16.2.2.2.2.2.2 t ht
      refine ⟨?_, a' + 1, a50, Or.inr ⟨e51, a', E, rfl, w33, q2, rc_t q7 w33 (by decide), F47.same (r50 3 (by decide)) (r50 4 (by decide)), ec, K47.trans (cmK.tx x50.2), Cf, chd⟩⟩
      refine ⟨(f16.1.trans fx47).trans x50.1, Or.inr ⟨e51, h50, fun t => x50.2.2.1 (by rw [r47]; exact f16.2.2.1 t), a' + 1, e, a50, an50, by rw [b50 p np1, p47]; exact v5, by omega, by omega, by rw [r50 5 (by decide), r47]; exact d16, by rw [r50 6 (by decide), r47]; exact c16, cy47.tx x50.2, fun _ => ⟨v, H, by rw [b50 _ apO.2.2.2, t12]; exact g4, by rw [b50 _ apO.1.2.1.symm, e14, if_pos rfl], by rw [b50 _ apO.1.2.2.symm, e15, if_pos rfl], cd.cg (fun i _ => by rw [b50 O nO1, nO47]) (fun i _ => by rw [b50 P nP1, nP47])⟩⟩⟩
    · rw [e2]
      exact ⟨⟨f16.1.trans fx47, Or.inl ⟨e51, h47, a', by rw [r47]; exact a16, u8⟩⟩, a', by rw [r47]; exact a16, Or.inl ⟨e51, rf_t q7 (fun u => m50 e51 ((wt47.is u8 (by decide) (by decide)).mpr u)) (by decide)⟩⟩
  · refine (x_tx_accept (x := 34) (i32s (by omega) (by omega)) (by omega) v3 a16 u8).mono (fun x51 M50 k => ?_)
    obtain ⟨i51, o50, hx51, h50, x50, k50, r50, b50, m50⟩ := k
    refine ⟨i51, o50, hx51, ?_⟩
    rcases k50 with ⟨e51, e33, a50, an50⟩ | ⟨e51, e2⟩
    · have w33 : W a' = 33 := (wt16.is u8 (by decide) (by decide)).mp e33
      refine ⟨?_, a' + 1, a50, Or.inr ⟨e51, a', E, rfl, w33, q2, rc_t q7 w33 (by decide), F16.same (r50 3 (by decide)) (r50 4 (by decide)), ec, K16.trans (cmK.tx x50.2), Cf, fun t => absurd t (x50.2.2.1 y0), lf9⟩⟩
      exact ⟨f16.1.trans x50.1, Or.inr ⟨e51, h50, fun t => x50.2.2.1 (f16.2.2.1 t), a' + 1, e, a50, an50, by rw [b50 p np1]; exact v5, by omega, by omega, by rw [r50 5 (by decide)]; exact d16, by rw [r50 6 (by decide)]; exact c16, cy16.tx x50.2, fun t => absurd t (x50.2.2.1 y0)⟩⟩
    · rw [e2]
      exact ⟨⟨f16.1, Or.inl ⟨e51, v3, a', a16, u8⟩⟩, a', a16, Or.inl ⟨e51, rf_t q7 (fun u => m50 e51 ((wt16.is u8 (by decide) (by decide)).mpr u)) (by decide)⟩⟩
end TXS
end
end
section
/-! The class's reader of texts: a command that is being read keeps the game. -/
/-- a rule's orders, read in this item -/
def RwC (M : mM) (O P L0 L : Nat) (W pl nq : Nat → Int) (sm : Nat → Nat → Prop) (n : Nat) (nms : List nm9) (i j s : Nat) : Prop := ∃ (Cf : Nat → Int × Int) (e : Nat), LfC W nq sm n nms Cf ∧ Eo W 6 i j ∧ j ≤ n ∧ (fl W (E9 sm nms 0) pl 0 i j).1 = 0 ∧ L0 ≤ s ∧ Cd W Cf pl (mI M O) (mI M P) 0 0 0 i j s e ∧ e < L ∧ mI M O e = 0
/-- the orders of sets, read in this item -/
def SwC (M : mM) (O P L0 L V : Nat) (W pl nq : Nat → Int) (sm : Nat → Nat → Prop) (n : Nat) (nms : List nm9) (l : List (Nat × Nat × Nat × Nat)) (s : Nat) : Prop := ∃ e : Nat, (∀ q', q' ∈ l → sOk W pl sm n V nms q') ∧ L0 ≤ s ∧ Scw (LfC W nq sm n nms) W pl (mI M O) (mI M P) l s e ∧ e < L ∧ mI M O e = 0
/-- what stays while command number cnt is read; u branches stand before it -/
def cmF (p O P L0 cnt u : Nat) (Mc M : mM) : Prop := (∀ i, 3 ≤ i → i ≤ 8 → mI M (p + i) = mI Mc (p + i)) ∧ (∀ j, j < cnt → mI M (p + 9) j = mI Mc (p + 9) j ∧ mI M (p + 10) j = mI Mc (p + 10) j ∧ mI M (p + 11) j = mI Mc (p + 11) j) ∧ (∀ j, j ≤ cnt → mI M (p + 12) j = mI Mc (p + 12) j) ∧ (∀ t, t < u → mI M (p + 13) t = mI Mc (p + 13) t ∧ mI M (p + 14) t = mI Mc (p + 14) t ∧ mI M (p + 15) t = mI Mc (p + 15) t) ∧ cdE O P L0 Mc M ∧ mI M p 11 = mI Mc p 11
/-- branches in the program from u on -/
def BrC (M : mM) (p O P L0 L V : Nat) (W pl nq : Nat → Int) (sm : Nat → Nat → Prop) (n : Nat) (nms : List nm9) (u : Nat) (bl : List br9) : Prop := ∀ (t : Nat) (x : br9), bl[t]? = some x → mI M (p + 13) (u + t) = x.1 ∧ (∃ s : Nat, mI M (p + 14) (u + t) = ((s : Nat) : Int) ∧ RwC M O P L0 L W pl nq sm n nms x.2.1.1 x.2.1.2 s) ∧ ∃ s : Nat, mI M (p + 15) (u + t) = ((s : Nat) : Int) ∧ SwC M O P L0 L V W pl nq sm n nms x.2.2 s
/-- command number cnt, at the word k, its arrow at ar: b branches have been read, the next begins at i -/
def cmR9 (W pl nq : Nat → Int) (sm : Nat → Nat → Prop) (Nn n V q p O P L0 c cnt k ar : Nat) (nms : List nm9) (Mc : mM) (i b : Nat) (M : mM) : Prop := CT Mc (q + 1) p nms → nms.length = c → mI M (q + 1) 3 = 0 → ∃ (L u : Nat) (bl : List br9), (mI M p 2 = ((L : Nat) : Int) ∧ L0 ≤ L) ∧ mI Mc (p + 12) cnt = ((u : Nat) : Int) ∧ cmF p O P L0 cnt u Mc M ∧ (mI M (p + 9) cnt = (if W k = 7 then 1 else 2) ∧ mI M (p + 10) cnt = pl k) ∧ (∃ s : Nat, mI M (p + 11) cnt = ((s : Nat) : Int) ∧ RwC M O P L0 L W pl nq sm n nms (k + 1) ar s) ∧ mI M (p + 12) (cnt + 1) = ((u + bl.length : Nat) : Int) ∧ bl.length = b ∧ (∀ e, no34 W k e → W e = 34 → brs9 W pl sm Nn nms e Nn (ar + 1) = bl ++ brs9 W pl sm Nn nms e (Nn - b) i) ∧ BrC M p O P L0 L V W pl nq sm n nms u bl
section TXS2
variable {W pl nq E : Nat → Int} {Cf : Nat → Int × Int} {sm : Nat → Nat → Prop} {Nn n V q p O P L L' L0 c cnt k ar i b u a j a2 ix e : Nat} {Mc M M' M1 M2 M3 : mM} {nms : List nm9} {fS : Int × Int}
theorem RwC.cg {i j s : Nat} (h : RwC M O P L0 L W pl nq sm n nms i j s) (cd : cdE O P L M M') (hL : L ≤ L') : RwC M' O P L0 L' W pl nq sm n nms i j s := by
  obtain ⟨Cf, e, h1, h2, h3, h4, h5, h6, h7, h8⟩ := h
  exact ⟨Cf, e, h1, h2, h3, h4, h5, h6.cg (fun t _ t2 => cd t (by omega)), by omega, by rw [(cd e h7).1]; exact h8⟩
theorem SwC.cg {l : List (Nat × Nat × Nat × Nat)} {s : Nat} (h : SwC M O P L0 L V W pl nq sm n nms l s) (cd : cdE O P L M M') (hL : L ≤ L') : SwC M' O P L0 L' V W pl nq sm n nms l s := by
  obtain ⟨e, h1, h2, h3, h4, h5⟩ := h
  exact ⟨e, h1, h2, Scw.cg l h3 (fun t _ t2 => cd t (by omega)), by omega, by rw [(cd e h4).1]; exact h5⟩
theorem BrC.cg {bl : List br9} (h : BrC M p O P L0 L V W pl nq sm n nms u bl) (cd : cdE O P L M M') (hL : L ≤ L') (e : ∀ t, t < u + bl.length → mI M' (p + 13) t = mI M (p + 13) t ∧ mI M' (p + 14) t = mI M (p + 14) t ∧ mI M' (p + 15) t = mI M (p + 15) t) : BrC M' p O P L0 L' V W pl nq sm n nms u bl := fun t x hx => by
  have tl : t < bl.length := (List.getElem?_eq_some_iff.mp hx).1
  obtain ⟨e13, e14, e15⟩ := e (u + t) (by omega)
  obtain ⟨a1, ⟨s1, a2, a3⟩, s2, a4, a5⟩ := h t x hx
  exact ⟨by rw [e13]; exact a1, ⟨s1, by rw [e14]; exact a2, a3.cg cd hL⟩, s2, by rw [e15]; exact a4, a5.cg cd hL⟩
theorem cmF.trans (h : cmF p O P L0 cnt u Mc M) (k : cmF p O P L0 cnt u M M') : cmF p O P L0 cnt u Mc M' := by
  obtain ⟨h1, h2, h3, h4, h5, h6⟩ := h
  obtain ⟨k1, k2, k3, k4, k5, k6⟩ := k
  exact ⟨fun i a b => by rw [k1 i a b, h1 i a b], fun j hj => ⟨by rw [(k2 j hj).1, (h2 j hj).1], by rw [(k2 j hj).2.1, (h2 j hj).2.1], by rw [(k2 j hj).2.2, (h2 j hj).2.2]⟩, fun j hj => by rw [k3 j hj, h3 j hj], fun t ht => ⟨by rw [(k4 t ht).1, (h4 t ht).1], by rw [(k4 t ht).2.1, (h4 t ht).2.1], by rw [(k4 t ht).2.2, (h4 t ht).2.2]⟩, fun i hi => ⟨by rw [(k5 i hi).1, (h5 i hi).1], by rw [(k5 i hi).2, (h5 i hi).2]⟩, by rw [k6, h6]⟩
theorem cmF.eq (e : ∀ i, 3 ≤ i → i ≤ 15 → mI M' (p + i) = mI M (p + i)) (cd : cdE O P L0 M M') (e11 : mI M' p 11 = mI M p 11) : cmF p O P L0 cnt u M M' := ⟨fun i a b => e i a (by omega), fun j _ => by rw [e 9 (by omega) (by omega), e 10 (by omega) (by omega), e 11 (by omega) (by omega)]; exact ⟨rfl, rfl, rfl⟩, fun j _ => by rw [e 12 (by omega) (by omega)], fun t _ => by rw [e 13 (by omega) (by omega), e 14 (by omega) (by omega), e 15 (by omega) (by omega)]; exact ⟨rfl, rfl, rfl⟩, cd, e11⟩
/-- a word more, or a fault: nothing else -/
theorem cmR9.cg (h : cmR9 W pl nq sm Nn n V q p O P L0 c cnt k ar nms Mc i b M) (h3 : mI M' (q + 1) 3 = 0 → mI M (q + 1) 3 = 0) (e : ∀ i, 3 ≤ i → i ≤ 15 → mI M' (p + i) = mI M (p + i)) (e2 : mI M' p 2 = mI M p 2) (e11 : mI M' p 11 = mI M p 11) (hO : mI M' O = mI M O) (hP : mI M' P = mI M P) : cmR9 W pl nq sm Nn n V q p O P L0 c cnt k ar nms Mc i b M' := fun ct hl y => by
  obtain ⟨L, u, bl, ⟨a1, a1'⟩, a2, a3, ⟨a4, a5⟩, ⟨s, a6, a7⟩, a8, a9, a10, a11⟩ := h ct hl (h3 y)
  have cd : ∀ L9, cdE O P L9 M M' := fun L9 i _ => by rw [hO, hP]; exact ⟨rfl, rfl⟩
  exact ⟨L, u, bl, ⟨by rw [e2]; exact a1, a1'⟩, a2, a3.trans (cmF.eq e (cd _) e11), ⟨by rw [e 9 (by omega) (by omega)]; exact a4, by rw [e 10 (by omega) (by omega)]; exact a5⟩, ⟨s, by rw [e 11 (by omega) (by omega)]; exact a6, a7.cg (cd _) (Nat.le_refl _)⟩, by rw [e 12 (by omega) (by omega)]; exact a8, a9, a10, a11.cg (cd _) (Nat.le_refl _) (fun t _ => by rw [e 13 (by omega) (by omega), e 14 (by omega) (by omega), e 15 (by omega) (by omega)]; exact ⟨rfl, rfl, rfl⟩)⟩
/-- one branch more, pure -/
theorem brs_step {e : Nat} (hia : i < Nn) (hka : k + 1 ≤ a) (n4 : no34 W k a) (ne : no34 W k e) (we : W e = 34) (eo : Eo W 6 a j) (w33 : W j = 33) (jn : j < Nn) (rx : (W (j + 1) = 10 ∧ a2 = j + 2) ∨ (W (j + 1) ≠ 10 ∧ a2 = (sef W pl sm Nn nms Nn (j + 1) []).2)) : brs9 W pl sm Nn nms e (Nn - i) a = (pl a, (a, j), sll W sm Nn nms (j + 1)) :: brs9 W pl sm Nn nms e (Nn - (i + 1)) (a2 + 1) := by
  have aj := eo.pr.1
  obtain ⟨f, hf⟩ : ∃ f, Nn - i = f + 1 := ⟨Nn - i - 1, by omega⟩
  have hf2 : Nn - (i + 1) = f := by omega
  have ea : ¬ e ≤ a := fun u => by
    by_cases v : e = a
    · have y := eo.rw9 (j := a) (Nat.le_refl _) aj
      rw [← v, we] at y
      unfold rwd at y
      omega
    · exact n4.2 e ne.1 (by omega) we
  have hq : clq W (a - 1) Nn = j := clq_eo (by rw [show a - 1 + 1 = a by first | rfl | omega]; exact eo) w33 jn
  unfold sll
  rw [hf, hf2, brs9, if_neg ea, hq]
  rcases rx with ⟨r1, r2⟩ | ⟨r1, r2⟩
  · rw [if_pos r1, if_pos r1, r2]
  · rw [if_neg r1, if_neg r1, r2]
/-- a branch is put behind the others -/
theorem cmR9.branch {s0 : Nat} (h : cmR9 W pl nq sm Nn n V q p O P L0 c cnt k ar nms Mc a i M) (hp : mI M p 2 = ((L : Nat) : Int)) (ctM : CT Mc (q + 1) p nms → CT M (q + 1) p nms) (ctM1 : CT Mc (q + 1) p nms → CT M1 (q + 1) p nms) (z1 : mI M1 (q + 1) 3 = 0 → mI M (q + 1) 3 = 0) (z2 : mI M2 (q + 1) 3 = 0 → mI M1 (q + 1) 3 = 0) (z3 : mI M3 (q + 1) 3 = 0 → mI M2 (q + 1) 3 = 0) (hix : mI M3 (q + 1) 3 = 0 → ix = cnt) (ch : chD W pl nq sm Cf q p O P n c L ix a j nms M M1) (hp1 : mI M1 p 2 = ((s0 : Nat) : Int)) (tx : txE M1 q p O P s0 M2) (se : seE W pl nq sm Nn n V M1 q p O P c (j + 1) s0 nms M2) (n3 : mI M3 (q + 1) 3 = 0 → ∀ t, mI M3 (p + 12) t = if t = ix + 1 then mI M2 (p + 12) (ix + 1) + 1 else mI M2 (p + 12) t) (nb : ∀ y, y ≠ p + 12 → mI M3 y = mI M2 y) (hO : O ≠ p + 12) (hP : P ≠ p + 12) (eo : Eo W 6 a j) (w33 : W j = 33) (jn : j < n) (hNn : n ≤ Nn) (hia : i < Nn) (hka : k + 1 ≤ a) (n4 : no34 W k a) (fl0 : CT Mc (q + 1) p nms → nms.length = c → mI M3 (q + 1) 3 = 0 → (fl W (E9 sm nms 0) pl 0 a j).1 = 0 ∧ ((W (j + 1) = 10 ∧ a2 = j + 2) ∨ (W (j + 1) ≠ 10 ∧ a2 = (sef W pl sm Nn nms Nn (j + 1) []).2))) : cmR9 W pl nq sm Nn n V q p O P L0 c cnt k ar nms Mc (a2 + 1) (i + 1) M3 := fun ct hl y => by
  have y2 := z3 y
  have y1 := z2 y2
  obtain ⟨L9, u, bl, ⟨a1, a1'⟩, b2, a3, ⟨a4, a5⟩, ⟨s, a6, a7⟩, a8, a9, a10, a11⟩ := h ct hl (z1 y1)
  have eL : L9 = L := by rw [hp] at a1; omega
  subst eL
  have eix := hix y
  subst eix
  obtain ⟨c1, c0, v, e, c2, c3, c4, c5, c6, c7⟩ := ch.1 y1
  have lf := ch.2 (ctM ct) hl
  have ev : v = u + bl.length := by rw [a8] at c2; omega
  have es0 : s0 = e + 1 := by rw [hp1] at c4; omega
  subst es0
  obtain ⟨s9, d1, d2, d3, d4⟩ := se (ctM1 ct) hl y2
  obtain ⟨f1, f2⟩ := fl0 ct hl y
  have lt := c6.lt
  have sle := Scw.le _ d3
  have tp := tx.2.2.2.2.1
  have to := tx.2.2.2.2.2
  have n3 := n3 y
  have p9 : ∀ i, 3 ≤ i → i ≤ 15 → i ≠ 12 → mI M3 (p + i) = mI M1 (p + i) := fun i i3 i15 i12 => by rw [nb _ (by omega), tp i i3 i15]
  have cd1 : cdE O P (e + 1) M1 M3 := fun t ht => by rw [nb O hO, nb P hP]; exact to t ht
  have cd : cdE O P L9 M M3 := fun t ht => by rw [(cd1 t (by omega)).1, (cd1 t (by omega)).2]; exact c7 t ht
  have cd3 : ∀ L', cdE O P L' M2 M3 := fun L' t _ => by rw [nb O hO, nb P hP]; exact ⟨rfl, rfl⟩
  have p12 : ∀ t, mI M3 (p + 12) t = if t = ix + 1 then ((u + bl.length + 1 : Nat) : Int) else mI M (p + 12) t := fun t => by
    rw [n3, tp 12 (by omega) (by omega), c1 12 (by omega) (by omega), a8]
    by_cases yt : t = ix + 1
    · rw [if_pos yt, if_pos yt]; omega
    · rw [if_neg yt, if_neg yt]
  have p2 : mI M3 p 2 = ((s9 + 1 : Nat) : Int) := by rw [nb p (by omega)]; exact d1
  have t3 : ∀ t, mI M3 (p + 13) t = (if t = v then pl a else mI M (p + 13) t) ∧ mI M3 (p + 14) t = (if t = v then ((L9 : Nat) : Int) else mI M (p + 14) t) ∧ mI M3 (p + 15) t = (if t = v then ((e + 1 : Nat) : Int) else mI M (p + 15) t) := fun t => by
    rw [p9 13 (by omega) (by omega) (by omega), p9 14 (by omega) (by omega) (by omega), p9 15 (by omega) (by omega) (by omega)]
    exact c3 t
  refine ⟨s9 + 1, u, bl ++ [(pl a, (a, j), sll W sm Nn nms (j + 1))], ⟨p2, by omega⟩, b2, a3.trans ⟨fun i i3 i8 => by rw [p9 i i3 (by omega) (by omega), c1 i i3 (by omega)], fun t _ => by rw [p9 9 (by omega) (by omega) (by omega), p9 10 (by omega) (by omega) (by omega), p9 11 (by omega) (by omega) (by omega), c1 9 (by omega) (by omega), c1 10 (by omega) (by omega), c1 11 (by omega) (by omega)]; exact ⟨rfl, rfl, rfl⟩, fun t ht => by rw [p12, if_neg (by omega)], fun t ht => by rw [(t3 t).1, (t3 t).2.1, (t3 t).2.2, if_neg (by omega), if_neg (by omega), if_neg (by omega)]; exact ⟨rfl, rfl, rfl⟩, fun t ht => cd t (by omega), by rw [nb p (by omega), tx.2.2.2.1 11 (by decide), c0]⟩, ⟨by rw [p9 9 (by omega) (by omega) (by omega), c1 9 (by omega) (by omega)]; exact a4, by rw [p9 10 (by omega) (by omega) (by omega), c1 10 (by omega) (by omega)]; exact a5⟩, ⟨s, by rw [p9 11 (by omega) (by omega) (by omega), c1 11 (by omega) (by omega)]; exact a6, a7.cg cd (by omega)⟩, ?_, by rw [List.length_append, a9]; rfl, fun e' ne we => ?_, fun t x hx => ?_⟩
  · rw [p12, if_pos rfl, List.length_append]
    rfl
  · rw [a10 e' ne we, brs_step hia hka n4 ne we eo w33 (by omega) f2, List.append_assoc]
    rfl
  · by_cases tl : t < bl.length
    · rw [List.getElem?_append_left tl] at hx
      have bc := a11.cg (L' := s9 + 1) cd (by omega) (fun t' ht' => by rw [(t3 t').1, (t3 t').2.1, (t3 t').2.2, if_neg (by omega), if_neg (by omega), if_neg (by omega)]; exact ⟨rfl, rfl, rfl⟩)
      exact bc t x hx
    · have tle := (List.getElem?_eq_some_iff.mp hx).1
      rw [List.length_append] at tle
      have te : t = bl.length := by simp at tle; omega
      subst te
      rw [List.getElem?_append_right (Nat.le_refl _), Nat.sub_self] at hx
      have hx : (pl a, (a, j), sll W sm Nn nms (j + 1)) = x := Option.some.inj hx
      subst hx
      rw [(t3 _).1, (t3 _).2.1, (t3 _).2.2, if_pos ev.symm, if_pos ev.symm, if_pos ev.symm]
      refine ⟨rfl, ⟨L9, rfl, Cf, e, lf, eo, Nat.le_of_lt jn, f1, a1', c6.cg (fun t _ t2 => cd1 t (by omega)), by omega, by rw [(cd1 e (by omega)).1]; exact c5⟩, e + 1, rfl, s9, d4, by omega, Scw.cg _ d3 (fun t _ _ => cd3 (t + 1) t (by omega)), by omega, by rw [nb O hO]; exact d2⟩
end TXS2
end
section
/-! The class's reader of texts, exactly: a command's branches. -/
section TXT
variable {G : mG} {L0 d z q w T A B D N C n p O P K Ab Be Cm V F c s L L' cnt a a2 j k e ix nbr i b f ar Nn : Nat} {M0 M M' M1 M2 Mc Mc' : mM} {ns : Nat → Int} {sf ef : Nat → Nat} {W pl nq E : Nat → Int} {sm : Nat → Nat → Prop} {nms : List nm9} {ft fB fS : Int × Int} {zr : List Int}
theorem rc56 : Rc W (56 :: zr) a (63 :: 33 :: 58 :: zr) a := Rc.one (mst_n (by decide) (by decide) (ys := [63, 33, 58]) (t := 0) rfl (Or.inl (by decide)))
theorem rc57 (h : W a ≠ 24) : Rc W (57 :: zr) a zr a := Rc.one (mst_n (by decide) (by decide) (ys := []) (t := 0) (by
  show ex57 (W a) = _
  unfold ex57
  rw [if_neg h]) (Or.inl (by decide)))
theorem rc57m (h : W a = 24) : Rc W (57 :: zr) a (56 :: 57 :: zr) (a + 1) := Rc.one (mst_n (by decide) (by decide) (ys := [56, 57]) (t := 1) (by
  show ex57 (W a) = _
  unfold ex57
  rw [if_pos h]) (Or.inl (by decide)))
theorem brfc_e (hpe : e ≤ a) : brf W pl sm Nn nms e f a b = (0, 0) := by
  cases f with
  | zero => rfl
  | succ f => rw [brf, if_pos hpe]
/-- b branches have been read, their fault is fB, the next begins at i; the command begins at k, its arrow stands at ar -/
def brK (W pl : Nat → Int) (sm : Nat → Nat → Prop) (Nn : Nat) (Mc : mM) (q p c k ar : Nat) (nms : List nm9) (fB : Int × Int) (i b : Nat) : Prop := CT Mc (q + 1) p nms → nms.length = c → ∀ e, no34 W k e → W e = 34 → (fB.1 ≠ 0 → brf W pl sm Nn nms e Nn (ar + 1) 0 = fB) ∧ (fB.1 = 0 → brf W pl sm Nn nms e Nn (ar + 1) 0 = brf W pl sm Nn nms e (Nn - b) i b)
theorem rsX.to (h : rsX W pl sm Nn Mc' q p c k nms fS a) (hc : CT Mc (q + 1) p nms → CT Mc' (q + 1) p nms) : rsX W pl sm Nn Mc q p c k nms fS a := h.imp (fun u => u) (fun u => ⟨u.1, fun ct hl => u.2.1 (hc ct) hl, u.2.2⟩)
theorem rsX.no {k0 : Nat} (h : rsX W pl sm Nn Mc q p c k nms fS a) (n4 : no34 W k0 k) : no34 W k0 a ∧ k ≤ a := by
  rcases h with ⟨w10, -, ea⟩ | ⟨-, -, g⟩
  · subst ea
    exact ⟨n4.sc (by rw [w10]; decide), Nat.le_succ k⟩
  · exact ⟨n4.join g, g.1⟩
theorem brK.step (h : brK W pl sm Nn Mc q p c k ar nms fB a i) (hb8 : fB.1 = 0 → i ≤ 8) (hia : i ≤ a) (hka : k + 1 ≤ a) (n4 : no34 W k a) (hNn : n ≤ Nn) (eo : Eo W 6 a j) (w33 : W j = 33) (jn : j < n) (hE : CT Mc (q + 1) p nms → nms.length = c → E = E9 sm nms 0) (rx : rsX W pl sm Nn Mc q p c (j + 1) nms fS a2) : brK W pl sm Nn Mc q p c k ar nms (fst9 (fst9 (fst9 fB (if 8 ≤ i then (5, pl a) else (0, 0))) (vrf W E pl 0 a j)) fS) (a2 + 1) (i + 1) := fun ct hl e ne we => by
  obtain ⟨h1, h2⟩ := h ct hl e ne we
  have aj := eo.pr.1
  by_cases f0 : fB.1 = 0
  · have hb := h2 f0
    have i8 := hb8 f0
    obtain ⟨f, hf⟩ : ∃ f, Nn - i = f + 1 := ⟨Nn - i - 1, by omega⟩
    have hf2 : Nn - (i + 1) = f := by omega
    have ea : ¬ e ≤ a := fun u => by
      by_cases v : e = a
      · have y := eo.rw9 (j := a) (Nat.le_refl _) aj
        rw [← v, we] at y
        unfold rwd at y
        omega
      · exact n4.2 e ne.1 (by omega) we
    have hq : clq W (a - 1) Nn = j := clq_eo (by rw [show a - 1 + 1 = a by first | rfl | omega]; exact eo) w33 (by omega)
    have ev : vrf W E pl 0 a j = rf9 W pl sm nms 0 0 a j := by
      rw [hE ct hl]
      rfl
    rw [hf, brf, if_neg ea, hq, ← ev] at hb
    rw [fst9_zr f0, hf2]
    by_cases b8 : i = 8
    · rw [if_pos b8] at hb
      rw [if_pos (by omega), fst9_n (show ((5 : Int), pl a).1 ≠ 0 by simp), fst9_n (show ((5 : Int), pl a).1 ≠ 0 by simp)]
      exact ⟨fun _ => hb, fun u => absurd u (by first | decide | simp)⟩
    · rw [if_neg b8] at hb
      rw [if_neg (by omega), fst9_0]
      by_cases v0 : (vrf W E pl 0 a j).1 = 0
      · rw [if_neg (fun u => u v0)] at hb
        rw [fst9_zr v0]
        rcases rx with ⟨w10, fs0, ea2⟩ | ⟨w10, so, -⟩
        · rw [if_pos w10] at hb
          rw [fs0, ea2]
          exact ⟨fun u => absurd rfl u, fun _ => hb⟩
        · rw [if_neg w10] at hb
          obtain ⟨g1, g2⟩ := so ct hl
          by_cases s0 : fS.1 = 0
          · obtain ⟨s1, s2⟩ := g2 s0
            have s1 : (sef W pl sm Nn nms Nn (j + 1) []).1.1 = 0 := s1
            have s2 : a2 = (sef W pl sm Nn nms Nn (j + 1) []).2 := s2
            rw [if_neg (fun u => u s1), ← s2] at hb
            exact ⟨fun u => absurd s0 u, fun _ => hb⟩
          · have s1 : (sef W pl sm Nn nms Nn (j + 1) []).1 = fS := g1 s0
            rw [s1, if_pos s0] at hb
            exact ⟨fun _ => hb, fun u => absurd u s0⟩
      · rw [if_pos v0] at hb
        rw [fst9_n v0]
        exact ⟨fun _ => hb, fun u => absurd u v0⟩
  · rw [fst9_n f0, fst9_n f0, fst9_n f0]
    exact ⟨h1, fun u => absurd u f0⟩
/-- before a branch, or behind the last -/
def rcJ (T A B D n V O P L0 cnt : Nat) (W pl nq : Nat → Int) (sm : Nat → Nat → Prop) (Nn : Nat) (Mc : mM) (q p c k ar : Nat) (nms : List nm9) (ft : Int × Int) (l3 : Int) (b a : Nat) (M : mM) : Prop := WTq M T A B D n W pl nq sm ∧ cmK q p Mc M ∧ ∃ fB : Int × Int, FT M (q + 1) (fst9 ft fB) ∧ (fB.1 = 0 → b ≤ 8) ∧ (no34 W k a ∧ k + 1 ≤ a) ∧ ((l3 ≠ 0 ∧ b ≤ a ∧ Rc W [50] 0 [56, 57, 34, 50] a ∧ brK W pl sm Nn Mc q p c k ar nms fB a b ∧ cmR9 W pl nq sm Nn n V q p O P L0 c cnt k ar nms Mc a b M) ∨ (l3 = 0 ∧ Rc W [50] 0 [34, 50] a ∧ brK W pl sm Nn Mc q p c k ar nms fB (a + 1) b ∧ cmR9 W pl nq sm Nn n V q p O P L0 c cnt k ar nms Mc (a + 1) b M))
/-- a command has been read, exactly: from its arrow at ar on -/
def cmV (W pl nq : Nat → Int) (sm : Nat → Nat → Prop) (Nn n V O P L0 cnt : Nat) (Mc : mM) (q p c k ar ix : Nat) (nms : List nm9) (ft : Int × Int) (x : Int) (M' : mM) : Prop := ∃ a' : Nat, mI M' (q + 1) 2 = a' ∧ ((x = 0 ∧ Rf W [50] 0 a') ∨ (x = 1 ∧ ∃ (e : Nat) (fB : Int × Int), a' = e + 1 ∧ W e = 34 ∧ no34 W k e ∧ Rc W [50] 0 [50] (e + 1) ∧ FT M' (q + 1) (fst9 ft fB) ∧ (CT Mc (q + 1) p nms → nms.length = c → (fB.1 ≠ 0 → brf W pl sm Nn nms e Nn (ar + 1) 0 = fB) ∧ (fB.1 = 0 → brf W pl sm Nn nms e Nn (ar + 1) 0 = (0, 0))) ∧ mI M' (q + 1) 19 = mI Mc (q + 1) 19 ∧ (∀ i, 6 ≤ i → i ≤ 9 → mI M' (q + 1 + i) = mI Mc (q + 1 + i)) ∧ (∀ i, i ≠ 2 → mI M' p i = if i = 12 then (ix : Int) + 1 else mI Mc p i) ∧ mI M' (p + 6) = mI Mc (p + 6) ∧ mI M' (p + 7) = mI Mc (p + 7) ∧ ∃ b, (fB.1 = 0 → b ≤ 8) ∧ cmR9 W pl nq sm Nn n V q p O P L0 c cnt k ar nms Mc (e + 1) b M'))
theorem x_rc_end (h : cmI M0 z q w T A B D N C n p O P K Ab Be Cm V F ns sf ef c cnt L ix nbr a M) (hLa : L ≤ a + 1) (e78 : M' = mUI M p 12 ((ix : Int) + 1)) (wt : WTq M T A B D n W pl nq sm) (km : cmK q p Mc M) (hF : FT M (q + 1) (fst9 ft fB)) (n4 : no34 W k a) (hR : Rc W [50] 0 [34, 50] a) (bk : brK W pl sm Nn Mc q p c k ar nms fB (a + 1) b) (hb8 : fB.1 = 0 → b ≤ 8) (cr : cmR9 W pl nq sm Nn n V q p O P L0 c cnt k ar nms Mc (a + 1) b M) : mK M' (mR M' q 0) = 4 ∧ Ci G y_RR_accept d [vr (mR M' q 0), vi 35] M' (fun x82 M81 => i32 x82 ∧ mOk M81 ∧ ((x82 = 0 ∨ x82 = 1) ∧ (cmQ9 M0 z q w T A B D N C n p O P K Ab Be Cm V F ns sf ef c x82 M81 ∧ cmV W pl nq sm Nn n V O P L0 cnt Mc q p c k ar ix nms ft x82 M81))) := by
  obtain ⟨f1, h1, cy, a1, a2, p1, d1, c1, hix⟩ := h
  have ap := h1.1.apart
  have qp := h1.1.2.2.2.2.2.1.2.1
  have f : FI (fun y => y = p) M M' := by rw [e78]; exact FI.ui rfl
  have ok : mOk M' := by rw [e78]; exact mOk_UI h1.1.1.1 ⟨by omega, by omega⟩
  have nb : ∀ y, y ≠ p → mI M' y = mI M y := fun y hy => f.2.2.2.2.2.2 y hy
  have ip : ∀ i, mI M' p i = if i = 12 then (ix : Int) + 1 else mI M p i := fun i => by
    rw [mI_ui _ i e78]
    by_cases y : i = 12
    · rw [if_pos ⟨rfl, y⟩, if_pos y]
    · rw [if_neg (fun t => y t.2), if_neg y]
  have fx : FI (txS q p O P) M M' := f.mono (fun y hy => Or.inr (Or.inr (Or.inr (Or.inl hy))))
  have nO := nb O (by first | (have h1 := ap.2.2.2.1; have h2 := ap.2.1; omega) | omega)
  have nP := nb P (by first | (have h1 := ap.2.2.2.2.1; have h2 := ap.2.2.1; omega) | omega)
  have nr : ∀ i, i ≤ 10 → mI M' (q + i) = mI M (q + i) := fun i hi => nb _ (by omega)
  have h' : TX M' z q w T A B D N C n p O P K Ab Be Cm V F ns sf ef c (ix + 1) L := by
    obtain ⟨hP, ⟨k1, k2, k3, k4⟩, x1, x2⟩ := h1
    refine ⟨hP.fi ok fx, ⟨by rw [ip, if_neg (by decide)]; exact k1, by rw [ip, if_neg (by decide)]; exact k2, ?_, fun j => by rw [nr 6 (by omega)]; exact k4 j⟩, ⟨by rw [ip, if_pos rfl]; omega, by omega⟩, fun y0 => ?_⟩
    · unfold TN at k3 ⊢
      rw [(hP.words fx).1, nr 1 (by omega), show q + 1 + 6 = q + 7 by first | rfl | omega, show q + 1 + 7 = q + 8 by first | rfl | omega, show q + 1 + 8 = q + 9 by first | rfl | omega, show q + 1 + 9 = q + 10 by first | rfl | omega, nr 7 (by omega), nr 8 (by omega), nr 9 (by omega), nr 10 (by omega)]
      exact k3
    · rw [nr 1 (by omega)] at y0
      obtain ⟨g1, g2, u, v, g3, g4, g5, g6, g7, sg, g8, g9⟩ := cy y0
      subst g1
      have cg : ∀ {s h : Nat}, PC M O P V F ns ef L s h → PC M' O P V F ns ef L s h := fun hc => hc.cg (fun i _ => by rw [nO]) (fun i _ => by rw [nP])
      obtain ⟨m1, m2, m3, m4, m5, ⟨uu, m6, m7, m8⟩, m9⟩ := g7.up (M' := M') (by rw [ip, if_neg (by decide)]) (nb _ (by omega)) (nb _ (by omega)) (fun i _ => by rw [nb _ (by omega)]) (fun i hi => by rw [nb _ (by omega)]) (fun b' _ => ⟨by rw [nb _ (by omega)], by rw [nb _ (by omega)]⟩) (fun i _ => ⟨by rw [nO], by rw [nP]⟩)
      have t12 : mI M' (p + 12) = mI M (p + 12) := nb _ (by omega)
      have uu' : uu = u := by
        rw [t12, g3] at m6
        omega
      refine ⟨v, by rw [t12]; exact g4, m1, m2, fun j hj => ?_, m4, fun j hj => ?_, ⟨v, by rw [t12]; exact g4, Nat.le_refl _, by omega⟩, m9⟩
      · by_cases y : j = ix
        · subst y
          exact ⟨sg, by rw [nb _ (by omega)]; exact g8, cg g9⟩
        · exact m3 j (by omega)
      · by_cases y : j = ix
        · subst y
          exact ⟨u, v, by rw [t12]; exact g3, by rw [t12]; exact g4, by omega, by omega⟩
        · exact m5 j (by omega)
  have n1 := nr 1 (by omega)
  clear cy
  rw [h'.1.2.1.2.1]
  refine ⟨h'.1.1.2.1.1, (x_tx_accept (x := 35) (i32s (by omega) (by omega)) (by omega) h' (by rw [n1]; exact a1) a2).mono (fun x82 M81 kk => ?_)⟩
  obtain ⟨i1, o1, hx, h2, x2, k1, r1, b1, m1⟩ := kk
  have wt' : WTq M' T A B D n W pl nq sm := wt.fi h1.1 fx
  have q9 : ∀ i, i ≤ 9 → q + 1 + i ≠ p := fun i hi => by omega
  refine ⟨i1, o1, hx, ?_⟩
  rcases k1 with ⟨e1, e35, a3, an3⟩ | ⟨e1, e2⟩
  · have w34 : W a = 34 := (wt'.is a2 (by decide) (by decide)).mp e35
    have x2e := x2.2
    refine ⟨?_, a + 1, a3, Or.inr ⟨e1, a, fB, rfl, w34, n4, rc_t hR w34 (by decide), hF.same (by rw [r1 3 (by decide), n1]) (by rw [r1 4 (by decide), n1]), fun ct hl => ?_, ?_⟩⟩
    rotate_left
    · obtain ⟨y1, y2⟩ := bk ct hl a n4 w34
      refine ⟨y1, fun y0 => ?_⟩
      rw [y2 y0, brfc_e (Nat.le_succ a)]
    · refine ⟨by rw [(cmK.tx x2e).1, n1]; exact km.1, fun i i6 i9 => by rw [(cmK.tx x2e).2.1 i i6 i9, nb _ (q9 i i9)]; exact km.2.1 i i6 i9, fun i i2 => ?_, by rw [(cmK.tx x2e).2.2.2.1, nb _ (by omega)]; exact km.2.2.2.1, by rw [(cmK.tx x2e).2.2.2.2, nb _ (by omega)]; exact km.2.2.2.2, b, hb8, cr.cg (fun u => by rw [r1 3 (by decide), n1] at u; exact u) (fun i i3 i15 => by rw [b1 _ (by omega), nb _ (by omega)]) (by rw [b1 p (by first | (have h1 := qp; omega) | omega), ip, if_neg (by decide)]) (by rw [b1 p (by first | (have h1 := qp; omega) | omega), ip, if_neg (by decide)]) (by rw [b1 O (by first | (have h1 := ap.2.2.2.1; have h2 := ap.2.1; omega) | omega), nO]) (by rw [b1 P (by first | (have h1 := ap.2.2.2.2.1; have h2 := ap.2.2.1; omega) | omega), nP])⟩
      rw [(cmK.tx x2e).2.2.1 i i2, ip]
      by_cases y : i = 12
      · rw [if_pos y, if_pos y]
      · rw [if_neg y, if_neg y]
        exact km.2.2.1 i i2
    refine ⟨(f1.trans fx).trans x2.1, Or.inr ⟨e1, L, ix + 1, a + 1, h2, by rw [b1 p (by first | (have h1 := qp; omega) | omega), ip, if_neg (by decide)]; exact p1, a3, an3, hLa, by rw [r1 5 (by decide), n1]; exact d1⟩⟩
  · rw [e2]
    exact ⟨⟨f1.trans fx, Or.inl ⟨e1, L, ix + 1, h', a, by rw [n1]; exact a1, a2⟩⟩, a, by rw [n1]; exact a1, Or.inl ⟨e1, rf_t hR (fun u => m1 e1 ((wt'.is a2 (by decide) (by decide)).mpr u)) (by decide)⟩⟩
theorem x_rc201 (h : cmI M0 z q w T A B D N C n p O P K Ab Be Cm V F ns sf ef c cnt L ix nbr a M) (hLa : L ≤ a) (hi : i ≤ n) (hNn : n ≤ Nn) (wt : WTq M T A B D n W pl nq sm) (km : cmK q p Mc M) (hF : FT M (q + 1) (fst9 ft (fst9 fB (if 8 ≤ i then (5, pl a) else (0, 0))))) (hb8 : fB.1 = 0 → i ≤ 8) (hia : i ≤ a) (hka : k + 1 ≤ a) (n4 : no34 W k a) (hR : Rc W [50] 0 [56, 57, 34, 50] a) (bk : brK W pl sm Nn Mc q p c k ar nms fB a i) (cr : cmR9 W pl nq sm Nn n V q p O P L0 c cnt k ar nms Mc a i M) (n8 : mI M (q + 1) 3 = 0 → nbr ≤ i ∧ i < 8) (nx : ∀ (M1 : mM) (l3 : Int) (L' nbr' a' : Nat), i32 l3 → cmI M0 z q w T A B D N C n p O P K Ab Be Cm V F ns sf ef c cnt L' ix nbr' a' M1 → (l3 ≠ 0 → L' ≤ a') → L' ≤ a' + 1 → (mI M1 (q + 1) 3 = 0 → nbr' ≤ i + 1) → rcJ T A B D n V O P L0 cnt W pl nq sm Nn Mc q p c k ar nms ft l3 (i + 1) a' M1 → h_TR_readCommand_160 G (d + 6) q ix l3 ((i : Int) + 1) M1 (fun x M' => cmQ9 M0 z q w T A B D N C n p O P K Ab Be Cm V F ns sf ef c x M' ∧ cmV W pl nq sm Nn n V O P L0 cnt Mc q p c k ar ix nms ft x M')) : h_TR_readCommand_201 G (d + 6) q ix i M (fun x M' => cmQ9 M0 z q w T A B D N C n p O P K Ab Be Cm V F ns sf ef c x M' ∧ cmV W pl nq sm Nn n V O P L0 cnt Mc q p c k ar ix nms ft x M') := by
  obtain ⟨f1, h1, cy, a1, a2, p1, d1, c1, hix⟩ := h
  have hN : n ≤ 16384 := by have := h1.1.1.2.2.2.1.2.2.1; have := h1.1.1.2.2.2.1.1.2.2.2.2.2.2.1; omega
  obtain ⟨⟨np0, np1, -, -⟩, ⟨nO0, nO1, -, -, nOp⟩, nP0, nP1, -, -, nPp⟩ := h1.1.ne
  refine k_TR_readCommand_201 h1.1.1.1 (i32s (by omega) (by omega)) (i32s (by omega) (by omega)) ⟨h1.1.2.1.1, (x_TR_readChance (nms := nms) h1 cy (fun y => by have := n8 y; omega) a1 a2 p1 hLa d1 c1 hix wt hF (hR.trans rc56)).mono (fun x99 M98 kk => ?_)⟩
  obtain ⟨⟨f98, k98⟩, j9, ej9, cv⟩ := kk
  have i99 : i32 x99 := m_b32 (k98.imp (fun u => u.1) (fun u => u.1))
  have o98 : mOk M98 := by
    rcases k98 with ⟨-, u, -⟩ | ⟨-, u, -⟩
    · exact u.1.1.1
    · exact u.1.1.1
  refine ⟨i99, o98, fun y => ?_, fun y => ?_⟩
  · obtain ⟨-, u⟩ := k98.resolve_right (fun u => by rw [y] at u; exact absurd u.1 (by first | decide | simp))
    refine ⟨⟨f1.trans f98, Or.inl ⟨rfl, L, cnt, u⟩⟩, j9, ej9, Or.inl ⟨rfl, ?_⟩⟩
    rcases cv with ⟨-, cv⟩ | ⟨cv, -⟩
    · exact cv
    · exact absurd y (by rw [cv]; decide)
  obtain ⟨-, h98, z98, a', e, a98, an98, p98, Le, ea, d98, c98, cy98, br98⟩ := k98.resolve_left (fun u => y u.1)
  clear k98 cy
  obtain ⟨-, j, E, ej, w33, eo, rc5, F98, hE, km98, Cf, chd⟩ := cv.resolve_left (fun u => y u.1)
  clear cv
  have ea' : a' = j + 1 := by
    rw [a98] at ej9
    omega
  subst ea'
  have wt98 : WTq M98 T A B D n W pl nq sm := wt.fi h1.1 f98
  have kmc := km.trans km98
  have I98 : rsI M98 z q w T A B D N C n p O P K Ab Be Cm V F ns sf ef c cnt L (e + 1) (j + 1) (e + 1) M98 := ⟨h98, txF.refl, a98, an98, p98, Nat.le_refl _, ea, d98, c98, fun _ => ⟨fun _ => 0, fun pc h0 h2 => absurd h0 (by omega), rfl, rfl, Nat.le_refl _⟩, by omega⟩
  refine ⟨h98.1.2.1.1, (x_TR_readSets (nms := nms) rfl hNn h98.2.1.2.2.1 I98 wt98 F98 rc5).mono (fun x105 M104 kk => ?_)⟩
  obtain ⟨⟨f104, k104⟩, b9, eb9, rv⟩ := kk
  have i105 : i32 x105 := m_b32 (k104.imp (fun u => u.1) (fun u => u.1))
  have o104 : mOk M104 := by
    rcases k104 with ⟨-, u, -⟩ | ⟨-, u, -⟩
    · exact u.1.1.1
    · exact u.1.1.1
  refine ⟨i105, o104, fun y => ?_, fun y => ?_⟩
  · obtain ⟨-, u⟩ := k104.resolve_right (fun u => by rw [y] at u; exact absurd u.1 (by first | decide | simp))
    refine ⟨⟨(f1.trans f98).trans f104.1, Or.inl ⟨rfl, L, cnt, u⟩⟩, b9, eb9, Or.inl ⟨rfl, ?_⟩⟩
    rcases rv with ⟨-, rv⟩ | ⟨rv, -⟩
    · exact rv
    · exact absurd y (by rw [rv]; decide)
  obtain ⟨-, h104, a2', s9, a104, an104, p104, es9, sa, d104, c104, cd104⟩ := k104.resolve_left (fun u => y u.1)
  clear k104 I98
  obtain ⟨-, rc6, fS, F104, rx, sE⟩ := rv.resolve_left (fun u => y u.1)
  clear rv
  have eb' : a2' = b9 := by
    rw [a104] at eb9
    omega
  subst eb'
  have wt104 : WTq M104 T A B D n W pl nq sm := wt98.fi h98.1 f104.1
  have km104 := kmc.trans (cmK.tx f104.2)
  have jn : j < n := by omega
  obtain ⟨n6, ja2⟩ := rx.no ((n4.eo eo).sc (by rw [w33]; decide))
  have bk2 := bk.step hb8 hia hka n4 hNn eo w33 jn (fun ct hl => hE (ct.cm km) hl) (rx.to (fun ct => ct.cm kmc))
  rw [fst9_as, fst9_as] at F104
  have ka2 : k + 1 ≤ a2' := Nat.le_trans hka (Nat.le_trans (Nat.le_of_lt eo.pr.1) (Nat.le_trans (Nat.le_succ j) ja2))
  have ia2 : i + 1 ≤ a2' + 1 := Nat.succ_le_succ (Nat.le_trans hia (Nat.le_trans (Nat.le_of_lt eo.pr.1) (Nat.le_trans (Nat.le_succ j) ja2)))
  have cy104 := cy98.tx (f104.less (show L ≤ e + 1 by omega)).2
  have z104 : mI M104 (q + 1) 3 = 0 → mI M98 (q + 1) 3 = 0 := fun t => Classical.byContradiction (fun t2 => f104.2.2.1 t2 t)
  have z0 : mI M98 (q + 1) 3 = 0 → mI M (q + 1) 3 = 0 := fun t => Classical.byContradiction (fun t2 => z98 t2 t)
  have br : mI M104 (q + 1) 3 = 0 → ∃ v s s' : Nat, mI M104 (p + 12) (cnt + 1) = ((v : Nat) : Int) ∧ mI M104 (p + 14) v = ((s : Nat) : Int) ∧ PC M104 O P V F ns ef (s9 + 1) s 1 ∧ mI M104 (p + 15) v = ((s' : Nat) : Int) ∧ PC M104 O P V F ns ef (s9 + 1) s' 0 := fun t => by
    obtain ⟨v, H, b1, b2, b3, b4⟩ := br98 (z104 t)
    obtain ⟨H2, b5⟩ := cd104 t
    obtain ⟨-, -, u', v', -, -, -, -, g7, -⟩ := cy104 t
    have t12 := f104.2.2.2.2.2.1 12 (by omega) (by omega)
    have t14 := f104.2.2.2.2.2.1 14 (by omega) (by omega)
    have t15 := f104.2.2.2.2.2.1 15 (by omega) (by omega)
    have fl : ∀ y, y < F → ns y = 7 → ef y < L := fun y hy h7 => ((g7.1 y hy).2 h7).2.2.1
    refine ⟨v, L, e + 1, by rw [t12]; exact b1, by rw [t14]; exact b2, ⟨e, H, F, b4.cg (fun i hi => (f104.2.2.2.2.2.2 i (by omega)).1) (fun i hi => (f104.2.2.2.2.2.2 i (by omega)).2), by omega, Nat.le_refl _, fl⟩, by rw [t15]; exact b3, ⟨s9, H2, F, b5, Nat.lt_succ_self _, Nat.le_refl _, fun y hy h7 => ?_⟩⟩
    have := fl y hy h7
    omega
  have n8' : mI M104 (q + 1) 3 = 0 → nbr < 8 := fun t => by have := n8 (z0 (z104 t)); omega
  obtain ⟨t1, t2⟩ := s_rc_cnt (M0 := M0) ((f1.trans f98).trans f104.1) h104 cy104 n8' a104 an104 p104 (by omega) d104 c104 hix br
  have tt := h104.tab.2.1.2.2.2.2.2.2.2.2.2.1
  rw [h104.1.2.1.2.1, h104.1.2.1.2.2.2.1, tt]
  refine ⟨h104.1.2.1.1, h104.1.1.2.1.1, t1, fun M120 e120 => ?_⟩
  obtain ⟨nbr', I120, hn'⟩ := t2 M120 e120
  have h120 := I120.2.1
  have a120 := I120.2.2.2.1
  have nn : mI M120 (q + 1) 3 = 0 → nbr' ≤ i + 1 := fun t => by
    have t104 : mI M104 (q + 1) 3 = 0 := by
      by_cases u : mI M104 (q + 1) 3 = 0
      · exact u
      · rw [if_neg u] at e120
        rw [e120] at t
        exact t
    have := n8 (z0 (z104 t104))
    have := hn' t
    omega
  have nb120 : ∀ b, b ≠ p + 12 → mI M120 b = mI M104 b := fun b hb => by
    by_cases u : mI M104 (q + 1) 3 = 0
    · rw [if_pos u] at e120
      have f : FI (fun y => y = p + 12) M104 M120 := by rw [e120]; exact FI.ui rfl
      exact f.2.2.2.2.2.2 b hb
    · rw [if_neg u] at e120
      rw [e120]
  have f120 : FI (txS q p O P) M104 M120 := by
    by_cases u : mI M104 (q + 1) 3 = 0
    · rw [if_pos u] at e120
      rw [e120]
      exact FI.ui (Or.inr (Or.inr (Or.inr (Or.inr (Or.inl ⟨by omega, by omega⟩)))))
    · rw [if_neg u] at e120
      rw [e120]
      exact FI.refl
  have q12 : (∀ i, i ≤ 9 → q + 1 + i ≠ p + 12) ∧ p ≠ p + 12 ∧ p + 6 ≠ p + 12 ∧ p + 7 ≠ p + 12 := by
    have qp := h104.1.2.2.2.2.2.1.2.1
    clear t1 t2 br br98 cy98 cy104 cd104 e120 tt n8 n8' hn' nn nx
    exact ⟨fun i hi => by omega, by omega, by omega, by omega⟩
  have r120 : mI M120 (q + 1) = mI M104 (q + 1) := nb120 _ (q12.1 0 (by omega))
  have km120 : cmK q p Mc M120 := km104.trans ⟨by rw [r120], fun i _ i9 => nb120 _ (q12.1 i i9), fun i _ => by rw [nb120 _ q12.2.1], nb120 _ q12.2.2.1, nb120 _ q12.2.2.2⟩
  have wt120 : WTq M120 T A B D n W pl nq sm := wt104.fi h104.1 f120
  have F120 : FT M120 (q + 1) (fst9 ft (fst9 (fst9 (fst9 fB (if 8 ≤ i then (5, pl a) else (0, 0))) (vrf W E pl 0 a j)) fS)) := by
    have u := F104.same (M' := M120) (by rw [r120]) (by rw [r120])
    simp only [fst9_as] at u ⊢
    exact u
  have n120 : mI M120 (q + 1) 3 = 0 → ∀ t, mI M120 (p + 12) t = if t = ix + 1 then mI M104 (p + 12) (ix + 1) + 1 else mI M104 (p + 12) t := fun z t => by
    rw [if_pos (by rw [r120] at z; exact z), show Int.toNat ((ix : Int) + 1) = ix + 1 by first | rfl | omega] at e120
    rw [mI_ui _ t e120]
    by_cases yt : t = ix + 1
    · rw [if_pos ⟨rfl, yt⟩, if_pos yt]
    · rw [if_neg (fun v => yt v.2), if_neg yt]
  have hix0 : mI M120 (q + 1) 3 = 0 → ix = cnt := fun z => (cy104 (by rw [r120] at z; exact z)).1
  have nOP : O ≠ p + 12 ∧ P ≠ p + 12 := by
    have ap := h104.1.apart
    exact ⟨u7b ap.2.2.2.1 (by decide) (by decide) (by decide), u7b ap.2.2.2.2.1 (by decide) (by decide) (by decide)⟩
  have cr120 : cmR9 W pl nq sm Nn n V q p O P L0 c cnt k ar nms Mc (a2' + 1) (i + 1) M120 := by
    refine cr.branch (M1 := M98) (M2 := M104) (L := L) (s0 := e + 1) (ix := ix) (Cf := Cf) (j := j) p1 (fun ct => ct.cm km) (fun ct => ct.cm kmc) z0 z104 (fun z => by rw [r120] at z; exact z) hix0 chd p98 f104.2 sE n120 nb120 nOP.1 nOP.2 eo w33 jn hNn (by have := eo.pr.1; omega) hka n4 (fun ct hl z => ?_)
    have f0 := F120.1.symm.trans z
    obtain ⟨-, f1⟩ := fst9_1.mp f0
    obtain ⟨f2, f3⟩ := fst9_1.mp f1
    obtain ⟨-, f4⟩ := fst9_1.mp f2
    have eE := hE (ct.cm km) hl
    rw [eE] at f4
    refine ⟨(fst9_1.mp f4).1, ?_⟩
    rcases rx with ⟨r1, -, r3⟩ | ⟨r1, r2, -⟩
    · exact Or.inl ⟨r1, r3⟩
    · exact Or.inr ⟨r1, ((r2 (ct.cm kmc) hl).2 f3).2⟩
  clear t1 t2 br br98 cy98 cy104 cd104 e120 tt n8 n8' hn'
  rw [h120.1.2.1.2.1]
  refine ⟨h120.1.1.1, h120.1.1.2.1.1, (x_tx_accept (x := 25) (i32s (by omega) (by omega)) (by omega) h120 a120 an104).mono (fun x126 M125 kk => ?_)⟩
  obtain ⟨i126, o125, hx126, h125, x125, k125, r125, b125, m125⟩ := kk
  have wt125 : WTq M125 T A B D n W pl nq sm := wt120.fi h120.1 x125.1
  have km125 := km120.trans (cmK.tx x125.2)
  have F125 := F120.same (r125 3 (by decide)) (r125 4 (by decide))
  have pq1 : ∀ i, i ≤ 15 → p + i ≠ q + 1 := fun i hi => by
    have qp := h104.1.2.2.2.2.2.1.2.1
    omega
  have cr125 := cr120.cg (M' := M125) (fun u => by rw [r125 3 (by decide)] at u; exact u) (fun i _ i15 => b125 _ (pq1 i i15)) (by rw [b125 p np1]) (by rw [b125 p np1]) (b125 O nO1) (b125 P nP1)
  have z8 : (fst9 (fst9 (fst9 fB (if 8 ≤ i then (5, pl a) else (0, 0))) (vrf W E pl 0 a j)) fS).1 = 0 → i + 1 ≤ 8 := fun u => by
    have u1 := (fst9_1.mp (fst9_1.mp (fst9_1.mp u).1).1).2
    by_cases v : 8 ≤ i
    · rw [if_pos v] at u1
      exact absurd u1 (by first | decide | simp)
    · omega
  obtain ⟨j1, j2, j3, j4, j5, j6, j7, j8, j9⟩ := I120
  have Y : mI M125 (q + 1) 3 = 0 → nbr' ≤ i + 1 := fun t => nn (Classical.byContradiction (fun t2 => x125.2.2.1 t2 t))
  refine ⟨i126, o125, ?_⟩
  rcases k125 with ⟨e1, e24, a125, an125⟩ | ⟨e1, e2⟩
  · have w24 : W a2' = 24 := (wt120.is an104 (by decide) (by decide)).mp e24
    exact nx M125 x126 (s9 + 1) nbr' (a2' + 1) i126 ⟨j1.trans x125.1, h125, j3.tx x125.2, a125, an125, by rw [b125 p np1]; exact j6, by rw [r125 5 (by decide)]; exact j7, by rw [r125 6 (by decide)]; exact j8, j9⟩ (fun _ => by omega) (by omega) Y ⟨wt125, km125, _, F125, z8, ⟨n6.sc (by rw [w24]; decide), Nat.le_succ_of_le ka2⟩, Or.inl ⟨by rw [e1]; decide, ia2, rc6.trans (rc57m w24), bk2, cr125⟩⟩
  · have w24 : W a2' ≠ 24 := fun u => m125 e1 ((wt120.is an104 (by decide) (by decide)).mpr u)
    exact nx M125 x126 (s9 + 1) nbr' a2' i126 ⟨j1.trans x125.1, h125, j3.tx x125.2, by rw [e2]; exact j4, j5, by rw [b125 p np1]; exact j6, by rw [r125 5 (by decide)]; exact j7, by rw [r125 6 (by decide)]; exact j8, j9⟩ (fun t => absurd e1 t) (by omega) Y ⟨wt125, km125, _, F125, z8, ⟨n6, ka2⟩, Or.inr ⟨e1, rc6.trans (rc57 w24), bk2, cr125⟩⟩
end TXT
end
section
section
/-! The class's reader of texts, exactly: a command from its arrow on. -/
section TXU
variable {G : mG} {L0 d z q w T A B D N C n p O P K Ab Be Cm V F c s L L' cnt a a0 j k e ix nbr i b f ar Nn : Nat} {M0 M M' M1 M2 Mc Mc' : mM} {ns : Nat → Int} {sf ef : Nat → Nat} {H : Nat → Nat} {W pl nq E : Nat → Int} {sm : Nat → Nat → Prop} {nms : List nm9} {ft fB fS : Int × Int} {zr : List Int}
theorem hF0 {r : Nat} (fB : Int × Int) (h : FT M r (fst9 ft fB)) : FT M r (fst9 ft (fst9 fB (0, 0))) := by
  rw [← fst9_as]
  exact h.none
theorem x_rc160 (hNn : n ≤ Nn) : ∀ (t i : Nat) (M : mM) (l3 : Int) (L nbr a : Nat), n + 1 ≤ i + t → i ≤ n + 1 → i32 l3 → cmI M0 z q w T A B D N C n p O P K Ab Be Cm V F ns sf ef c cnt L ix nbr a M → (l3 ≠ 0 → L ≤ a) → L ≤ a + 1 → (mI M (q + 1) 3 = 0 → nbr ≤ i) → rcJ T A B D n V O P L0 cnt W pl nq sm Nn Mc q p c k ar nms ft l3 i a M → h_TR_readCommand_160 G (d + 6) q ix l3 i M (fun x M' => cmQ9 M0 z q w T A B D N C n p O P K Ab Be Cm V F ns sf ef c x M' ∧ cmV W pl nq sm Nn n V O P L0 cnt Mc q p c k ar ix nms ft x M') := by
  intro t
  induction t with
  | zero =>
    intro i M l3 L nbr a ht hi i3 h hLa hLa1 hn J
    have h1 := h.2.1
    have hix := h.2.2.2.2.2.2.2.2
    have hN : n ≤ 16384 := by have := h1.1.1.2.2.2.1.2.2.1; have := h1.1.1.2.2.2.1.1.2.2.2.2.2.2.1; omega
    obtain ⟨t0, t1, t2, t3, t4, t5⟩ := h1.1.2.1
    have r0 := h1.1.1.2.2.1.1
    have w1 := h1.1.1.2.2.2.1.1.1
    have w2 := h1.1.1.2.2.2.1.2.1
    refine k_TR_readCommand_160 h1.1.1.1 (i32s (by omega) (by omega)) i3 (i32s (by omega) (by omega)) ?_
    rw [t1, r0, w2, t3]
    obtain ⟨wt, km, fB, hF, hb8, ⟨n4, hka'⟩, J⟩ := J
    have a2 := h.2.2.2.2.1
    have J := J.resolve_left (fun u => by
      have := u.2.1
      clear J
      omega)
    exact ⟨t0, h1.1.1.2.1.1, w1, fun _ => ⟨h1.1.1.2.2.2.2.1.1, ⟨by omega, by omega⟩, fun M78 e78 => x_rc_end h hLa1 e78 wt km hF n4 J.2.1 J.2.2.1 hb8 J.2.2.2⟩, fun y => absurd (Or.inl (by omega)) y⟩
  | succ t ih =>
    intro i M l3 L nbr a ht hi i3 h hLa hLa1 hn J
    have h1 := h.2.1
    have hix := h.2.2.2.2.2.2.2.2
    have hN : n ≤ 16384 := by have := h1.1.1.2.2.2.1.2.2.1; have := h1.1.1.2.2.2.1.1.2.2.2.2.2.2.1; omega
    obtain ⟨t0, t1, t2, t3, t4, t5⟩ := h1.1.2.1
    have r0 := h1.1.1.2.2.1.1
    have w1 := h1.1.1.2.2.2.1.1.1
    have w2 := h1.1.1.2.2.2.1.2.1
    have nxt : ∀ (M1 : mM) (l3 : Int) (L' nbr' a' : Nat), i32 l3 → cmI M0 z q w T A B D N C n p O P K Ab Be Cm V F ns sf ef c cnt L' ix nbr' a' M1 → (l3 ≠ 0 → L' ≤ a') → L' ≤ a' + 1 → (mI M1 (q + 1) 3 = 0 → nbr' ≤ i + 1) → rcJ T A B D n V O P L0 cnt W pl nq sm Nn Mc q p c k ar nms ft l3 (i + 1) a' M1 → i < n + 1 → h_TR_readCommand_160 G (d + 6) q ix l3 ((i : Int) + 1) M1 (fun x M' => cmQ9 M0 z q w T A B D N C n p O P K Ab Be Cm V F ns sf ef c x M' ∧ cmV W pl nq sm Nn n V O P L0 cnt Mc q p c k ar ix nms ft x M') := fun M1 l3 L' nbr' a' j1 j2 j3 j4 j5 jj j6 => by
      rw [show ((i : Int) + 1) = ((i + 1 : Nat) : Int) by first | rfl | omega]
      exact ih (i + 1) M1 l3 L' nbr' a' (by omega) (by omega) j1 j2 j3 j4 j5 jj
    obtain ⟨wt, km, fB, hF, hb8, ⟨n4, hka'⟩, J⟩ := J
    have a2 := h.2.2.2.2.1
    refine k_TR_readCommand_160 h1.1.1.1 (i32s (by clear J; omega) (by clear J; omega)) i3 (i32s (by clear J; omega) (by clear J; omega)) ?_
    rw [t1, r0, w2, t3]
    by_cases l30 : l3 = 0
    · have J := J.resolve_left (fun u => u.1 l30)
      exact ⟨t0, h1.1.1.2.1.1, w1, fun _ => ⟨h1.1.1.2.2.2.2.1.1, ⟨by omega, by omega⟩, fun M78 e78 => x_rc_end h hLa1 e78 wt km hF n4 J.2.1 J.2.2.1 hb8 J.2.2.2⟩, fun y => absurd (Or.inr l30) y⟩
    obtain ⟨-, hia, hR, bk, cr⟩ := J.resolve_right (fun u => l30 u.1)
    clear J
    refine ⟨t0, h1.1.1.2.1.1, w1, fun y => absurd y (by omega), fun y => ?_⟩
    have i1n : i < n + 1 := by
      by_cases u : ((n : Int) + 1 ≤ i)
      · exact absurd (Or.inl u) y
      · omega
    refine ⟨fun y8 => x_rc201 h (hLa l30) (by omega) hNn wt km (by rw [if_neg (by omega)]; exact hF0 fB hF) hb8 hia hka' n4 hR bk cr (fun u => ⟨hn u, by omega⟩) (fun M1 l3 L' nbr' a' j1 j2 j3 j4 j5 jj => nxt M1 l3 L' nbr' a' j1 j2 j3 j4 j5 jj i1n), fun y8 => (s_RR_here h1.1.1 h.2.2.2.1 h.2.2.2.2.1).mono (fun x89 M88 kk => ?_)⟩
    obtain ⟨e88, ex89, x0, x1⟩ := kk
    subst e88
    refine ⟨i32s (by omega) (by omega), h1.1.1.1, h1.1.1.2.1.1, (x_tx_note (x := 5) (i32s (by omega) (by omega)) (by omega) (i32s (by omega) (by omega)) h1).mono (fun M92 kk => ?_)⟩
    obtain ⟨o92, h92, x92, u3, u4, u5, u6⟩ := kk
    have F92 := u6 _ hF
    rw [ex89, (wt.1 a a2).2.2, fst9_as] at F92
    obtain ⟨⟨np0, np1, -, -⟩, ⟨nO0, nO1, -, -, -⟩, nP0, nP1, -, -, -⟩ := h1.1.ne
    have pq1 : ∀ i, i ≤ 15 → p + i ≠ q + 1 := fun i hi => by
      have qp := h1.1.2.2.2.2.2.1.2.1
      omega
    have cr92 := cr.cg (M' := M92) (fun u => absurd u u3) (fun i _ i15 => u5 _ (pq1 i i15)) (by rw [u5 p np1]) (by rw [u5 p np1]) (u5 O nO1) (u5 P nP1)
    obtain ⟨j1, j2, j3, j4, j5, j6, j7, j8, j9⟩ := h
    refine ⟨o92, x_rc201 (nbr := nbr) ⟨j1.trans x92.1, h92, j3.tx x92.2, by rw [u4 2 (by decide) (by decide)]; exact j4, j5, by rw [u5 p np1]; exact j6, by rw [u4 5 (by decide) (by decide)]; exact j7, by rw [u4 6 (by decide) (by decide)]; exact j8, j9⟩ (hLa l30) (by omega) hNn (wt.fi h1.1 x92.1) (km.trans (cmK.tx x92.2)) (by rw [if_pos (by omega)]; exact F92) hb8 hia hka' n4 hR bk cr92 (fun u => absurd u u3) (fun M1 l3 L' nbr' a' j1 j2 j3 j4 j5 jj => nxt M1 l3 L' nbr' a' j1 j2 j3 j4 j5 jj i1n)⟩
/-- the guard has been read: the command begins -/
theorem x_rc_guard {Q9 : Int → mM → Prop} (hQ : ∀ x M9, cmQ9 M0 z q w T A B D N C n p O P K Ab Be Cm V F ns sf ef c x M9 ∧ cmV W pl nq sm Nn n V O P L0 cnt Mc q p c k ar ix nms ft x M9 → Q9 x M9) (f1 : FI (txS q p O P) M0 M) (h : TX M z q w T A B D N C n p O P K Ab Be Cm V F ns sf ef c cnt L) (hix : ix ≤ 59) (hi : mI M (q + 1) 3 = 0 → ix = cnt ∧ cnt < 60) (cd : Cod M O P V F ns L e H 1) (h21 : mI M (q + 21) 0 = ((L : Nat) : Int)) (hp : mI M p 2 = ((e + 1 : Nat) : Int)) (ha : mI M (q + 1) 2 = ((a : Nat) : Int)) (han : a ≤ n) (hea : e + 1 ≤ a) (hd : mI M (q + 1) 5 = 0) (h6 : mI M (q + 1) 6 = 0) (hNn : n ≤ Nn) (hka : k + 1 ≤ a) (wt : WTq M T A B D n W pl nq sm) (km : cmK q p Mc M) (hF : FT M (q + 1) ft) (n4 : no34 W k a) (hR : Rc W [50] 0 [56, 57, 34, 50] a) (har : ar + 1 = a) (hd9 : CT Mc (q + 1) p nms → nms.length = c → mI M (q + 1) 3 = 0 → L0 ≤ L ∧ ∃ u : Nat, mI Mc (p + 12) cnt = ((u : Nat) : Int) ∧ cmF p O P L0 cnt u Mc M ∧ (mI M (p + 9) cnt = (if W k = 7 then 1 else 2) ∧ mI M (p + 10) cnt = pl k) ∧ RwC M O P L0 (e + 1) W pl nq sm n nms (k + 1) ar L) : mK M q = 3 ∧ mK M (mR M q 2) = 6 ∧ mK M (mR M q 5) = 30 ∧ ((0 : Int) ≤ 0 ∧ 0 < (mN M (mR M q 5) : Int)) ∧ mK M (mR M (mR M q 2) 15) = 30 ∧ ((0 : Int) ≤ ix ∧ (ix : Int) < (mN M (mR M (mR M q 2) 15) : Int)) ∧ ∀ M59, M59 = mUI M (mR M (mR M q 2) 15) (Int.toNat ix) (mI M (mR M q 5) 0) → mK M59 (mR M59 q 2) = 6 ∧ mK M59 (mR M59 (mR M59 q 2) 16) = 30 ∧ ((0 : Int) ≤ ix ∧ (ix : Int) < (mN M59 (mR M59 (mR M59 q 2) 16) : Int)) ∧ ((0 : Int) ≤ (ix : Int) + 1 ∧ (ix : Int) + 1 < (mN M59 (mR M59 (mR M59 q 2) 16) : Int)) ∧ ∀ M65, M65 = mUI M59 (mR M59 (mR M59 q 2) 16) (Int.toNat ((ix : Int) + 1)) (mI M59 (mR M59 (mR M59 q 2) 16) (Int.toNat ix)) → h_TR_readCommand_160 G (d + 6) q ix 1 0 M65 Q9 := by
  have ap := h.1.apart
  have qp := h.1.2.2.2.2.2.1.2.1
  have neq : ∀ i, i ≤ 9 → q + 1 + i ≠ p + 11 ∧ q + 1 + i ≠ p + 12 := fun i hi => by omega
  have ne1 : q + 1 ≠ p + 11 ∧ q + 1 ≠ p + 12 ∧ O ≠ p + 11 ∧ O ≠ p + 12 ∧ P ≠ p + 11 ∧ P ≠ p + 12 ∧ p ≠ p + 11 ∧ p ≠ p + 12 := by omega
  clear ap qp
  have hLe : L ≤ e := cd.2.2.2.2.2
  have hN : n ≤ 16384 := by have := h.1.1.2.2.2.1.2.2.1; have := h.1.1.2.2.2.1.1.2.2.2.2.2.2.1; omega
  obtain ⟨t0, t1, t2, t3, t4, t5⟩ := h.1.2.1
  obtain ⟨s1, s2, s3, s4⟩ := h.1.2.2.1
  obtain ⟨k6, ⟨-, -, -, -, -, -, -, -, p15, p16, -⟩, ⟨-, -, -, -, -, -, -, -, kp11, kp12, -⟩, ⟨-, -, -, -, -, -, -, -, np11, np12, -⟩⟩ := h.tab
  rw [t3, t4, s3, p15, np11, h21, Int.toNat_natCast]
  refine ⟨t0, k6, s1, ⟨by omega, by omega⟩, kp11, by omega, fun M59 e59 => ?_⟩
  obtain ⟨h59, f59, n59, i59⟩ := h.up (b := 11) ⟨by omega, by omega⟩ e59 ⟨by omega, by omega⟩ (fun _ y => by have := hi y; omega) (fun y => absurd y (by omega))
  obtain ⟨-, ⟨-, -, -, -, -, -, -, -, -, p16', -⟩, ⟨-, -, -, -, -, -, -, -, -, kp12', -⟩, ⟨-, -, -, -, -, -, -, -, -, np12', -⟩⟩ := h59.tab
  rw [h59.1.2.1.2.2.2.1, p16', np12', show Int.toNat ((ix : Int) + 1) = ix + 1 by first | rfl | omega, n59 (p + 12) (by omega)]
  refine ⟨h59.1.1.2.2.2.2.1.1, kp12', by omega, by omega, fun M65 e65 => ?_⟩
  have z59 : mI M59 (q + 1) 3 = mI M (q + 1) 3 := by rw [n59 _ ne1.1]
  obtain ⟨h65, f65, n65, i65⟩ := h59.up (b := 12) (h.1.1.1 _ _).1 e65 ⟨by omega, by omega⟩ (fun y => absurd y (by omega)) (fun _ y => by rw [z59] at y; have := hi y; omega)
  have r65 : mI M65 (q + 1) = mI M (q + 1) := by rw [n65 _ ne1.2.1, n59 _ ne1.1]
  have O65 : mI M65 O = mI M O := by rw [n65 _ ne1.2.2.2.1, n59 _ ne1.2.2.1]
  have P65 : mI M65 P = mI M P := by rw [n65 _ ne1.2.2.2.2.2.1, n59 _ ne1.2.2.2.2.1]
  have q65 : mI M65 p = mI M p := by rw [n65 _ ne1.2.2.2.2.2.2.2, n59 _ ne1.2.2.2.2.2.2.1]
  have cy : CY M65 q p O P V F ns sf ef (e + 1) cnt ix 0 := fun y => by
    obtain ⟨u, eu, gu⟩ := h65.2.2.2 y
    rw [r65] at y
    obtain ⟨y1, y2⟩ := hi y
    refine ⟨y1, y2, u, u, eu, ?_, by omega, by omega, gu.longer (Nat.le_succ_of_le hLe), L, ?_, e, H, F, cd.cg (fun i _ => by rw [O65]) (fun i _ => by rw [P65]), Nat.lt_succ_self _, Nat.le_refl _, fun y hy h7 => ((gu.1 y hy).2 h7).2.2.1⟩
    · rw [← y1, i65, if_pos rfl]
      rw [← y1, i65, if_neg (by omega), n59 (p + 12) (by omega)] at eu
      exact eu
    · rw [n65 (p + 11) (by omega), i59, if_pos y1.symm]
  have wt65 : WTq M65 T A B D n W pl nq sm := (wt.fi h.1 f59).fi h59.1 f65
  have km65 : cmK q p Mc M65 := km.trans ⟨by rw [r65], fun i _ i9 => by rw [n65 _ (neq i i9).2, n59 _ (neq i i9).1], fun i _ => by rw [q65], by rw [n65 _ (by omega), n59 _ (by omega)], by rw [n65 _ (by omega), n59 _ (by omega)]⟩
  have F65 : FT M65 (q + 1) (fst9 ft (0, 0)) := (hF.same (by rw [r65]) (by rw [r65])).none
  have cr65 : cmR9 W pl nq sm Nn n V q p O P L0 c cnt k ar nms Mc a 0 M65 := fun ct hl y => by
    have yM : mI M (q + 1) 3 = 0 := by rw [r65] at y; exact y
    obtain ⟨l0, u, b1, b2, ⟨b3, b4⟩, b5⟩ := hd9 ct hl yM
    obtain ⟨eix, -⟩ := hi yM
    subst eix
    have e9 : ∀ i, i ≠ 11 → i ≠ 12 → mI M65 (p + i) = mI M (p + i) := fun i i11 i12 => by rw [n65 _ (by omega), n59 _ (by omega)]
    have e11 : ∀ t, mI M65 (p + 11) t = if t = ix then ((L : Nat) : Int) else mI M (p + 11) t := fun t => by rw [n65 _ (by omega), i59]
    have e12 : ∀ t, mI M65 (p + 12) t = if t = ix + 1 then mI M (p + 12) ix else mI M (p + 12) t := fun t => by rw [i65, n59 (p + 12) (by omega)]
    have cdA : ∀ L9, cdE O P L9 M M65 := fun L9 t _ => by rw [O65, P65]; exact ⟨rfl, rfl⟩
    refine ⟨e + 1, u, [], ⟨by rw [q65]; exact hp, by omega⟩, b1, b2.trans ⟨fun i i3 i8 => e9 i (by omega) (by omega), fun t ht => by rw [e9 9 (by omega) (by omega), e9 10 (by omega) (by omega), e11, if_neg (by omega)]; exact ⟨rfl, rfl, rfl⟩, fun t ht => by rw [e12, if_neg (by omega)], fun t _ => by rw [e9 13 (by omega) (by omega), e9 14 (by omega) (by omega), e9 15 (by omega) (by omega)]; exact ⟨rfl, rfl, rfl⟩, cdA _, by rw [q65]⟩, ⟨by rw [e9 9 (by omega) (by omega)]; exact b3, by rw [e9 10 (by omega) (by omega)]; exact b4⟩, ⟨L, by rw [e11, if_pos rfl], b5.cg (cdA _) (Nat.le_refl _)⟩, ?_, rfl, fun e' _ _ => by rw [har]; rfl, fun t x hx => absurd hx (by simp)⟩
    rw [e12, if_pos rfl, b2.2.2.1 ix (Nat.le_refl _)]
    exact b1
  have J65 : rcJ T A B D n V O P L0 cnt W pl nq sm Nn Mc q p c k ar nms ft 1 0 a M65 := ⟨wt65, km65, (0, 0), F65, fun _ => by omega, ⟨n4, hka⟩, Or.inl ⟨by decide, Nat.zero_le _, hR, fun ct hl e ne we => ⟨fun u => absurd rfl u, fun _ => by rw [har]; rfl⟩, cr65⟩⟩
  refine mWm.mono (x_rc160 hNn (n + 1) 0 M65 1 (e + 1) 0 a (by omega) (by omega) (i32s (by omega) (by omega)) ⟨(f1.trans f59).trans f65, h65.any (fun _ => Nat.le_succ_of_le hLe), cy, by rw [r65]; exact ha, han, by rw [q65]; exact hp, by rw [r65]; exact hd, by rw [r65]; exact h6, hix⟩ (fun _ => hea) (by omega) (fun _ => by omega) J65) (fun r M9 u => ?_)
  obtain ⟨y, u1, u2⟩ := u
  exact ⟨y, u1, hQ y M9 u2⟩
end TXU
end
section
/-! The class's reader of texts, exactly: readCommand. -/
section TXV
variable {G : mG} {L0 d z q w T A B D N C n p O P K Ab Be Cm V F c s L L' cnt a j e nbr i b f Nn : Nat} {M0 M M' M1 M2 Mc Mc' : mM} {ns : Nat → Int} {sf ef : Nat → Nat} {H : Nat → Nat} {W pl nq E : Nat → Int} {sm : Nat → Nat → Prop} {nms : List nm9} {ft fB fS : Int × Int} {zr : List Int}
/-- a command has been read, exactly -/
def ccV (W pl nq : Nat → Int) (sm : Nat → Nat → Prop) (Nn n V O P L0 : Nat) (Mc : mM) (q p c cnt a : Nat) (nms : List nm9) (ft : Int × Int) (x : Int) (M' : mM) : Prop := ∃ a' : Nat, mI M' (q + 1) 2 = a' ∧ ((x = 0 ∧ Rf W [50] 0 a') ∨ (x = 1 ∧ ∃ (ar ix : Nat) (E : Nat → Int), (cnt < 60 → ix = cnt) ∧ Eo W 6 (a + 1) ar ∧ W ar = 17 ∧ (CT Mc (q + 1) p nms → nms.length = c → E = E9 sm nms 0) ∧ cmV W pl nq sm Nn n V O P L0 cnt Mc q p c a ar ix nms (fst9 ft (vrf W E pl 1 (a + 1) ar)) 1 M'))
theorem x_rc27 {l1 : Int} (hM : mI M (q + 1) 3 = 0 → M = Mc) (hl1 : l1 = 8 ↔ W a = 7) (f1 : FI (txS q p O P) M0 M) (i1 : i32 l1) (h : TX M z q w T A B D N C n p O P K Ab Be Cm V F ns sf ef c cnt L) (h60 : cnt = 60 → mI M (q + 1) 3 ≠ 0) (ha : mI M (q + 1) 2 = ((a : Nat) : Int)) (han : a < n) (hs : mI M p 2 = ((L : Nat) : Int)) (hsa : L ≤ a) (hd : mI M (q + 1) 5 = 0) (hNn : n ≤ Nn) (wt : WTq M T A B D n W pl nq sm) (km : cmK q p Mc M) (hF : FT M (q + 1) ft) (hW : W a = 7 ∨ W a = 8) (hR : Rc W [50] 0 [50] a) : h_TR_readCommand_27 G (d + 6) q l1 M (fun x M' => cmQ9 M0 z q w T A B D N C n p O P K Ab Be Cm V F ns sf ef c x M' ∧ ccV W pl nq sm Nn n V O P L Mc q p c cnt a nms ft x M') := by
  have ap := h.1.apart
  have qp := h.1.2.2.2.2.2.1.2.1
  have rc1 : Rc W [50] 0 [61, 17, 56, 57, 34, 50] (a + 1) := by
    refine hR.trans (Rc.one (mst_n (by decide) (by decide) (ys := [61, 17, 56, 57, 34, 50]) (t := 1) ?_ (Or.inl (by decide))))
    rw [ex_50]
    unfold ex50
    rw [if_neg (by have h7 := hW; omega), if_neg (by have h7 := hW; omega), if_neg (by have h7 := hW; omega), if_pos hW]
  have neq : ∀ i, i ≤ 9 → (q + 1 + i ≠ p + 9 ∧ q + 1 + i ≠ p + 10) := fun i hi => by omega
  have ne1 : q + 1 ≠ p + 9 ∧ q + 1 ≠ p + 10 ∧ p ≠ p + 9 ∧ p ≠ p + 10 ∧ p ≠ q + 1 ∧ q + 21 ≠ q + 1 := by omega
  replace ne1 : Hid _ := ne1
  clear ap qp
  have hN : n ≤ 16384 := by have := h.1.1.2.2.2.1.2.2.1; have := h.1.1.2.2.2.1.1.2.2.2.2.2.2.1; omega
  obtain ⟨t0, t1, t2, t3, t4, t5⟩ := h.1.2.1
  have c12 := h.2.2.1.1
  have c60 := h.2.2.1.2
  obtain ⟨k6, ⟨-, -, -, -, -, -, p13, p14, -⟩, ⟨-, -, -, -, -, -, kp9, kp10, -⟩, ⟨-, -, -, -, -, -, np9, np10, -⟩⟩ := h.tab
  obtain ⟨ix, eix, hix, hcx⟩ : ∃ ix : Nat, (if (59 : Int) < (cnt : Int) then (59 : Int) else (cnt : Int)) = ix ∧ ix ≤ 59 ∧ (cnt < 60 → ix = cnt) := by
    by_cases y : (59 : Int) < cnt
    · exact ⟨59, by rw [if_pos y]; rfl, by omega, by omega⟩
    · exact ⟨cnt, by rw [if_neg y], by omega, fun _ => rfl⟩
  refine k_TR_readCommand_27 h.1.1.1 i1 ?_
  rw [t3, c12, p13, np9, eix, Int.toNat_natCast]
  refine ⟨t0, k6, fun v16 e16 => ⟨kp9, by omega, fun M22 e22 => ?_⟩⟩
  have i16 : i32 v16 := by rw [e16]; split <;> exact i32s (by omega) (by omega)
  obtain ⟨h22, f22, n22, i22⟩ := h.up (b := 9) i16 e22 ⟨by omega, by omega⟩ (fun y => absurd y (by omega)) (fun y => absurd y (by omega))
  have r22 := n22 (q + 1) ne1.1
  have a22 : mI M22 (q + 1) 2 = ((a : Nat) : Int) := by rw [r22]; exact ha
  obtain ⟨-, ⟨-, -, -, -, -, -, -, p14', -⟩, ⟨-, -, -, -, -, -, -, kp10', -⟩, ⟨-, -, -, -, -, -, -, np10', -⟩⟩ := h22.tab
  rw [h22.1.2.1.2.1, h22.1.2.1.2.2.2.1, p14']
  refine ⟨h22.1.1.2.2.2.2.1.1, h22.1.1.2.1.1, (s_RR_here h22.1.1 a22 (by omega)).mono (fun x27 M26 k => ?_)⟩
  obtain ⟨e26, ex27, x0, x1⟩ := k
  subst e26
  have e27 : x27 = pl a := by rw [ex27]; exact ((wt.fi h.1 f22).1 a (by omega)).2.2
  rw [np10']
  refine ⟨i32s (by omega) (by omega), h22.1.1.1, kp10', by omega, fun M31 e31 => ?_⟩
  obtain ⟨h31, f31, n31, i31⟩ := h22.up (b := 10) (i32s (by omega) (by omega)) e31 ⟨by omega, by omega⟩ (fun y => absurd y (by omega)) (fun y => absurd y (by omega))
  have r31 : mI M31 (q + 1) = mI M (q + 1) := by rw [n31 (q + 1) ne1.2.1, r22]
  have p31 : mI M31 p = mI M p := by rw [n31 p ne1.2.2.2.1, n22 p ne1.2.2.1]
  rw [h31.1.2.1.2.1, r31, ha]
  refine ⟨h31.1.2.1.1, h31.1.1.2.1.1, ⟨by omega, by omega⟩, fun M36 e36 => ?_⟩
  obtain ⟨h36, x36, g36⟩ := tx_ui h31 ⟨by omega, by omega⟩ e36 (Or.inr (Or.inr (Or.inr (Or.inl ⟨rfl, Or.inl rfl⟩))))
  rw [h36.1.2.1.2.1]
  refine ⟨h36.1.1.2.1.1, fun M39 e39 => ?_⟩
  obtain ⟨h39, x39, g39⟩ := tx_ui h36 (i32s (by omega) (by omega)) e39 (Or.inr (Or.inr (Or.inr (Or.inl ⟨rfl, Or.inr (Or.inr rfl)⟩))))
  have a39 : mI M39 (q + 1) 2 = ((a + 1 : Nat) : Int) := by rw [g39, if_neg (fun u => absurd u.2 (by first | decide | simp)), g36, if_pos ⟨rfl, rfl⟩]; rfl
  have d39 : mI M39 (q + 1) 5 = ((0 : Nat) : Int) := by rw [g39, if_neg (fun u => absurd u.2 (by first | decide | simp)), g36, if_neg (fun u => absurd u.2 (by first | decide | simp)), r31]; exact hd
  have c39 : mI M39 (q + 1) 6 = 0 := by rw [g39, if_pos ⟨rfl, rfl⟩]
  have z39 : mI M39 (q + 1) 3 = mI M (q + 1) 3 := by rw [g39, if_neg (fun u => absurd u.2 (by first | decide | simp)), g36, if_neg (fun u => absurd u.2 (by first | decide | simp)), r31]
  have p39 : mI M39 p 2 = ((L : Nat) : Int) := by rw [g39, if_neg (fun u => ne1.2.2.2.2.1 u.1), g36, if_neg (fun u => ne1.2.2.2.2.1 u.1), p31]; exact hs
  have f39 : FI (txS q p O P) M0 M39 := (((f1.trans f22).trans f31).trans x36.1).trans x39.1
  have km39 : cmK q p Mc M39 := by
    refine ((km.trans (M2 := M31) ⟨by rw [r31], fun i _ i9 => by rw [n31 _ (neq i i9).2, n22 _ (neq i i9).1], fun i _ => by rw [p31], by rw [n31 _ (by omega), n22 _ (by omega)], by rw [n31 _ (by omega), n22 _ (by omega)]⟩).trans (cmK.tx x36.2)).trans (cmK.tx x39.2)
  have wt39 : WTq M39 T A B D n W pl nq sm := (((wt.fi h.1 f22).fi h22.1 f31).fi h31.1 x36.1).fi h36.1 x39.1
  have F39 : FT M39 (q + 1) ft := hF.same z39 (by rw [g39, if_neg (fun u => absurd u.2 (by first | decide | simp)), g36, if_neg (fun u => absurd u.2 (by first | decide | simp)), r31])
  have nOP : O ≠ p + 9 ∧ O ≠ p + 10 ∧ O ≠ q + 1 ∧ P ≠ p + 9 ∧ P ≠ p + 10 ∧ P ≠ q + 1 := by
    have ap := h.1.apart
    have qp := h.1.2.2.2.2.2.1.2.1
    exact ⟨u7b ap.2.2.2.1 (by decide) (by decide) (by decide), u7b ap.2.2.2.1 (by decide) (by decide) (by decide), u7c ap.2.1 (by decide), u7b ap.2.2.2.2.1 (by decide) (by decide) (by decide), u7b ap.2.2.2.2.1 (by decide) (by decide) (by decide), u7c ap.2.2.1 (by decide)⟩
  replace nOP : Hid _ := nOP
  have pq1 : ∀ i, i ≤ 15 → p + i ≠ q + 1 := fun i hi => by
    have qp := h.1.2.2.2.2.2.1.2.1
    omega
  have g9 : ∀ b, b ≠ q + 1 → mI M39 b = mI M31 b := fun b hb => by
    funext t
    rw [g39, if_neg (fun u => hb u.1), g36, if_neg (fun u => hb u.1)]
  have e39 : (∀ i, 3 ≤ i → i ≤ 15 → i ≠ 9 → i ≠ 10 → mI M39 (p + i) = mI M (p + i)) ∧ (∀ t, mI M39 (p + 9) t = if t = ix then (if W a = 7 then 1 else 2) else mI M (p + 9) t) ∧ (∀ t, mI M39 (p + 10) t = if t = ix then pl a else mI M (p + 10) t) ∧ mI M39 O = mI M O ∧ mI M39 P = mI M P ∧ mI M39 p = mI M p := by
    refine ⟨fun i i3 i15 i9 i10 => by rw [g9 _ (pq1 i i15), n31 _ (by omega), n22 _ (by omega)], fun t => ?_, fun t => ?_, by rw [g9 O nOP.2.2.1, n31 O nOP.2.1, n22 O nOP.1], by rw [g9 P nOP.2.2.2.2.2, n31 P nOP.2.2.2.2.1, n22 P nOP.2.2.2.1], by rw [g9 p ne1.2.2.2.2.1, p31]⟩
    · rw [g9 _ (pq1 9 (by omega)), n31 _ (by omega), i22, e16]
      by_cases w7 : W a = 7
      · rw [if_pos (hl1.mpr w7), if_pos w7]
      · rw [if_neg (fun u => w7 (hl1.mp u)), if_neg w7]
    · rw [g9 _ (pq1 10 (by omega)), i31, e27, n22 _ (by omega)]
  clear f22 n22 f31 n31 x36 g36 x39 g39 r22 r31 a22 p31 h22 h31 h36
  refine (x_TR_readItemRule (k := 0) (d0 := 0) (nms := nms) (ft := ft) (zz := [17, 56, 57, 34, 50]) (by omega) (i32s (by omega) (by omega)) h39 a39 (by omega) p39 (Nat.le_refl _) (by omega) d39 (by omega) h39.2.1.2.2.1.nk wt39 F39 (by rw [d39]; rfl) (hz_t (by decide)) rc1).mono (fun x42 M41 kk => ?_)
  obtain ⟨⟨h41, x41, ⟨c41, q41, t41⟩, k41⟩, -, E, Cf, ec, a9, ea9, iv⟩ := kk
  have lf9 : CT Mc (q + 1) p nms → nms.length = c → LfC W nq sm n nms Cf := fun ct hl => ECq.lf (by rw [c39] at ec; exact ec) (ct.cm km39) hl (fun i hi => (h39.2.1.2.2.1.2.2 i hi).2.2)
  have ec : CT Mc (q + 1) p nms → nms.length = c → E = E9 sm nms 0 := fun ct hl => by
    have u := (ec.2 (ct.cm km39) hl).1
    rw [c39, if_pos rfl] at u
    exact u
  have i42 : i32 x42 := m_b32 (k41.imp (fun u => u.1) (fun u => u.1))
  refine ⟨i42, h41.1.1.1, fun y => ?_, fun y => ?_⟩
  · obtain ⟨-, u⟩ := k41.resolve_right (fun u => by rw [y] at u; exact absurd u.1 (by first | decide | simp))
    refine ⟨⟨f39.trans x41.1, Or.inl ⟨rfl, L, cnt, h41, u⟩⟩, a9, ea9, Or.inl ⟨rfl, ?_⟩⟩
    rcases iv with ⟨-, iv⟩ | ⟨iv, -⟩
    · exact iv
    · rw [y] at iv; exact absurd iv (by first | decide | simp)
  obtain ⟨-, e, H, a', cd, p41, a41, aa, an, ea, d41⟩ := k41.resolve_left (fun u => y u.1)
  clear k41
  obtain ⟨-, L9, v1, v2, v3, v4, v5, v6, v7⟩ := iv.resolve_left (fun u => y u.1)
  clear iv
  have ea9' : a' = a9 := by rw [a41] at ea9; omega
  subst ea9'
  have F41 : FT M41 (q + 1) (fst9 ft (vrf W E pl 1 (a + 1) a')) := irv_ft (x := 0) (l2 := 2) (tr := 1) v5 (by simp)
  have wt41 : WTq M41 T A B D n W pl nq sm := wt39.fi h39.1 x41.1
  clear v4 v5
  rw [h41.1.2.1.2.1]
  refine ⟨h41.1.2.1.1, h41.1.1.2.1.1, (x_tx_accept (x := 18) (i32s (by omega) (by omega)) (by omega) h41 a41 an).mono (fun x49 M48 kk => ?_)⟩
  obtain ⟨i49, o48, -, h48, x48, k48, r48, b48, m48⟩ := kk
  refine ⟨i49, o48, fun y => ?_, fun y => ?_⟩
  · rw [(k48.resolve_left (fun u => by rw [y] at u; exact absurd u.1 (by first | decide | simp))).2]
    exact ⟨⟨f39.trans x41.1, Or.inl ⟨rfl, L, cnt, h41, a', a41, an⟩⟩, a', a41, Or.inl ⟨rfl, rf_t v7 (fun u => m48 y ((wt41.is an (by decide) (by decide)).mpr u)) (by decide)⟩⟩
  obtain ⟨-, e17, a48, an48⟩ := k48.resolve_right (fun u => y u.1)
  have w17 : W a' = 17 := (wt41.is an (by decide) (by decide)).mp e17
  have n4 : no34 W a (a' + 1) := (((no34.sc (W := W) (k := a) (a := a) ⟨Nat.le_refl _, fun j j1 j2 => absurd j2 (by omega)⟩ (by omega)).eo v3).sc (by rw [w17]; decide))
  obtain ⟨-, ⟨nO0, nO1, -, -, -⟩, nP0, nP1, -, -, -⟩ := h41.1.ne
  refine x_rc_guard (nms := nms) (k := a) (ar := a') (Mc := Mc) (Nn := Nn) (W := W) (pl := pl) (sm := sm) (nq := nq) (ft := fst9 ft (vrf W E pl 1 (a + 1) a')) (fun x M9 u => ?_) ((f39.trans x41.1).trans x48.1) h48 hix (fun t => ?_) (cd.cg (fun i _ => by rw [b48 O nO1]) (fun i _ => by rw [b48 P nP1])) (by rw [b48 _ ne1.2.2.2.2.2, t41, if_pos rfl]) (by rw [b48 p ne1.2.2.2.2.1]; exact p41) a48 an48 (by omega) (by rw [r48 5 (by decide), d41]; exact d39) (by rw [r48 6 (by decide), c41]; exact c39) hNn (by omega) (wt41.fi h41.1 x48.1) ((km39.trans (cmK.tx x41.2)).trans (cmK.tx x48.2)) (F41.same (r48 3 (by decide)) (r48 4 (by decide))) n4 (rc_t v7 w17 (by decide)) rfl (L0 := L) ?_
  rotate_left 2
  · intro ct hl z48
    have z41 : mI M41 (q + 1) 3 = 0 := by rw [r48 3 (by decide)] at z48; exact z48
    have z39' : mI M39 (q + 1) 3 = 0 := Classical.byContradiction (fun t2 => x41.2.2.1 t2 z41)
    have zM : mI M (q + 1) 3 = 0 := by rw [← z39]; exact z39'
    have eM := hM zM
    obtain ⟨u, hu, -⟩ := h.2.2.2 zM
    have c6 : cnt < 60 := by
      have : cnt ≠ 60 := fun u => h60 u zM
      omega
    have eix2 := hcx c6
    have tp := x41.2.2.2.2.2.1
    have to := x41.2.2.2.2.2.2
    have pp : ∀ i, 3 ≤ i → i ≤ 15 → mI M48 (p + i) = mI M39 (p + i) := fun i i3 i15 => by rw [b48 _ (pq1 i i15), tp i i3 i15]
    have eL9 : L9 = e := by rw [p41] at v1; omega
    refine ⟨Nat.le_refl _, u, by rw [← eM]; exact hu, ?_, ⟨?_, ?_⟩, ?_⟩
    · rw [← eM]
      refine ⟨fun i i3 i8 => by rw [pp i i3 (by omega), e39.1 i i3 (by omega) (by omega) (by omega)], fun t ht => ⟨by rw [pp 9 (by omega) (by omega), e39.2.1, if_neg (by omega)], by rw [pp 10 (by omega) (by omega), e39.2.2.1, if_neg (by omega)], by rw [pp 11 (by omega) (by omega), e39.1 11 (by omega) (by omega) (by omega) (by omega)]⟩, fun t _ => by rw [pp 12 (by omega) (by omega), e39.1 12 (by omega) (by omega) (by omega) (by omega)], fun t _ => ⟨by rw [pp 13 (by omega) (by omega), e39.1 13 (by omega) (by omega) (by omega) (by omega)], by rw [pp 14 (by omega) (by omega), e39.1 14 (by omega) (by omega) (by omega) (by omega)], by rw [pp 15 (by omega) (by omega), e39.1 15 (by omega) (by omega) (by omega) (by omega)]⟩, fun t ht => ?_, ?_⟩
      · rw [b48 O nO1, b48 P nP1, (to t ht).1, (to t ht).2, e39.2.2.2.1, e39.2.2.2.2.1]
        exact ⟨rfl, rfl⟩
      · rw [b48 p ne1.2.2.2.2.1, x41.2.2.2.2.1 11 (by decide), e39.2.2.2.2.2]
    · rw [pp 9 (by omega) (by omega), e39.2.1, if_pos eix2.symm]
    · rw [pp 10 (by omega) (by omega), e39.2.2.1, if_pos eix2.symm]
    · refine ⟨Cf, L9, lf9 ct hl, v3, an, ?_, Nat.le_refl _, v6.cg (fun t _ _ => ⟨by rw [b48 O nO1], by rw [b48 P nP1]⟩), by omega, by rw [b48 O nO1]; exact v2⟩
      have f0 := F41.1.symm.trans z41
      have f1 := (fst9_1.mp f0).2
      rw [ec ct hl] at f1
      exact (fst9_1.mp f1).1
  · obtain ⟨u1, b9, u2, u3⟩ := u
    refine ⟨u1, b9, u2, u3.imp (fun v => v) (fun v => ⟨v.1, a', ix, E, hcx, v3, w17, ec, b9, u2, Or.inr ⟨rfl, v.2⟩⟩)⟩
  have t41' : mI M41 (q + 1) 3 = 0 := by rw [r48 3 (by decide)] at t; exact t
  have t39 : mI M39 (q + 1) 3 = 0 := Classical.byContradiction (fun t2 => x41.2.2.1 t2 t41')
  have : cnt ≠ 60 := fun u => h60 u (by rw [← z39]; exact t39)
  exact ⟨hcx (by omega), by omega⟩
theorem x_TR_readCommand {l1 : Int} (hl1 : l1 = 8 ↔ W a = 7) (i1 : i32 l1) (h : TX M z q w T A B D N C n p O P K Ab Be Cm V F ns sf ef c cnt L) (ha : mI M (q + 1) 2 = ((a : Nat) : Int)) (han : a < n) (hs : mI M p 2 = ((L : Nat) : Int)) (hsa : L ≤ a) (hd : mI M (q + 1) 5 = 0) (hNn : n ≤ Nn) (wt : WTq M T A B D n W pl nq sm) (hF : FT M (q + 1) ft) (hW : W a = 7 ∨ W a = 8) (hR : Rc W [50] 0 [50] a) : Ci G y_TR_readCommand (d + 7) [vr q, vi l1] M (fun x M' => cmQ9 M z q w T A B D N C n p O P K Ab Be Cm V F ns sf ef c x M' ∧ ccV W pl nq sm Nn n V O P L M q p c cnt a nms (fst9 ft (if cnt < 60 then (0, 0) else (5, pl a))) x M') := by
  obtain ⟨t0, t1, t2, t3, t4, t5⟩ := h.1.2.1
  have c12 := h.2.2.1.1
  refine k_TR_readCommand h.1.1.1 i1 ?_
  rw [t3, t1, c12]
  refine ⟨t0, h.1.1.2.2.2.2.1.1, fun y => x_rc27 (fun _ => rfl) hl1 FI.refl i1 h (fun u => absurd y (by omega)) ha han hs hsa hd hNn wt cmK.refl (by rw [if_pos (by omega)]; exact hF.none) hW hR, fun y => ⟨h.1.1.2.1.1, (s_RR_here h.1.1 ha (by omega)).mono (fun x7 M6 kk => ?_)⟩⟩
  obtain ⟨e6, ex7, x0, x1⟩ := kk
  subst e6
  refine ⟨i32s (by omega) (by omega), h.1.1.1, h.1.1.2.1.1, (x_tx_note (x := 5) (i32s (by omega) (by omega)) (by omega) (i32s (by omega) (by omega)) h).mono (fun M10 kk => ?_)⟩
  obtain ⟨o10, h10, x10, u3, u4, u5, u6⟩ := kk
  have F10 := u6 ft hF
  rw [ex7, (wt.1 a (Nat.le_of_lt han)).2.2] at F10
  have c60 : ¬ cnt < 60 := fun u => by omega
  obtain ⟨⟨np0, np1, -, -⟩, -, -⟩ := h.1.ne
  exact ⟨o10, x_rc27 (fun u => absurd u u3) hl1 x10.1 i1 h10 (fun _ => u3) (by rw [u4 2 (by decide) (by decide)]; exact ha) han (by rw [u5 p np1]; exact hs) hsa (by rw [u4 5 (by decide) (by decide)]; exact hd) hNn (wt.fi h.1 x10.1) (cmK.tx x10.2) (by rw [if_neg c60]; exact F10) hW hR⟩
end TXV
end
end
section
section
/-! The class's reader of texts, exactly: items, pure. -/
section TXW
variable {W pl nq E : Nat → Int} {sm : Nat → Nat → Prop} {Nn k e i j ar : Nat} {s s' : st9} {f2 X I fB : Int × Int}
theorem no34.nil : no34 W k k := ⟨Nat.le_refl _, fun j j1 j2 => absurd j2 (by omega)⟩
theorem nxq_34 (h : no34 W k e) (w : W e = 34) (hN : e ≤ k + Nn) : nxq W 34 Nn k = e := nxq_at h.1 hN w h.2
theorem vrf_z {tr : Int} {x y : Nat} (h : (vrf W E pl tr x y).1 = 0) : (fl W E pl 0 x y).1 = 0 ∧ kdq W E 0 x y = tr := by
  obtain ⟨h1, h2⟩ := fst9_1.mp h
  refine ⟨h1, Classical.byContradiction (fun u => ?_)⟩
  unfold kft at h2
  rw [if_neg u] at h2
  exact absurd h2 (by first | decide | simp)
/-- a fault that has been found stays -/
theorem fst9_k {a b : Int × Int} (h : a.1 ≠ 0) : fst9 a b = a := if_neg h
/-- a const or formula, its faults -/
theorem itc_r {nF : Nat} {f : Int × Int} {v : vrs} {co : Int} (hco : co = if W k = 3 then 1 else 0) (hf : f = fl W (E9 sm s.1 co) pl 0 (k + 3) e) (hv : v = vlq W (cv9 W nq sm s.1) pl 0 0 (k + 3) e) (hF : s.2.1.2.1 = nF) (h60 : nF ≤ 60) (kn : knf sm pl s.1 (k + 1) f2) : ((fst9 (fst9 (if nF < 60 then (0, 0) else (5, pl k)) f2) f).1 ≠ 0 → (itr W pl nq sm k e s).2.2 = fst9 (fst9 (if nF < 60 then (0, 0) else (5, pl k)) f2) f) ∧ ((fst9 (fst9 (if nF < 60 then (0, 0) else (5, pl k)) f2) f).1 = 0 → (W k = 3 → v.1 ≠ 0 → (itr W pl nq sm k e s).2.2 = (v.1, v.2.1)) ∧ ((W k = 3 → v.1 = 0) → itr W pl nq sm k e s = (s.1 ++ [(k + 1, (if W k = 3 then 1 else 2), kdq W (E9 sm s.1 co) 0 (k + 3) e, if W k = 3 then v else (0, 0, 1))], (s.2.1.1, s.2.1.2.1 + 1, s.2.1.2.2), (0, 0)))) := by
  have e0 : itr W pl nq sm k e s = if s.2.1.2.1 = 60 then (s.1, s.2.1, (5, pl k)) else if fnd9 sm s.1 (k + 1) ≠ none then (s.1, s.2.1, (2, pl (k + 1))) else if f.1 ≠ 0 then (s.1, s.2.1, f) else if (if W k = 3 then v else ((0, 0, 1) : vrs)).1 ≠ 0 then (s.1, s.2.1, ((if W k = 3 then v else ((0, 0, 1) : vrs)).1, (if W k = 3 then v else ((0, 0, 1) : vrs)).2.1)) else (s.1 ++ [(k + 1, (if W k = 3 then 1 else 2), kdq W (E9 sm s.1 co) 0 (k + 3) e, if W k = 3 then v else (0, 0, 1))], (s.2.1.1, s.2.1.2.1 + 1, s.2.1.2.2), (0, 0)) := by
    rw [hf, hv, hco]
    rfl
  rw [e0, hF]
  by_cases c1 : nF = 60
  · rw [if_pos c1, if_neg (show ¬ nF < 60 by omega), fst9_k (show ((((5 : Int), pl k)).1 : Int) ≠ 0 by simp), fst9_k (show ((((5 : Int), pl k)).1 : Int) ≠ 0 by simp)]
    exact ⟨fun _ => rfl, fun u => absurd u (by first | decide | simp)⟩
  · rw [if_neg c1, if_pos (show nF < 60 by omega), fst9_0]
    by_cases c2 : fnd9 sm s.1 (k + 1) = none
    · rw [if_neg (fun u => u c2), kn.1 c2, fst9_0]
      by_cases c3 : f.1 = 0
      · rw [if_neg (fun u => u c3)]
        refine ⟨fun u => absurd c3 u, fun _ => ⟨fun w3 v1 => ?_, fun u => ?_⟩⟩
        · rw [if_pos w3, if_pos v1]
        · rw [if_neg]
          intro u2
          by_cases w3 : W k = 3
          · rw [if_pos w3] at u2
            exact u2 (u w3)
          · rw [if_neg w3] at u2
            exact u2 rfl
      · rw [if_pos c3]
        exact ⟨fun _ => rfl, fun u => absurd u c3⟩
    · rw [if_pos c2, kn.2 c2, fst9_k (show ((((2 : Int), pl (k + 1))).1 : Int) ≠ 0 by simp)]
      exact ⟨fun _ => rfl, fun u => absurd u (by first | decide | simp)⟩
/-- a var -/
theorem itc_v {nV : Nat} {t8 i7 : Int} {lo hi be : vrs} (hV : s.2.1.1 = nV) (h12 : nV ≤ 12) (kn : knf sm pl s.1 (k + 1) f2) (hi9 : (if W (k + 3) = 5 then k + 4 else nxq W 9 (e - (k + 3)) (k + 3)) = i) (hj : W (k + 3) ≠ 5 → nxq W 16 Nn (k + 3) = j) (ht : t8 = if W (k + 3) = 5 then 1 else 0) (h7 : i7 = if W i = 9 then 1 else 0) (hX : X = if W (k + 3) = 5 then (0, 0) else fst9 (rf9 W pl sm s.1 1 0 (k + 3) j) (rf9 W pl sm s.1 1 0 (j + 1) i)) (hI : I = if W i = 9 then rf9 W pl sm s.1 1 t8 (i + 1) e else (0, 0)) (hlo : W (k + 3) ≠ 5 → lo = vlq W (cv9 W nq sm s.1) pl 0 0 (k + 3) j) (hhi : W (k + 3) ≠ 5 → hi = vlq W (cv9 W nq sm s.1) pl 0 0 (j + 1) i) (hbe : W i = 9 → be = vlq W (cv9 W nq sm s.1) pl 0 0 (i + 1) e) : ((fst9 (fst9 (fst9 (if nV < 12 then (0, 0) else (5, pl k)) f2) X) I).1 ≠ 0 → (itv W pl nq sm Nn k e s).2.2 = fst9 (fst9 (fst9 (if nV < 12 then (0, 0) else (5, pl k)) f2) X) I) ∧ ((fst9 (fst9 (fst9 (if nV < 12 then (0, 0) else (5, pl k)) f2) X) I).1 = 0 → ((sv9 t8 i7 lo hi be (pl (k + 3)) (pl (j + 1)) (pl (i + 1))).1 ≠ 0 → (itv W pl nq sm Nn k e s).2.2 = sv9 t8 i7 lo hi be (pl (k + 3)) (pl (j + 1)) (pl (i + 1))) ∧ ((sv9 t8 i7 lo hi be (pl (k + 3)) (pl (j + 1)) (pl (i + 1))).1 = 0 → itv W pl nq sm Nn k e s = svN s (k + 1) t8)) := by
  have eT : W (k + 3) = 5 ↔ t8 = 1 := by
    rw [ht]
    by_cases c : W (k + 3) = 5
    · rw [if_pos c]; exact ⟨fun _ => rfl, fun _ => c⟩
    · rw [if_neg c]; exact ⟨fun u => absurd u c, fun u => absurd u (by first | decide | simp)⟩
  have e7 : i7 = 0 ↔ W i ≠ 9 := by
    rw [h7]
    by_cases c : W i = 9
    · rw [if_pos c]; exact ⟨fun u => absurd u (by first | decide | simp), fun u => absurd c u⟩
    · rw [if_neg c]; exact ⟨fun _ => c, fun _ => rfl⟩
  have evf : vf9 W pl sm s.1 k e (nxq W 16 Nn (k + 3)) i = fst9 (fst9 X I) (0, 0) := by
    unfold vf9
    rw [hX, hI, ht]
    by_cases c : W (k + 3) = 5
    · rw [if_pos c, if_pos c, if_pos c]
    · rw [if_neg c, if_neg c, if_neg c, hj c]
  have evw : vw9 W pl nq sm s.1 k e (nxq W 16 Nn (k + 3)) i = sv9 t8 i7 lo hi be (pl (k + 3)) (pl (j + 1)) (pl (i + 1)) := by
    have e1 : vw9 W pl nq sm s.1 k e (nxq W 16 Nn (k + 3)) i = fst9 (if W (k + 3) = 5 then (0, 0) else fst9 (fst9 (wh9 (vlq W (cv9 W nq sm s.1) pl 0 0 (k + 3) (nxq W 16 Nn (k + 3))) (pl (k + 3))) (wh9 (vlq W (cv9 W nq sm s.1) pl 0 0 (nxq W 16 Nn (k + 3) + 1) i) (pl (nxq W 16 Nn (k + 3) + 1)))) (if (vlq W (cv9 W nq sm s.1) pl 0 0 (k + 3) (nxq W 16 Nn (k + 3))).2.1 ≤ (vlq W (cv9 W nq sm s.1) pl 0 0 (nxq W 16 Nn (k + 3) + 1) i).2.1 ∧ (vlq W (cv9 W nq sm s.1) pl 0 0 (nxq W 16 Nn (k + 3) + 1) i).2.1 - (vlq W (cv9 W nq sm s.1) pl 0 0 (k + 3) (nxq W 16 Nn (k + 3))).2.1 < 10000 then (0, 0) else (9, pl (nxq W 16 Nn (k + 3) + 1)))) (if W i = 9 then (if W (k + 3) = 5 then wh9 (vlq W (cv9 W nq sm s.1) pl 0 0 (i + 1) e) (pl (i + 1)) else fst9 (wh9 (vlq W (cv9 W nq sm s.1) pl 0 0 (i + 1) e) (pl (i + 1))) (if (vlq W (cv9 W nq sm s.1) pl 0 0 (k + 3) (nxq W 16 Nn (k + 3))).2.1 ≤ (vlq W (cv9 W nq sm s.1) pl 0 0 (i + 1) e).2.1 ∧ (vlq W (cv9 W nq sm s.1) pl 0 0 (i + 1) e).2.1 ≤ (vlq W (cv9 W nq sm s.1) pl 0 0 (nxq W 16 Nn (k + 3) + 1) i).2.1 then (0, 0) else (9, pl (i + 1)))) else (0, 0)) := rfl
    rw [e1]
    unfold sv9
    by_cases c : W (k + 3) = 5
    · rw [if_pos c, if_pos (eT.mp c)]
      by_cases c9 : W i = 9
      · rw [if_pos c9, if_pos c, if_neg (fun u => e7.mp u c9), if_pos (eT.mp c), hbe c9]
      · rw [if_neg c9, if_pos (e7.mpr c9)]
    · have c1 : ¬ t8 = 1 := fun u => c (eT.mpr u)
      rw [if_neg c, if_neg c1, hj c, ← hlo c, ← hhi c]
      by_cases c9 : W i = 9
      · rw [if_pos c9, if_neg c, if_neg (fun u => e7.mp u c9), if_neg c1, ← hbe c9]
      · rw [if_neg c9, if_pos (e7.mpr c9)]
  have e0 : itv W pl nq sm Nn k e s = if s.2.1.1 = 12 then (s.1, s.2.1, (5, pl k)) else if fnd9 sm s.1 (k + 1) ≠ none then (s.1, s.2.1, (2, pl (k + 1))) else if (vf9 W pl sm s.1 k e (nxq W 16 Nn (k + 3)) i).1 ≠ 0 then (s.1, s.2.1, vf9 W pl sm s.1 k e (nxq W 16 Nn (k + 3)) i) else if (vw9 W pl nq sm s.1 k e (nxq W 16 Nn (k + 3)) i).1 ≠ 0 then (s.1, s.2.1, vw9 W pl nq sm s.1 k e (nxq W 16 Nn (k + 3)) i) else (s.1 ++ [(k + 1, 3, (if W (k + 3) = 5 then 1 else 0), (0, 0, 1))], (s.2.1.1 + 1, s.2.1.2), (0, 0)) := by
    rw [← hi9]
    rfl
  rw [evf, evw] at e0
  clear evf evw hlo hhi hbe hj hX hI
  generalize sv9 t8 i7 lo hi be (pl (k + 3)) (pl (j + 1)) (pl (i + 1)) = sv at e0 ⊢
  rw [fst9_as _ X I]
  rw [e0, hV]
  by_cases c1 : nV = 12
  · rw [if_pos c1, if_neg (show ¬ nV < 12 by omega), fst9_k (show ((((5 : Int), pl k)).1 : Int) ≠ 0 by simp), fst9_k (show ((((5 : Int), pl k)).1 : Int) ≠ 0 by simp)]
    exact ⟨fun _ => rfl, fun u => absurd u (by first | decide | simp)⟩
  · rw [if_neg c1, if_pos (show nV < 12 by omega), fst9_0]
    by_cases c2 : fnd9 sm s.1 (k + 1) = none
    · rw [if_neg (fun u => u c2), kn.1 c2, fst9_0]
      generalize fst9 X I = g
      by_cases c3 : g.1 = 0
      · rw [show fst9 g (0, 0) = (0, 0) from if_pos c3, if_neg (fun u => u rfl)]
        refine ⟨fun u => absurd c3 u, fun _ => ⟨fun v1 => ?_, fun v1 => ?_⟩⟩
        · rw [if_pos v1]
        · rw [if_neg (fun u => u v1), ← ht]
          unfold svN
          rw [hV]
      · rw [show fst9 g (0, 0) = g from if_neg c3, if_pos c3]
        exact ⟨fun _ => rfl, fun u => absurd u c3⟩
    · rw [if_pos c2, kn.2 c2, fst9_k (show ((((2 : Int), pl (k + 1))).1 : Int) ≠ 0 by simp)]
      exact ⟨fun _ => rfl, fun u => absurd u (by first | decide | simp)⟩
/-- a target -/
theorem itc_t {f : Int × Int} (hf : f = rf9 W pl sm s.1 0 1 (k + 1) e) : ((fst9 (if s.2.1.2.2.2 = 0 then (0, 0) else (4, pl k)) f).1 ≠ 0 → (itt W pl sm k e s).2.2 = fst9 (if s.2.1.2.2.2 = 0 then (0, 0) else (4, pl k)) f) ∧ ((fst9 (if s.2.1.2.2.2 = 0 then (0, 0) else (4, pl k)) f).1 = 0 → itt W pl sm k e s = (s.1, (s.2.1.1, s.2.1.2.1, s.2.1.2.2.1, 1), (0, 0))) := by
  have e0 : itt W pl sm k e s = if s.2.1.2.2.2 ≠ 0 then (s.1, s.2.1, (4, pl k)) else if f.1 ≠ 0 then (s.1, s.2.1, f) else (s.1, (s.2.1.1, s.2.1.2.1, s.2.1.2.2.1, 1), (0, 0)) := by
    rw [hf]
    rfl
  rw [e0]
  by_cases c1 : s.2.1.2.2.2 = 0
  · rw [if_neg (show ¬ s.2.1.2.2.2 ≠ 0 from fun u => u c1), if_pos c1, fst9_0]
    by_cases c3 : f.1 = 0
    · rw [if_neg (fun u => u c3)]
      exact ⟨fun u => absurd c3 u, fun _ => rfl⟩
    · rw [if_pos c3]
      exact ⟨fun _ => rfl, fun u => absurd u c3⟩
  · rw [if_pos c1, if_neg c1, fst9_k (show ((((4 : Int), pl k)).1 : Int) ≠ 0 by simp)]
    exact ⟨fun _ => rfl, fun u => absurd u (by first | decide | simp)⟩
/-- a command -/
theorem itc_c {nC : Nat} {f : Int × Int} (hC : s.2.1.2.2.1 = nC) (h60 : nC ≤ 60) (hr : nxq W 17 Nn (k + 1) = ar) (hf : f = rf9 W pl sm s.1 0 1 (k + 1) ar) (hb1 : fB.1 ≠ 0 → brf W pl sm Nn s.1 e Nn (ar + 1) 0 = fB) (hb2 : fB.1 = 0 → brf W pl sm Nn s.1 e Nn (ar + 1) 0 = (0, 0)) : ((fst9 (fst9 (if nC < 60 then (0, 0) else (5, pl k)) f) fB).1 ≠ 0 → (itc W pl sm Nn 60 k e s).2.2 = fst9 (fst9 (if nC < 60 then (0, 0) else (5, pl k)) f) fB) ∧ ((fst9 (fst9 (if nC < 60 then (0, 0) else (5, pl k)) f) fB).1 = 0 → itc W pl sm Nn 60 k e s = (s.1, (s.2.1.1, s.2.1.2.1, s.2.1.2.2.1 + 1, s.2.1.2.2.2), (0, 0))) := by
  have e0 : itc W pl sm Nn 60 k e s = if s.2.1.2.2.1 = 60 then (s.1, s.2.1, (5, pl k)) else if (fst9 f (brf W pl sm Nn s.1 e Nn (ar + 1) 0)).1 ≠ 0 then (s.1, s.2.1, fst9 f (brf W pl sm Nn s.1 e Nn (ar + 1) 0)) else (s.1, (s.2.1.1, s.2.1.2.1, s.2.1.2.2.1 + 1, s.2.1.2.2.2), (0, 0)) := by
    rw [hf, ← hr]
    rfl
  rw [e0, hC]
  by_cases c1 : nC = 60
  · rw [if_pos c1, if_neg (show ¬ nC < 60 by omega), fst9_k (show ((((5 : Int), pl k)).1 : Int) ≠ 0 by simp), fst9_k (show ((((5 : Int), pl k)).1 : Int) ≠ 0 by simp)]
    exact ⟨fun _ => rfl, fun u => absurd u (by first | decide | simp)⟩
  · rw [if_neg c1, if_pos (show nC < 60 by omega), fst9_0]
    by_cases c3 : f.1 = 0
    · rw [fst9_zr c3, fst9_zr c3]
      by_cases c4 : fB.1 = 0
      · rw [hb2 c4, if_neg (fun u => u rfl)]
        exact ⟨fun u => absurd c4 u, fun _ => rfl⟩
      · rw [hb1 c4, if_pos c4]
        exact ⟨fun _ => rfl, fun u => absurd u c4⟩
    · rw [fst9_k c3, fst9_k c3, if_pos c3]
      exact ⟨fun _ => rfl, fun u => absurd u c3⟩
end TXW
end
section
/-! The class's reader of texts: the program tells the game so far. -/
/-- the vars' ranges and inits -/
def VlC (M : mM) (p : Nat) (nms : List nm9) (vl : List (Int × Int × Int)) : Prop := vl.length = vcn nms ∧ (∀ (v : Nat) (x : Int × Int × Int), vl[v]? = some x → mI M (p + 3) v = x.1 ∧ mI M (p + 4) v = x.2.1 ∧ mI M (p + 5) v = x.2.2 ∧ (x.1.natAbs ≤ 999999999 ∧ x.2.1.natAbs ≤ 999999999) ∧ x.1 ≤ x.2.2 ∧ x.2.2 ≤ x.2.1) ∧ ∀ l1 e l2, nms = l1 ++ e :: l2 → e.2.1 = 3 → e.2.2.1 = 1 → ∀ x, vl[vcn l1]? = some x → x.1 = 0 ∧ x.2.1 = 1
/-- the program tells the game so far -/
def CGm (M : mM) (p O P : Nat) (W pl nq : Nat → Int) (sm : Nat → Nat → Prop) (Nn n : Nat) (s : st9) (g : gm9) : Prop := ∃ (L : Nat) (ns : Nat → Int) (sf ef : Nat → Nat), mI M p 2 = ((L : Nat) : Int) ∧ NmO W pl sm Nn n s.1 ∧ FmC M p O P L W pl nq sm Nn n ns sf ef s.1 ∧ (∀ x, x < rcn s.1 → ns x = 7 → ef x < L) ∧ VlC M p s.1 g.1 ∧ ((g.2.1 = none → s.2.1.2.2.2 = 0) ∧ ∀ tg, g.2.1 = some tg → ∃ sT : Nat, mI M p 11 = ((sT : Nat) : Int) ∧ RuC M O P L W pl nq sm n ns ef s.1 tg.1 tg.2 sT) ∧ g.2.2.length = s.2.1.2.2.1 ∧ ∀ (c : Nat) (cm : cm9), g.2.2[c]? = some cm → CmC M p O P L (vcn s.1) W pl nq sm n ns ef s.1 c cm
section TXW
variable {p O P L L' V V' n Nn : Nat} {M0 M M' M1 : mM} {ns ns' : Nat → Int} {sf sf' ef ef' : Nat → Nat} {W pl nq : Nat → Int} {sm : Nat → Nat → Prop} {nms : List nm9} {e9 : nm9} {s s' : st9} {g : gm9}
theorem app_sp {l1 l2 : List nm9} {e : nm9} (h : nms ++ [e9] = l1 ++ e :: l2) : (l1 = nms ∧ e = e9 ∧ l2 = []) ∨ ∃ l2', l2 = l2' ++ [e9] ∧ nms = l1 ++ e :: l2' := by
  rcases List.eq_nil_or_concat l2 with y | ⟨l, b, y⟩
  · subst y
    obtain ⟨a1, a2⟩ := List.append_inj' h rfl
    refine Or.inl ⟨a1.symm, ?_, rfl⟩
    exact (List.cons.inj a2).1.symm
  · rw [List.concat_eq_append] at y
    subst y
    have h : nms ++ [e9] = (l1 ++ e :: l) ++ [b] := by rw [h]; simp
    obtain ⟨a1, a2⟩ := List.append_inj' h rfl
    exact Or.inr ⟨l, by rw [(List.cons.inj a2).1], a1⟩
/-- names so far -/
theorem NmO.add (h : NmO W pl sm Nn n nms) (h1 : 1 ≤ e9.2.1 ∧ e9.2.1 ≤ 3) (h2 : e9.2.2.1 = 0 ∨ e9.2.2.1 = 1) (h3 : e9.2.1 = 1 → vgd e9.2.2.1 e9.2.2.2) (h4 : e9.2.1 = 2 → Eo W 6 (e9.1 + 2) (nxq W 34 Nn e9.1) ∧ nxq W 34 Nn e9.1 ≤ n ∧ (fl W (E9 sm nms 0) pl 0 (e9.1 + 2) (nxq W 34 Nn e9.1)).1 = 0 ∧ e9.2.2.1 = kdq W (E9 sm nms 0) 0 (e9.1 + 2) (nxq W 34 Nn e9.1)) : NmO W pl sm Nn n (nms ++ [e9]) := fun l1 e l2 he => by
  rcases app_sp he with ⟨a, b, -⟩ | ⟨l2', -, b⟩
  · subst a
    subst b
    exact ⟨h1, h2, h3, h4⟩
  · exact h l1 e l2' b
theorem CmC.step {c : Nat} {cm : cm9} {l9 : List nm9} (h : CmC M p O P L V W pl nq sm n ns ef nms c cm) (e : ∀ i, 9 ≤ i → i ≤ 15 → mI M' (p + i) = mI M (p + i)) (cd : cdE O P L M M') (hL : L ≤ L') (hV : V ≤ V') (ne : ∀ x, x < rcn nms → ns' x = ns x ∧ ef' x = ef x) : CmC M' p O P L' V' W pl nq sm n ns' ef' (nms ++ l9) c cm := by
  obtain ⟨h1, h2, h3, ⟨sg, h4, h5⟩, u, v, h6, h7, h8, h9, h10⟩ := h
  refine ⟨by rw [e 9 (by omega) (by omega)]; exact h1, h2, by rw [e 10 (by omega) (by omega)]; exact h3, ⟨sg, by rw [e 11 (by omega) (by omega)]; exact h4, h5.step cd hL ne⟩, u, v, by rw [e 12 (by omega) (by omega)]; exact h6, by rw [e 12 (by omega) (by omega)]; exact h7, h8, h9, fun b x hb => ?_⟩
  obtain ⟨a1, ⟨s1, a2, a3⟩, s2, a4, a5⟩ := h10 b x hb
  exact ⟨by rw [e 13 (by omega) (by omega)]; exact a1, ⟨s1, by rw [e 14 (by omega) (by omega)]; exact a2, a3.step cd hL ne⟩, s2, by rw [e 15 (by omega) (by omega)]; exact a4, a5.step cd hL hV ne⟩
/-- consts and formulas so far -/
theorem FmC.add (h : FmC M p O P L W pl nq sm Nn n ns sf ef nms) (hL : L ≤ L') (cd : cdE O P L M M') (e6 : ∀ j, j < rcn nms → mI M' (p + 6) j = mI M (p + 6) j ∧ mI M' (p + 7) j = mI M (p + 7) j ∧ mI M' (p + 8) j = mI M (p + 8) j) (ne : ∀ x, x < rcn nms → ns' x = ns x ∧ sf' x = sf x ∧ ef' x = ef x) (hn : e9.2.1 ≠ 3 → ns' (rcn nms) = srt9 e9.2.1 ∧ (e9.2.1 = 1 → e9.2.2.2 = (0, mI M' (p + 6) (rcn nms), mI M' (p + 7) (rcn nms)) ∧ 1 ≤ mI M' (p + 7) (rcn nms) ∧ mI M' (p + 7) (rcn nms) < 1000000000) ∧ (e9.2.1 = 2 → mI M' (p + 8) (rcn nms) = ((sf' (rcn nms) : Nat) : Int) ∧ sf' (rcn nms) < ef' (rcn nms) ∧ ef' (rcn nms) < L' ∧ mI M' O (ef' (rcn nms)) = 0 ∧ (∀ y, y < rcn nms → ns' y = 7 → ef' y < sf' (rcn nms)) ∧ ∃ ec, LfC W nq sm n nms ec ∧ Cd W ec pl (mI M' O) (mI M' P) 0 0 0 (e9.1 + 2) (nxq W 34 Nn e9.1) (sf' (rcn nms)) (ef' (rcn nms)))) : FmC M' p O P L' W pl nq sm Nn n ns' sf' ef' (nms ++ [e9]) := fun l1 e l2 he e3 => by
  rcases app_sp he with ⟨a, b, -⟩ | ⟨l2', -, b⟩
  · subst a
    subst b
    exact hn e3
  · have rl : rcn nms = rcn l1 + rcn (e :: l2') := by rw [b, rcn_app]
    have r1 : rcn (e :: l2') = rcn l2' + 1 := by
      show rcn l2' + (if e.2.1 = 3 then 0 else 1) = _
      rw [if_neg e3]
    have xl : rcn l1 < rcn nms := by omega
    obtain ⟨f1, f2, f3⟩ := h l1 e l2' b e3
    obtain ⟨n1, n2, n3⟩ := ne _ xl
    obtain ⟨g6, g7, g8⟩ := e6 _ xl
    refine ⟨by rw [n1]; exact f1, fun y => by rw [g6, g7]; exact f2 y, fun y => ?_⟩
    obtain ⟨k1, k2, k3, k4, k5, ec, k6, k7⟩ := f3 y
    rw [n2, n3]
    exact ⟨by rw [g8]; exact k1, k2, by omega, by rw [(cd _ k3).1]; exact k4, fun y' hy h7 => by
      obtain ⟨m1, -, m3⟩ := ne y' (by omega)
      rw [m1] at h7
      rw [m3]
      exact k5 y' hy h7, ec, k6, k7.cg (fun t _ t2 => cd t (by omega))⟩
end TXW
end
end
section
section
/-! The class's reader of texts: consts, formulas, vars and targets keep the game. -/
section TXV2
variable {q p O P L L' V F n c Nn k e e0 r : Nat} {M0 M M' M1 M2 : mM} {ns : Nat → Int} {sf ef : Nat → Nat} {W pl nq E : Nat → Int} {Cf : Nat → Int × Int} {sm : Nat → Nat → Prop} {nms : List nm9} {s s' : st9} {g : gm9} {v : vrs}
/-- a const or a formula keeps the game -/
theorem CGm.named {l1 kq : Int} (cg : CGm M p O P W pl nq sm Nn n s g) (hp : mI M p 2 = ((L : Nat) : Int)) (tx : txE M q p O P L M1) (sz : snZ p O P F L e l1 v M1 M2) (hF : rcn s.1 = F) (h4 : l1 = 4 ∨ l1 = 7) (eo : Eo W 6 (k + 3) e0) (e0n : e0 ≤ n) (nx : nxq W 34 Nn (k + 1) = e0) (hk : kq = 0 ∨ kq = 1) (gv : l1 = 4 → vgd kq v ∧ v.1 = 0) (hf : l1 = 7 → LfC W nq sm n s.1 Cf ∧ Cd W Cf pl (mI M1 O) (mI M1 P) 0 0 0 (k + 3) e0 L e ∧ mI M1 O e = 0 ∧ (fl W (E9 sm s.1 0) pl 0 (k + 3) e0).1 = 0 ∧ kq = kdq W (E9 sm s.1 0) 0 (k + 3) e0) : CGm M2 p O P W pl nq sm Nn n (s.1 ++ [(k + 1, (if l1 = 4 then 1 else 2), kq, if l1 = 4 then v else (0, 0, 1))], (s.2.1.1, s.2.1.2.1 + 1, s.2.1.2.2), (0, 0)) g := by
  obtain ⟨L0, ns, sf, ef, g1, g2, g3, g4, g5, g6, g7, g8⟩ := cg
  have eL : L0 = L := by rw [hp] at g1; omega
  subst eL
  obtain ⟨⟨d1, d2, d3, d4, d5⟩, z4, z7, z9⟩ := sz
  have tp := tx.2.2.2.2.1
  have to := tx.2.2.2.2.2
  have p9 : ∀ i, 9 ≤ i → i ≤ 15 → mI M2 (p + i) = mI M (p + i) := fun i i9 i15 => by rw [d1 i i9 i15, tp i (by omega) i15]
  have cd : cdE O P L0 M M2 := fun i hi => by rw [d4, d5]; exact to i hi
  have t6 : ∀ j, j < rcn s.1 → mI M2 (p + 6) j = mI M (p + 6) j ∧ mI M2 (p + 7) j = mI M (p + 7) j ∧ mI M2 (p + 8) j = mI M (p + 8) j := fun j hj => by
    obtain ⟨a, b, c⟩ := d3 j (by omega)
    rw [a, b, c, tp 6 (by omega) (by omega), tp 7 (by omega) (by omega), tp 8 (by omega) (by omega)]
    exact ⟨rfl, rfl, rfl⟩
  have p11 : mI M2 p 11 = mI M p 11 := by rw [z9, tx.2.2.2.1 11 (by decide)]
  have vl : ∀ e9 : nm9, e9.2.1 ≠ 3 → VlC M2 p (s.1 ++ [e9]) g.1 := fun e9 h3 => by
    obtain ⟨v1, v2, v3⟩ := g5
    refine ⟨?_, fun v x hx => ?_, fun l1 e l2 he e3 e1 x hx => ?_⟩
    · rw [vcn_app, v1]
      show _ = vcn s.1 + (0 + (if e9.2.1 = 3 then 1 else 0))
      rw [if_neg h3]
      rfl
    · rw [d2 3 (by omega) (by omega), d2 4 (by omega) (by omega), d2 5 (by omega) (by omega), tp 3 (by omega) (by omega), tp 4 (by omega) (by omega), tp 5 (by omega) (by omega)]
      exact v2 v x hx
    · rcases app_sp he with ⟨-, b, -⟩ | ⟨l2', -, b⟩
      · rw [b] at e3
        exact absurd e3 h3
      · exact v3 l1 e l2' b e3 e1 x hx
  have rc1 : ∀ e9 : nm9, e9.2.1 ≠ 3 → rcn (s.1 ++ [e9]) = rcn s.1 + 1 ∧ vcn (s.1 ++ [e9]) = vcn s.1 := fun e9 h3 => by
    rw [rcn_app, vcn_app]
    show rcn s.1 + (0 + (if e9.2.1 = 3 then 0 else 1)) = _ ∧ vcn s.1 + (0 + (if e9.2.1 = 3 then 1 else 0)) = _
    rw [if_neg h3, if_neg h3]
    exact ⟨rfl, rfl⟩
  rcases h4 with h4 | h4
  · subst h4
    obtain ⟨gv1, gv2⟩ := gv rfl
    obtain ⟨⟨y1, y2⟩, y3⟩ := z4 rfl
    rw [if_pos rfl, if_pos rfl]
    have n3 : ((k + 1, 1, kq, v) : nm9).2.1 ≠ 3 := by simp
    obtain ⟨r1, r2⟩ := rc1 (k + 1, 1, kq, v) n3
    have ne : ∀ x, x < rcn s.1 → (fun x => if x = rcn s.1 then (4 : Int) else ns x) x = ns x ∧ ef x = ef x := fun x hx => ⟨if_neg (by omega), rfl⟩
    have gd := gv1.resolve_right (fun u => by omega)
    refine ⟨L0, fun x => if x = rcn s.1 then (4 : Int) else ns x, sf, ef, y3, g2.add ⟨by simp, by simp⟩ hk (fun _ => gv1) (fun u => absurd u (by simp)), g3.add (Nat.le_refl _) cd t6 (fun x hx => ⟨if_neg (by omega), rfl, rfl⟩) (fun _ => ⟨if_pos rfl, fun _ => ⟨?_, ?_⟩, fun u => absurd u (by simp)⟩), fun x hx h7 => ?_, vl _ n3, ⟨g6.1, fun tg ht => ?_⟩, g7, fun c cm hc => ?_⟩
    · show v = (0, mI M2 (p + 6) (rcn s.1), mI M2 (p + 7) (rcn s.1))
      rw [hF, y1, y2, ← gv2]
    · rw [hF, y2]
      omega
    · rw [r1] at hx
      by_cases y : x = rcn s.1
      · have h7 : (if x = rcn s.1 then (4 : Int) else ns x) = 7 := h7
        rw [if_pos y] at h7
        exact absurd h7 (by decide)
      · have h7 : (if x = rcn s.1 then (4 : Int) else ns x) = 7 := h7
        rw [if_neg y] at h7
        exact g4 x (by omega) h7
    · obtain ⟨sT, a1, a2⟩ := g6.2 tg ht
      exact ⟨sT, by rw [p11]; exact a1, a2.step cd (Nat.le_refl _) ne⟩
    · exact (g8 c cm hc).step p9 cd (Nat.le_refl _) (by rw [r2]; exact Nat.le_refl _) ne
  · subst h4
    obtain ⟨f1, f2, f3, f4, f5⟩ := hf rfl
    obtain ⟨y1, y3⟩ := z7 rfl
    rw [if_neg (by decide), if_neg (by decide)]
    have n3 : ((k + 1, 2, kq, ((0 : Int), (0 : Int), (1 : Int))) : nm9).2.1 ≠ 3 := by simp
    obtain ⟨r1, r2⟩ := rc1 (k + 1, 2, kq, (0, 0, 1)) n3
    have lt := f2.lt
    have ne : ∀ x, x < rcn s.1 → (fun x => if x = rcn s.1 then (7 : Int) else ns x) x = ns x ∧ (fun x => if x = rcn s.1 then e else ef x) x = ef x := fun x hx => ⟨if_neg (by omega), if_neg (by omega)⟩
    refine ⟨e + 1, fun x => if x = rcn s.1 then (7 : Int) else ns x, fun x => if x = rcn s.1 then L0 else sf x, fun x => if x = rcn s.1 then e else ef x, y3, g2.add ⟨by simp, by simp⟩ hk (fun u => absurd u (by simp)) (fun _ => ?_), g3.add (by omega) cd t6 (fun x hx => ⟨if_neg (by omega), if_neg (by omega), if_neg (by omega)⟩) (fun _ => ⟨if_pos rfl, fun u => absurd u (by simp), fun _ => ⟨?_, ?_, ?_, ?_, fun y hy h7 => ?_, Cf, f1, ?_⟩⟩), fun x hx h7 => ?_, vl _ n3, ⟨g6.1, fun tg ht => ?_⟩, g7, fun c cm hc => ?_⟩
    · show Eo W 6 (k + 1 + 2) (nxq W 34 Nn (k + 1)) ∧ nxq W 34 Nn (k + 1) ≤ n ∧ _ ∧ _
      rw [nx]
      exact ⟨eo, e0n, f4, f5⟩
    · show mI M2 (p + 8) (rcn s.1) = (((if rcn s.1 = rcn s.1 then L0 else sf (rcn s.1) : Nat)) : Int)
      rw [if_pos rfl, hF]
      exact y1
    · show (if rcn s.1 = rcn s.1 then L0 else sf (rcn s.1)) < (if rcn s.1 = rcn s.1 then e else ef (rcn s.1))
      rw [if_pos rfl, if_pos rfl]
      exact lt
    · show (if rcn s.1 = rcn s.1 then e else ef (rcn s.1)) < e + 1
      rw [if_pos rfl]
      omega
    · show mI M2 O (if rcn s.1 = rcn s.1 then e else ef (rcn s.1)) = 0
      rw [if_pos rfl, d4]
      exact f3
    · have h7 : (if y = rcn s.1 then (7 : Int) else ns y) = 7 := h7
      show (if y = rcn s.1 then e else ef y) < (if rcn s.1 = rcn s.1 then L0 else sf (rcn s.1))
      rw [if_neg (by omega), if_pos rfl]
      rw [if_neg (by omega)] at h7
      exact g4 y hy h7
    · show Cd W Cf pl (mI M2 O) (mI M2 P) 0 0 0 (k + 1 + 2) (nxq W 34 Nn (k + 1)) (if rcn s.1 = rcn s.1 then L0 else sf (rcn s.1)) (if rcn s.1 = rcn s.1 then e else ef (rcn s.1))
      rw [if_pos rfl, if_pos rfl, nx, d4, d5]
      exact f2
    · rw [r1] at hx
      have h7 : (if x = rcn s.1 then (7 : Int) else ns x) = 7 := h7
      show (if x = rcn s.1 then e else ef x) < e + 1
      by_cases y : x = rcn s.1
      · rw [if_pos y]
        omega
      · rw [if_neg y] at h7 ⊢
        have := g4 x (by omega) h7
        omega
    · obtain ⟨sT, a1, a2⟩ := g6.2 tg ht
      exact ⟨sT, by rw [p11]; exact a1, a2.step cd (by omega) ne⟩
    · exact (g8 c cm hc).step p9 cd (by omega) (by rw [r2]; exact Nat.le_refl _) ne
/-- a var's range and init are put behind the others -/
theorem CGm.var {kq t1 t2 t3 : Int} (cg : CGm M p O P W pl nq sm Nn n s g) (hp : mI M p 2 = ((L : Nat) : Int)) (tx : ∀ i, 3 ≤ i → i ≤ 15 → mI M1 (p + i) = mI M (p + i)) (t11 : mI M1 p 11 = mI M p 11) (to : cdE O P L M M1) (sz : svD p O P V L t1 t2 t3 M1 M2) (hV : vcn s.1 = V) (hk : kq = 0 ∨ kq = 1) (hb : t1.natAbs ≤ 999999999 ∧ t2.natAbs ≤ 999999999) (hi : t1 ≤ t3 ∧ t3 ≤ t2) (h1 : kq = 1 → t1 = 0 ∧ t2 = 1) : CGm M2 p O P W pl nq sm Nn n (s.1 ++ [(k + 1, 3, kq, (0, 0, 1))], (s.2.1.1 + 1, s.2.1.2), (0, 0)) (g.1 ++ [(t1, t2, t3)], g.2) := by
  obtain ⟨L0, ns, sf, ef, g1, g2, g3, g4, g5, g6, g7, g8⟩ := cg
  have eL : L0 = L := by rw [hp] at g1; omega
  subst eL
  obtain ⟨d1, d2, ⟨d3, d4⟩, d5, d6⟩ := sz
  have p9 : ∀ i, 6 ≤ i → i ≤ 15 → mI M2 (p + i) = mI M (p + i) := fun i i6 i15 => by rw [d1 i i6 i15, tx i (by omega) i15]
  have cd : cdE O P L0 M M2 := fun i hi => by rw [d3, d4]; exact to i hi
  have r1 : rcn (s.1 ++ [(k + 1, 3, kq, ((0 : Int), (0 : Int), (1 : Int)))]) = rcn s.1 ∧ vcn (s.1 ++ [(k + 1, 3, kq, ((0 : Int), (0 : Int), (1 : Int)))]) = vcn s.1 + 1 := by
    rw [rcn_app, vcn_app]
    exact ⟨rfl, rfl⟩
  have ne : ∀ x, x < rcn s.1 → ns x = ns x ∧ ef x = ef x := fun x _ => ⟨rfl, rfl⟩
  refine ⟨L0, ns, sf, ef, d5, g2.add ⟨by simp, by simp⟩ hk (fun u => absurd u (by simp)) (fun u => absurd u (by simp)), g3.add (Nat.le_refl _) cd (fun j _ => by rw [p9 6 (by omega) (by omega), p9 7 (by omega) (by omega), p9 8 (by omega) (by omega)]; exact ⟨rfl, rfl, rfl⟩) (fun x _ => ⟨rfl, rfl, rfl⟩) (fun u => absurd rfl u), fun x hx h7 => g4 x (by rw [r1.1] at hx; exact hx) h7, ?_, ⟨g6.1, fun tg ht => ?_⟩, g7, fun c cm hc => (g8 c cm hc).step (fun i i9 i15 => p9 i (by omega) i15) cd (Nat.le_refl _) (by rw [r1.2]; omega) ne⟩
  · obtain ⟨v1, v2, v3⟩ := g5
    have at9 : ∀ {v : Nat} {x : Int × Int × Int}, (g.1 ++ [(t1, t2, t3)])[v]? = some x → (v = V ∧ x = (t1, t2, t3)) ∨ (v ≠ V ∧ v < V ∧ g.1[v]? = some x) := fun {v x} hx => by
      by_cases y : v < g.1.length
      · rw [List.getElem?_append_left y] at hx
        exact Or.inr ⟨by omega, by omega, hx⟩
      · rw [List.getElem?_append_right (by omega)] at hx
        by_cases y2 : v - g.1.length = 0
        · rw [y2] at hx
          exact Or.inl ⟨by omega, (Option.some.inj hx).symm⟩
        · rw [List.getElem?_eq_none (by simp; omega)] at hx
          exact absurd hx (by simp)
    refine ⟨by rw [List.length_append, v1, r1.2]; rfl, fun v x hx => ?_, fun l1 e l2 he e3 e1 x hx => ?_⟩
    · rw [(d2 v).1, (d2 v).2.1, (d2 v).2.2]
      rcases at9 hx with ⟨a, b⟩ | ⟨a, a', b⟩
      · rw [if_pos a, if_pos a, if_pos a, b]
        exact ⟨rfl, rfl, rfl, hb, hi⟩
      · rw [if_neg a, if_neg a, if_neg a, tx 3 (by omega) (by omega), tx 4 (by omega) (by omega), tx 5 (by omega) (by omega)]
        exact v2 v x b
    · rcases app_sp he with ⟨a, b, -⟩ | ⟨l2', -, b⟩
      · rw [a] at hx
        rcases at9 hx with ⟨-, c⟩ | ⟨c, -⟩
        · rw [c]
          rw [b] at e1
          exact h1 e1
        · exact absurd hV c
      · have vl : vcn l1 < V := by
          have e9 : vcn (e :: l2') = vcn l2' + 1 := by
            show vcn l2' + (if e.2.1 = 3 then 1 else 0) = _
            rw [if_pos e3]
          rw [← hV, b, vcn_app, e9]
          omega
        rcases at9 hx with ⟨c, -⟩ | ⟨-, -, c⟩
        · omega
        · exact v3 l1 e l2' b e3 e1 x c
  · obtain ⟨sT, a1, a2⟩ := g6.2 tg ht
    exact ⟨sT, by rw [d6, t11]; exact a1, a2.step cd (Nat.le_refl _) ne⟩
/-- a target is put down -/
theorem CGm.target (cg : CGm M p O P W pl nq sm Nn n s g) (hp : mI M p 2 = ((L : Nat) : Int)) (eo : Eo W 6 (k + 1) e) (en : e ≤ n) (lf : LfC W nq sm n s.1 Cf) (hfl : (fl W (E9 sm s.1 0) pl 0 (k + 1) e).1 = 0) (td : tgD W pl Cf p O P L k e M M2) : CGm M2 p O P W pl nq sm Nn n (s.1, (s.2.1.1, s.2.1.2.1, s.2.1.2.2.1, 1), (0, 0)) (g.1, some (k + 1, e), g.2.2) := by
  obtain ⟨L0, ns, sf, ef, g1, g2, g3, g4, g5, g6, g7, g8⟩ := cg
  have eL : L0 = L := by rw [hp] at g1; omega
  subst eL
  obtain ⟨t1, t2, L', t3, t4, t5, t6⟩ := td
  have lt := t5.lt
  have ne : ∀ x, x < rcn s.1 → ns x = ns x ∧ ef x = ef x := fun x _ => ⟨rfl, rfl⟩
  have nil : s.1 = s.1 ++ [] := (List.append_nil _).symm
  refine ⟨L' + 1, ns, sf, ef, t3, g2, ?_, fun x hx h7 => by have := g4 x hx h7; omega, ?_, ⟨fun u => absurd u (by simp), fun tg ht => ?_⟩, g7, fun c cm hc => ?_⟩
  · intro l1 e' l2 he e3
    have rl : rcn s.1 = rcn l1 + rcn (e' :: l2) := by rw [he, rcn_app]
    obtain ⟨f1, f2, f3⟩ := g3 l1 e' l2 he e3
    refine ⟨f1, fun y => by rw [t2 6 (by omega) (by omega), t2 7 (by omega) (by omega)]; exact f2 y, fun y => ?_⟩
    obtain ⟨k1, k2, k3, k4, k5, ec, k6, k7⟩ := f3 y
    exact ⟨by rw [t2 8 (by omega) (by omega)]; exact k1, k2, by omega, by rw [(t6 _ k3).1]; exact k4, k5, ec, k6, k7.cg (fun t _ h2 => t6 t (by omega))⟩
  · obtain ⟨v1, v2, v3⟩ := g5
    exact ⟨v1, fun v x hx => by rw [t2 3 (by omega) (by omega), t2 4 (by omega) (by omega), t2 5 (by omega) (by omega)]; exact v2 v x hx, v3⟩
  · have ht : some (k + 1, e) = some tg := ht
    have ht := Option.some.inj ht
    subst ht
    refine ⟨L0, t1, s.1, [], Cf, L', nil, eo, en, hfl, lf, fun x hx h7 => g4 x hx h7, t5, by omega, t4⟩
  · have := (g8 c cm hc).step (l9 := []) (ns' := ns) (ef' := ef) (V' := vcn s.1) (fun i i9 i15 => t2 i (by omega) i15) t6 (show L0 ≤ L' + 1 by omega) (Nat.le_refl _) ne
    rw [List.append_nil] at this
    exact this
theorem brs_e {f i : Nat} (h : e ≤ i) : brs9 W pl sm Nn nms e f i = [] := by
  cases f with
  | zero => rfl
  | succ f => rw [brs9, if_pos h]
/-- a command is put behind the others -/
theorem CGm.cmd {cnt ar b L0 : Nat} (cg : CGm M p O P W pl nq sm Nn n s g) (hp : mI M p 2 = ((L0 : Nat) : Int)) (hcnt : s.2.1.2.2.1 = cnt) (hV : vcn s.1 = V) (cr : cmR9 W pl nq sm Nn n V q p O P L0 c cnt k ar s.1 M (e + 1) b M1) (ct : CT M (q + 1) p s.1) (hl : s.1.length = c) (z : mI M1 (q + 1) 3 = 0) (ne : no34 W k e) (we : W e = 34) (hr : nxq W 17 Nn (k + 1) = ar) (b8 : b ≤ 8) (v480 : ∀ v : Nat, mI M1 (p + 12) (cnt + 1) = ((v : Nat) : Int) → v ≤ 480) : CGm M1 p O P W pl nq sm Nn n (s.1, (s.2.1.1, s.2.1.2.1, s.2.1.2.2.1 + 1, s.2.1.2.2.2), (0, 0)) (g.1, g.2.1, g.2.2 ++ [cmd9 W pl sm Nn s.1 k e]) := by
  obtain ⟨L9, ns, sf, ef, g1, g2, g3, g4, g5, g6, g7, g8⟩ := cg
  have eL : L9 = L0 := by rw [hp] at g1; omega
  subst eL
  obtain ⟨L, u, bl, ⟨a1, a1'⟩, a2, ⟨f1, f2, f3, f4, f5, f6⟩, ⟨a4, a5⟩, ⟨sg, a6, a7⟩, a8, a9, a10, a11⟩ := cr ct hl z
  have ebl := a10 e ne we
  rw [brs_e (Nat.le_succ e), List.append_nil] at ebl
  have glen : g.2.2.length = cnt := by rw [g7, hcnt]
  have nil : s.1 = s.1 ++ [] := (List.append_nil _).symm
  have nn : ∀ x, x < rcn s.1 → ns x = ns x ∧ ef x = ef x := fun x _ => ⟨rfl, rfl⟩
  have ru : ∀ {i j sx : Nat}, RuC M O P L9 W pl nq sm n ns ef s.1 i j sx → RuC M1 O P L W pl nq sm n ns ef s.1 i j sx := fun {i j sx} h => by
    have := h.step (l9 := []) (ns' := ns) (ef' := ef) f5 a1' nn
    rw [List.append_nil] at this
    exact this
  have se : ∀ {l : List (Nat × Nat × Nat × Nat)} {sx : Nat}, SeC M O P L9 V W pl nq sm n ns ef s.1 l sx → SeC M1 O P L V W pl nq sm n ns ef s.1 l sx := fun {l sx} h => by
    have := h.step (l9 := []) (ns' := ns) (ef' := ef) f5 a1' (Nat.le_refl _) nn
    rw [List.append_nil] at this
    exact this
  have rw1 : ∀ {i j sx : Nat}, RwC M1 O P L9 L W pl nq sm n s.1 i j sx → RuC M1 O P L W pl nq sm n ns ef s.1 i j sx := fun {i j sx} h => by
    obtain ⟨Cf, e9, b1, b2, b3, b4, b5, b6, b7, b8⟩ := h
    exact ⟨s.1, [], Cf, e9, nil, b2, b3, b4, b1, fun x hx h7 => by have := g4 x hx h7; omega, b6, b7, b8⟩
  have sw1 : ∀ {l : List (Nat × Nat × Nat × Nat)} {sx : Nat}, SwC M1 O P L9 L V W pl nq sm n s.1 l sx → SeC M1 O P L V W pl nq sm n ns ef s.1 l sx := fun {l sx} h => by
    obtain ⟨e9, b1, b2, b3, b4, b5⟩ := h
    exact ⟨s.1, [], e9, nil, b1, fun x hx h7 => by have := g4 x hx h7; omega, b3, b4, b5⟩
  rw [hV] at g8
  have mono : ∀ d c' : Nat, c' + 1 + d = cnt → ∀ v : Nat, mI M (p + 12) (c' + 1) = ((v : Nat) : Int) → v ≤ u := by
    intro d
    induction d with
    | zero =>
      intro c' hc v hv
      rw [show c' + 1 = cnt by first | rfl | omega, a2] at hv
      omega
    | succ d ih =>
      intro c' hc v hv
      obtain ⟨cm, hcm⟩ : ∃ cm, g.2.2[c' + 1]? = some cm := ⟨g.2.2[c' + 1], List.getElem?_eq_getElem (by omega)⟩
      obtain ⟨-, -, -, -, u', v', h6, h7, ⟨h8, -, -⟩, -⟩ := g8 (c' + 1) cm hcm
      rw [h6] at hv
      have := ih (c' + 1) (by omega) v' h7
      omega
  have e3 : ∀ i, 3 ≤ i → i ≤ 8 → mI M1 (p + i) = mI M (p + i) := f1
  refine ⟨L, ns, sf, ef, a1, g2, ?_, fun x hx h7 => by have := g4 x hx h7; omega, ?_, ⟨g6.1, fun tg ht => ?_⟩, ?_, fun c' cm hc => ?_⟩
  · intro l1 e' l2 he h3
    obtain ⟨k1, k2, k3⟩ := g3 l1 e' l2 he h3
    refine ⟨k1, fun y => by rw [e3 6 (by omega) (by omega), e3 7 (by omega) (by omega)]; exact k2 y, fun y => ?_⟩
    obtain ⟨m1, m2, m3, m4, m5, ec, m6, m7⟩ := k3 y
    exact ⟨by rw [e3 8 (by omega) (by omega)]; exact m1, m2, by omega, by rw [(f5 _ m3).1]; exact m4, m5, ec, m6, m7.cg (fun t _ h2 => f5 t (by omega))⟩
  · obtain ⟨v1, v2, v3⟩ := g5
    exact ⟨v1, fun v x hx => by rw [e3 3 (by omega) (by omega), e3 4 (by omega) (by omega), e3 5 (by omega) (by omega)]; exact v2 v x hx, v3⟩
  · obtain ⟨sT, b1, b2⟩ := g6.2 tg ht
    exact ⟨sT, by rw [f6]; exact b1, ru b2⟩
  · show (g.2.2 ++ [cmd9 W pl sm Nn s.1 k e]).length = s.2.1.2.2.1 + 1
    rw [List.length_append, g7]
    rfl
  · have hc : (g.2.2 ++ [cmd9 W pl sm Nn s.1 k e])[c']? = some cm := hc
    show CmC M1 p O P L (vcn s.1) W pl nq sm n ns ef s.1 c' cm
    rw [hV]
    by_cases cl : c' < g.2.2.length
    · rw [List.getElem?_append_left cl] at hc
      obtain ⟨h1, h2, h3, ⟨sg', h4, h5⟩, u', v', h6, h7, h8, h9, h10⟩ := g8 c' cm hc
      have vu := mono (cnt - (c' + 1)) c' (by omega) v' h7
      obtain ⟨y9, y10, y11⟩ := f2 c' (by omega)
      refine ⟨by rw [y9]; exact h1, h2, by rw [y10]; exact h3, ⟨sg', by rw [y11]; exact h4, ru h5⟩, u', v', by rw [f3 _ (by omega)]; exact h6, by rw [f3 _ (by omega)]; exact h7, h8, h9, fun t x hx => ?_⟩
      have tl : t < cm.2.2.2.length := (List.getElem?_eq_some_iff.mp hx).1
      obtain ⟨y13, y14, y15⟩ := f4 (u' + t) (by omega)
      obtain ⟨m1, ⟨s1, m2, m3⟩, s2, m4, m5⟩ := h10 t x hx
      exact ⟨by rw [y13]; exact m1, ⟨s1, by rw [y14]; exact m2, ru m3⟩, s2, by rw [y15]; exact m4, se m5⟩
    · have cle := (List.getElem?_eq_some_iff.mp hc).1
      rw [List.length_append] at cle
      have ce : c' = cnt := by simp at cle; omega
      rw [List.getElem?_append_right (by omega), show c' - g.2.2.length = 0 by first | rfl | omega] at hc
      have hc : cmd9 W pl sm Nn s.1 k e = cm := Option.some.inj hc
      subst hc
      subst ce
      have v8 := v480 _ a8
      refine ⟨a4, ?_, a5, ⟨sg, a6, ?_⟩, u, u + bl.length, by rw [f3 _ (Nat.le_refl _)]; exact a2, a8, by omega, ?_, fun t x hx => ?_⟩
      · show (if W k = 7 then (1 : Int) else 2) = 1 ∨ (if W k = 7 then (1 : Int) else 2) = 2
        split
        · exact Or.inl rfl
        · exact Or.inr rfl
      · show RuC M1 O P L W pl nq sm n ns ef s.1 (k + 1) (nxq W 17 Nn (k + 1)) sg
        rw [hr]
        exact rw1 a7
      · show (brs9 W pl sm Nn s.1 e Nn (nxq W 17 Nn (k + 1) + 1)).length = _
        rw [hr, ebl]
        omega
      · have hx : (brs9 W pl sm Nn s.1 e Nn (nxq W 17 Nn (k + 1) + 1))[t]? = some x := hx
        rw [hr, ebl] at hx
        obtain ⟨m1, ⟨s1, m2, m3⟩, s2, m4, m5⟩ := a11 t x hx
        exact ⟨m1, ⟨s1, m2, rw1 m3⟩, s2, m4, sw1 m5⟩
end TXV2
end
section
/-! The class's reader of texts, exactly: an item is settled. -/
section TXX
variable {G : mG} {d z q w T A B D N C n p O P K Ab Be Cm V F c L cnt a nw k e e0 Nn L' : Nat} {M0 M M' M1 M2 : mM} {ns : Nat → Int} {sf ef : Nat → Nat} {H : Nat → Nat} {W pl nq E : Nat → Int} {Cf : Nat → Int × Int} {sm : Nat → Nat → Prop} {s s' : st9} {ft f2 : Int × Int} {g : gm9}
/-- the state behind the item at k -/
noncomputable def sN (W pl nq : Nat → Int) (sm : Nat → Nat → Prop) (Nn k : Nat) (s : st9) : st9 := if s.2.2.1 ≠ 0 then s else ite9 W pl nq sm Nn 60 k s
theorem sN_n (h : s.2.2.1 ≠ 0) : sN W pl nq sm Nn k s = s := if_pos h
theorem sN_r (h : s.2.2.1 = 0) (hW : W k = 3 ∨ W k = 6) (he : nxq W 34 Nn k = e) : sN W pl nq sm Nn k s = itr W pl nq sm k e s := by
  unfold sN
  rw [if_neg (fun u => u h)]
  unfold ite9
  simp only [he]
  rw [if_pos hW]
theorem sN_v (h : s.2.2.1 = 0) (hW : W k = 4) (he : nxq W 34 Nn k = e) : sN W pl nq sm Nn k s = itv W pl nq sm Nn k e s := by
  unfold sN
  rw [if_neg (fun u => u h)]
  unfold ite9
  simp only [he]
  rw [if_neg (by omega), if_pos hW]
theorem sN_t (h : s.2.2.1 = 0) (hW : W k = 11) (he : nxq W 34 Nn k = e) : sN W pl nq sm Nn k s = itt W pl sm k e s := by
  unfold sN
  rw [if_neg (fun u => u h)]
  unfold ite9
  simp only [he]
  rw [if_neg (by omega), if_neg (by omega), if_pos hW]
theorem sN_c (h : s.2.2.1 = 0) (hW : W k = 7 ∨ W k = 8) (he : nxq W 34 Nn k = e) : sN W pl nq sm Nn k s = itc W pl sm Nn 60 k e s := by
  unfold sN
  rw [if_neg (fun u => u h)]
  unfold ite9
  simp only [he]
  rw [if_neg (by omega), if_neg (by omega), if_neg (by omega)]
theorem ECq.fw {nms : List nm9} {co : Int} {s0 : Nat} (h : ECq M (q + 1) p n W nq sm nms c co E Cf) (ct : CT M (q + 1) p nms) (f : txE M q p O P s0 M') : ECq M' (q + 1) p n W nq sm nms c co E Cf := by
  refine ⟨h.1, fun _ hl => ?_⟩
  have k := h.2 ct hl
  rw [f.2.2.1 7 (by decide) (by decide), f.2.2.1 8 (by decide) (by decide)]
  exact k
theorem CSm.tx {s0 : Nat} (cs : CSm M q p s) (f : txE M q p O P s0 M') : CSm M' q p s := by
  obtain ⟨c1, c2, c3, c4, c5, c6⟩ := cs
  have e := f.2.2.2.1
  exact ⟨c1.tx f, by rw [e 3 (by decide)]; exact c2, by rw [e 7 (by decide)]; exact c3, by rw [e 12 (by decide)]; exact c4, by rw [e 11 (by decide)]; exact c5, c6⟩
theorem CSm.len (cs : CSm M q p s) (h : TX M z q w T A B D N C n p O P K Ab Be Cm V F ns sf ef c cnt L) : s.1.length = c ∧ s.2.1.1 = V ∧ s.2.1.2.1 = F ∧ s.2.1.2.2.1 = cnt := by
  obtain ⟨c1, c2, c3, c4, c5, c6⟩ := cs
  have y0 := c1.1
  have y1 := h.2.1.2.2.1.1
  have y2 := h.2.1.1.1
  have y3 := h.2.1.2.1.1
  have y4 := h.2.2.1.1
  refine ⟨?_, ?_, ?_, ?_⟩ <;> omega
theorem cv_eq {x y : Nat} (hy : y ≤ n) (eo : Eo W 6 x y) : vlq W (cvn W nq sm s.1 n) pl 0 0 x y = vlq W (cv9 W nq sm s.1) pl 0 0 x y := by
  refine vl_ci0 (fun k _ k2 => ?_) eo
  unfold cvn
  rw [if_pos (by omega)]
theorem x_TR_settleNamed_bad {Y : mM → Prop} {l1 : Int} (h4 : l1 = 4 ∨ l1 = 7) (h : TX M z q w T A B D N C n p O P K Ab Be Cm V F ns sf ef c cnt L) (hLe : L ≤ e) (hp : mI M p 2 = ((e + 1 : Nat) : Int)) (ha : mI M (q + 1) 2 = ((a : Nat) : Int)) (han : a ≤ n) (hLa : e + 1 ≤ a) (hd : mI M (q + 1) 5 = 0) (hF : FT M (q + 1) ft) (f0 : ft.1 ≠ 0) (es : s'.2.2 = ft) : Cv G y_TR_settleNamed (d + 6) [vr q, vi l1] M (fun M' => itE M z q w T A B D N C n p O P K Ab Be Cm M' ∧ itZ q p s' M' ∧ mI M' (q + 1) 2 = ((a : Nat) : Int) ∧ (s'.2.2.1 = 0 → Y M')) := by
  obtain ⟨t0, t1, t2, t3, t4, t5⟩ := h.1.2.1
  refine k_TR_settleNamed h.1.1.1 (i32s (by omega) (by omega)) ?_
  have f3 : mI M (q + 1) 3 ≠ 0 := by rw [hF.1]; exact f0
  refine ⟨t0, by rw [t1]; exact h.1.1.2.1.1, fun y0 => absurd (by rw [t1] at y0; exact y0) f3, fun y0 => ?_⟩
  exact ⟨⟨Ab, Be, Cm, V, F, ns, sf, ef, c, cnt, e + 1, a, h.any (fun _ => Nat.le_succ_of_le hLe), hp, ha, han, hLa, hd, trF.refl⟩, itZ.bad (by rw [es]; exact hF) (by rw [es]; exact f0), ha, fun t => absurd t (by rw [es]; exact f0)⟩
theorem x_st_named {l1 : Int} (hFx : FMx G) (h4 : l1 = 4 ∨ l1 = 7) (hl1 : l1 = W k + 1) (h0 : TX M z q w T A B D N C n p O P K Ab Be Cm V F ns sf ef c cnt L) (h : TX M1 z q w T A B D N C n p O P K Ab Be Cm V F ns sf ef c cnt L) (y60 : 60 ≤ F → mI M1 (q + 1) 3 ≠ 0) (cd : Cod M1 O P (vco l1 V) F (nco l1 ns) L e H 1) (hp : mI M1 p 2 = ((e + 1 : Nat) : Int)) (ha : mI M1 (q + 1) 2 = ((a : Nat) : Int)) (han : a ≤ n) (hLa : e + 1 ≤ a) (hd : mI M1 (q + 1) 5 = 0) (hn : mI M1 q 3 = ((nw : Nat) : Int) ∧ nw < n ∧ mI M1 A nw = 2) (h8 : mI M1 q 8 = 0 ∨ mI M1 q 8 = 1) (h21 : mI M1 (q + 21) 0 = ((L : Nat) : Int)) (zs : itZ q p s M) (wt : WTq M1 T A B D n W pl nq sm) (hw : W (k + 1) = 1 ∧ W (k + 2) = 23) (eo : Eo W 6 (k + 3) e0) (w34 : W e0 = 34) (e0n : e0 ≤ n) (hNn : n ≤ Nn) (ec : ECq M (q + 1) p n W nq sm s.1 c (if l1 = 4 then 1 else 0) E Cf) (hkd : mI M1 q 8 = kdq W E 0 (k + 3) e0) (kn : CT M (q + 1) p s.1 → s.1.length = c → knf sm pl s.1 (k + 1) f2) (hFT : FT M1 (q + 1) (fst9 (fst9 (fst9 s.2.2 (if F < 60 then (0, 0) else (5, pl k))) f2) (fl W E pl 0 (k + 3) e0))) (pL : mI M1 p 2 = ((L' + 1 : Nat) : Int)) (oL : mI M1 O L' = 0) (hc : Cd W Cf pl (mI M1 O) (mI M1 P) 0 0 0 (k + 3) e0 L L') (tx : txF M q p O P L M1) (q3 : mI M1 q 3 = ((k + 1 : Nat) : Int)) (hp0 : mI M p 2 = ((L : Nat) : Int)) (cg : s.2.2.1 = 0 → CGm M p O P W pl nq sm Nn n s g) : nxq W 34 Nn k = e0 ∧ Cv G y_TR_settleNamed (d + 6) [vr q, vi l1] M1 (fun M' => itE M1 z q w T A B D N C n p O P K Ab Be Cm M' ∧ itZ q p (sN W pl nq sm Nn k s) M' ∧ mI M' (q + 1) 2 = ((a : Nat) : Int) ∧ ((sN W pl nq sm Nn k s).2.2.1 = 0 → CGm M' p O P W pl nq sm Nn n (sN W pl nq sm Nn k s) g)) := by
  have wk : W k = 3 ∨ W k = 6 := by omega
  have ne : no34 W k e0 := (((no34.nil.sc (by omega)).sc (by rw [hw.1]; decide)).sc (by rw [hw.2]; decide)).eo eo
  have nx : nxq W 34 Nn k = e0 := nxq_34 ne w34 (by omega)
  refine ⟨nx, ?_⟩
  have eL : L' = e := by
    rw [hp] at pL
    omega
  subst eL
  have hnw : nw = k + 1 := by
    have := hn.1
    rw [q3] at this
    omega
  by_cases f0 : s.2.2.1 = 0
  · have cs := zs.2 f0
    have ct := cs.1
    obtain ⟨hl, eV, eF, eC⟩ := cs.len h0
    have F60 : F ≤ 60 := h.2.1.2.1.2
    have cs1 := cs.tx tx.2
    have ec1 := ec.fw ct tx.2
    have e9 : E = E9 sm s.1 (if W k = 3 then 1 else 0) := by
      have u := (ec.2 ct hl).1
      by_cases w3 : W k = 3
      · rw [if_pos (show l1 = 4 by first | rfl | omega), if_neg (by decide)] at u
        rw [if_pos w3]
        exact u
      · rw [if_neg (show ¬ l1 = 4 by first | rfl | omega), if_pos rfl] at u
        rw [if_neg w3]
        exact u
    have kn := kn ct hl
    rw [fst9_zr f0] at hFT
    obtain ⟨p1, p2⟩ := itc_r (W := W) (pl := pl) (nq := nq) (sm := sm) (k := k) (e := e0) (s := s) (nF := F) (f := fl W E pl 0 (k + 3) e0) (v := vlq W (cv9 W nq sm s.1) pl 0 0 (k + 3) e0) rfl (by rw [e9]) rfl eF F60 kn
    have es := sN_r (pl := pl) (nq := nq) (sm := sm) f0 wk nx
    rw [← es, ← e9] at p2
    rw [← es] at p1
    generalize sN W pl nq sm Nn k s = s' at p1 p2 ⊢
    have gvd : (fst9 (fst9 (if F < 60 then (0, 0) else (5, pl k)) f2) (fl W E pl 0 (k + 3) e0)).1 = 0 → l1 = 4 → vgd (kdq W E 0 (k + 3) e0) (vlq W (cv9 W nq sm s.1) pl 0 0 (k + 3) e0) := fun u l4 => ?_
    refine (x_TR_settleNamed (k0 := k) (e0 := e0) (s := s) (s' := s') (v := vlq W (cv9 W nq sm s.1) pl 0 0 (k + 3) e0) hFx h4 h y60 cd hp ha han hLa hd hn h8 h21 wt hnw cs1 ec1 hkd eo e0n hc oL hFT (fun u => (fst9_1.mp u).2) rfl gvd p1 (fun u l4 v1 => (p2 u).1 (by omega) v1) (fun u v0 => ?_)).mono (fun M' kk => ⟨kk.1, kk.2.1, kk.2.2.1, fun z => ?_⟩)
    rotate_left 2
    · subst l4
      have h9 : ∀ i, i < c → mI M1 (q + 1 + 9) i = 0 ∨ mI M1 (q + 1 + 9) i = 1 := fun i hi => (h.2.1.2.2.1.2.2 i hi).2.2
      have lf := lf_ex wt ec1 cs1.1 hl h9
      have g := vl_ok (pl := pl) (fun k a b => (lf k a b).1) _ 0 (k + 3) e0 (Nat.le_refl _) (Or.inl ⟨rfl, eo⟩) (fst9_1.mp u).2 (fun u => absurd u (by first | decide | simp)) 0
      rw [cv_eq e0n eo] at g
      exact g
    · by_cases w3 : W k = 3
      · have l4 : l1 = 4 := by omega
        have r := (p2 u).2 (fun _ => v0 l4)
        rw [if_pos w3, if_pos w3] at r
        rw [if_pos l4, if_pos l4]
        exact r
      · have l4 : ¬ l1 = 4 := by omega
        have r := (p2 u).2 (fun x => absurd x w3)
        rw [if_neg w3, if_neg w3] at r
        rw [if_neg l4, if_neg l4]
        exact r
    · have u : (fst9 (fst9 (if F < 60 then (0, 0) else (5, pl k)) f2) (fl W E pl 0 (k + 3) e0)).1 = 0 := Classical.byContradiction (fun u => u (by rw [← p1 u]; exact z))
      have sz := kk.2.2.2 z
      have f0' := (fst9_1.mp u).2
      have nx1 : nxq W 34 Nn (k + 1) = e0 := nxq_34 ⟨by have := eo.pr.1; omega, fun j j1 j2 => ne.2 j (by omega) j2⟩ w34 (by omega)
      have hk01 : kdq W E 0 (k + 3) e0 = 0 ∨ kdq W E 0 (k + 3) e0 = 1 := kd_01
      have hv4 : l1 = 4 → (vlq W (cv9 W nq sm s.1) pl 0 0 (k + 3) e0).1 = 0 := fun l4 => Classical.byContradiction (fun v1 => v1 (by
        have q := (p2 u).1 (by omega) v1
        rw [q] at z
        exact z))
      have res := CGm.named (k := k) (e0 := e0) (kq := kdq W E 0 (k + 3) e0) (Cf := Cf) (cg f0) hp0 tx.2 sz (by rw [cs.2.2.2.2.2.2.2, eF]) h4 eo e0n nx1 hk01 (fun l4 => ⟨gvd u l4, hv4 l4⟩) (fun l7 => by
        have n4 : ¬ l1 = 4 := by omega
        rw [if_neg (show ¬ W k = 3 by first | rfl | omega)] at e9
        rw [if_neg n4] at ec
        rw [e9] at f0' ⊢
        exact ⟨ec.lf ct hl (fun i hi => (h0.2.1.2.2.1.2.2 i hi).2.2), hc, oL, f0', rfl⟩)
      by_cases w3 : W k = 3
      · have l4 : l1 = 4 := by omega
        have r := (p2 u).2 (fun _ => hv4 l4)
        rw [if_pos w3, if_pos w3] at r
        rw [if_pos l4, if_pos l4] at res
        rw [r]
        exact res
      · have l4 : ¬ l1 = 4 := by omega
        have r := (p2 u).2 (fun x => absurd x w3)
        rw [if_neg w3, if_neg w3] at r
        rw [if_neg l4, if_neg l4] at res
        rw [r]
        exact res
  · rw [sN_n f0]
    rw [fst9_n f0, fst9_n f0, fst9_n f0] at hFT
    exact x_TR_settleNamed_bad h4 h cd.2.2.2.2.2 hp ha han hLa hd hFT f0 rfl
end TXX
end
end
