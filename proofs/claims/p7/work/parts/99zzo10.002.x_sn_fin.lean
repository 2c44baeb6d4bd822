section
variable {G : mG} {d z q w T A B D N C n p O P K Ab Be Cm V F c s s' L L' cnt Bn a d0 V1 F1 nw k e s9 Ab0 Be0 Cm0 Ab1 Be1 Cm1 : Nat} {M0 M M' M1 M2 : mM} {ns ns' ns1 : Nat → Int} {sf ef sf' ef' : Nat → Nat} {H : Nat → Nat} {S R : Nat → Prop} {W pl nq E : Nat → Int} {Cf : Nat → Int × Int} {sm : Nat → Nat → Prop} {nms : List nm9} {ft : Int × Int} {e9 : nm9} {v : vrs}
theorem x_sn_fin (h : TX M z q w T A B D N C n p O P K Ab Be Cm V F ns sf ef c cnt L) (h0 : mI M (q + 1) 3 = 0) (h60 : F < 60) (hb : 1 ≤ mI M Be 0 ∧ mI M Be 0 < 1000000000) (hn : mI M q 3 = ((nw : Nat) : Int) ∧ nw < n ∧ mI M A nw = 2) (h8 : mI M q 8 = 0 ∨ mI M q 8 = 1) (hLa : L ≤ a) (ha : mI M (q + 1) 2 = ((a : Nat) : Int)) (han : a ≤ n) (hd : mI M (q + 1) 5 = 0) (hf : trF M0 q p O P Ab0 Be0 Cm0 M Ab Be Cm) (o46 : mOk M') (fx : FI (txS q p O P) M M') (ip : ∀ i, mI M' p i = if i = 2 then ((L : Nat) : Int) else if i = 7 then (F : Int) + 1 else mI M p i) (i7 : ∀ i, mI M' (p + 7) i = if i = F then mI M Be 0 else mI M (p + 7) i) (i8 : ∀ i, mI M' (p + 8) i = if i = F then ((L : Nat) : Int) else mI M (p + 8) i) (nb : ∀ b, b ≠ p → b ≠ p + 6 → b ≠ p + 7 → b ≠ p + 8 → mI M' b = mI M b) (i6 : ∀ i, mI M' (p + 6) i = if i = F then mI M Ab 0 else mI M (p + 6) i) (ct : CT M (q + 1) p nms) (hl : nms.length = c) (hc72 : c < 72) (hv : v.1 = 0 ∧ mI M Ab 0 = v.2.1 ∧ mI M Be 0 = v.2.2) (gv : vgd (mI M q 8) v) (hrc : rcn nms = F) : h_TR_settleNamed_115 G (d + 5) q 4 F M' (fun M9 => itE M0 z q w T A B D N C n p O P K Ab0 Be0 Cm0 M9 ∧ snY M q p F nms (nw, 1, mI M q 8, v) M9 ∧ snD p O P F M M9 ∧ (mI M9 (p + 6) F = v.2.1 ∧ mI M9 (p + 7) F = v.2.2) ∧ mI M9 p 2 = ((L : Nat) : Int)) := by
  have nO : mI M' O = mI M O ∧ mI M' P = mI M P ∧ (∀ i, i ≤ 10 → mI M' (q + i) = mI M (q + i)) ∧ (∀ i, 9 ≤ i → i ≤ 15 → mI M' (p + i) = mI M (p + i)) := by
    have ap := h.1.apart
    have qp := h.1.2.2.2.2.2.1.2.1
    clear h h0 hb hn h8 ha hd hf ip i7 i8 fx
    exact ⟨nb O (pnz0 ap.2.2.2.1 (by decide)) (pnz ap.2.2.2.1 (by decide) (by decide) (Or.inr (by decide)) (by decide)) (pnz ap.2.2.2.1 (by decide) (by decide) (Or.inr (by decide)) (by decide)) (pnz ap.2.2.2.1 (by decide) (by decide) (Or.inr (by decide)) (by decide)), nb P (pnz0 ap.2.2.2.2.1 (by decide)) (pnz ap.2.2.2.2.1 (by decide) (by decide) (Or.inr (by decide)) (by decide)) (pnz ap.2.2.2.2.1 (by decide) (by decide) (Or.inr (by decide)) (by decide)) (pnz ap.2.2.2.2.1 (by decide) (by decide) (Or.inr (by decide)) (by decide)), fun i hi => nb _ (qnz (i := 0) qp (by omega) (by omega) (by decide)) (qnz qp (by omega) (by omega) (by decide)) (qnz qp (by omega) (by omega) (by decide)) (qnz qp (by omega) (by omega) (by decide)), fun i h9 h15 => nb _ (by omega) (by omega) (by omega) (by omega)⟩
  have h46 := tx_name (l1 := 4) (e := 0) (H := fun _ => 0) (L' := L) h h0 h60 o46 fx (fun i hi => by rw [show q + 1 + i = q + (1 + i) by first | rfl | omega]; exact nO.2.2.1 _ (by omega)) (fun i y2 y7 => by rw [ip, if_neg y2, if_neg y7]) (by rw [ip, if_neg (by decide), if_pos rfl]; rfl) nO.2.2.2 (fun i hi => by rw [i7, if_neg (Nat.ne_of_lt hi)]) (fun i hi => by rw [i8, if_neg (Nat.ne_of_lt hi)]) (fun i _ => ⟨by rw [nO.1], by rw [nO.2.1]⟩) (Nat.le_refl _) (Or.inl ⟨rfl, by rw [i7, if_pos rfl]; exact hb⟩)
  have wA := (h.1.words fx).1
  have n0 := nO.2.2.1 0 (by omega)
  have n1 := nO.2.2.1 1 (by omega)
  rw [Nat.add_zero] at n0
  have r6 : ∀ i, i ≤ 9 → mI M' (q + 1 + i) = mI M (q + 1 + i) := fun i hi => by rw [show q + 1 + i = q + (1 + i) by first | rfl | omega]; exact nO.2.2.1 _ (by omega)
  have ct' : CT M' (q + 1) p nms := ct.tab h.2.1.2.2.1 hl (by rw [n1]) (r6 6 (by omega)) (r6 7 (by omega)) (r6 8 (by omega)) (r6 9 (by omega)) (fun i hi => by rw [i6, if_neg (Nat.ne_of_lt hi)]) (fun i hi => by rw [i7, if_neg (Nat.ne_of_lt hi)])
  have pq : ∀ i, i ≤ 15 → p + i < q + 1 ∨ q + 1 + 9 < p + i := fun i hi => by
    have qp := h.1.2.2.2.2.2.1.2.1
    exact pqz qp hi
  have pO : (O < q + 1 ∨ q + 1 + 9 < O) ∧ (P < q + 1 ∨ q + 1 + 9 < P) := by
    have ap := h.1.apart
    have qp := h.1.2.2.2.2.2.1.2.1
    clear h h0 hb hn h8 ha hd hf ip i7 i8 fx
    exact ⟨pOz ap.2.1, pOz ap.2.2.1⟩
  refine x_sn115 (e9 := (nw, 1, mI M q 8, v)) (nms := nms) (Or.inl rfl) h46 h60 ⟨by rw [n0]; exact hn.1, hn.2.1, by rw [wA]; exact hn.2.2⟩ (by rw [n0]; exact h8) (by rw [ip, if_pos rfl]) (by rw [n1]; exact ha) han hLa (by rw [n1]; exact hd) (hf.trans (trF.fi fx)) ct' hl hc72 rfl rfl ⟨by simp, by simp⟩ (by rw [n0]) (fun _ => ⟨gv, F, rfl, h60, by rw [i7, if_pos rfl]; exact hb, by rw [i6, if_pos rfl, i7, if_pos rfl, hv.2.1, hv.2.2, ← hv.1]⟩) (by show ((F : Nat) : Int) = if (1 : Nat) = 3 then _ else _; rw [if_neg (by decide), hrc]) (fun M9 e1 e2 e3 e4 e5 => ⟨e1, ⟨e2, fun i hi => by rw [e3 i hi, n1], fun i hi => by rw [e4, ip, if_neg hi]⟩, ?_, ⟨?_, ?_⟩, by rw [e4, ip, if_pos rfl]⟩)
  · exact ⟨fun i i9 i15 => by rw [e5 _ (pq i i15), nO.2.2.2 i i9 i15], fun i i3 i5 => by rw [e5 _ (pq i (by omega)), nb _ (by omega) (by omega) (by omega) (by omega)], fun j hj => ⟨by rw [e5 _ (pq 6 (by omega)), i6, if_neg (Nat.ne_of_lt hj)], by rw [e5 _ (pq 7 (by omega)), i7, if_neg (Nat.ne_of_lt hj)], by rw [e5 _ (pq 8 (by omega)), i8, if_neg (Nat.ne_of_lt hj)]⟩, by rw [e5 O pO.1, nO.1], by rw [e5 P pO.2, nO.2.1]⟩
  · rw [e5 _ (pq 6 (by omega)), i6, if_pos rfl]; exact hv.2.1
  · rw [e5 _ (pq 7 (by omega)), i7, if_pos rfl]; exact hv.2.2
end
