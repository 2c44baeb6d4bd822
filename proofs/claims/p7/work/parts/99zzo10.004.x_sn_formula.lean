section
variable {G : mG} {d z q w T A B D N C n p O P K Ab Be Cm V F c s s' L L' cnt Bn a d0 V1 F1 nw k e s9 Ab0 Be0 Cm0 Ab1 Be1 Cm1 : Nat} {M0 M M' M1 M2 : mM} {ns ns' ns1 : Nat → Int} {sf ef sf' ef' : Nat → Nat} {H : Nat → Nat} {S R : Nat → Prop} {W pl nq E : Nat → Int} {Cf : Nat → Int × Int} {sm : Nat → Nat → Prop} {nms : List nm9} {ft : Int × Int} {e9 : nm9} {v : vrs}
theorem x_sn_formula (h : TX M z q w T A B D N C n p O P K Ab Be Cm V F ns sf ef c cnt L) (h0 : mI M (q + 1) 3 = 0) (h60 : F < 60) (cd : Cod M O P V F ns L e H 1) (hn : mI M q 3 = ((nw : Nat) : Int) ∧ nw < n ∧ mI M A nw = 2) (h8 : mI M q 8 = 0 ∨ mI M q 8 = 1) (hp : mI M p 2 = ((e + 1 : Nat) : Int)) (hLa : e + 1 ≤ a) (ha : mI M (q + 1) 2 = ((a : Nat) : Int)) (han : a ≤ n) (hd : mI M (q + 1) 5 = 0) (e50 : M1 = mUI M p 7 ((F : Int) + 1)) (e57 : M2 = mUI M1 (p + 8) F ((L : Nat) : Int)) (ct : CT M (q + 1) p nms) (hl : nms.length = c) (hc72 : c < 72) (hrc : rcn nms = F) : h_TR_settleNamed_115 G (d + 5) q 7 F M2 (fun M9 => itE M z q w T A B D N C n p O P K Ab Be Cm M9 ∧ snY M q p F nms (nw, 2, mI M q 8, (0, 0, 1)) M9 ∧ snD p O P F M M9 ∧ mI M9 (p + 8) F = ((L : Nat) : Int) ∧ mI M9 p 2 = ((e + 1 : Nat) : Int)) := by
  have f50 : FI (fun b => b = p) M M1 := by rw [e50]; exact FI.ui rfl
  have f57 : FI (fun b => b = p + 8) M1 M2 := by rw [e57]; exact FI.ui rfl
  have ff : FI (fun b => b = p ∨ b = p + 8) M M2 := (f50.mono (fun _ y => Or.inl y)).trans (f57.mono (fun _ y => Or.inr y))
  have hLe : L ≤ e := cd.2.2.2.2.2
  have hN : n ≤ 16384 := by have := h.1.1.2.2.2.1.2.2.1; have := h.1.1.2.2.2.1.1.2.2.2.2.2.2.1; omega
  have o57 : mOk M2 := by rw [e57]; exact mOk_UI (by rw [e50]; exact mOk_UI h.1.1.1 ⟨by omega, by omega⟩) ⟨by omega, by omega⟩
  have ip : ∀ i, mI M2 p i = if i = 7 then (F : Int) + 1 else mI M p i := fun i => by
    rw [f57.2.2.2.2.2.2 p (by omega), mI_ui p i e50]
    by_cases y7 : i = 7
    · rw [if_pos ⟨rfl, y7⟩, if_pos y7]
    · rw [if_neg (fun u => y7 u.2), if_neg y7]
  have i8 : ∀ i, mI M2 (p + 8) i = if i = F then ((L : Nat) : Int) else mI M (p + 8) i := fun i => by
    rw [mI_ui _ i e57]
    by_cases y : i = F
    · rw [if_pos ⟨rfl, y⟩, if_pos y]
    · rw [if_neg (fun u => y u.2), if_neg y, f50.2.2.2.2.2.2 _ (by omega)]
  have nb : ∀ b, b ≠ p → b ≠ p + 8 → mI M2 b = mI M b := fun b b1 b2 => ff.2.2.2.2.2.2 b (fun y => y.elim b1 b2)
  have fx : FI (txS q p O P) M M2 := ff.mono (fun b y => by
    have y' : b = p ∨ b = p + 8 := y
    exact y4z (y'.imp id (fun y => Or.inr (Or.inr y))))
  have nO : mI M2 O = mI M O ∧ mI M2 P = mI M P ∧ (∀ i, i ≤ 10 → mI M2 (q + i) = mI M (q + i)) ∧ (∀ i, 9 ≤ i → i ≤ 15 → mI M2 (p + i) = mI M (p + i)) := by
    have ap := h.1.apart
    have qp := h.1.2.2.2.2.2.1.2.1
    clear h h0 hn h8 ha hd ip i8 fx f50 f57 ff cd
    exact ⟨nb O (pnz0 ap.2.2.2.1 (by decide)) (pnz ap.2.2.2.1 (by decide) (by decide) (Or.inr (by decide)) (by decide)), nb P (pnz0 ap.2.2.2.2.1 (by decide)) (pnz ap.2.2.2.2.1 (by decide) (by decide) (Or.inr (by decide)) (by decide)), fun i hi => nb _ (qnz (i := 0) qp (by omega) (by omega) (by decide)) (qnz qp (by omega) (by omega) (by decide)), fun i h9 h15 => nb _ (by omega) (by omega)⟩
  have h57 := tx_name (l1 := 7) (e := e) (H := H) (L' := e + 1) h h0 h60 o57 fx (fun i hi => by rw [show q + 1 + i = q + (1 + i) by first | rfl | omega]; exact nO.2.2.1 _ (by omega)) (fun i y2 y7 => by rw [ip, if_neg y7]) (by rw [ip, if_pos rfl]; rfl) nO.2.2.2 (fun i hi => by rw [nb (p + 7) (by omega) (by omega)]) (fun i hi => by rw [i8, if_neg (Nat.ne_of_lt hi)]) (fun i _ => ⟨by rw [nO.1], by rw [nO.2.1]⟩) (Nat.le_succ_of_le hLe) (Or.inr ⟨rfl, by rw [i8, if_pos rfl], cd.cg (fun i _ => by rw [nO.1]) (fun i _ => by rw [nO.2.1]), Nat.lt_succ_self _⟩)
  have wA := (h.1.words fx).1
  have n0 := nO.2.2.1 0 (by omega)
  have n1 := nO.2.2.1 1 (by omega)
  rw [Nat.add_zero] at n0
  have r6 : ∀ i, i ≤ 9 → mI M2 (q + 1 + i) = mI M (q + 1 + i) := fun i hi => by rw [show q + 1 + i = q + (1 + i) by first | rfl | omega]; exact nO.2.2.1 _ (by omega)
  have ct' : CT M2 (q + 1) p nms := ct.cg (by rw [n1]) (r6 6 (by omega)) (r6 7 (by omega)) (r6 8 (by omega)) (r6 9 (by omega)) (nb _ (by omega) (by omega)) (nb _ (by omega) (by omega))
  have pq : ∀ i, i ≤ 15 → p + i < q + 1 ∨ q + 1 + 9 < p + i := fun i hi => by
    have qp := h.1.2.2.2.2.2.1.2.1
    exact pqz qp hi
  have pO : (O < q + 1 ∨ q + 1 + 9 < O) ∧ (P < q + 1 ∨ q + 1 + 9 < P) := by
    have ap := h.1.apart
    have qp := h.1.2.2.2.2.2.1.2.1
    clear h h0 hn h8 ha hd ip i8 fx f50 f57 ff cd
    exact ⟨pOz ap.2.1, pOz ap.2.2.1⟩
  refine x_sn115 (e9 := (nw, 2, mI M q 8, (0, 0, 1))) (nms := nms) (Or.inr rfl) h57 h60 ⟨by rw [n0]; exact hn.1, hn.2.1, by rw [wA]; exact hn.2.2⟩ (by rw [n0]; exact h8) (by rw [ip, if_neg (by decide)]; exact hp) (by rw [n1]; exact ha) han hLa (by rw [n1]; exact hd) (trF.fi fx) ct' hl hc72 rfl rfl ⟨by simp, by simp⟩ (by rw [n0]) (fun u => absurd u (by simp)) (by show ((F : Nat) : Int) = if (2 : Nat) = 3 then _ else _; rw [if_neg (by decide), hrc]) (fun M9 e1 e2 e3 e4 e5 => ⟨e1, ⟨e2, fun i hi => by rw [e3 i hi, n1], fun i hi => by rw [e4, ip]⟩, ?_, ?_, by rw [e4, ip, if_neg (by decide)]; exact hp⟩)
  · exact ⟨fun i i9 i15 => by rw [e5 _ (pq i i15), nO.2.2.2 i i9 i15], fun i i3 i5 => by rw [e5 _ (pq i (by omega)), nb _ (by omega) (by omega)], fun j hj => ⟨by rw [e5 _ (pq 6 (by omega)), nb _ (by omega) (by omega)], by rw [e5 _ (pq 7 (by omega)), nb _ (by omega) (by omega)], by rw [e5 _ (pq 8 (by omega)), i8, if_neg (Nat.ne_of_lt hj)]⟩, by rw [e5 O pO.1, nO.1], by rw [e5 P pO.2, nO.2.1]⟩
  · rw [e5 _ (pq 8 (by omega)), i8, if_pos rfl]
end
