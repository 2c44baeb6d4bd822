section
variable {G : mG} {d z q w T A B D N C n p O P K Ab Be Cm V F c s s' L L' cnt Bn a d0 V1 F1 nw k e s9 Ab0 Be0 Cm0 Ab1 Be1 Cm1 : Nat} {M0 M M' M1 M2 : mM} {ns ns' ns1 : Nat → Int} {sf ef sf' ef' : Nat → Nat} {H : Nat → Nat} {S R : Nat → Prop} {W pl nq E : Nat → Int} {Cf : Nat → Int × Int} {sm : Nat → Nat → Prop} {nms : List nm9} {ft : Int × Int} {e9 : nm9} {v : vrs}
/-- a name has been added -/
def snY (M : mM) (q p F : Nat) (nms : List nm9) (e9 : nm9) (M' : mM) : Prop := CT M' (q + 1) p (nms ++ [e9]) ∧ (∀ i, i ≠ 19 → mI M' (q + 1) i = mI M (q + 1) i) ∧ ∀ i, i ≠ 2 → mI M' p i = if i = 7 then (F : Int) + 1 else mI M p i
/-- the program's tables but for const or formula number F -/
def snD (p O P F : Nat) (M M' : mM) : Prop := (∀ i, 9 ≤ i → i ≤ 15 → mI M' (p + i) = mI M (p + i)) ∧ (∀ i, 3 ≤ i → i ≤ 5 → mI M' (p + i) = mI M (p + i)) ∧ (∀ j, j < F → mI M' (p + 6) j = mI M (p + 6) j ∧ mI M' (p + 7) j = mI M (p + 7) j ∧ mI M' (p + 8) j = mI M (p + 8) j) ∧ mI M' O = mI M O ∧ mI M' P = mI M P
theorem sn_mono {l1 l2 : Int} {b : Nat} {Q Q' : mM → Prop} (h : h_TR_settleNamed_115 G d b l1 l2 M Q) (hq : ∀ M', Q M' → Q' M') : h_TR_settleNamed_115 G d b l1 l2 M Q' := mWm.mono h (fun _ M' u => ⟨u.1, hq M' u.2⟩)
theorem x_sn115 {l1 : Int} {Q : mM → Prop} (h4 : l1 = 4 ∨ l1 = 7) (h : TX M z q w T A B D N C n p O P K Ab Be Cm V (F + 1) (un ns F l1) sf ef c cnt L) (h60 : F < 60) (hn : mI M q 3 = ((nw : Nat) : Int) ∧ nw < n ∧ mI M A nw = 2) (h8 : mI M q 8 = 0 ∨ mI M q 8 = 1) (hp : mI M p 2 = ((L : Nat) : Int)) (ha : mI M (q + 1) 2 = ((a : Nat) : Int)) (han : a ≤ n) (hLa : L ≤ a) (hd : mI M (q + 1) 5 = 0) (hf : trF M0 q p O P Ab0 Be0 Cm0 M Ab Be Cm) (ct : CT M (q + 1) p nms) (hl : nms.length = c) (hc72 : c < 72) (f1 : e9.1 = nw) (f2 : srt9 e9.2.1 = l1) (f3 : 1 ≤ e9.2.1 ∧ e9.2.1 ≤ 3) (f4 : e9.2.2.1 = mI M q 8) (f5 : Hid (e9.2.1 = 1 → vgd e9.2.2.1 e9.2.2.2 ∧ ∃ x : Nat, (F : Int) = x ∧ x < 60 ∧ (1 ≤ mI M (p + 7) x ∧ mI M (p + 7) x < 1000000000) ∧ e9.2.2.2 = (0, mI M (p + 6) x, mI M (p + 7) x))) (f7 : ((F : Nat) : Int) = (if e9.2.1 = 3 then ((vcn nms : Nat) : Int) else ((rcn nms : Nat) : Int))) (hQ : ∀ M', itE M0 z q w T A B D N C n p O P K Ab0 Be0 Cm0 M' → CT M' (q + 1) p (nms ++ [e9]) → (∀ i, i ≠ 19 → mI M' (q + 1) i = mI M (q + 1) i) → mI M' p = mI M p → (∀ b, (b < q + 1 ∨ q + 1 + 9 < b) → mI M' b = mI M b) → Q M') : h_TR_settleNamed_115 G (d + 5) q l1 F M Q := by
  have il1 : -100 ≤ l1 ∧ l1 ≤ 100 := by rcases h4 with u | u <;> rw [u] <;> decide
  have il4 : ¬ l1 = 0 := by rcases h4 with u | u <;> rw [u] <;> decide
  replace h4 : Hid _ := h4
  replace h8 : Hid _ := h8
  replace f7 : Hid _ := f7
  have ap : Hid _ := h.1.apart
  have qp : Hid _ := h.1.2.2.2.2.2.1.2.1
  have ok := h.1.1.1
  obtain ⟨t0, t1, t2, t3, t4, t5⟩ := h.1.2.1
  refine k_TR_settleNamed_115 ok (i32s (by omega) (by omega)) (i32s (by omega) (by omega)) ?_
  rw [t1, hn.1]
  refine ⟨t0, h.1.1.2.1.1, (x_RR_know (v := nw) h.1.1 h.2.1.2.2.1 hn.2.1 hn.2.2 (i32s (by omega) (by omega)) (i32s (by omega) (by omega)) h8 (Or.inr ⟨h4, by omega, by omega, ?_⟩)).mono (fun M84 k => ?_)⟩
  · unfold un
    rw [if_pos (by omega)]
  obtain ⟨k1, k2, k3, k4, ⟨c', k5, -⟩, k6⟩ := k
  have f84 : FI (txS q p O P) M M84 := k2.mono (fun b y => Or.inl (by have y' : q + 1 ≤ b ∧ b ≤ q + 1 + 9 := y; omega))
  have nb : ∀ b, (b < q + 1 ∨ q + 1 + 9 < b) → mI M84 b = mI M b := fun b hb => k2.2.2.2.2.2.2 b (fun y => by have y' : q + 1 ≤ b ∧ b ≤ q + 1 + 9 := y; omega)
  have h84 : TX M84 z q w T A B D N C n p O P K Ab Be Cm V (F + 1) (un ns F l1) sf ef c' cnt L := by
    obtain ⟨hP, ⟨c1, c2, c3, c4⟩, hX⟩ := h
    refine ⟨hP.fi k1.1 f84, ⟨by rw [nb p (pqz (i := 0) qp (by decide))]; exact c1, by rw [nb p (pqz (i := 0) qp (by decide))]; exact c2, k5, fun j => by rw [show q + 6 = q + 1 + 5 by first | rfl | omega, k4 5 (by omega) (by omega)]; exact c4 j⟩, hX.cg (fun y => by rw [k3 3 (by decide)]; exact y) (fun i _ => by rw [nb p (pqz (i := 0) qp (by decide))]) (fun i _ i15 => nb _ (pqz qp i15)) (fun i _ => ⟨by rw [nb O (pOz ap.2.1)], by rw [nb P (pOz ap.2.2.1)]⟩)⟩
  exact ⟨k1.1, hQ M84 ⟨Ab, Be, Cm, V, F + 1, un ns F l1, sf, ef, c', cnt, L, a, h84, by rw [nb p (pqz (i := 0) qp (by decide))]; exact hp, by rw [k3 2 (by decide)]; exact ha, han, hLa, by rw [k3 5 (by decide)]; exact hd, hf.trans (trF.fi f84)⟩ (ct.kn hl (k6 hc72) (nb _ (pqz qp (by decide))) (nb _ (pqz qp (by decide))) f1 f2 f3 f4 f5 (fun u => by
    rw [u] at f2
    rcases h4 with v | v <;> rw [v] at f2 <;> exact absurd f2 (by decide)) f7) k3 (nb p (pqz (i := 0) qp (by decide))) nb⟩
end
