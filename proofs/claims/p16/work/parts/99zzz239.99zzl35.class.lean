/-! The class at rest. -/
section NCV
variable {G : mG} {d t x n cn cc bc T Kt N A B D Cw p O P K p' O' P' K' Ab Be Cm U Ag Bg Cg Ps Pc : Nat} {M M' M1 : mM} {Z Y C : Nat → Prop} {v R k : Nat → Nat} {Ls : List Nat} {c9 c8 : tG9}
/-- its cells lie apart: Z the numbers' cells, C all -/
def Ap (Z C : Nat → Prop) (t T A B D O P O' P' Ab Be Ag Bg : Nat) (M : mM) : Prop := (∀ x, (t ≤ x ∧ x < t + 85) ∨ x = t + 235 ∨ x ∈ [T, A, B, D, O, P, O', P', Ab, Be, Ag, Bg] → ¬ Z x) ∧ [T, A, B, D, O, P, O', P', Ab, Be, Ag, Bg].Nodup ∧ ((T = t + 1 ∨ t + 236 ≤ T) ∧ (A = t + 4 ∨ t + 236 ≤ A) ∧ (B = t + 5 ∨ t + 236 ≤ B) ∧ (D = t + 6 ∨ t + 236 ≤ D)) ∧ (∀ x, (t ≤ x ∧ x < t + 236) ∨ Z x ∨ x ∈ [T, A, B, D, O, P, O', P', Ab, Be, Ag, Bg] → C x) ∧ (∀ x, C x → x < mZ M)
/-- the room that it has taken -/
def Rmc (Kt Cw K K' Cm Cg Ps Pc : Nat) (Ls : List Nat) (k : Nat → Nat) (M : mM) : Prop := Ps = 2 * Kt + 6 * Cw + 4 * K + 4 * K' + 4 * Cm + 4 * Cg + Pn Ls k M ∧ Pc = 4 * Kt + 2 * Cw + K + K' + 2 * Cm + 2 * Cg + 64 * Qn Ls k M ∧ Ls.length ≤ 59 + 2 * (k 0 + k 1 + k 2 + k 3)
def CJ (c9 : tG9) (C : Nat → Prop) (n t Ps Pc T Kt N A B D Cw p O P K p' O' P' K' Ab Be Cm U Ag Bg Cg cn cc bc : Nat) (Ls : List Nat) (v R k : Nat → Nat) (Z : Nat → Prop) (M : mM) : Prop := mOk M ∧ Tx c9 t T Kt N A B D Cw p O P K p' O' P' K' Ab Be Cm M ∧ Gm t U Ag Bg Cg cn cc bc n M ∧ Ns Z t Ls v R k cn cc bc M ∧ Ap Z C t T A B D O P O' P' Ab Be Ag Bg M ∧ Rmc Kt Cw K K' Cm Cg Ps Pc Ls k M ∧ (1 ≤ cn → mI M t 6 ≠ 0)
/-- the class between two calls: n calls so far, C its cells, Ps and Pc its room -/
def CI (c9 : tG9) (C : Nat → Prop) (n t Ps Pc : Nat) (M : mM) : Prop := ∃ (T Kt N A B D Cw p O P K p' O' P' K' Ab Be Cm U Ag Bg Cg cn cc bc : Nat) (Ls : List Nat) (v R k : Nat → Nat) (Z : Nat → Prop), CJ c9 C n t Ps Pc T Kt N A B D Cw p O P K p' O' P' K' Ab Be Cm U Ag Bg Cg cn cc bc Ls v R k Z M
/-- what a call leaves behind -/
def cQ0 (c9 : tG9) (C : Nat → Prop) (n t Ps Pc : Nat) (M M' : mM) : Prop := ∃ (C' : Nat → Prop) (Ps' Pc' : Nat), CI c9 C' (n + 1) t Ps' Pc' M' ∧ FC C M M' ∧ (∀ x, C' x → C x ∨ (mZ M ≤ x ∧ x < mZ M')) ∧ mS M' + Ps ≤ mS M + Ps' ∧ 64 * mZ M' + Pc ≤ 64 * mZ M + Pc'
def cQ (c9 : tG9) (C : Nat → Prop) (n t Ps Pc : Nat) (M M' : mM) : Prop := cQ0 c9 C n t Ps Pc M M' ∧ sE M M' t
/-- the table of values is not among what a step may change -/
theorem CJ.knf (h : CJ c9 C n t Ps Pc T Kt N A B D Cw p O P K p' O' P' K' Ab Be Cm U Ag Bg Cg cn cc bc Ls v R k Z M) (r : mR M' t 11 = mR M t 11) (e : mI M' (v 0) 1 = mI M (v 0) 1) : knF M M' t := by
  unfold knF
  rw [r, h.2.2.2.1.2.2.1.2.2.1.1]
  exact e
theorem CJ.vz (h : CJ c9 C n t Ps Pc T Kt N A B D Cw p O P K p' O' P' K' Ab Be Cm U Ag Bg Cg cn cc bc Ls v R k Z M) : Z (v 0) := (h.2.2.2.1.2.1.2.2.1 0 (by decide)).1
theorem CJ.vfc (h : CJ c9 C n t Ps Pc T Kt N A B D Cw p O P K p' O' P' K' Ab Be Cm U Ag Bg Cg cn cc bc Ls v R k Z M) (f : FC Y M M') (hy : ∀ x, Y x → ¬ Z x) : mI M' (v 0) = mI M (v 0) := (f.sm (h.2.2.2.2.1.2.2.2.2 _ (h.2.2.2.2.1.2.2.2.1 _ (Or.inr (Or.inl h.vz)))) (fun u => hy _ u h.vz)).2.2.2
theorem CJ.up (h : CJ c9 C n t Ps Pc T Kt N A B D Cw p O P K p' O' P' K' Ab Be Cm U Ag Bg Cg cn cc bc Ls v R k Z M) : CJ c9 C (n + 1) t Ps Pc T Kt N A B D Cw p O P K p' O' P' K' Ab Be Cm U Ag Bg Cg cn cc bc Ls v R k Z M := ⟨h.1, h.2.1, h.2.2.1.up, h.2.2.2⟩
theorem CI.same (h : CI c9 C n t Ps Pc M) : cQ c9 C n t Ps Pc M M := by
  obtain ⟨T, Kt, N, A, B, D, Cw, p, O, P, K, p', O', P', K', Ab, Be, Cm, U, Ag, Bg, Cg, cn, cc, bc, Ls, v, R, k, Z, h⟩ := h
  exact ⟨⟨C, Ps, Pc, ⟨T, Kt, N, A, B, D, Cw, p, O, P, K, p', O', P', K', Ab, Be, Cm, U, Ag, Bg, Cg, cn, cc, bc, Ls, v, R, k, Z, h.up⟩, FC.refl, fun x u => Or.inl u, Nat.le_refl _, Nat.le_refl _⟩, sE.refl⟩
theorem CJ.tg (h : CJ c9 C n t Ps Pc T Kt N A B D Cw p O P K p' O' P' K' Ab Be Cm U Ag Bg Cg cn cc bc Ls v R k Z M) : Tg M t (t + 62) cn cc bc := ⟨h.1, ⟨h.2.2.2.1.2.2.1.1, h.2.2.2.1.2.2.1.2.1.1⟩, h.2.2.1.1, h.2.2.1.2.2.2.2.2.1⟩
theorem CI.tg (h : CI c9 C n t Ps Pc M) : ∃ cn cc bc, Tg M t (t + 62) cn cc bc := by
  obtain ⟨T, Kt, N, A, B, D, Cw, p, O, P, K, p', O', P', K', Ab, Be, Cm, U, Ag, Bg, Cg, cn, cc, bc, Ls, v, R, k, Z, h⟩ := h
  exact ⟨cn, cc, bc, h.tg⟩
/-- an answer, and nothing has changed -/
theorem CI.rd {r : Int} (h : CI c9 C n t Ps Pc M) (q : M' = M ∧ i32 r) : i32 r ∧ cQ c9 C n t Ps Pc M M' := by
  rw [q.1]
  exact ⟨q.2, h.same⟩
theorem c_CA_place (h : CI c9 C n t Ps Pc M) : Ci G y_CA_place d [vr t] M (fun r M' => i32 r ∧ cQ c9 C n t Ps Pc M M' ∧ r = mI M t 7) := by
  obtain ⟨cn, cc, bc, q⟩ := h.tg
  exact (s_CA_place q).mono (fun r M' e => ⟨(h.rd ⟨e.1, e.2.1⟩).1, (h.rd ⟨e.1, e.2.1⟩).2, e.2.2⟩)
theorem c_CA_state (h : CI c9 C n t Ps Pc M) : Ci G y_CA_state d [vr t] M (fun r M' => i32 r ∧ cQ c9 C n t Ps Pc M M' ∧ r = mI M t 8) := by
  obtain ⟨cn, cc, bc, q⟩ := h.tg
  exact (s_CA_state q).mono (fun r M' e => ⟨(h.rd ⟨e.1, e.2.1⟩).1, (h.rd ⟨e.1, e.2.1⟩).2, e.2.2⟩)
theorem c_CA_states (h : CI c9 C n t Ps Pc M) : Ci G y_CA_states d [vr t] M (fun r M' => i32 r ∧ cQ c9 C n t Ps Pc M M' ∧ r = mI M (t + 62) 0) := by
  obtain ⟨cn, cc, bc, q⟩ := h.tg
  have c5 := q.2.2.2.cnt.2
  have c0 := q.2.2.2.cnt.1
  refine (s_CA_states q).mono (fun r M' e => ?_)
  have k := h.rd (r := r) ⟨e.1, by rw [e.2]; exact i32s (by omega) (by omega)⟩
  exact ⟨k.1, k.2, by rw [c0]; exact e.2⟩
theorem c_CA_next {l1 l2 : Int} (i1 : i32 l1) (i2 : i32 l2) (h : CI c9 C n t Ps Pc M) : Ci G y_CA_next (d + 2) [vr t, vi l1, vi l2] M (fun r M' => i32 r ∧ cQ c9 C n t Ps Pc M M') := by
  obtain ⟨cn, cc, bc, q⟩ := h.tg
  exact (s_CA_next i1 i2 q).mono (fun r M' e => h.rd e)
theorem c_CA_items {l : Int} (il : i32 l) (h : CI c9 C n t Ps Pc M) : Ci G y_CA_items d [vr t, vi l] M (fun r M' => i32 r ∧ cQ c9 C n t Ps Pc M M' ∧ r = itq c9.2 l) := by
  obtain ⟨T, Kt, N, A, B, D, Cw, p, O, P, K, p', O', P', K', Ab, Be, Cm, U, Ag, Bg, Cg, cn, cc, bc, Ls, v, R, k, Z, j⟩ := id h
  refine (s_CA_items il j.tg ⟨j.2.1.1.2.2.1, j.2.1.2.2.2.2.1.1⟩).mono (fun r M' e => ⟨(h.rd e.1).1, (h.rd e.1).2, ?_⟩)
  obtain ⟨i1, i2⟩ := j.2.1.2.2.2.2.2.2.2
  have e2 := e.2
  unfold itq
  by_cases z : mI M t 6 = 0
  · rw [e2, if_pos z, ← i1, if_pos z]
  · obtain ⟨y1, y2, y3, -⟩ := i2 z
    rw [e2, if_neg z, ← i1, if_neg z, y1, y2, y3]
theorem c_CA_choice {l : Int} (il : i32 l) (h : CI c9 C n t Ps Pc M) : Ci G y_CA_choice (d + 1) [vr t, vi l] M (fun r M' => i32 r ∧ cQ c9 C n t Ps Pc M M') := by
  obtain ⟨T, Kt, N, A, B, D, Cw, p, O, P, K, p', O', P', K', Ab, Be, Cm, U, Ag, Bg, Cg, cn, cc, bc, Ls, v, R, k, Z, j⟩ := id h
  have jn := j.2.2.2.1
  exact (s_CA_choice il j.tg jn.2.2.1.2.1.2 jn.1.1.1.2.1 ⟨jn.2.2.1.2.2.1.1, (jn.1.2.1.1 0 (by decide)).1.1⟩).mono (fun r M' e => h.rd e)
theorem c_CA_rank {l : Int} (il : i32 l) (h : CI c9 C n t Ps Pc M) : Ci G y_CA_rank (d + 1) [vr t, vi l] M (fun r M' => i32 r ∧ cQ c9 C n t Ps Pc M M') := by
  obtain ⟨T, Kt, N, A, B, D, Cw, p, O, P, K, p', O', P', K', Ab, Be, Cm, U, Ag, Bg, Cg, cn, cc, bc, Ls, v, R, k, Z, j⟩ := id h
  have jn := j.2.2.2.1
  exact (s_CA_rank il j.tg jn.2.2.1.2.1.2 jn.1.1.1.2.1 ⟨jn.2.2.1.2.2.1.1, (jn.1.2.1.1 0 (by decide)).1.1⟩).mono (fun r M' e => h.rd e)
theorem c_CA_character {l : Int} (il : i32 l) (h : CI c9 C n t Ps Pc M) : Ci G y_CA_character d [vr t, vi l] M (fun r M' => i32 r ∧ cQ c9 C n t Ps Pc M M') := by
  obtain ⟨T, Kt, N, A, B, D, Cw, p, O, P, K, p', O', P', K', Ab, Be, Cm, U, Ag, Bg, Cg, cn, cc, bc, Ls, v, R, k, Z, j⟩ := id h
  obtain ⟨n1, n2, n3, n4, n5, n6, n7, c, e18, c4⟩ := j.2.2.2.1
  exact (s_CA_character il j.1 n3.1 n3.2.2.2.1.2.2 ⟨n7.1, n7.2.1⟩ e18 c4).mono (fun r M' e => h.rd e)
end NCV
