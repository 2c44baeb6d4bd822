section
/-! The class's machine, exactly: what is set. -/
section QAH
variable {G : mG} {d z m U Ab0 Be0 C0 t c p O P K L i pc : Nat} {M0 M : mM} {a b : Int} {Q : Int → mM → Prop}
/-- the fault of a number that is set -/
def stfq (a b lo hi x : Int) : Int × Int := if b ≠ 1 then (8, x) else if a < lo ∨ hi < a then (12, x) else (0, 0)
/-- a number is set, or a fault is told -/
def setQ9 (M0 : mM) (z m U Ab0 Be0 C0 : Nat) (M : mM) (t c : Nat) (f : Int × Int) (v : Nat) (a : Int) (r : Int) (M' : mM) : Prop := ((r = 0 ∧ f.1 ≠ 0 ∧ mI M' m 1 = f.1 ∧ mI M' m 2 = f.2) ∨ (r = 1 ∧ f.1 = 0 ∧ plq M M' m t ∧ ∀ j, mI M' (m + 2) j = if j = v then a else mI M (m + 2) j)) ∧ MS M0 z m U Ab0 Be0 C0 M' t c ∧ mtb m M M'
theorem x_Ma_store {x : Int} {v : Nat} (ix : i32 x) (hv : v < 12) (h : MS M0 z m U Ab0 Be0 C0 M (t + 1) c) (hp : PK M z p O P K) (h0 : mR M m 0 = p) (mp : p + 15 < m ∨ m + 9 < p) (h1 : ptq M m t a b) : Ci G y_Ma_store (d + 1) [vr m, vi x, vi v] M (setQ9 M0 z m U Ab0 Be0 C0 M t c (stfq a b (mI M (p + 3) v) (mI M (p + 4) v) x) v a) := by
  obtain ⟨ok, k0, h8, kA, kB, tA, tB, bA, bB, hb, ⟨mA, mB⟩, ne⟩ := h.pile
  refine k_Ma_store ok ix (i32s (by omega) (by omega)) ⟨k0, ⟨by omega, by omega⟩, fun M3 e3 => ?_⟩
  obtain ⟨h3, b3, f3⟩ := ms_top (t' := t) h (by omega) (by omega) e3
  obtain ⟨ok3, k03, h83, kA3, kB3, tA3, tB3, bA3, bB3, hb3, -, -⟩ := h3.pile
  have hp3 := hp.fi f3
  have h03 : mR M3 m 0 = p := by rw [f3.2.2.1]; exact h0
  have hm5 : mR M3 m 5 = m + 2 ∧ mK M3 (m + 2) = 30 ∧ mN M3 (m + 2) = 12 := by
    obtain ⟨_, _, _, -, hk, -⟩ := h3
    exact ⟨hk.2.1.2.1, hk.2.2.1.2.1, hk.2.2.2.1.1⟩
  have lA : mN M3 (mR M3 m 6) = mN M (mR M m 6) := by rw [f3.2.1, f3.2.2.1]
  have lB : mN M3 (mR M3 m 7) = mN M (mR M m 7) := by rw [f3.2.1, f3.2.2.1]
  obtain ⟨pk, -, -, -, -, -, ⟨⟨p4, p5, -⟩, ⟨pk4, pk5, -⟩, ⟨pn4, pn5, -⟩⟩⟩ := hp3
  have pq : plq M M3 m (t + 1) := plq.fi f3 ⟨mA, mB⟩
  have pt := pq.pt (by omega) h1
  have i3 : ∀ i, i ≤ 15 → mI M3 (p + i) = mI M (p + i) := fun i hi => f3.2.2.2.2.2.2 _ (show ¬ p + i = m by omega)
  have n2 : mI M3 (m + 2) = mI M (m + 2) := f3.2.2.2.2.2.2 _ (show ¬ m + 2 = m by omega)
  have ia : i32 a := by rw [← h1.1]; exact (ok _ _).1
  rw [h03, p4, p5, pn4, pn5, lA, lB, h83, Int.toNat_natCast, Int.toNat_natCast, hm5.1, hm5.2.2, pt.1, pt.2, i3 3 (by omega), i3 4 (by omega)]
  have st : ∀ {y : Int}, i32 y → y ≠ 0 → stfq a b (mI M (p + 3) v) (mI M (p + 4) v) x = (y, x) → Ci G y_Ma_stop d [vr m, vi y, vi x] M3 (fun r M' => i32 r ∧ mOk M' ∧ ((r = 0 ∨ r = 1) ∧ setQ9 M0 z m U Ab0 Be0 C0 M t c (stfq a b (mI M (p + 3) v) (mI M (p + 4) v) x) v a r M')) := fun {y} hy y0 ef => (x_Ma_stop hy ix h3).mono (fun r M' q => by
    obtain ⟨e, q1, q2, q3, q4⟩ := q
    rw [e, ef]
    exact ⟨i32s (by omega) (by omega), q1.pile.1, Or.inl rfl, Or.inl ⟨rfl, y0, q3, q4⟩, q1, b3.trans q2.mtb⟩)
  refine ⟨kB3, by omega, fun y1 => ⟨kA3, by omega, pk, pk4, by omega, fun _ => ⟨by omega, pk5, by omega⟩, fun y2 => st (i32s (by omega) (by omega)) (by decide) (by unfold stfq; rw [if_neg (fun u => u y1), if_pos (by omega)]), fun y2 => ⟨by omega, hm5.2.1, by omega, fun M45 e45 => ?_⟩⟩, fun y1 => st (i32s (by omega) (by omega)) (by decide) (by unfold stfq; rw [if_pos y1])⟩
  have w := ms_nxt h3 ia e45
  obtain ⟨Ab, Be, C, -, hk, -⟩ := id h3
  obtain ⟨sA, sB, sne, sz⟩ := hk.2.2.2.2.2.1
  have r6 := hk.2.1.2.2.1
  have r7 := hk.2.1.2.2.2.1
  have f45 : FI (fun b => b = m + 2) M3 M45 := by rw [e45]; exact FI.ui rfl
  refine ⟨Or.inr ⟨rfl, by unfold stfq; rw [if_neg (fun u => u y1), if_neg (by omega)], fun j hj => ?_, fun j => ?_⟩, w.1, b3.trans w.2⟩
  · rw [f45.2.2.1, r6, r7, f45.2.2.2.2.2.2 Ab (show ¬ Ab = m + 2 by omega), f45.2.2.2.2.2.2 Be (show ¬ Be = m + 2 by omega), ← r6, ← r7]
    exact pq j (by omega)
  · rw [mI_ui _ j e45, n2]
    by_cases y : j = v
    · rw [if_pos ⟨rfl, y⟩, if_pos y]
    · rw [if_neg (fun q => y q.2), if_neg y]
theorem run_set {pp : Int} {v : Nat} (hE : Rnv M0 z m Ab0 Be0 p O P K L) (hpc : pc < L) (hi : i < 1000000) (hM : MS M0 z m U Ab0 Be0 C0 M (t + 1) c) (o : mI M0 O pc = 43) (ox : mI M0 P pc = pp * 16 + (v : Int)) (hv : v < 12) (hpp : 0 ≤ pp ∧ pp ≤ 16384) (pt : ptq M m t a b) (next : (stfq a b (mI M0 (p + 3) v) (mI M0 (p + 4) v) pp).1 = 0 → ∀ M', MS M0 z m U Ab0 Be0 C0 M' t c → mtb m M M' → plq M M' m t → (∀ j, mI M' (m + 2) j = if j = v then a else mI M (m + 2) j) → h_Ma_run_14 G (d + 3) m ((pc + 1 : Nat) : Int) ((i + 1 : Nat) : Int) M' Q) (flt : (stfq a b (mI M0 (p + 3) v) (mI M0 (p + 4) v) pp).1 ≠ 0 → ∀ M', mI M' m 1 = (stfq a b (mI M0 (p + 3) v) (mI M0 (p + 4) v) pp).1 → mI M' m 2 = (stfq a b (mI M0 (p + 3) v) (mI M0 (p + 4) v) pp).2 → MS M0 z m U Ab0 Be0 C0 M' t c → mtb m M M' → Q 0 M') : h_Ma_run_14 G (d + 3) m (pc : Int) (i : Int) M Q := by
  obtain ⟨hp, hm0, ha, hL, hLK, hLn⟩ := hE
  obtain ⟨ok, k0, h8, kA, kB, tA, tB, bA, bB, hb, ⟨mA, mB⟩, ne⟩ := hM.pile
  obtain ⟨hp1, hr0, iO, iP, iT⟩ := hM.prog hp hm0 ha
  obtain ⟨pk, ⟨pr0, pr1⟩, ⟨kO, kP, nO, nP⟩, -, -, -, ⟨⟨-, -, -, p8, p9, -⟩, ⟨-, -, -, pk8, pk9, -⟩, ⟨-, -, -, pn8, pn9, -⟩⟩⟩ := id hp1
  have l2 : mI M p 2 = L := by rw [show p = p + 0 by omega, iT 0 (by omega)]; exact hL
  have no : ¬ ((1000000 : Int) ≤ (i : Int) ∨ ((pc : Int) < 0 ∨ mI M (mR M m 0) 2 ≤ (pc : Int))) := by rw [hr0, l2]; omega
  refine k_Ma_run_14 ok (i32s (by omega) (by omega)) ⟨by omega, by omega⟩ ⟨fun _ _ => ⟨k0, by rw [hr0]; exact pk⟩, fun y => absurd y no, fun _ => ?_⟩
  rw [hr0, pr0, pr1, p8, p9, pn8, pn9, nO, nP, iO, iP, Int.toNat_natCast, show ((i : Int) + 1) = ((i + 1 : Nat) : Int) by omega, show ((pc : Int) + 1) = ((pc + 1 : Nat) : Int) by omega]
  have io : i32 (mI M0 O pc) := by rw [← iO]; exact (ok _ _).1
  have ix : i32 (mI M0 P pc) := by rw [← iP]; exact (ok _ _).1
  have st : Ci G y_Ma_compute (d + 3) [vr m, vi (mI M0 O pc), vi (mI M0 P pc)] M (setQ9 M0 z m U Ab0 Be0 C0 M t c (stfq a b (mI M0 (p + 3) v) (mI M0 (p + 4) v) pp) v a) := by
    refine k_Ma_computew ok io ix ⟨fun y => absurd y (by rw [o]; decide), fun _ => ⟨fun y => absurd y (by rw [o]; decide), fun _ => ⟨fun _ => ⟨k0, ?_⟩, fun y => absurd o y⟩⟩⟩
    rw [ox, show Int.tdiv (pp * 16 + (v : Int)) 16 = pp by rw [Int.tdiv_eq_ediv_of_nonneg (by omega)]; omega, show Int.tmod (pp * 16 + (v : Int)) 16 = (v : Int) by rw [Int.tmod_eq_emod_of_nonneg (by omega)]; omega, ← iT 3 (by omega), ← iT 4 (by omega)]
    refine (x_Ma_store (d := d + 1) (i32s (by omega) (by omega)) hv hM hp1 hr0 ha.1 pt).mono (fun r M' q => ?_)
    have r01 : r = 0 ∨ r = 1 := q.1.imp (fun u => u.1) (fun u => u.1)
    exact ⟨m_b32 r01, q.2.1.pile.1, r01, q⟩
  refine ⟨k0, pk, kO, by omega, kP, by omega, fun o0 => absurd o0 (by omega), fun _ => ⟨fun o3 => absurd o3 (by omega), fun _ => ⟨fun o4 => absurd o4 (by omega), fun _ => ⟨fun o5 => absurd o5 (by omega), fun _ => ⟨fun o7 => absurd o7 (by omega), fun _ => ⟨fun o30 => absurd o30 (by omega), fun _ => ⟨fun o33 => absurd o33 (by omega), fun _ => ⟨fun o42 => absurd o42 (by omega), fun _ => st.mono (fun r M' q => ?_)⟩⟩⟩⟩⟩⟩⟩⟩
  obtain ⟨q1, q2, q3⟩ := q
  rcases q1 with ⟨e1, w0, w1, w2⟩ | ⟨e1, w0, w1, w2⟩
  · rw [e1]
    exact ⟨i32s (by omega) (by omega), q2.pile.1, fun _ => flt w0 M' w1 w2 q2 q3, fun u => absurd rfl u⟩
  · rw [e1]
    exact ⟨i32s (by omega) (by omega), q2.pile.1, fun u => absurd u (by decide), fun _ => next w0 M' q2 q3 w1 w2⟩
end QAH
end
section
/-! The class's machine, exactly: all sets of a branch. -/
section QAI
variable {G : mG} {d z m U Ab0 Be0 C0 cc p O P K L F0 H s0 : Nat} {M0 : mM} {w E pl lo hi : Nat → Int} {cv : Nat → vrs} {ec : Nat → Int × Int} {fv : Nat → vrs} {ns : Nat → Int} {sf ef : Nat → Nat} {X : Nat → Prop}
/-- the orders of sets: the var, its rule from i to j, the word whose place a fault tells -/
def Scd (w : Nat → Int) (ec : Nat → Int × Int) (pl : Nat → Int) (O P : Nat → Int) : List (Nat × Nat × Nat × Nat) → Nat → Nat → Prop
  | [], s, e => s = e
  | q :: r, s, e => ∃ a : Nat, Cd w ec pl O P 0 0 0 q.2.1 q.2.2.1 s a ∧ O a = 43 ∧ P a = pl q.2.2.2 * 16 + (q.1 : Int) ∧ Scd w ec pl O P r (a + 1) e
/-- what sets make of the next state, and the first fault -/
noncomputable def stq9 (w : Nat → Int) (cv : Nat → vrs) (pl lo hi : Nat → Int) : List (Nat × Nat × Nat × Nat) → (Nat → Int) → (Int × Int) × (Nat → Int)
  | [], nx => ((0, 0), nx)
  | q :: r, nx => if (vlq w cv pl 0 0 q.2.1 q.2.2.1).1 ≠ 0 then (((vlq w cv pl 0 0 q.2.1 q.2.2.1).1, (vlq w cv pl 0 0 q.2.1 q.2.2.1).2.1), nx) else if (stfq (vlq w cv pl 0 0 q.2.1 q.2.2.1).2.1 (vlq w cv pl 0 0 q.2.1 q.2.2.1).2.2 (lo q.1) (hi q.1) (pl q.2.2.2)).1 ≠ 0 then (stfq (vlq w cv pl 0 0 q.2.1 q.2.2.1).2.1 (vlq w cv pl 0 0 q.2.1 q.2.2.1).2.2 (lo q.1) (hi q.1) (pl q.2.2.2), nx) else stq9 w cv pl lo hi r (fun j => if j = q.1 then (vlq w cv pl 0 0 q.2.1 q.2.2.1).2.1 else nx j)
theorem MSv.ofb {M M' : mM} {t t' c : Nat} (h : MSv M0 z m U Ab0 Be0 C0 fv ns F0 X M t c) (k : MS M0 z m U Ab0 Be0 C0 M' t' c) (b : mtb m M M') : MSv M0 z m U Ab0 Be0 C0 fv ns F0 X M' t' c ∧ ptl m ns sf ef M' H = ptl m ns sf ef M H := by
  have e9 : mI M' m 9 = mI M m 9 := by rw [k.nine, h.1.nine]
  refine ⟨⟨k, fun x hx h7 u => ?_, h.2.2.mtb b e9⟩, ptl_cg e9 H (fun x _ => by rw [b (m + 5) (by omega) (by omega)])⟩
  rw [b (m + 5) (by omega) (by omega), e9] at u
  rw [b (m + 6) (by omega) (by omega), b (m + 7) (by omega) (by omega)]
  exact h.2.1 x hx h7 u
theorem Scd.le : ∀ (l : List (Nat × Nat × Nat × Nat)) {s e : Nat}, Scd w ec pl (mI M0 O) (mI M0 P) l s e → s ≤ e
  | [], _, _, h => Nat.le_of_eq h
  | q :: r, s, e, h => by
    obtain ⟨a, c1, -, -, c2⟩ := h
    have l1 := c1.lt
    have l2 := Scd.le r c2
    omega
end QAI
end
