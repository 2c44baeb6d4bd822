section
section
/-! The class's machine, exactly: what is set. -/
section QAH
variable {G : mG} {d z m U Ab0 Be0 C0 t c p O P K L i pc : Nat} {M0 M : mM} {a b : Int} {Q : Int → mM → Prop}
/-- the fault of a number that is set -/
def stfq (a b lo hi x : Int) : Int × Int := if b ≠ 1 then (8, x) else if a < lo ∨ hi < a then (12, x) else (0, 0)
/-- a number is set, or a fault is told -/
def setQ9 (M0 : mM) (z m U Ab0 Be0 C0 : Nat) (M : mM) (t c : Nat) (f : Int × Int) (v : Nat) (a : Int) (r : Int) (M' : mM) : Prop := ((r = 0 ∧ f.1 ≠ 0 ∧ mI M' m 1 = f.1 ∧ mI M' m 2 = f.2) ∨ (r = 1 ∧ f.1 = 0 ∧ plq M M' m t ∧ ∀ j, mI M' (m + 2) j = if j = v then a else mI M (m + 2) j)) ∧ MS M0 z m U Ab0 Be0 C0 M' t c ∧ mtb m M M'
theorem x_Ma_store {x : Int} {v : Nat} (ix : i32 x) (hv : v < 12) (h : MS M0 z m U Ab0 Be0 C0 M (t + 1) c) (hp : PK M z p O P K) (h0 : mR M m 0 = p) (mp : p + 15 < m ∨ m + 9 < p) (h1 : ptq M m t a b) : Ci G y_Ma_store (d + 1) [vr m, vi x, vi v] M (setQ9 M0 z m U Ab0 Be0 C0 M t c (stfq a b (mI M (p + 3) v) (mI M (p + 4) v) x) v a) := by
  obtain ⟨ok, k0, h8, kA, kB, tA, tB, bA, bB, hb, ⟨mA, mB⟩, ne⟩ := h.pile
  refine k_Ma_store ok ix (i32s (by omega) (by omega)) ⟨k0, ⟨by omega, by omega⟩, fun M3 e3 => ?_⟩
  obtain ⟨h3, b3, f3⟩ := ms_top (t' := t) h (by omega) (by omega) e3
  obtain ⟨ok3, k03, h83, kA3, kB3, tA3, tB3, bA3, bB3, hb3, -, -⟩ := h3.pile
  have hp3 := hp.fi f3
  have h03 : mR M3 m 0 = p := by rw [f3.2.2.1]; exact h0
  have hm5 : mR M3 m 5 = m + 2 ∧ mK M3 (m + 2) = 30 ∧ mN M3 (m + 2) = 12 := by
    obtain ⟨_, _, _, -, hk, -⟩ := h3
    exact ⟨hk.2.1.2.1, hk.2.2.1.2.1, hk.2.2.2.1.1⟩
  have lA : mN M3 (mR M3 m 6) = mN M (mR M m 6) := by rw [f3.2.1, f3.2.2.1]
  have lB : mN M3 (mR M3 m 7) = mN M (mR M m 7) := by rw [f3.2.1, f3.2.2.1]
  obtain ⟨pk, -, -, -, -, -, ⟨⟨p4, p5, -⟩, ⟨pk4, pk5, -⟩, ⟨pn4, pn5, -⟩⟩⟩ := hp3
  have pq : plq M M3 m (t + 1) := plq.fi f3 ⟨mA, mB⟩
  have pt := pq.pt (by omega) h1
  have i3 : ∀ i, i ≤ 15 → mI M3 (p + i) = mI M (p + i) := fun i hi => f3.2.2.2.2.2.2 _ (show ¬ p + i = m by first | rfl | omega)
  have n2 : mI M3 (m + 2) = mI M (m + 2) := f3.2.2.2.2.2.2 _ (show ¬ m + 2 = m by first | rfl | omega)
  have ia : i32 a := by rw [← h1.1]; exact (ok _ _).1
  rw [h03, p4, p5, pn4, pn5, lA, lB, h83, Int.toNat_natCast, Int.toNat_natCast, hm5.1, hm5.2.2, pt.1, pt.2, i3 3 (by omega), i3 4 (by omega)]
  have st : ∀ {y : Int}, i32 y → y ≠ 0 → stfq a b (mI M (p + 3) v) (mI M (p + 4) v) x = (y, x) → Ci G y_Ma_stop d [vr m, vi y, vi x] M3 (fun r M' => i32 r ∧ mOk M' ∧ ((r = 0 ∨ r = 1) ∧ setQ9 M0 z m U Ab0 Be0 C0 M t c (stfq a b (mI M (p + 3) v) (mI M (p + 4) v) x) v a r M')) := fun {y} hy y0 ef => (x_Ma_stop hy ix h3).mono (fun r M' q => by
    obtain ⟨e, q1, q2, q3, q4⟩ := q
    rw [e, ef]
    exact ⟨i32s (by omega) (by omega), q1.pile.1, Or.inl rfl, Or.inl ⟨rfl, y0, q3, q4⟩, q1, b3.trans q2.mtb⟩)
  refine ⟨kB3, by omega, fun y1 => ⟨kA3, by omega, pk, pk4, by omega, fun _ => ⟨by omega, pk5, by omega⟩, fun y2 => st (i32s (by omega) (by omega)) (by decide) (by unfold stfq; rw [if_neg (fun u => u y1), if_pos (by omega)]), fun y2 => ⟨by omega, hm5.2.1, by omega, fun M45 e45 => ?_⟩⟩, fun y1 => st (i32s (by omega) (by omega)) (by decide) (by unfold stfq; rw [if_pos y1])⟩
  have w := ms_nxt h3 ia e45
  obtain ⟨Ab, Be, C, -, hk, -⟩ := id h3
  obtain ⟨sA, sB, sne, sz⟩ := hk.2.2.2.2.2.1
  have r6 := hk.2.1.2.2.1
  have r7 := hk.2.1.2.2.2.1
  have f45 : FI (fun b => b = m + 2) M3 M45 := by rw [e45]; exact FI.ui rfl
  refine ⟨Or.inr ⟨rfl, by unfold stfq; rw [if_neg (fun u => u y1), if_neg (by omega)], fun j hj => ?_, fun j => ?_⟩, w.1, b3.trans w.2⟩
  · rw [f45.2.2.1, r6, r7, f45.2.2.2.2.2.2 Ab (show ¬ Ab = m + 2 by first | rfl | omega), f45.2.2.2.2.2.2 Be (show ¬ Be = m + 2 by first | rfl | omega), ← r6, ← r7]
    exact pq j (by omega)
  · rw [mI_ui _ j e45, n2]
    by_cases y : j = v
    · rw [if_pos ⟨rfl, y⟩, if_pos y]
    · rw [if_neg (fun q => y q.2), if_neg y]
theorem run_set {pp : Int} {v : Nat} (hE : Rnv M0 z m Ab0 Be0 p O P K L) (hpc : pc < L) (hi : i < 1000000) (hM : MS M0 z m U Ab0 Be0 C0 M (t + 1) c) (o : mI M0 O pc = 43) (ox : mI M0 P pc = pp * 16 + (v : Int)) (hv : v < 12) (hpp : 0 ≤ pp ∧ pp ≤ 16384) (pt : ptq M m t a b) (next : (stfq a b (mI M0 (p + 3) v) (mI M0 (p + 4) v) pp).1 = 0 → ∀ M', MS M0 z m U Ab0 Be0 C0 M' t c → mtb m M M' → plq M M' m t → (∀ j, mI M' (m + 2) j = if j = v then a else mI M (m + 2) j) → h_Ma_run_14 G (d + 3) m ((pc + 1 : Nat) : Int) ((i + 1 : Nat) : Int) M' Q) (flt : (stfq a b (mI M0 (p + 3) v) (mI M0 (p + 4) v) pp).1 ≠ 0 → ∀ M', mI M' m 1 = (stfq a b (mI M0 (p + 3) v) (mI M0 (p + 4) v) pp).1 → mI M' m 2 = (stfq a b (mI M0 (p + 3) v) (mI M0 (p + 4) v) pp).2 → MS M0 z m U Ab0 Be0 C0 M' t c → mtb m M M' → Q 0 M') : h_Ma_run_14 G (d + 3) m (pc : Int) (i : Int) M Q := by
  obtain ⟨hp, hm0, ha, hL, hLK, hLn⟩ := hE
  obtain ⟨ok, k0, h8, kA, kB, tA, tB, bA, bB, hb, ⟨mA, mB⟩, ne⟩ := hM.pile
  obtain ⟨hp1, hr0, iO, iP, iT⟩ := hM.prog hp hm0 ha
  obtain ⟨pk, ⟨pr0, pr1⟩, ⟨kO, kP, nO, nP⟩, -, -, -, ⟨⟨-, -, -, p8, p9, -⟩, ⟨-, -, -, pk8, pk9, -⟩, ⟨-, -, -, pn8, pn9, -⟩⟩⟩ := id hp1
  have l2 : mI M p 2 = L := by rw [show p = p + 0 by first | rfl | omega, iT 0 (by omega)]; exact hL
  have no : ¬ ((1000000 : Int) ≤ (i : Int) ∨ ((pc : Int) < 0 ∨ mI M (mR M m 0) 2 ≤ (pc : Int))) := by rw [hr0, l2]; omega
  refine k_Ma_run_14 ok (i32s (by omega) (by omega)) ⟨by omega, by omega⟩ ⟨fun _ _ => ⟨k0, by rw [hr0]; exact pk⟩, fun y => absurd y no, fun _ => ?_⟩
  rw [hr0, pr0, pr1, p8, p9, pn8, pn9, nO, nP, iO, iP, Int.toNat_natCast, show ((i : Int) + 1) = ((i + 1 : Nat) : Int) by first | rfl | omega, show ((pc : Int) + 1) = ((pc + 1 : Nat) : Int) by first | rfl | omega]
  have io : i32 (mI M0 O pc) := by rw [← iO]; exact (ok _ _).1
  have ix : i32 (mI M0 P pc) := by rw [← iP]; exact (ok _ _).1
  have st : Ci G y_Ma_compute (d + 3) [vr m, vi (mI M0 O pc), vi (mI M0 P pc)] M (setQ9 M0 z m U Ab0 Be0 C0 M t c (stfq a b (mI M0 (p + 3) v) (mI M0 (p + 4) v) pp) v a) := by
    refine k_Ma_computew ok io ix ⟨fun y => absurd y (by rw [o]; decide), fun _ => ⟨fun y => absurd y (by rw [o]; decide), fun _ => ⟨fun _ => ⟨k0, ?_⟩, fun y => absurd o y⟩⟩⟩
    rw [ox, show Int.tdiv (pp * 16 + (v : Int)) 16 = pp by rw [Int.tdiv_eq_ediv_of_nonneg (by omega)]; omega, show Int.tmod (pp * 16 + (v : Int)) 16 = (v : Int) by rw [Int.tmod_eq_emod_of_nonneg (by omega)]; omega, ← iT 3 (by omega), ← iT 4 (by omega)]
    refine (x_Ma_store (d := d + 1) (i32s (by omega) (by omega)) hv hM hp1 hr0 ha.1 pt).mono (fun r M' q => ?_)
    have r01 : r = 0 ∨ r = 1 := q.1.imp (fun u => u.1) (fun u => u.1)
    exact ⟨m_b32 r01, q.2.1.pile.1, r01, q⟩
  refine ⟨k0, pk, kO, by omega, kP, by omega, fun o0 => absurd o0 (by omega), fun _ => ⟨fun o3 => absurd o3 (by omega), fun _ => ⟨fun o4 => absurd o4 (by omega), fun _ => ⟨fun o5 => absurd o5 (by omega), fun _ => ⟨fun o7 => absurd o7 (by omega), fun _ => ⟨fun o30 => absurd o30 (by omega), fun _ => ⟨fun o33 => absurd o33 (by omega), fun _ => ⟨fun o42 => absurd o42 (by omega), fun _ => st.mono (fun r M' q => ?_)⟩⟩⟩⟩⟩⟩⟩⟩
  obtain ⟨q1, q2, q3⟩ := q
  rcases q1 with ⟨e1, w0, w1, w2⟩ | ⟨e1, w0, w1, w2⟩
  · rw [e1]
    exact ⟨i32s (by omega) (by omega), q2.pile.1, fun _ => flt w0 M' w1 w2 q2 q3, fun u => absurd rfl u⟩
  · rw [e1]
    exact ⟨i32s (by omega) (by omega), q2.pile.1, fun u => absurd u (by decide), fun _ => next w0 M' q2 q3 w1 w2⟩
end QAH
end
section
/-! The class's machine, exactly: all sets of a branch. -/
section QAI
variable {G : mG} {d z m U Ab0 Be0 C0 cc p O P K L F0 H s0 : Nat} {M0 : mM} {w E pl lo hi : Nat → Int} {cv : Nat → vrs} {ec : Nat → Int × Int} {fv : Nat → vrs} {ns : Nat → Int} {sf ef : Nat → Nat} {X : Nat → Prop}
/-- the orders of sets: the var, its rule from i to j, the word whose place a fault tells -/
def Scd (w : Nat → Int) (ec : Nat → Int × Int) (pl : Nat → Int) (O P : Nat → Int) : List (Nat × Nat × Nat × Nat) → Nat → Nat → Prop
  | [], s, e => s = e
  | q :: r, s, e => ∃ a : Nat, Cd w ec pl O P 0 0 0 q.2.1 q.2.2.1 s a ∧ O a = 43 ∧ P a = pl q.2.2.2 * 16 + (q.1 : Int) ∧ Scd w ec pl O P r (a + 1) e
/-- what sets make of the next state, and the first fault -/
noncomputable def stq9 (w : Nat → Int) (cv : Nat → vrs) (pl lo hi : Nat → Int) : List (Nat × Nat × Nat × Nat) → (Nat → Int) → (Int × Int) × (Nat → Int)
  | [], nx => ((0, 0), nx)
  | q :: r, nx => if (vlq w cv pl 0 0 q.2.1 q.2.2.1).1 ≠ 0 then (((vlq w cv pl 0 0 q.2.1 q.2.2.1).1, (vlq w cv pl 0 0 q.2.1 q.2.2.1).2.1), nx) else if (stfq (vlq w cv pl 0 0 q.2.1 q.2.2.1).2.1 (vlq w cv pl 0 0 q.2.1 q.2.2.1).2.2 (lo q.1) (hi q.1) (pl q.2.2.2)).1 ≠ 0 then (stfq (vlq w cv pl 0 0 q.2.1 q.2.2.1).2.1 (vlq w cv pl 0 0 q.2.1 q.2.2.1).2.2 (lo q.1) (hi q.1) (pl q.2.2.2), nx) else stq9 w cv pl lo hi r (fun j => if j = q.1 then (vlq w cv pl 0 0 q.2.1 q.2.2.1).2.1 else nx j)
theorem MSv.ofb {M M' : mM} {t t' c : Nat} (h : MSv M0 z m U Ab0 Be0 C0 fv ns F0 X M t c) (k : MS M0 z m U Ab0 Be0 C0 M' t' c) (b : mtb m M M') : MSv M0 z m U Ab0 Be0 C0 fv ns F0 X M' t' c ∧ ptl m ns sf ef M' H = ptl m ns sf ef M H := by
  have e9 : mI M' m 9 = mI M m 9 := by rw [k.nine, h.1.nine]
  refine ⟨⟨k, fun x hx h7 u => ?_, h.2.2.mtb b e9⟩, ptl_cg e9 H (fun x _ => by rw [b (m + 5) (by omega) (by omega)])⟩
  rw [b (m + 5) (by omega) (by omega), e9] at u
  rw [b (m + 6) (by omega) (by omega), b (m + 7) (by omega) (by omega)]
  exact h.2.1 x hx h7 u
theorem Scd.le : ∀ (l : List (Nat × Nat × Nat × Nat)) {s e : Nat}, Scd w ec pl (mI M0 O) (mI M0 P) l s e → s ≤ e
  | [], _, _, h => Nat.le_of_eq h
  | q :: r, s, e, h => by
    obtain ⟨a, c1, -, -, c2⟩ := h
    have l1 := c1.lt
    have l2 := Scd.le r c2
    omega
end QAI
end
end
section
section
/-! A table of slots, pure: 1024 slots hold at most 512 states; a state is found by going on from its own slot. -/
section SLO
theorem php9 : ∀ (n m : Nat) (f : Nat → Nat), (∀ i, i < m → f i < n) → (∀ i j, i < m → j < m → f i = f j → i = j) → m ≤ n := by
  intro n
  induction n with
  | zero =>
    intro m f h _
    by_cases y : m = 0
    · omega
    · exact absurd (h 0 (by omega)) (by omega)
  | succ n ih =>
    intro m f h hi
    by_cases y : m = 0
    · omega
    · obtain ⟨m', rfl⟩ : ∃ m', m = m' + 1 := ⟨m - 1, by omega⟩
      have := ih m' (fun i => if f i = n then f m' else f i) (fun i hi' => by
        show (if f i = n then f m' else f i) < n
        have a := h i (by omega)
        have b := h m' (by omega)
        by_cases u : f i = n
        · rw [if_pos u]
          by_cases v : f m' = n
          · have := hi i m' (by omega) (by omega) (by omega)
            omega
          · omega
        · rw [if_neg u]
          omega) (fun i j hi' hj e => by
        have e : (if f i = n then f m' else f i) = (if f j = n then f m' else f j) := e
        by_cases u : f i = n <;> by_cases v : f j = n
        · exact hi i j (by omega) (by omega) (by omega)
        · rw [if_pos u, if_neg v] at e
          have := hi m' j (by omega) (by omega) e
          omega
        · rw [if_neg u, if_pos v] at e
          have := hi i m' (by omega) (by omega) e
          omega
        · rw [if_neg u, if_neg v] at e
          exact hi i j (by omega) (by omega) e)
      omega
/-- slots sl hold the n states; hs k is where state k would like to stand -/
def SLq (sl : Nat → Int) (hs : Nat → Nat) (n : Nat) : Prop := (∀ j, j < 1024 → sl j = -1 ∨ ∃ k : Nat, k < n ∧ sl j = k) ∧ (∀ k, k < n → ∃ t, t < 1024 ∧ sl ((hs k + t) % 1024) = (k : Int) ∧ ∀ t', t' < t → sl ((hs k + t') % 1024) ≠ -1) ∧ ∀ i j, i < 1024 → j < 1024 → sl i = sl j → sl i ≠ -1 → i = j
variable {sl sl' : Nat → Int} {hs : Nat → Nat} {n h : Nat}
/-- there is a free slot -/
theorem SLq.free (s : SLq sl hs n) (hn : n < 1024) : ∃ t, t < 1024 ∧ sl ((h + t) % 1024) = -1 := by
  refine Classical.byContradiction (fun u => ?_)
  have a : ∀ j, j < 1024 → ∃ k : Nat, k < n ∧ sl j = k := fun j hj => by
    rcases s.1 j hj with w | w
    · refine absurd ⟨(j + 1024 - h % 1024) % 1024, by omega, ?_⟩ u
      rw [show (h + (j + 1024 - h % 1024) % 1024) % 1024 = j by first | rfl | omega]
      exact w
    · exact w
  have b := php9 n 1024 (fun j => (sl j).toNat) (fun j hj => by
    obtain ⟨k, k1, k2⟩ := a j hj
    show (sl j).toNat < n
    rw [k2]
    omega) (fun i j hi hj e => by
    obtain ⟨k, k1, k2⟩ := a i hi
    obtain ⟨l, l1, l2⟩ := a j hj
    have e : (sl i).toNat = (sl j).toNat := e
    rw [k2, l2] at e
    exact s.2.2 i j hi hj (by rw [k2, l2]; omega) (by rw [k2]; omega))
  omega
/-- state k, looked for from its own slot, is not passed over: at step t the slot is filled, and it is k's or comes before k's -/
theorem SLq.step {k t : Nat} (s : SLq sl hs n) (hk : k < n) (ht : t < 1024) (hb : ∀ t', t' < t → sl ((hs k + t') % 1024) ≠ (k : Int)) : sl ((hs k + t) % 1024) ≠ -1 := by
  obtain ⟨t0, a1, a2, a3⟩ := s.2.1 k hk
  by_cases y : t < t0
  · exact a3 t y
  · by_cases y2 : t = t0
    · rw [y2, a2]
      omega
    · exact absurd a2 (hb t0 (by omega))
/-- a new state takes the first free slot from its own on -/
theorem SLq.put {t : Nat} (s : SLq sl hs n) (hh : hs n % 1024 = h % 1024) (ht : t < 1024) (hf : sl ((h + t) % 1024) = -1) (hb : ∀ t', t' < t → sl ((h + t') % 1024) ≠ -1) (e : ∀ j, j < 1024 → sl' j = if j = (h + t) % 1024 then (n : Int) else sl j) : SLq sl' hs (n + 1) := by
  have m : ∀ x : Nat, x % 1024 < 1024 := fun x => Nat.mod_lt _ (by decide)
  refine ⟨fun j hj => ?_, fun k hk => ?_, fun i j hi hj u v => ?_⟩
  · rw [e j hj]
    by_cases y : j = (h + t) % 1024
    · rw [if_pos y]
      exact Or.inr ⟨n, by omega, rfl⟩
    · rw [if_neg y]
      exact (s.1 j hj).imp id (fun ⟨k, k1, k2⟩ => ⟨k, by omega, k2⟩)
  · by_cases y : k = n
    · refine ⟨t, ht, ?_, fun t' h' => ?_⟩
      · rw [e _ (m _), if_pos (by rw [y]; omega), y]
      · rw [e _ (m _)]
        by_cases z : (hs k + t') % 1024 = (h + t) % 1024
        · rw [if_pos z]
          omega
        · rw [if_neg z, show (hs k + t') % 1024 = (h + t') % 1024 by rw [y]; omega]
          exact hb t' h'
    · obtain ⟨t0, a1, a2, a3⟩ := s.2.1 k (by omega)
      refine ⟨t0, a1, ?_, fun t' h' => ?_⟩
      · rw [e _ (m _), if_neg (fun z => by rw [z, hf] at a2; omega)]
        exact a2
      · rw [e _ (m _)]
        by_cases z : (hs k + t') % 1024 = (h + t) % 1024
        · rw [if_pos z]
          omega
        · rw [if_neg z]
          exact a3 t' h'
  · rw [e i hi, e j hj] at u
    rw [e i hi] at v
    have nk : ∀ x, x < 1024 → sl x ≠ (n : Int) := fun x hx w => by
      rcases s.1 x hx with w2 | ⟨k, k1, k2⟩
      · rw [w2] at w; omega
      · rw [k2] at w; omega
    by_cases y : i = (h + t) % 1024 <;> by_cases z : j = (h + t) % 1024
    · omega
    · rw [if_pos y, if_neg z] at u
      exact absurd u.symm (nk j hj)
    · rw [if_neg y, if_pos z] at u
      exact absurd u (nk i hi)
    · rw [if_neg y, if_neg z] at u
      rw [if_neg y] at v
      exact s.2.2 i j hi hj u v
/-- no state yet -/
theorem SLq.nil (e : ∀ j, j < 1024 → sl j = -1) : SLq sl hs 0 := ⟨fun j hj => Or.inl (e j hj), fun k hk => absurd hk (by omega), fun i j hi _ _ v => absurd (e i hi) v⟩
end SLO
end
section
/-! What exploring a text comes to: pure. -/
/-- what a rule is worth in a state -/
noncomputable def evq (W pl nq : Nat → Int) (sm : Nat → Nat → Prop) (N : Nat) (nms : List nm9) (sg : List Int) (i j : Nat) : vrs := vlq W (cvs W pl nq sm N (fun v => sg.getD v 0) nms.reverse) pl 0 0 i j
/-- what sets make of a state -/
noncomputable def stpq (W pl nq : Nat → Int) (sm : Nat → Nat → Prop) (N : Nat) (nms : List nm9) (V : Nat) (lo hi : Nat → Int) (sg : List Int) (l : List (Nat × Nat × Nat × Nat)) : (Int × Int) × List Int := ((stq9 W (cvs W pl nq sm N (fun v => sg.getD v 0) nms.reverse) pl lo hi l (fun v => sg.getD v 0)).1, (List.range V).map (stq9 W (cvs W pl nq sm N (fun v => sg.getD v 0) nms.reverse) pl lo hi l (fun v => sg.getD v 0)).2)
/-- a fault and its place, its state; the states, their kinds and commands -/
abbrev xR9 : Type := (Int × Int) × Nat × List (List Int) × xt9
/-- what exploring a text comes to -/
noncomputable def XpG (γ : gW9) : xR9 := xpl9 (evq γ.1 γ.2.1 γ.2.2.1 γ.2.2.2.1 γ.2.2.2.2.1 γ.2.2.2.2.2.1) (stpq γ.1 γ.2.1 γ.2.2.1 γ.2.2.2.1 γ.2.2.2.2.1 γ.2.2.2.2.2.1 γ.2.2.2.2.2.2.1.length (fun v => (γ.2.2.2.2.2.2.1.getD v (0, 0, 0)).1) (fun v => (γ.2.2.2.2.2.2.1.getD v (0, 0, 0)).2.1)) (γ.2.2.2.2.2.2.2.1.getD (0, 0)) γ.2.2.2.2.2.2.2.2 (γ.2.2.2.2.2.2.1.map (fun x => x.2.2))
end
end
