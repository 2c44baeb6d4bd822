section
/-! The class's machine, exactly: the steps of run. -/
section RUX
variable {G : mG} {d z m U Ab0 Be0 C0 t c p O P K L i pc tt : Nat} {M0 M : mM} {Q : Int → mM → Prop} {a b : Int}
/-- program and machine of a run -/
def Rnv (M0 : mM) (z m Ab0 Be0 p O P K L : Nat) : Prop := PK M0 z p O P K ∧ mR M0 m 0 = p ∧ Mpr M0 z m p O P Ab0 Be0 ∧ mI M0 p 2 = L ∧ L ≤ K ∧ L ≤ 16384
theorem run_num (hE : Rnv M0 z m Ab0 Be0 p O P K L) (hpc : pc < L) (hi : i < 1000000) (hM : MS M0 z m U Ab0 Be0 C0 M t c) (ht : t ≤ 16384) (o : mI M0 O pc = 3) (next : ∀ M', MS M0 z m U Ab0 Be0 C0 M' (t + 1) c → mtq m M M' → plq M M' m t → ptq M' m t (mI M0 P pc) 1 → h_Ma_run_14 G (d + 3) m ((pc + 1 : Nat) : Int) ((i + 1 : Nat) : Int) M' Q) : h_Ma_run_14 G (d + 3) m (pc : Int) (i : Int) M Q := by
  obtain ⟨hp, hm0, ha, hL, hLK, hLn⟩ := hE
  obtain ⟨ok, k0, h8, kA, kB, tA, tB, bA, bB, hb, ⟨mA, mB⟩, ne⟩ := hM.pile
  obtain ⟨hp1, hr0, iO, iP, iT⟩ := hM.prog hp hm0 ha
  obtain ⟨pk, ⟨pr0, pr1⟩, ⟨kO, kP, nO, nP⟩, -, -, -, ⟨⟨-, -, -, p8, p9, -⟩, ⟨-, -, -, pk8, pk9, -⟩, ⟨-, -, -, pn8, pn9, -⟩⟩⟩ := id hp1
  have l2 : mI M p 2 = L := by rw [show p = p + 0 by omega, iT 0 (by omega)]; exact hL
  have no : ¬ ((1000000 : Int) ≤ (i : Int) ∨ ((pc : Int) < 0 ∨ mI M (mR M m 0) 2 ≤ (pc : Int))) := by rw [hr0, l2]; omega
  refine k_Ma_run_14 ok (i32s (by omega) (by omega)) ⟨by omega, by omega⟩ ⟨fun _ _ => ⟨k0, by rw [hr0]; exact pk⟩, fun y => absurd y no, fun _ => ?_⟩
  rw [hr0, pr0, pr1, p8, p9, pn8, pn9, nO, nP, iO, iP, Int.toNat_natCast, show ((i : Int) + 1) = ((i + 1 : Nat) : Int) by omega, show ((pc : Int) + 1) = ((pc + 1 : Nat) : Int) by omega]
  have i0 : i32 (mI M0 P pc) := by rw [← iP]; exact (ok _ _).1
  refine ⟨k0, pk, kO, by omega, kP, by omega, fun o0 => absurd o0 (by rw [o]; decide), fun _ => ⟨fun _ => (x_Ma_push hM ht i0 ⟨by omega, by omega⟩).mono (fun M' q => ⟨q.1.pile.1, next M' q.1 q.2.1 q.2.2.1 q.2.2.2⟩), fun o3 => absurd o o3⟩⟩
theorem run_cst {x : Nat} (hE : Rnv M0 z m Ab0 Be0 p O P K L) (hpc : pc < L) (hi : i < 1000000) (hM : MS M0 z m U Ab0 Be0 C0 M t c) (ht : t ≤ 16384) (o : mI M0 O pc = 4) (ox : mI M0 P pc = x) (hx : x < 60) (hv : 1 ≤ mI M0 (p + 7) x ∧ mI M0 (p + 7) x < 1000000000) (next : ∀ M', MS M0 z m U Ab0 Be0 C0 M' (t + 1) c → mtq m M M' → plq M M' m t → ptq M' m t (mI M0 (p + 6) x) (mI M0 (p + 7) x) → h_Ma_run_14 G (d + 3) m ((pc + 1 : Nat) : Int) ((i + 1 : Nat) : Int) M' Q) : h_Ma_run_14 G (d + 3) m (pc : Int) (i : Int) M Q := by
  obtain ⟨hp, hm0, ha, hL, hLK, hLn⟩ := hE
  obtain ⟨ok, k0, h8, kA, kB, tA, tB, bA, bB, hb, ⟨mA, mB⟩, ne⟩ := hM.pile
  obtain ⟨hp1, hr0, iO, iP, iT⟩ := hM.prog hp hm0 ha
  obtain ⟨pk, ⟨pr0, pr1⟩, ⟨kO, kP, nO, nP⟩, -, -, -, ⟨⟨-, -, -, p8, p9, -⟩, ⟨-, -, -, pk8, pk9, -⟩, ⟨-, -, -, pn8, pn9, -⟩⟩⟩ := id hp1
  have l2 : mI M p 2 = L := by rw [show p = p + 0 by omega, iT 0 (by omega)]; exact hL
  have no : ¬ ((1000000 : Int) ≤ (i : Int) ∨ ((pc : Int) < 0 ∨ mI M (mR M m 0) 2 ≤ (pc : Int))) := by rw [hr0, l2]; omega
  refine k_Ma_run_14 ok (i32s (by omega) (by omega)) ⟨by omega, by omega⟩ ⟨fun _ _ => ⟨k0, by rw [hr0]; exact pk⟩, fun y => absurd y no, fun _ => ?_⟩
  rw [hr0, pr0, pr1, p8, p9, pn8, pn9, nO, nP, iO, iP, Int.toNat_natCast, show ((i : Int) + 1) = ((i + 1 : Nat) : Int) by omega, show ((pc : Int) + 1) = ((pc + 1 : Nat) : Int) by omega]
  rw [ox, iT 6 (by omega), iT 7 (by omega), Int.toNat_natCast]
  have i0 : i32 (mI M0 (p + 6) x) := by rw [← iT 6 (by omega)]; exact (ok _ _).1
  refine ⟨k0, pk, kO, by omega, kP, by omega, fun o0 => absurd o0 (by rw [o]; decide), fun _ => ⟨fun o3 => absurd o3 (by rw [o]; decide), fun _ => ⟨fun _ => ⟨pk8, by omega, pk9, by omega, (x_Ma_push hM ht i0 hv).mono (fun M' q => ⟨q.1.pile.1, next M' q.1 q.2.1 q.2.2.1 q.2.2.2⟩)⟩, fun o4 => absurd o o4⟩⟩⟩
theorem run_jmp (hE : Rnv M0 z m Ab0 Be0 p O P K L) (hpc : pc < L) (hi : i < 1000000) (hM : MS M0 z m U Ab0 Be0 C0 M (t + 1) c) (o : mI M0 O pc = 30 ∨ mI M0 O pc = 31) (ot : mI M0 P pc = tt) (pt : ptq M m t a b) (yes : (mI M0 O pc = 30 ↔ a = 0) → ∀ M', MS M0 z m U Ab0 Be0 C0 M' (t + 1) c → mtq m M M' → plq M M' m (t + 1) → h_Ma_run_14 G (d + 3) m ((tt : Nat) : Int) ((i + 1 : Nat) : Int) M' Q) (nay : ¬ (mI M0 O pc = 30 ↔ a = 0) → ∀ M', MS M0 z m U Ab0 Be0 C0 M' t c → mtq m M M' → plq M M' m t → h_Ma_run_14 G (d + 3) m ((pc + 1 : Nat) : Int) ((i + 1 : Nat) : Int) M' Q) : h_Ma_run_14 G (d + 3) m (pc : Int) (i : Int) M Q := by
  obtain ⟨hp, hm0, ha, hL, hLK, hLn⟩ := hE
  obtain ⟨ok, k0, h8, kA, kB, tA, tB, bA, bB, hb, ⟨mA, mB⟩, ne⟩ := hM.pile
  obtain ⟨hp1, hr0, iO, iP, iT⟩ := hM.prog hp hm0 ha
  obtain ⟨pk, ⟨pr0, pr1⟩, ⟨kO, kP, nO, nP⟩, -, -, -, ⟨⟨-, -, -, p8, p9, -⟩, ⟨-, -, -, pk8, pk9, -⟩, ⟨-, -, -, pn8, pn9, -⟩⟩⟩ := id hp1
  have l2 : mI M p 2 = L := by rw [show p = p + 0 by omega, iT 0 (by omega)]; exact hL
  have no : ¬ ((1000000 : Int) ≤ (i : Int) ∨ ((pc : Int) < 0 ∨ mI M (mR M m 0) 2 ≤ (pc : Int))) := by rw [hr0, l2]; omega
  refine k_Ma_run_14 ok (i32s (by omega) (by omega)) ⟨by omega, by omega⟩ ⟨fun _ _ => ⟨k0, by rw [hr0]; exact pk⟩, fun y => absurd y no, fun _ => ?_⟩
  rw [hr0, pr0, pr1, p8, p9, pn8, pn9, nO, nP, iO, iP, Int.toNat_natCast, show ((i : Int) + 1) = ((i + 1 : Nat) : Int) by omega, show ((pc : Int) + 1) = ((pc + 1 : Nat) : Int) by omega]
  have q1 : Int.toNat (mI M m 8 - 1) = t := by omega
  rw [q1, pt.1, ot]
  refine ⟨k0, pk, kO, by omega, kP, by omega, fun o0 => absurd o0 (by omega), fun _ => ⟨fun o3 => absurd o3 (by omega), fun _ => ⟨fun o4 => absurd o4 (by omega), fun _ => ⟨fun o5 => absurd o5 (by omega), fun _ => ⟨fun o7 => absurd o7 (by omega), fun _ => ⟨fun _ => ⟨kA, by omega, fun v61 e61 v67 e67 v73 e73 v79 e79 v83 e83 => ?_⟩, fun o30 => absurd o o30⟩⟩⟩⟩⟩⟩
  have hv : v73 = 0 ↔ ¬ (mI M0 O pc = 30 ↔ a = 0) := by
    by_cases u : a = 0 <;> by_cases v : mI M0 O pc = 30 <;> simp only [u, v, if_true, if_false] at e61 e67 <;> subst e61 e67 <;> simp [u, v, e73]
  clear e73 e61 e67
  by_cases y : v73 = 0
  · rw [if_pos y] at e79 e83
    refine ⟨by rw [e83]; exact ⟨by omega, by omega⟩, fun M87 e87 => ?_⟩
    have w := ms_top (t' := t) hM (by omega) (by omega) e87
    rw [e79]
    exact nay (hv.mp y) M87 w.1 (mtq.fi w.2.2) (plq.fi w.2.2 ⟨mA, mB⟩)
  · rw [if_neg y] at e79 e83
    refine ⟨by rw [e83]; exact ⟨by omega, by omega⟩, fun M87 e87 => ?_⟩
    have w := ms_top (t' := t + 1) hM (by omega) (by omega) e87
    rw [e79]
    exact yes (Classical.byContradiction (fun u => y (hv.mpr u))) M87 w.1 (mtq.fi w.2.2) (plq.fi w.2.2 ⟨mA, mB⟩)
theorem run_ask (hE : Rnv M0 z m Ab0 Be0 p O P K L) (hpc : pc < L) (hi : i < 1000000) (hM : MS M0 z m U Ab0 Be0 C0 M (t + 1) c) (o : mI M0 O pc = 33) (ot : mI M0 P pc = tt) (pt : ptq M m t a b) (yes : a = 0 → ∀ M', MS M0 z m U Ab0 Be0 C0 M' t c → mtq m M M' → plq M M' m t → h_Ma_run_14 G (d + 3) m ((tt : Nat) : Int) ((i + 1 : Nat) : Int) M' Q) (nay : a ≠ 0 → ∀ M', MS M0 z m U Ab0 Be0 C0 M' t c → mtq m M M' → plq M M' m t → h_Ma_run_14 G (d + 3) m ((pc + 1 : Nat) : Int) ((i + 1 : Nat) : Int) M' Q) : h_Ma_run_14 G (d + 3) m (pc : Int) (i : Int) M Q := by
  obtain ⟨hp, hm0, ha, hL, hLK, hLn⟩ := hE
  obtain ⟨ok, k0, h8, kA, kB, tA, tB, bA, bB, hb, ⟨mA, mB⟩, ne⟩ := hM.pile
  obtain ⟨hp1, hr0, iO, iP, iT⟩ := hM.prog hp hm0 ha
  obtain ⟨pk, ⟨pr0, pr1⟩, ⟨kO, kP, nO, nP⟩, -, -, -, ⟨⟨-, -, -, p8, p9, -⟩, ⟨-, -, -, pk8, pk9, -⟩, ⟨-, -, -, pn8, pn9, -⟩⟩⟩ := id hp1
  have l2 : mI M p 2 = L := by rw [show p = p + 0 by omega, iT 0 (by omega)]; exact hL
  have no : ¬ ((1000000 : Int) ≤ (i : Int) ∨ ((pc : Int) < 0 ∨ mI M (mR M m 0) 2 ≤ (pc : Int))) := by rw [hr0, l2]; omega
  refine k_Ma_run_14 ok (i32s (by omega) (by omega)) ⟨by omega, by omega⟩ ⟨fun _ _ => ⟨k0, by rw [hr0]; exact pk⟩, fun y => absurd y no, fun _ => ?_⟩
  rw [hr0, pr0, pr1, p8, p9, pn8, pn9, nO, nP, iO, iP, Int.toNat_natCast, show ((i : Int) + 1) = ((i + 1 : Nat) : Int) by omega, show ((pc : Int) + 1) = ((pc + 1 : Nat) : Int) by omega]
  rw [ot]
  refine ⟨k0, pk, kO, by omega, kP, by omega, fun o0 => absurd o0 (by omega), fun _ => ⟨fun o3 => absurd o3 (by omega), fun _ => ⟨fun o4 => absurd o4 (by omega), fun _ => ⟨fun o5 => absurd o5 (by omega), fun _ => ⟨fun o7 => absurd o7 (by omega), fun _ => ⟨fun o30 => absurd o30 (by omega), fun _ => ⟨fun _ => ⟨⟨by omega, by omega⟩, fun M96 e96 => ?_⟩, fun o33 => absurd o o33⟩⟩⟩⟩⟩⟩⟩
  have w := ms_top (t' := t) hM (by omega) (by omega) e96
  have pq : plq M M96 m (t + 1) := plq.fi w.2.2 ⟨mA, mB⟩
  have pt' := pq.pt (by omega) pt
  obtain ⟨ok6, k06, h86, kA6, kB6, tA6, -⟩ := w.1.pile
  have lA : mN M96 (mR M96 m 6) = mN M (mR M m 6) := by rw [w.2.2.2.1, w.2.2.2.2.1]
  rw [h86, lA, Int.toNat_natCast, pt'.1]
  refine ⟨kA6, by omega, fun v101 e101 => ?_⟩
  by_cases y : a = 0
  · rw [if_pos y] at e101
    rw [e101]
    exact yes y M96 w.1 (mtq.fi w.2.2) (pq.mono (by omega))
  · rw [if_neg y] at e101
    rw [e101]
    exact nay y M96 w.1 (mtq.fi w.2.2) (pq.mono (by omega))
theorem run_els (hE : Rnv M0 z m Ab0 Be0 p O P K L) (hpc : pc < L) (hi : i < 1000000) (hM : MS M0 z m U Ab0 Be0 C0 M t c) (o : mI M0 O pc = 42) (ot : mI M0 P pc = tt) (next : h_Ma_run_14 G (d + 3) m ((tt : Nat) : Int) ((i + 1 : Nat) : Int) M Q) : h_Ma_run_14 G (d + 3) m (pc : Int) (i : Int) M Q := by
  obtain ⟨hp, hm0, ha, hL, hLK, hLn⟩ := hE
  obtain ⟨ok, k0, h8, kA, kB, tA, tB, bA, bB, hb, ⟨mA, mB⟩, ne⟩ := hM.pile
  obtain ⟨hp1, hr0, iO, iP, iT⟩ := hM.prog hp hm0 ha
  obtain ⟨pk, ⟨pr0, pr1⟩, ⟨kO, kP, nO, nP⟩, -, -, -, ⟨⟨-, -, -, p8, p9, -⟩, ⟨-, -, -, pk8, pk9, -⟩, ⟨-, -, -, pn8, pn9, -⟩⟩⟩ := id hp1
  have l2 : mI M p 2 = L := by rw [show p = p + 0 by omega, iT 0 (by omega)]; exact hL
  have no : ¬ ((1000000 : Int) ≤ (i : Int) ∨ ((pc : Int) < 0 ∨ mI M (mR M m 0) 2 ≤ (pc : Int))) := by rw [hr0, l2]; omega
  refine k_Ma_run_14 ok (i32s (by omega) (by omega)) ⟨by omega, by omega⟩ ⟨fun _ _ => ⟨k0, by rw [hr0]; exact pk⟩, fun y => absurd y no, fun _ => ?_⟩
  rw [hr0, pr0, pr1, p8, p9, pn8, pn9, nO, nP, iO, iP, Int.toNat_natCast, show ((i : Int) + 1) = ((i + 1 : Nat) : Int) by omega, show ((pc : Int) + 1) = ((pc + 1 : Nat) : Int) by omega]
  rw [ot]
  exact ⟨k0, pk, kO, by omega, kP, by omega, fun o0 => absurd o0 (by omega), fun _ => ⟨fun o3 => absurd o3 (by omega), fun _ => ⟨fun o4 => absurd o4 (by omega), fun _ => ⟨fun o5 => absurd o5 (by omega), fun _ => ⟨fun o7 => absurd o7 (by omega), fun _ => ⟨fun o30 => absurd o30 (by omega), fun _ => ⟨fun o33 => absurd o33 (by omega), fun _ => ⟨fun _ => next, fun o42 => absurd o o42⟩⟩⟩⟩⟩⟩⟩⟩
theorem run_cmp {v : vrs} {k : Nat} (hE : Rnv M0 z m Ab0 Be0 p O P K L) (hpc : pc < L) (hi : i < 1000000) (hM : MS M0 z m U Ab0 Be0 C0 M t c) (o : mI M0 O pc = 15 ∨ mI M0 O pc = 16 ∨ (19 ≤ mI M0 O pc ∧ mI M0 O pc ≤ 29) ∨ mI M0 O pc = 40 ∨ mI M0 O pc = 41) (hc : i32 (mI M0 O pc) → i32 (mI M0 P pc) → Ci G y_Ma_compute (d + 3) [vr m, vi (mI M0 O pc), vi (mI M0 P pc)] M (cpx M0 z m U Ab0 Be0 C0 M k c v)) (next : v.1 = 0 → ∀ M', MS M0 z m U Ab0 Be0 C0 M' (k + 1) c → mtq m M M' → plq M M' m k → ptq M' m k v.2.1 v.2.2 → h_Ma_run_14 G (d + 3) m ((pc + 1 : Nat) : Int) ((i + 1 : Nat) : Int) M' Q) (flt : v.1 ≠ 0 → ∀ M', mI M' m 1 = v.1 → mI M' m 2 = v.2.1 → (∃ t2, MS M0 z m U Ab0 Be0 C0 M' t2 c) → mtq m M M' → Q 0 M') : h_Ma_run_14 G (d + 3) m (pc : Int) (i : Int) M Q := by
  obtain ⟨hp, hm0, ha, hL, hLK, hLn⟩ := hE
  obtain ⟨ok, k0, h8, kA, kB, tA, tB, bA, bB, hb, ⟨mA, mB⟩, ne⟩ := hM.pile
  obtain ⟨hp1, hr0, iO, iP, iT⟩ := hM.prog hp hm0 ha
  obtain ⟨pk, ⟨pr0, pr1⟩, ⟨kO, kP, nO, nP⟩, -, -, -, ⟨⟨-, -, -, p8, p9, -⟩, ⟨-, -, -, pk8, pk9, -⟩, ⟨-, -, -, pn8, pn9, -⟩⟩⟩ := id hp1
  have l2 : mI M p 2 = L := by rw [show p = p + 0 by omega, iT 0 (by omega)]; exact hL
  have no : ¬ ((1000000 : Int) ≤ (i : Int) ∨ ((pc : Int) < 0 ∨ mI M (mR M m 0) 2 ≤ (pc : Int))) := by rw [hr0, l2]; omega
  refine k_Ma_run_14 ok (i32s (by omega) (by omega)) ⟨by omega, by omega⟩ ⟨fun _ _ => ⟨k0, by rw [hr0]; exact pk⟩, fun y => absurd y no, fun _ => ?_⟩
  rw [hr0, pr0, pr1, p8, p9, pn8, pn9, nO, nP, iO, iP, Int.toNat_natCast, show ((i : Int) + 1) = ((i + 1 : Nat) : Int) by omega, show ((pc : Int) + 1) = ((pc + 1 : Nat) : Int) by omega]
  have io : i32 (mI M0 O pc) := by rw [← iO]; exact (ok _ _).1
  have ix : i32 (mI M0 P pc) := by rw [← iP]; exact (ok _ _).1
  refine ⟨k0, pk, kO, by omega, kP, by omega, fun o0 => absurd o0 (by omega), fun _ => ⟨fun o3 => absurd o3 (by omega), fun _ => ⟨fun o4 => absurd o4 (by omega), fun _ => ⟨fun o5 => absurd o5 (by omega), fun _ => ⟨fun o7 => absurd o7 (by omega), fun _ => ⟨fun o30 => absurd o30 (by omega), fun _ => ⟨fun o33 => absurd o33 (by omega), fun _ => ⟨fun o42 => absurd o42 (by omega), fun _ => (hc io ix).mono (fun r M' q => ?_)⟩⟩⟩⟩⟩⟩⟩⟩
  obtain ⟨q1, q2⟩ := q
  rcases q1 with ⟨e1, w0, w1, w2, t2, w3⟩ | ⟨e1, w0, w1, w2, w3⟩
  · rw [e1]
    exact ⟨i32s (by omega) (by omega), w3.pile.1, fun _ => flt w0 M' w1 w2 ⟨t2, w3⟩ q2, fun u => absurd rfl u⟩
  · rw [e1]
    exact ⟨i32s (by omega) (by omega), w1.pile.1, fun u => absurd u (by decide), fun _ => next w0 M' w1 q2 w2 w3⟩
end RUX
end
section
/-! The class's machine, exactly: run over the orders of a rule. -/
section RUY
variable {G : mG} {d z m U Ab0 Be0 C0 cc p O P K L : Nat} {M0 : mM} {w E pl : Nat → Int} {cv : Nat → vrs} {ec : Nat → Int × Int}
theorem vbd_0 {v : vrs} {f : Int → Int → vrs} (h : v.1 = 0) : vbd v f = f v.2.1 v.2.2 := if_pos h
theorem vbd_1 {v : vrs} {f : Int → Int → vrs} (h : v.1 ≠ 0) : vbd v f = v := if_neg h
/-- what a leaf's order pushes -/
def Lfo (M0 : mM) (p : Nat) (w E : Nat → Int) (cv : Nat → vrs) (ec : Nat → Int × Int) (k : Nat) : Prop := vgd (if w k = 12 ∨ w k = 13 ∨ (w k = 1 ∧ E k = 1) then 1 else 0) (cv k) ∧ (((ec k).1 = 3 ∧ cv k = (0, (ec k).2, 1)) ∨ ((ec k).1 = 4 ∧ ∃ x : Nat, (ec k).2 = x ∧ x < 60 ∧ (1 ≤ mI M0 (p + 7) x ∧ mI M0 (p + 7) x < 1000000000) ∧ cv k = (0, mI M0 (p + 6) x, mI M0 (p + 7) x)))
/-- how a rule's orders run: v its value, c9 calls are open -/
def Rcp (G : mG) (d : Nat) (M0 : mM) (z m U Ab0 Be0 C0 cc : Nat) (v : vrs) (s e : Nat) : Prop := ∀ (t i : Nat) (M : mM) (Q : Int → mM → Prop), t + (e - s) ≤ 16384 → i + (e - s) ≤ 1000000 → MS M0 z m U Ab0 Be0 C0 M t cc →
  (∀ (M' : mM) (i' : Nat), v.1 = 0 → i' ≤ i + (e - s) → MS M0 z m U Ab0 Be0 C0 M' (t + 1) cc → mtq m M M' → plq M M' m t → ptq M' m t v.2.1 v.2.2 → h_Ma_run_14 G (d + 3) m (e : Int) (i' : Int) M' Q) →
  (∀ M' : mM, v.1 ≠ 0 → mI M' m 1 = v.1 → mI M' m 2 = v.2.1 → (∃ t2, MS M0 z m U Ab0 Be0 C0 M' t2 cc) → mtq m M M' → Q 0 M') → h_Ma_run_14 G (d + 3) m (s : Int) (i : Int) M Q
theorem vgd.un {k : Int} {v : vrs} (h : vgd k v) (h0 : v.1 = 0) : v.2.1.natAbs ≤ 999999999 ∧ (1 ≤ v.2.2 ∧ v.2.2 ≤ 999999999) ∧ Int.gcd v.2.1 v.2.2 = 1 := by
  rcases h with h | h
  · exact ⟨h.2.1, h.2.2.1, h.2.2.2.1⟩
  · omega
/-- two values and an order -/
theorem rcp_two {v1 v2 : vrs} {k1 k2 : Int} {s a b : Nat} (hF : FMx G) (hE : Rnv M0 z m Ab0 Be0 p O P K L) (hsa : s < a) (hab : a < b) (hb : b + 1 ≤ L) (o : mI M0 O b = 15 ∨ mI M0 O b = 16 ∨ (19 ≤ mI M0 O b ∧ mI M0 O b ≤ 29)) (g1 : vgd k1 v1) (g2 : vgd k2 v2) (r1 : Rcp G d M0 z m U Ab0 Be0 C0 cc v1 s a) (r2 : Rcp G d M0 z m U Ab0 Be0 C0 cc v2 a b) : Rcp G d M0 z m U Ab0 Be0 C0 cc (vbd v1 (fun x1 y1 => vbd v2 (fun x2 y2 => v2q (mI M0 O b) x1 y1 x2 y2 (mI M0 P b)))) s (b + 1) := by
  intro t i M Q ht hi hM next flt
  refine r1 t i M Q (by omega) (by omega) hM (fun M1 i1 z1 l1 h1 b1 p1 t1 => ?_) (fun M1 z1 e1 e2 h1 b1 => ?_)
  · rw [vbd_0 z1] at next flt
    refine r2 (t + 1) i1 M1 Q (by omega) (by omega) h1 (fun M2 i2 z2 l2 h2 b2 p2 t2 => ?_) (fun M2 z2 e1 e2 h2 b2 => ?_)
    · rw [vbd_0 z2] at next flt
      obtain ⟨x1, x2, x3⟩ := g1.un z1
      obtain ⟨y1, y2, y3⟩ := g2.un z2
      refine run_cmp hE (by omega) (by omega) h2 (by omega) (fun io ix => x_Ma_compute2 (s := t) hF io ix o h2 (p2.pt (by omega) t1) t2 x1 y1 x3 y3) (fun z3 M3 h3 b3 p3 t3 => ?_) (fun z3 M3 e1 e2 h3 b3 => ?_)
      · exact next M3 (i2 + 1) z3 (by omega) h3 ((b1.trans b2).trans b3) ((p1.trans (p2.mono (by omega))).trans p3) t3
      · exact flt M3 z3 e1 e2 h3 ((b1.trans b2).trans b3)
    · rw [vbd_1 z2] at flt
      exact flt M2 z2 e1 e2 h2 (b1.trans b2)
  · rw [vbd_1 z1] at flt
    exact flt M1 z1 e1 e2 h1 b1
theorem run_all (hF : FMx G) (hE : Rnv M0 z m Ab0 Be0 p O P K L) (hlf : ∀ k, (w k = 1 ∨ w k = 2 ∨ w k = 12 ∨ w k = 13) → (w k = 1 → E k ≠ -1) → Lfo M0 p w E cv ec k) : ∀ (n c i j : Nat), 2 * (j - i) + c ≤ n → Eoc w c i j → (fl w E pl c i j).1 = 0 → (c = 1 → kdq w E 1 i j ≠ 1) → ∀ (x y x' : Int) (s e : Nat), (c = 1 → x = x' + 1 ∧ (x = 15 ∨ x = 16)) → Cd w ec pl (mI M0 O) (mI M0 P) c x y i j s e → e ≤ L → Rcp G d M0 z m U Ab0 Be0 C0 cc (vlq w cv pl c x' i j) s e := by
  have vok := vl_ok (w := w) (E := E) (pl := pl) (cv := cv) (fun k h1 h2 => (hlf k h1 h2).1)
  have n0 : ∀ {i j : Nat}, (0 : Nat) = 1 → kdq w E 1 i j ≠ 1 := fun u => absurd u (by decide)
  have m0 : ∀ {x x' : Int}, (0 : Nat) = 1 → x = x' + 1 ∧ (x = 15 ∨ x = 16) := fun u => absurd u (by decide)
  refine Eo_ind (P := fun c i j => (fl w E pl c i j).1 = 0 → (c = 1 → kdq w E 1 i j ≠ 1) → ∀ (x y x' : Int) (s e : Nat), (c = 1 → x = x' + 1 ∧ (x = 15 ∨ x = 16)) → Cd w ec pl (mI M0 O) (mI M0 P) c x y i j s e → e ≤ L → Rcp G d M0 z m U Ab0 Be0 C0 cc (vlq w cv pl c x' i j) s e) ?_ ?_ ?_ ?_ ?_ ?_ ?_ ?_
  · intro i m1 q j h1 h2 h3 h4 h5 h6 h7 h8 _ _ _ i1 i2 i3 hf _ x y x' s e _ hc he
    rw [fl_ask h1 h2 h3 h6 h8, fst9_1, fst9_1, fst9_1] at hf
    obtain ⟨⟨⟨f1, f2⟩, f3⟩, -⟩ := hf
    rw [Cd_ask h1 h2 h3 h6 h8] at hc
    obtain ⟨a, b, c1, o1, p1, c2, o2, p2, c3⟩ := hc
    have l1 := c1.lt
    have l2 := c2.lt
    have l3 := c3.lt
    rw [vl_ask h1 h2 h3 h6 h8]
    intro t k M Q ht hk hM next flt
    refine i1 f1 n0 0 0 0 s a m0 c1 (by omega) t k M Q (by omega) (by omega) hM (fun M1 k1 z1 l1 g1 b1 p1' t1 => ?_) (fun M1 z1 e1 e2 g1 b1 => ?_)
    · rw [vbd_0 z1] at next flt
      refine run_ask (tt := b + 1) hE (by omega) (by omega) g1 o1 (by rw [p1]; omega) t1 (fun az M2 g2 b2 p2' => ?_) (fun az M2 g2 b2 p2' => ?_)
      · rw [if_pos az] at next flt
        exact i3 f3 n0 0 0 0 (b + 1) e m0 c3 he t (k1 + 1) M2 Q (by omega) (by omega) g2 (fun M3 k3 z3 l3 g3 b3 p3 t3 => next M3 k3 z3 (by omega) g3 ((b1.trans b2).trans b3) ((p1'.trans p2').trans p3) t3) (fun M3 z3 e1 e2 g3 b3 => flt M3 z3 e1 e2 g3 ((b1.trans b2).trans b3))
      · rw [if_neg az] at next flt
        refine i2 f2 n0 0 0 0 (a + 1) b m0 c2 (by omega) t (k1 + 1) M2 Q (by omega) (by omega) g2 (fun M3 k3 z3 l3 g3 b3 p3 t3 => ?_) (fun M3 z3 e1 e2 g3 b3 => flt M3 z3 e1 e2 g3 ((b1.trans b2).trans b3))
        exact run_els (tt := e) hE (by omega) (by omega) g3 o2 p2 (next M3 (k3 + 1) z3 (by omega) g3 ((b1.trans b2).trans b3) ((p1'.trans p2').trans p3) t3)
    · rw [vbd_1 z1] at flt
      exact flt M1 z1 e1 e2 g1 b1
  · intro i m1 j h1 h2 h3 h4 eo1 eo2 i1 i2 hf _ x y x' s e _ hc he
    rw [fl_bin h1 h2 h3 (by omega), fst9_1, fst9_1] at hf
    obtain ⟨⟨f1, f2⟩, -⟩ := hf
    by_cases c29 : w m1 = 29 ∨ w m1 = 30
    · rw [Cd_jmp h1 h2 h3 c29] at hc
      obtain ⟨a, c1, o1, p1, c2⟩ := hc
      have l1 := c1.lt
      have l2 := c2.lt
      intro t k M Q ht hk hM next flt
      refine i1 f1 n0 0 0 0 s a m0 c1 (by omega) t k M Q (by omega) (by omega) hM (fun M1 k1 z1 l1 g1 b1 p1' t1 => ?_) (fun M1 z1 e1 e2 g1 b1 => ?_)
      · refine run_jmp (tt := e) hE (by omega) (by omega) g1 (by omega) p1 t1 (fun yy M2 g2 b2 p2' => ?_) (fun yy M2 g2 b2 p2' => ?_)
        · have ev : vlq w cv pl 0 x' i j = (0, (vlq w cv pl 0 0 i m1).2.1, (vlq w cv pl 0 0 i m1).2.2) := by
            rcases c29 with c | c
            · rw [vl_and h1 h2 h3 c, vbd_0 z1, if_pos (yy.mp (by omega))]
            · rw [vl_or h1 h2 h3 c, vbd_0 z1, if_neg (fun u => absurd (yy.mpr u) (by omega))]
          rw [ev] at next
          exact next M2 (k1 + 1) rfl (by omega) g2 (b1.trans b2) (p1'.trans (p2'.mono (by omega))) (p2'.pt (by omega) t1)
        · have ev : vlq w cv pl 0 x' i j = vlq w cv pl 0 0 (m1 + 1) j := by
            rcases c29 with c | c
            · rw [vl_and h1 h2 h3 c, vbd_0 z1, if_neg (fun u => yy ⟨fun _ => u, fun _ => by omega⟩)]
            · rw [vl_or h1 h2 h3 c, vbd_0 z1, if_pos (Classical.byContradiction (fun u => yy ⟨fun v => absurd v (by omega), fun v => absurd v u⟩))]
          rw [ev] at next flt
          exact i2 f2 n0 0 0 0 (a + 1) e m0 c2 he t (k1 + 1) M2 Q (by omega) (by omega) g2 (fun M3 k3 z3 l3 g3 b3 p3 t3 => next M3 k3 z3 (by omega) g3 ((b1.trans b2).trans b3) ((p1'.trans p2').trans p3) t3) (fun M3 z3 e1 e2 g3 b3 => flt M3 z3 e1 e2 g3 ((b1.trans b2).trans b3))
      · have ev : vlq w cv pl 0 x' i j = vlq w cv pl 0 0 i m1 := by
          rcases c29 with c | c
          · rw [vl_and h1 h2 h3 c, vbd_1 z1]
          · rw [vl_or h1 h2 h3 c, vbd_1 z1]
        rw [ev] at flt
        exact flt M1 z1 e1 e2 g1 b1
    · rw [Cd_bin h1 h2 h3 (by omega) (by omega) (by omega)] at hc
      obtain ⟨a, b, c1, c2, rfl, o1, p1⟩ := hc
      have l1 := c1.lt
      have l2 := c2.lt
      have g1 := vok _ 0 i m1 (Nat.le_refl _) (Or.inl ⟨rfl, eo1⟩) f1 n0 0
      have g2 := vok _ 0 (m1 + 1) j (Nat.le_refl _) (Or.inl ⟨rfl, eo2⟩) f2 n0 0
      have r := rcp_two hF hE l1 l2 he (by omega) g1 g2 (i1 f1 n0 0 0 0 s a m0 c1 (by omega)) (i2 f2 n0 0 0 0 a b m0 c2 (by omega))
      rw [vl_bin h1 h2 h3 (by omega) (by omega) (by omega)]
      have ev : ∀ x1 y1 x2 y2 : Int, v2q (mI M0 O b) x1 y1 x2 y2 (mI M0 P b) = vop (w m1) x1 y1 x2 y2 (pl m1) := fun x1 y1 x2 y2 => by
        unfold v2q
        rw [if_neg (by omega), o1, p1, show w m1 + 1 - 1 = w m1 by omega]
      simp only [ev] at r
      exact r
  · intro i j h1 h2 h3 _ _ i1 hf _ x y x' s e _ hc he
    rw [fl_par h1 h2 h3] at hf
    rw [Cd_par h1 h2 h3] at hc
    rw [vl_par h1 h2 h3]
    exact i1 hf n0 0 0 0 s e m0 hc he
  · intro i j h1 h2 h3 eo1 i1 hf _ x y x' s e _ hc he
    rw [Cd_pre h1 h2 h3] at hc
    obtain ⟨b, c1, rfl, o1, p1⟩ := hc
    have l1 := c1.lt
    have f1 : (fl w E pl 0 (i + 1) j).1 = 0 := by
      rcases h3 with h3 | h3
      · rw [fl_neg h1 h2 h3, fst9_1] at hf; exact hf.1
      · rw [fl_not h1 h2 h3, fst9_1] at hf; exact hf.1
    have g1 := vok _ 0 (i + 1) j (Nat.le_refl _) (Or.inl ⟨rfl, eo1⟩) f1 n0 0
    have ev : vlq w cv pl 0 x' i j = vbd (vlq w cv pl 0 0 (i + 1) j) (fun a b => if w i = 25 then (0, -a, b) else (0, 1 - a, b)) := by
      rcases h3 with h3 | h3
      · rw [vl_neg h1 h2 h3]; simp only [h3, if_true]
      · rw [vl_not h1 h2 h3]; simp only [h3, Int.reduceEq, if_false]
    rw [ev]
    intro t k M Q ht hk hM next flt
    refine i1 f1 n0 0 0 0 s b m0 c1 (by omega) t k M Q (by omega) (by omega) hM (fun M1 k1 z1 l1 g1' b1 p1' t1 => ?_) (fun M1 z1 e1 e2 g1' b1 => ?_)
    · rw [vbd_0 z1] at next flt
      have oo : mI M0 O b = 40 ∨ mI M0 O b = 41 := by rw [o1]; split <;> simp
      have o25 : mI M0 O b = 40 ↔ w i = 25 := by rw [o1]; split <;> simp_all
      refine run_cmp hE (by omega) (by omega) g1' (by omega) (fun io ix => x_Ma_compute1 (x := mI M0 P b) io ix oo g1' t1 (g1.un z1).1) (fun z3 M3 h3 b3 p3 t3 => ?_) (fun z3 M3 e1 e2 h3 b3 => ?_)
      · simp only [o25] at t3
        exact next M3 (k1 + 1) (by split <;> rfl) (by omega) h3 (b1.trans b3) (p1'.trans p3) t3
      · exact absurd (by split <;> rfl) z3
    · rw [vbd_1 z1] at flt
      exact flt M1 z1 e1 e2 g1' b1
  · intro i h1 h3 hf _ x y x' s e _ hc he
    rw [fl_leaf h1 (by omega) h3] at hf
    have hne : w i = 1 → E i ≠ -1 := fun a b => by rw [if_pos ⟨a, b⟩] at hf; exact absurd hf (by simp)
    obtain ⟨-, hl⟩ := hlf i h3 hne
    rw [Cd_leaf h1 (by omega) h3] at hc
    obtain ⟨rfl, o1, p1⟩ := hc
    rw [vl_leaf h1 (by omega) h3]
    intro t k M Q ht hk hM next flt
    rcases hl with ⟨q1, q2⟩ | ⟨q1, xx, q2, q3, q4, q5⟩
    · rw [q2] at next
      refine run_num hE (by omega) (by omega) hM (by omega) (by rw [o1]; exact q1) (fun M1 g1 b1 p1' t1 => next M1 (k + 1) rfl (by omega) g1 b1 p1' (by rw [← p1]; exact t1))
    · rw [q5] at next
      exact run_cst hE (by omega) (by omega) hM (by omega) (by rw [o1]; exact q1) (by rw [p1]; exact q2) q3 q4 (fun M1 g1 b1 p1' t1 => next M1 (k + 1) rfl (by omega) g1 b1 p1' t1)
  · intro i j h1 h2 h3 _ _ i1 hf _ x y x' s e _ hc he
    rw [fl_lst h1 h2 h3, fst9_1, kft_1] at hf
    rw [Cd_lst h1 h2 h3] at hc
    rw [vl_lst h1 h2 h3]
    exact i1 hf.1 (fun _ => by rw [hf.2]; decide) (w i + 1) (pl i) (w i) s e (fun _ => ⟨rfl, by omega⟩) hc he
  · intro i j h1 h2 _ i1 hf _ x y x' s e _ hc he
    rw [fl_l1 h1 h2] at hf
    rw [Cd_l1 h1 h2] at hc
    rw [vl_l1 h1 h2]
    exact i1 hf n0 0 0 0 s e m0 hc he
  · intro i m1 j h1 h2 h3 h4 h5 eo1 eo2 i1 i2 hf hz x y x' s e hx hc he
    obtain ⟨hx1, hx2⟩ := hx rfl
    rw [fl_ln h1 h4 h2, fst9_1] at hf
    have cz : ¬ (kdq w E 1 i m1 = 1 ∨ kdq w E 0 (m1 + 1) j = 1) := fun c => hz rfl (by rw [kd_ln h1 h4 h2, if_pos c])
    rw [Cd_ln h1 h4 h2] at hc
    obtain ⟨a, b, c1, c2, rfl, o1, p1⟩ := hc
    have l1 := c1.lt
    have l2 := c2.lt
    have z1 : (1 : Nat) = 1 → kdq w E 1 i m1 ≠ 1 := fun _ u => cz (Or.inl u)
    have g1 := vok _ 1 i m1 (Nat.le_refl _) (Or.inr ⟨rfl, eo1⟩) hf.1 z1 x'
    have g2 := vok _ 0 (m1 + 1) j (Nat.le_refl _) (Or.inl ⟨rfl, eo2⟩) hf.2 n0 0
    have r := rcp_two hF hE l1 l2 he (by omega) g1 g2 (i1 hf.1 z1 x y x' s a (fun _ => ⟨hx1, hx2⟩) c1 (by omega)) (i2 hf.2 n0 0 0 0 a b m0 c2 (by omega))
    rw [vl_ln h1 h4 h2]
    have ev : ∀ x1 y1 x2 y2 : Int, v2q (mI M0 O b) x1 y1 x2 y2 (mI M0 P b) = vbs x' x1 y1 x2 y2 := fun x1 y1 x2 y2 => by
      unfold v2q
      rw [if_pos (by omega), o1, show x - 1 = x' by omega]
    simp only [ev] at r
    exact r
theorem run_end {M : mM} {t i pc : Nat} {Q : Int → mM → Prop} (hE : Rnv M0 z m Ab0 Be0 p O P K L) (hpc : pc < L) (hi : i < 1000000) (hM : MS M0 z m U Ab0 Be0 C0 M t 0) (o : mI M0 O pc = 0) (fin : Q 1 M) : h_Ma_run_14 G (d + 3) m (pc : Int) (i : Int) M Q := by
  obtain ⟨hp, hm0, ha, hL, hLK, hLn⟩ := hE
  obtain ⟨ok, k0, h8, -⟩ := hM.pile
  obtain ⟨hp1, hr0, iO, iP, iT⟩ := hM.prog hp hm0 ha
  obtain ⟨pk, ⟨pr0, pr1⟩, ⟨kO, kP, nO, nP⟩, -⟩ := id hp1
  have l2 : mI M p 2 = L := by rw [show p = p + 0 by omega, iT 0 (by omega)]; exact hL
  have no : ¬ ((1000000 : Int) ≤ (i : Int) ∨ ((pc : Int) < 0 ∨ mI M (mR M m 0) 2 ≤ (pc : Int))) := by rw [hr0, l2]; omega
  have h15 : mI M m 15 = 0 := by
    obtain ⟨_, _, _, -, -, -, -, -, -, h15, -⟩ := id hM
    exact h15
  refine k_Ma_run_14 ok (i32s (by omega) (by omega)) ⟨by omega, by omega⟩ ⟨fun _ _ => ⟨k0, by rw [hr0]; exact pk⟩, fun y => absurd y no, fun _ => ?_⟩
  rw [hr0, pr0, pr1, nO, nP, iO, iP, Int.toNat_natCast]
  exact ⟨k0, pk, kO, by omega, kP, by omega, fun _ => ⟨fun _ => fin, fun u => absurd h15 u⟩, fun u => absurd o u⟩
/-- what a rule of consts comes to -/
def rnx (m : Nat) (v : vrs) (r : Int) (M' : mM) : Prop := (r = 0 ∧ v.1 ≠ 0 ∧ mI M' m 1 = v.1 ∧ mI M' m 2 = v.2.1) ∨ (r = 1 ∧ v.1 = 0 ∧ ptq M' m 0 v.2.1 v.2.2)
theorem x_Ma_run {X : Nat → Prop} {i j s e : Nat} (hF : FMx G) (ok : mOk M0) (hk : MK M0 z m U Ab0 Be0 C0) (hT : MT M0 m X) (hE : Rnv M0 z m Ab0 Be0 p O P K L) (hlf : ∀ k, (w k = 1 ∨ w k = 2 ∨ w k = 12 ∨ w k = 13) → (w k = 1 → E k ≠ -1) → Lfo M0 p w E cv ec k) (eo : Eo w 6 i j) (hf : (fl w E pl 0 i j).1 = 0) (hc : Cd w ec pl (mI M0 O) (mI M0 P) 0 0 0 i j s e) (he : e < L) (oe : mI M0 O e = 0) : Ci G y_Ma_run (d + 4) [vr m, vi s] M0 (fun r M' => rnQ M0 z m U Ab0 Be0 C0 X 1 r M' ∧ rnx m (vlq w cv pl 0 0 i j) r M') := by
  have c64 := hk.2.2.2.2.2.2.2
  have hLn := hE.2.2.2.2.2
  have lse := hc.lt
  refine k_Ma_run ok (i32s (by omega) (by omega)) ⟨hk.1, fun M2 e2 M4 e4 => ?_⟩
  have f2 : FI (fun b => b = m) M0 M2 := by rw [e2]; exact FI.ui rfl
  have f4 : FI (fun b => b = m) M2 M4 := by rw [e4]; exact FI.ui rfl
  have ff := f2.trans f4
  have g : ∀ i, mI M4 m i = if i = 15 then 0 else if i = 8 then 0 else mI M0 m i := fun i => by
    rw [mI_ui m i e4]
    by_cases y : i = 15
    · rw [if_pos ⟨rfl, y⟩, if_pos y]
    · rw [if_neg (fun q => y q.2), if_neg y, mI_ui m i e2]
      by_cases y8 : i = 8
      · rw [if_pos ⟨rfl, y8⟩, if_pos y8]
      · rw [if_neg (fun q => y8 q.2), if_neg y8]
  have o4 : mOk M4 := by rw [e4]; exact mOk_UI (by rw [e2]; exact mOk_UI ok (i32s (by omega) (by omega))) (i32s (by omega) (by omega))
  have hM : MS M0 z m U Ab0 Be0 C0 M4 0 0 := ms_step (M := M0) (t' := 0) (c' := 0) o4 hk FA.refl ⟨Or.inl rfl, Or.inl rfl⟩ ⟨rfl, Nat.le_refl _⟩ ⟨rfl, rfl, rfl⟩ (ff.mono (fun _ q => Or.inl q)) (by rw [g, if_neg (by decide), if_neg (by decide)]) (by rw [g, if_neg (by decide), if_neg (by decide)]) (by rw [g, if_neg (by decide), if_pos rfl]; rfl) (by omega) (fun j hj => absurd hj (by omega)) (by rw [g, if_pos rfl]; rfl)
  have hb : mtq m M0 M4 := mtq.fi ff
  have hT4 : MT M4 m X := hT.mtb hb.mtb (by rw [g, if_neg (by decide), if_neg (by decide)])
  refine run_all (cv := cv) hF hE hlf _ 0 i j (Nat.le_refl _) (Or.inl ⟨rfl, eo⟩) hf (fun u => absurd u (by decide)) 0 0 0 s e (fun u => absurd u (by decide)) hc (by omega) 0 0 M4 _ (by omega) (by omega) hM (fun M' i' z1 l1 h1 b1 _ t1 => ?_) (fun M' z1 e1 e2 h1 b1 => ?_)
  · exact run_end hE he (by omega) h1 oe ⟨⟨hT4.mtb b1.mtb (by rw [h1.nine, hM.nine]), Or.inr ⟨rfl, h1⟩⟩, Or.inr ⟨rfl, z1, t1⟩⟩
  · obtain ⟨t2, h2⟩ := h1
    exact ⟨⟨hT4.mtb b1.mtb (by rw [h2.nine, hM.nine]), Or.inl ⟨rfl, by rw [e1]; exact z1, t2, 0, h2⟩⟩, Or.inl ⟨rfl, z1, e1, e2⟩⟩
end RUY
end
section
/-! What a text of items means: pure. w kinds of words, pl places, nq numbers, sm words with the same letters, N how many words. -/
/-- a name: its word, its sort (1 const, 2 formula, 3 var), its kind (1 a truth), a const's value -/
abbrev nm9 : Type := Nat × Nat × Int × vrs
/-- names; how many vars, rules, commands, targets; the first fault -/
abbrev st9 : Type := List nm9 × (Nat × Nat × Nat × Nat) × (Int × Int)
section ITP
variable (w pl nq : Nat → Int) (sm : Nat → Nat → Prop) (N : Nat)
noncomputable def fnd9 (nms : List nm9) (k : Nat) : Option nm9 := nms.find? (fun e => @decide (sm e.1 k) (Classical.propDecidable _))
/-- the kind of the word k as a name; co = 1: consts alone; -1: unknown -/
noncomputable def E9 (nms : List nm9) (co : Int) (k : Nat) : Int := match fnd9 sm nms k with
  | none => -1
  | some e => if co = 1 ∧ e.2.1 ≠ 1 then -1 else e.2.2.1
/-- what the word k is worth -/
noncomputable def cv9 (nms : List nm9) (k : Nat) : vrs := if w k = 1 then (match fnd9 sm nms k with
  | none => (0, 0, 1)
  | some e => e.2.2.2) else if w k = 2 then (0, nq k, 1) else if w k = 12 then (0, 1, 1) else (0, 0, 1)
/-- the fault of a rule that must be a truth (tr = 1) or a number (tr = 0) -/
noncomputable def rf9 (nms : List nm9) (co tr : Int) (i j : Nat) : Int × Int := fst9 (fl w (E9 sm nms co) pl 0 i j) (kft (kdq w (E9 sm nms co) 0 i j = tr) (pl i))
/-- the first x from k on, within f words -/
def nxq (x : Int) : Nat → Nat → Nat
  | 0, k => k
  | f + 1, k => if w k = x then k else nxq x f (k + 1)
/-- the ')' that closes what begins at i -/
def cp1 (i : Nat) : Nat → Nat → Nat
  | 0, m => m
  | f + 1, m => if dp w i m = 0 ∧ w (i + m) = 37 then m else cp1 i f (m + 1)
def cpq (i j : Nat) : Nat := i + cp1 w i (j - i) 0
/-- a const's value, a whole one if it must be one: fault or (0, value) -/
def wh9 (v : vrs) (p : Int) : Int × Int := if v.1 ≠ 0 then (v.1, v.2.1) else if v.2.2 ≠ 1 then (8, p) else (0, 0)
/-- a const or a formula -/
noncomputable def itr (k e : Nat) (s : st9) : st9 :=
  let co : Int := if w k = 3 then 1 else 0
  let f := fl w (E9 sm s.1 co) pl 0 (k + 3) e
  let v : vrs := if w k = 3 then vlq w (cv9 w nq sm s.1) pl 0 0 (k + 3) e else (0, 0, 1)
  if s.2.1.2.1 = 60 then (s.1, s.2.1, (5, pl k))
  else if fnd9 sm s.1 (k + 1) ≠ none then (s.1, s.2.1, (2, pl (k + 1)))
  else if f.1 ≠ 0 then (s.1, s.2.1, f)
  else if v.1 ≠ 0 then (s.1, s.2.1, (v.1, v.2.1))
  else (s.1 ++ [(k + 1, (if w k = 3 then 1 else 2), kdq w (E9 sm s.1 co) 0 (k + 3) e, v)], (s.2.1.1, s.2.1.2.1 + 1, s.2.1.2.2), (0, 0))
/-- a var: the faults of its rules -/
noncomputable def vf9 (nms : List nm9) (k e rg ini : Nat) : Int × Int := fst9 (fst9 (if w (k + 3) = 5 then (0, 0) else fst9 (rf9 w pl sm nms 1 0 (k + 3) rg) (rf9 w pl sm nms 1 0 (rg + 1) ini)) (if w ini = 9 then rf9 w pl sm nms 1 (if w (k + 3) = 5 then 1 else 0) (ini + 1) e else (0, 0))) (0, 0)
/-- a var: the faults of its values -/
noncomputable def vw9 (nms : List nm9) (k e rg ini : Nat) : Int × Int :=
  let lo := vlq w (cv9 w nq sm nms) pl 0 0 (k + 3) rg
  let hi := vlq w (cv9 w nq sm nms) pl 0 0 (rg + 1) ini
  let be := vlq w (cv9 w nq sm nms) pl 0 0 (ini + 1) e
  fst9 (if w (k + 3) = 5 then (0, 0) else fst9 (fst9 (wh9 lo (pl (k + 3))) (wh9 hi (pl (rg + 1)))) (if lo.2.1 ≤ hi.2.1 ∧ hi.2.1 - lo.2.1 < 10000 then (0, 0) else (9, pl (rg + 1))))
    (if w ini = 9 then (if w (k + 3) = 5 then wh9 be (pl (ini + 1)) else fst9 (wh9 be (pl (ini + 1))) (if lo.2.1 ≤ be.2.1 ∧ be.2.1 ≤ hi.2.1 then (0, 0) else (9, pl (ini + 1)))) else (0, 0))
noncomputable def itv (k e : Nat) (s : st9) : st9 :=
  let rg := nxq w 16 N (k + 3)
  let ini := if w (k + 3) = 5 then k + 4 else nxq w 9 (e - (k + 3)) (k + 3)
  if s.2.1.1 = 12 then (s.1, s.2.1, (5, pl k))
  else if fnd9 sm s.1 (k + 1) ≠ none then (s.1, s.2.1, (2, pl (k + 1)))
  else if (vf9 w pl sm s.1 k e rg ini).1 ≠ 0 then (s.1, s.2.1, vf9 w pl sm s.1 k e rg ini)
  else if (vw9 w pl nq sm s.1 k e rg ini).1 ≠ 0 then (s.1, s.2.1, vw9 w pl nq sm s.1 k e rg ini)
  else (s.1 ++ [(k + 1, 3, (if w (k + 3) = 5 then 1 else 0), (0, 0, 1))], (s.2.1.1 + 1, s.2.1.2), (0, 0))
noncomputable def itt (k e : Nat) (s : st9) : st9 :=
  let f := rf9 w pl sm s.1 0 1 (k + 1) e
  if s.2.1.2.2.2 ≠ 0 then (s.1, s.2.1, (4, pl k))
  else if f.1 ≠ 0 then (s.1, s.2.1, f)
  else (s.1, (s.2.1.1, s.2.1.2.1, s.2.1.2.2.1, 1), (0, 0))
/-- the sets of a branch, from k on: the first fault, and where they end -/
noncomputable def sef (nms : List nm9) : Nat → Nat → List Nat → (Int × Int) × Nat
  | 0, k, _ => ((0, 0), k)
  | f + 1, k, seen => match fnd9 sm nms (k + 1) with
    | none => ((2, pl (k + 1)), k)
    | some e => if e.2.1 ≠ 3 then ((2, pl (k + 1)), k) else if e.1 ∈ seen then ((4, pl (k + 1)), k)
      else if (rf9 w pl sm nms 0 e.2.2.1 (k + 4) (cpq w (k + 4) N)).1 ≠ 0 then (rf9 w pl sm nms 0 e.2.2.1 (k + 4) (cpq w (k + 4) N), k)
      else if w (cpq w (k + 4) N + 1) = 29 then sef nms f (cpq w (k + 4) N + 2) (e.1 :: seen) else ((0, 0), cpq w (k + 4) N + 1)
/-- the branches of a command, from the word i on; b have been read; the item ends at e -/
noncomputable def brf (nms : List nm9) (e : Nat) : Nat → Nat → Nat → Int × Int
  | 0, _, _ => (0, 0)
  | f + 1, i, b => if e ≤ i then (0, 0) else if b = 8 then (5, pl i)
    else if (rf9 w pl sm nms 0 0 i (clq w (i - 1) N)).1 ≠ 0 then rf9 w pl sm nms 0 0 i (clq w (i - 1) N)
    else if w (clq w (i - 1) N + 1) = 10 then brf nms e f (clq w (i - 1) N + 3) (b + 1)
    else if (sef w pl sm N nms N (clq w (i - 1) N + 1) []).1.1 ≠ 0 then (sef w pl sm N nms N (clq w (i - 1) N + 1) []).1
    else brf nms e f ((sef w pl sm N nms N (clq w (i - 1) N + 1) []).2 + 1) (b + 1)
/-- a command; mc how many there may be -/
noncomputable def itc (mc k e : Nat) (s : st9) : st9 :=
  let ar := nxq w 17 N (k + 1)
  let f := fst9 (rf9 w pl sm s.1 0 1 (k + 1) ar) (brf w pl sm N s.1 e N (ar + 1) 0)
  if s.2.1.2.2.1 = mc then (s.1, s.2.1, (5, pl k))
  else if f.1 ≠ 0 then (s.1, s.2.1, f)
  else (s.1, (s.2.1.1, s.2.1.2.1, s.2.1.2.2.1 + 1, s.2.1.2.2.2), (0, 0))
/-- the item at k -/
noncomputable def ite9 (mc k : Nat) (s : st9) : st9 :=
  let e := nxq w 34 N k
  if w k = 3 ∨ w k = 6 then itr w pl nq sm k e s else if w k = 4 then itv w pl nq sm N k e s else if w k = 11 then itt w pl sm k e s else itc w pl sm N mc k e s
/-- all items from k on -/
noncomputable def its9 (mc : Nat) : Nat → Nat → st9 → st9
  | 0, _, s => s
  | f + 1, k, s => if s.2.2.1 ≠ 0 then s else if w k = 0 then (if s.2.1.2.2.2 = 0 then (s.1, s.2.1, (10, pl k)) else s) else its9 mc f (nxq w 34 N k + 1) (ite9 w pl nq sm N mc k s)
end ITP
section ITQ
variable {w pl nq : Nat → Int} {sm : Nat → Nat → Prop} {N : Nat}
theorem nxq_at {x : Int} : ∀ {f k e : Nat}, k ≤ e → e ≤ k + f → w e = x → (∀ j, k ≤ j → j < e → w j ≠ x) → nxq w x f k = e
  | 0, k, e, h1, h2, _, _ => by show k = e; omega
  | f + 1, k, e, h1, h2, h3, h4 => by
    unfold nxq
    by_cases c : k = e
    · subst c
      rw [if_pos h3]
    · rw [if_neg (h4 k (Nat.le_refl _) (by omega))]
      exact nxq_at (by omega) (by omega) h3 (fun j a b => h4 j (by omega) b)
theorem nxq_no {x : Int} : ∀ {f k : Nat}, (∀ j, k ≤ j → j < k + f → w j ≠ x) → nxq w x f k = k + f
  | 0, k, _ => rfl
  | f + 1, k, h => by
    unfold nxq
    rw [if_neg (h k (Nat.le_refl _) (by omega)), nxq_no (fun j a b => h j (by omega) (by omega))]
    omega
theorem cp1_at {i l : Nat} (b : Bl w i l) (h : w (i + l) = 37) : ∀ f m, m ≤ l → l ≤ m + f → cp1 w i f m = l
  | 0, m, h1, h2 => by show m = l; omega
  | f + 1, m, h1, h2 => by
    unfold cp1
    by_cases e : m = l
    · rw [if_pos ⟨by rw [e]; exact b.1, by rw [e]; exact h⟩]; exact e
    · rw [if_neg]
      · exact cp1_at b h f (m + 1) (by omega) (by omega)
      · intro ⟨q1, q2⟩
        have := (b.2.2.1 (m + 1) (by omega)).1
        rw [dp_s, q1, if_neg (by omega), if_pos q2] at this
        omega
theorem cpq_at {i j N : Nat} (he : Eo w 6 i j) (h : w j = 37) (hj : j < N) : cpq w i N = j := by
  have p := he.pr
  have := p.1
  unfold cpq
  rw [cp1_at (l := j - i) p.2.2.2.2.1 (by rw [show i + (j - i) = j by omega]; exact h) _ _ (by omega) (by omega)]
  omega
end ITQ
end
section
/-! A rule's value depends on its words' values alone. -/
section VCG
variable {w E pl : Nat → Int} {cv cv' : Nat → vrs}
theorem vl_cg (hc : ∀ k, (w k = 1 ∨ w k = 2 ∨ w k = 12 ∨ w k = 13) → (w k = 1 → E k ≠ -1) → cv k = cv' k) : ∀ (n c i j : Nat), 2 * (j - i) + c ≤ n → Eoc w c i j → (fl w E pl c i j).1 = 0 → ∀ x, vlq w cv pl c x i j = vlq w cv' pl c x i j := by
  refine Eo_ind (P := fun c i j => (fl w E pl c i j).1 = 0 → ∀ x, vlq w cv pl c x i j = vlq w cv' pl c x i j) ?_ ?_ ?_ ?_ ?_ ?_ ?_ ?_
  · intro i m q j h1 h2 h3 h4 h5 h6 h7 h8 _ _ _ i1 i2 i3 hf x
    rw [fl_ask h1 h2 h3 h6 h8, fst9_1, fst9_1, fst9_1] at hf
    obtain ⟨⟨⟨f1, f2⟩, f3⟩, -⟩ := hf
    rw [vl_ask h1 h2 h3 h6 h8, vl_ask h1 h2 h3 h6 h8, i1 f1 0, i2 f2 0, i3 f3 0]
  · intro i m j h1 h2 h3 h4 _ _ i1 i2 hf x
    rw [fl_bin h1 h2 h3 (by omega), fst9_1, fst9_1] at hf
    obtain ⟨⟨f1, f2⟩, -⟩ := hf
    by_cases c1 : w m = 29
    · rw [vl_and h1 h2 h3 c1, vl_and h1 h2 h3 c1, i1 f1 0, i2 f2 0]
    by_cases c2 : w m = 30
    · rw [vl_or h1 h2 h3 c2, vl_or h1 h2 h3 c2, i1 f1 0, i2 f2 0]
    · rw [vl_bin h1 h2 h3 (by omega) c1 c2, vl_bin h1 h2 h3 (by omega) c1 c2, i1 f1 0, i2 f2 0]
  · intro i j h1 h2 h3 _ _ i1 hf x
    rw [fl_par h1 h2 h3] at hf
    rw [vl_par h1 h2 h3, vl_par h1 h2 h3]
    exact i1 hf 0
  · intro i j h1 h2 h3 _ i1 hf x
    rcases h3 with h3 | h3
    · rw [fl_neg h1 h2 h3, fst9_1] at hf
      rw [vl_neg h1 h2 h3, vl_neg h1 h2 h3, i1 hf.1 0]
    · rw [fl_not h1 h2 h3, fst9_1] at hf
      rw [vl_not h1 h2 h3, vl_not h1 h2 h3, i1 hf.1 0]
  · intro i h1 h3 hf x
    rw [fl_leaf h1 (by omega) h3] at hf
    have hne : w i = 1 → E i ≠ -1 := fun a b => by rw [if_pos ⟨a, b⟩] at hf; exact absurd hf (by simp)
    rw [vl_leaf h1 (by omega) h3, vl_leaf h1 (by omega) h3]
    exact hc i h3 hne
  · intro i j h1 h2 h3 _ _ i1 hf x
    rw [fl_lst h1 h2 h3, fst9_1] at hf
    rw [vl_lst h1 h2 h3, vl_lst h1 h2 h3]
    exact i1 hf.1 (w i)
  · intro i j h1 h2 _ i1 hf x
    rw [fl_l1 h1 h2] at hf
    rw [vl_l1 h1 h2, vl_l1 h1 h2]
    exact i1 hf 0
  · intro i m j h1 h2 h3 h4 h5 _ _ i1 i2 hf x
    rw [fl_ln h1 h4 h2, fst9_1] at hf
    rw [vl_ln h1 h4 h2, vl_ln h1 h4 h2, i1 hf.1 x, i2 hf.2 0]
theorem vl_cg0 {i j : Nat} (hc : ∀ k, (w k = 1 ∨ w k = 2 ∨ w k = 12 ∨ w k = 13) → (w k = 1 → E k ≠ -1) → cv k = cv' k) (he : Eo w 6 i j) (hf : (fl w E pl 0 i j).1 = 0) : vlq w cv pl 0 0 i j = vlq w cv' pl 0 0 i j := vl_cg hc _ 0 i j (Nat.le_refl _) (Or.inl ⟨rfl, he⟩) hf 0
end VCG
end
section
/-! A rule's value depends on the values of its own words alone. -/
section VCI
variable {w pl : Nat → Int} {cv cv' : Nat → vrs}
theorem vl_ci : ∀ (n c i j : Nat), 2 * (j - i) + c ≤ n → Eoc w c i j → (∀ k, i ≤ k → k < j → cv k = cv' k) → ∀ x, vlq w cv pl c x i j = vlq w cv' pl c x i j := by
  refine Eo_ind (P := fun c i j => (∀ k, i ≤ k → k < j → cv k = cv' k) → ∀ x, vlq w cv pl c x i j = vlq w cv' pl c x i j) ?_ ?_ ?_ ?_ ?_ ?_ ?_ ?_
  · intro i m q j h1 h2 h3 h4 h5 h6 h7 h8 _ _ _ i1 i2 i3 hc x
    rw [vl_ask h1 h2 h3 h6 h8, vl_ask h1 h2 h3 h6 h8, i1 (fun k a b => hc k a (by omega)) 0, i2 (fun k a b => hc k (by omega) (by omega)) 0, i3 (fun k a b => hc k (by omega) b) 0]
  · intro i m j h1 h2 h3 h4 _ _ i1 i2 hc x
    have i1 := i1 (fun k a b => hc k a (by omega))
    have i2 := i2 (fun k a b => hc k (by omega) b)
    by_cases c1 : w m = 29
    · rw [vl_and h1 h2 h3 c1, vl_and h1 h2 h3 c1, i1 0, i2 0]
    by_cases c2 : w m = 30
    · rw [vl_or h1 h2 h3 c2, vl_or h1 h2 h3 c2, i1 0, i2 0]
    · rw [vl_bin h1 h2 h3 (by omega) c1 c2, vl_bin h1 h2 h3 (by omega) c1 c2, i1 0, i2 0]
  · intro i j h1 h2 h3 _ _ i1 hc x
    rw [vl_par h1 h2 h3, vl_par h1 h2 h3]
    exact i1 (fun k a b => hc k (by omega) (by omega)) 0
  · intro i j h1 h2 h3 _ i1 hc x
    have i1 := i1 (fun k a b => hc k (by omega) b)
    rcases h3 with h3 | h3
    · rw [vl_neg h1 h2 h3, vl_neg h1 h2 h3, i1 0]
    · rw [vl_not h1 h2 h3, vl_not h1 h2 h3, i1 0]
  · intro i h1 h3 hc x
    rw [vl_leaf h1 (by omega) h3, vl_leaf h1 (by omega) h3]
    exact hc i (Nat.le_refl _) (by omega)
  · intro i j h1 h2 h3 _ _ i1 hc x
    rw [vl_lst h1 h2 h3, vl_lst h1 h2 h3]
    exact i1 (fun k a b => hc k (by omega) (by omega)) (w i)
  · intro i j h1 h2 _ i1 hc x
    rw [vl_l1 h1 h2, vl_l1 h1 h2]
    exact i1 hc 0
  · intro i m j h1 h2 h3 h4 h5 _ _ i1 i2 hc x
    rw [vl_ln h1 h4 h2, vl_ln h1 h4 h2, i1 (fun k a b => hc k a (by omega)) x, i2 (fun k a b => hc k (by omega) b) 0]
theorem vl_ci0 {i j : Nat} (hc : ∀ k, i ≤ k → k < j → cv k = cv' k) (he : Eo w 6 i j) : vlq w cv pl 0 0 i j = vlq w cv' pl 0 0 i j := vl_ci _ 0 i j (Nat.le_refl _) (Or.inl ⟨rfl, he⟩) hc 0
end VCI
end
section
/-! The class's reader of texts, exactly: words and names. -/
section TXA
variable {W pl nq : Nat → Int} {sm : Nat → Nat → Prop} {M M' : mM} {r T A B D n c p : Nat} {nms : List nm9}
/-- the class's words are W at pl, numbers nq, spelt alike sm -/
def WTq (M : mM) (T A B D n : Nat) (W pl nq : Nat → Int) (sm : Nat → Nat → Prop) : Prop := (∀ j, j ≤ n → (0 ≤ W j ∧ W j ≤ 39) ∧ mI M A j = csq (W j) ∧ mI M B j = pl j) ∧ (∀ v, v < n → W v = 2 → mI M D v = nq v ∧ 0 ≤ nq v ∧ nq v ≤ 999999999) ∧ ∀ v x, v < n → x < n → W v = 1 → W x = 1 → (sm x v ↔ swq M T B D v x)
theorem WTq.cg (h : WTq M T A B D n W pl nq sm) (hT : mI M' T = mI M T) (hA : mI M' A = mI M A) (hB : mI M' B = mI M B) (hD : mI M' D = mI M D) : WTq M' T A B D n W pl nq sm := by
  unfold WTq swq at h ⊢
  rw [hT, hA, hB, hD]
  exact h
/-- a name in the class's numbers -/
def srt9 (s : Nat) : Int := if s = 1 then 4 else if s = 2 then 7 else 5
/-- the class's tables are the names nms -/
def CT (M : mM) (r p : Nat) (nms : List nm9) : Prop := mI M r 19 = nms.length ∧ ∀ (i : Nat) (e : nm9), nms[i]? = some e → mI M (r + 6) i = e.1 ∧ mI M (r + 7) i = srt9 e.2.1 ∧ (1 ≤ e.2.1 ∧ e.2.1 ≤ 3) ∧ mI M (r + 9) i = e.2.2.1 ∧ (e.2.1 = 1 → vgd e.2.2.1 e.2.2.2 ∧ ∃ x : Nat, mI M (r + 8) i = x ∧ x < 60 ∧ (1 ≤ mI M (p + 7) x ∧ mI M (p + 7) x < 1000000000) ∧ e.2.2.2 = (0, mI M (p + 6) x, mI M (p + 7) x)) ∧ (e.2.1 = 3 → ∀ (j : Nat) (e' : nm9), nms[j]? = some e' → e'.2.1 = 3 → mI M (r + 8) j = mI M (r + 8) i → j = i)
theorem csq_w {x : Int} (h : 0 ≤ x ∧ x ≤ 39) : (csq x = 2 ↔ x = 1) ∧ (csq x = 0 ↔ x = 0) ∧ (∀ y : Int, 1 ≤ y → y ≤ 38 → (csq x = y + 1 ↔ x = y)) := by
  unfold csq
  refine ⟨?_, ?_, fun y y1 y2 => ?_⟩
  · split <;> (try split) <;> omega
  · split <;> (try split) <;> omega
  · split <;> (try split) <;> omega
/-- the first name that is spelt so -/
theorem CT.fnd (ct : CT M r p nms) (wt : WTq M T A B D n W pl nq sm) (hw : ∀ i, i < nms.length → ∃ v : Nat, mI M (r + 6) i = v ∧ v < n ∧ mI M A v = 2) {v : Nat} (hv : v < n) (h1 : W v = 1) : (nmn M r T B D nms.length v ∧ fnd9 sm nms v = none) ∨ ∃ (i : Nat) (e : nm9), fm M r T B D nms.length v i ∧ nms[i]? = some e ∧ fnd9 sm nms v = some e := by
  have at9 : ∀ {q : Nat} {e : nm9}, nms[q]? = some e → q < nms.length := fun {q e} z => (List.getElem?_eq_some_iff.mp z).1
  have same : ∀ {q : Nat} {e : nm9}, nms[q]? = some e → ((mI M (r + 6) q).toNat = e.1 ∧ (sm e.1 v ↔ swq M T B D v (mI M (r + 6) q).toNat)) := fun {q e} z => by
    obtain ⟨z1, -⟩ := ct.2 q e z
    obtain ⟨x, x1, x2, x3⟩ := hw q (at9 z)
    have ex : e.1 = x := by omega
    have wx : W e.1 = 1 := by
      rw [ex]
      obtain ⟨y1, y2, -⟩ := wt.1 x (by omega)
      exact (csq_w y1).1.mp (by rw [← y2]; exact x3)
    refine ⟨by rw [z1, Int.toNat_natCast], ?_⟩
    rw [z1, Int.toNat_natCast]
    exact wt.2.2 v e.1 hv (by omega) h1 wx
  by_cases c : ∃ i, i < nms.length ∧ swq M T B D v (mI M (r + 6) i).toNat
  · have fs : ∃ i, fm M r T B D nms.length v i := by
      obtain ⟨i, i1, i2⟩ := c
      have : ∀ (f k : Nat), k + f = i → (∀ j, j < k → ¬ swq M T B D v (mI M (r + 6) j).toNat) → ∃ i, fm M r T B D nms.length v i := by
        intro f
        induction f with
        | zero =>
          intro k hk hj
          have : k = i := by omega
          subst this
          exact ⟨k, i1, i2, hj⟩
        | succ f ih =>
          intro k hk hj
          by_cases c : swq M T B D v (mI M (r + 6) k).toNat
          · exact ⟨k, by omega, c, hj⟩
          · refine ih (k + 1) (by omega) (fun j hj2 => ?_)
            by_cases e : j = k
            · rw [e]; exact c
            · exact hj j (by omega)
      exact this i 0 (by omega) (fun j hj => by omega)
    obtain ⟨i, f1, f2, f3⟩ := fs
    obtain ⟨e, z⟩ : ∃ e, nms[i]? = some e := ⟨nms[i], List.getElem?_eq_getElem f1⟩
    refine Or.inr ⟨i, e, ⟨f1, f2, f3⟩, z, ?_⟩
    unfold fnd9
    rw [List.find?_eq_some_iff_getElem]
    refine ⟨by simp only [decide_eq_true_eq]; exact (same z).2.mpr f2, i, f1, by rw [List.getElem?_eq_getElem f1] at z; exact Option.some.inj z, fun j hj => ?_⟩
    have zj : nms[j]? = some nms[j] := List.getElem?_eq_getElem (by omega)
    have := f3 j hj
    simp only [Bool.not_eq_true', decide_eq_false_iff_not]
    exact fun y => this ((same zj).2.mp y)
  · have no : nmn M r T B D nms.length v := fun j hj y => c ⟨j, hj, y⟩
    refine Or.inl ⟨no, ?_⟩
    unfold fnd9
    rw [List.find?_eq_none]
    intro e he
    obtain ⟨i, z⟩ := List.mem_iff_getElem?.mp he
    simp only [decide_eq_true_eq]
    exact fun y => no i (at9 z) ((same z).2.mp y)
theorem fm_un {i j : Nat} (h : fm M r T B D c p i) (k : fm M r T B D c p j) : i = j := by
  obtain ⟨h1, h2, h3⟩ := h
  obtain ⟨k1, k2, k3⟩ := k
  rcases Nat.lt_trichotomy i j with d | d | d
  · exact absurd h2 (k3 i d)
  · exact d
  · exact absurd k2 (h3 j d)
/-- what reading a rule hangs on: kinds and orders of words -/
theorem uq_ex (wt : WTq M T A B D n W pl nq sm) (hw : ∀ i, i < c → ∃ v : Nat, mI M (r + 6) i = v ∧ v < n ∧ mI M A v = 2) {co : Int} (hco : mI M r 6 = co) : ∃ (E : Nat → Int) (Cf : Nat → Int × Int), (∀ rest, UQ (W, E, pl, Cf, rest) M r T A B D n c) ∧ (∀ v, n ≤ v → Cf v = (3, 0)) ∧ (CT M r p nms → nms.length = c → (E = E9 sm nms (if co = 0 then 0 else 1) ∧ ∀ v, v < n → (W v = 2 → Cf v = (3, nq v)) ∧ (W v = 12 → Cf v = (3, 1)) ∧ (W v = 13 → Cf v = (3, 0)) ∧ (W v = 1 → E v ≠ -1 → ∃ (i : Nat) (e : nm9), nms[i]? = some e ∧ fnd9 sm nms v = some e ∧ (co = 0 ∨ e.2.1 = 1) ∧ Cf v = (mI M (r + 7) i, mI M (r + 8) i)))) := by
  classical
  have wq : ∀ E Cf rest, WQ (W, E, pl, Cf, rest) M A B n := fun E Cf rest j hj => wt.1 j hj
  let fi : Nat → Option Nat := fun v => if h : ∃ i, fm M r T B D c v i then some (Classical.choose h) else none
  have fi_n : ∀ v, nmn M r T B D c v → fi v = none := fun v h => dif_neg (fun ⟨i, q⟩ => h i q.1 q.2.1)
  have fi_s : ∀ v i, fm M r T B D c v i → fi v = some i := fun v i h => by
    have h9 : ∃ i, fm M r T B D c v i := ⟨i, h⟩
    show (if h : ∃ i, fm M r T B D c v i then some (Classical.choose h) else none) = some i
    rw [dif_pos h9]
    exact congrArg some (fm_un (Classical.choose_spec h9) h)
  let Cf : Nat → Int × Int := fun v => if n ≤ v then (3, 0) else if W v = 2 then (3, nq v) else if W v = 12 then (3, 1) else if W v = 13 then (3, 0) else match fi v with
    | none => (3, 0)
    | some i => if mI M r 6 ≠ 0 ∧ mI M (r + 7) i ≠ 4 then (3, 0) else (mI M (r + 7) i, mI M (r + 8) i)
  let E0 : Nat → Int := fun v => match fi v with
    | none => -1
    | some i => if mI M r 6 ≠ 0 ∧ mI M (r + 7) i ≠ 4 then -1 else mI M (r + 9) i
  have cf1 : ∀ v, v < n → W v = 1 → Cf v = match fi v with
    | none => (3, 0)
    | some i => if mI M r 6 ≠ 0 ∧ mI M (r + 7) i ≠ 4 then (3, 0) else (mI M (r + 7) i, mI M (r + 8) i) := fun v hv h1 => by
    show (if n ≤ v then _ else _) = _
    rw [if_neg (by omega), if_neg (by omega), if_neg (by omega), if_neg (by omega)]
  have cf2 : ∀ v, v < n → (W v = 2 → Cf v = (3, nq v)) ∧ (W v = 12 → Cf v = (3, 1)) ∧ (W v = 13 → Cf v = (3, 0)) := fun v hv => by
    refine ⟨fun h => ?_, fun h => ?_, fun h => ?_⟩
    · show (if n ≤ v then _ else _) = _
      rw [if_neg (by omega), if_pos h]
    · show (if n ≤ v then _ else _) = _
      rw [if_neg (by omega), if_neg (by omega), if_pos h]
    · show (if n ≤ v then _ else _) = _
      rw [if_neg (by omega), if_neg (by omega), if_neg (by omega), if_pos h]
  have uqE : ∀ E : Nat → Int, (∀ v, v < n → W v = 1 → E v = E0 v) → ∀ rest, UQ (W, E, pl, Cf, rest) M r T A B D n c := fun E hE rest => by
    refine ⟨wq _ _ _, fun v hv => ⟨fun h => ?_, fun h => (cf2 v hv).2.1 h, fun h => (cf2 v hv).2.2 h, fun h => ⟨fun q => ⟨?_, ?_⟩, fun i q => ⟨fun y => ⟨?_, ?_⟩, fun y => ⟨?_, ?_⟩⟩⟩⟩⟩
    · show Cf v = (3, mI M D v)
      rw [(cf2 v hv).1 h, (wt.2.1 v hv h).1]
    · show E v = -1
      rw [hE v hv h]
      show (match fi v with | none => (-1 : Int) | some i => _) = -1
      rw [fi_n v q]
    · show Cf v = (3, 0)
      rw [cf1 v hv h, fi_n v q]
    · show E v = -1
      rw [hE v hv h]
      show (match fi v with | none => (-1 : Int) | some i => if mI M r 6 ≠ 0 ∧ mI M (r + 7) i ≠ 4 then -1 else mI M (r + 9) i) = -1
      rw [fi_s v i q]
      exact if_pos y
    · show Cf v = (3, 0)
      rw [cf1 v hv h, fi_s v i q]
      exact if_pos y
    · show E v = mI M (r + 9) i
      rw [hE v hv h]
      show (match fi v with | none => (-1 : Int) | some i => if mI M r 6 ≠ 0 ∧ mI M (r + 7) i ≠ 4 then -1 else mI M (r + 9) i) = _
      rw [fi_s v i q]
      exact if_neg y
    · show Cf v = (mI M (r + 7) i, mI M (r + 8) i)
      rw [cf1 v hv h, fi_s v i q]
      exact if_neg y
  have big : ∀ v, n ≤ v → Cf v = (3, 0) := fun v hv => if_pos hv
  by_cases hc : CT M r p nms ∧ nms.length = c
  · obtain ⟨ct, hl⟩ := hc
    have srt : ∀ {i : Nat} {e : nm9}, nms[i]? = some e → (mI M (r + 7) i ≠ 4 ↔ e.2.1 ≠ 1) := fun {i e} z => by
      obtain ⟨-, z2, z3, -⟩ := ct.2 i e z
      rw [z2]
      unfold srt9
      split
      · rename_i y; simp [y]
      · rename_i y
        split <;> simp [y]
    have eE : ∀ v, v < n → W v = 1 → E9 sm nms (if co = 0 then 0 else 1) v = E0 v := fun v hv h1 => by
      rcases ct.fnd wt (by rw [hl]; exact hw) hv h1 with ⟨q1, q2⟩ | ⟨i, e, q1, q2, q3⟩
      · rw [hl] at q1
        unfold E9
        rw [q2]
        show (-1 : Int) = match fi v with | none => (-1 : Int) | some i => if mI M r 6 ≠ 0 ∧ mI M (r + 7) i ≠ 4 then -1 else mI M (r + 9) i
        rw [fi_n v q1]
      · rw [hl] at q1
        unfold E9
        rw [q3]
        show (if (if co = 0 then (0 : Int) else 1) = 1 ∧ e.2.1 ≠ 1 then (-1 : Int) else e.2.2.1) = match fi v with | none => (-1 : Int) | some i => if mI M r 6 ≠ 0 ∧ mI M (r + 7) i ≠ 4 then -1 else mI M (r + 9) i
        rw [fi_s v i q1]
        obtain ⟨-, -, -, z4, -⟩ := ct.2 i e q2
        have sr := srt q2
        show _ = if mI M r 6 ≠ 0 ∧ mI M (r + 7) i ≠ 4 then (-1 : Int) else mI M (r + 9) i
        rw [hco, z4]
        by_cases c0 : co = 0
        · rw [if_pos c0, if_neg (fun y => absurd y.1 (by decide)), if_neg (fun y => y.1 c0)]
        · rw [if_neg c0]
          by_cases c1 : e.2.1 ≠ 1
          · rw [if_pos ⟨rfl, c1⟩, if_pos ⟨c0, sr.mpr c1⟩]
          · rw [if_neg (fun y => c1 y.2), if_neg (fun y => c1 (sr.mp y.2))]
    refine ⟨E9 sm nms (if co = 0 then 0 else 1), Cf, uqE _ eE, big, fun _ _ => ⟨rfl, fun v hv => ⟨(cf2 v hv).1, (cf2 v hv).2.1, (cf2 v hv).2.2, fun h1 hne => ?_⟩⟩⟩
    rcases ct.fnd wt (by rw [hl]; exact hw) hv h1 with ⟨q1, q2⟩ | ⟨i, e, q1, q2, q3⟩
    · unfold E9 at hne
      rw [q2] at hne
      exact absurd rfl hne
    · rw [hl] at q1
      unfold E9 at hne
      rw [q3] at hne
      have ne : ¬ ((if co = 0 then (0 : Int) else 1) = 1 ∧ e.2.1 ≠ 1) := fun y => hne (if_pos y)
      have no : ¬ (mI M r 6 ≠ 0 ∧ mI M (r + 7) i ≠ 4) := fun y => ne ⟨by rw [if_neg (by rw [← hco]; exact y.1)], (srt q2).mp y.2⟩
      refine ⟨i, e, q2, q3, ?_, ?_⟩
      · by_cases c0 : co = 0
        · exact Or.inl c0
        · rw [if_neg c0] at ne
          exact Or.inr (Classical.byContradiction (fun y => ne ⟨rfl, y⟩))
      · rw [cf1 v hv h1, fi_s v i q1]
        exact if_neg no
  · refine ⟨E0, Cf, uqE E0 (fun _ _ _ => rfl), big, fun ct hl => absurd ⟨ct, hl⟩ hc⟩
end TXA
end
section
/-! The class's reader of texts, exactly: steps. -/
section TXB
variable {G : mG} {d z q w T A B D N C n p O P K Ab Be Cm V F c s L L' cnt Bn a d0 V1 F1 : Nat} {M0 M M' M1 M2 : mM} {ns ns' ns1 : Nat → Int} {sf ef sf' ef' : Nat → Nat} {H : Nat → Nat} {S R : Nat → Prop} {W pl nq : Nat → Int} {sm : Nat → Nat → Prop} {nms : List nm9} {u : Ru} {ft : Int × Int} {zz zr : List Int}
/-- words stay -/
theorem TP.txt (h : TP M z q w T A B D N C n p O P K Ab Be Cm) (f : FI (txS q p O P) M M') : mI M' T = mI M T := by
  have ap := h.apart
  obtain ⟨⟨-, -, -, -, -, b6, -⟩, -, -, -, -, ⟨-, -, s3⟩, -⟩ := h
  refine f.2.2.2.2.2.2 T (fun y => ?_)
  have y' : (q ≤ T ∧ T ≤ q + 10) ∨ T = q + 21 ∨ T = q + 22 ∨ T = p ∨ (p + 3 ≤ T ∧ T ≤ p + 15) ∨ T = O ∨ T = P := y
  have u := (s3 T (by omega)).1
  have v := b6.2.2 T (by omega)
  omega
theorem WTq.fi (wt : WTq M T A B D n W pl nq sm) (h : TP M z q w T A B D N C n p O P K Ab Be Cm) (f : FI (txS q p O P) M M') : WTq M' T A B D n W pl nq sm := by
  obtain ⟨e1, e2, e3, -⟩ := h.words f
  exact wt.cg (h.txt f) e1 e2 e3
theorem x_tx_accept {x : Int} (hx : i32 x) (x0 : x ≠ 0) (h : TX M z q w T A B D N C n p O P K Ab Be Cm V F ns sf ef c cnt L) (ha : mI M (q + 1) 2 = a) (han : a ≤ n) : Ci G y_RR_accept d [vr (q + 1), vi x] M (fun v M' => i32 v ∧ mOk M' ∧ (v = 0 ∨ v = 1) ∧ TX M' z q w T A B D N C n p O P K Ab Be Cm V F ns sf ef c cnt L ∧ txF M q p O P L M' ∧ ((v = 1 ∧ mI M A a = x ∧ mI M' (q + 1) 2 = ((a + 1 : Nat) : Int) ∧ a < n) ∨ (v = 0 ∧ M' = M)) ∧ (∀ i, i ≠ 2 → mI M' (q + 1) i = mI M (q + 1) i) ∧ (∀ b, b ≠ q + 1 → mI M' b = mI M b) ∧ (v = 0 → mI M A a ≠ x)) := by
  refine (s_RR_accept hx h.1.1 ha han).mono (fun v M' k => ?_)
  obtain ⟨k1, k2⟩ := k
  rcases k2 with ⟨e1, e2, e3, e4⟩ | ⟨e1, e2, e3⟩
  · have hN : n ≤ 16384 := by have := h.1.1.2.2.2.1.2.2.1; have := h.1.1.2.2.2.1.1.2.2.2.2.2.2.1; omega
    have u := tx_ui h ⟨by omega, by omega⟩ e3 (Or.inr (Or.inr (Or.inr (Or.inl ⟨rfl, Or.inl rfl⟩))))
    have an : a < n := by
      have : a ≠ n := fun y => by
        have hA := h.1.1.2.2.2.1.2.2.2.2.1
        rw [y, hA] at e2
        exact x0 e2.symm
      omega
    refine ⟨by rw [e1]; exact i32s (by omega) (by omega), k1.1, Or.inr e1, u.1, u.2.1, Or.inl ⟨e1, e2, by rw [e4]; omega, an⟩, fun i hi => by rw [u.2.2, if_neg (fun y => hi y.2)], fun b hb => ?_, fun y => by rw [y] at e1; exact absurd e1 (by decide)⟩
    funext i
    rw [u.2.2, if_neg (fun y => hb y.1)]
  · subst e3
    exact ⟨by rw [e1]; exact i32s (by omega) (by omega), k1.1, Or.inl e1, h, txF.refl, Or.inr ⟨e1, rfl⟩, fun _ _ => rfl, fun _ _ => rfl, fun _ => e2⟩
theorem x_tx_note {x y : Int} (hx : i32 x) (x0 : x ≠ 0) (hy : i32 y) (h : TX M z q w T A B D N C n p O P K Ab Be Cm V F ns sf ef c cnt L) : Cv G y_RR_note d [vr (q + 1), vi x, vi y] M (fun M' => mOk M' ∧ TX M' z q w T A B D N C n p O P K Ab Be Cm V F ns sf ef c cnt L ∧ txF M q p O P L M' ∧ mI M' (q + 1) 3 ≠ 0 ∧ (∀ i, i ≠ 3 → i ≠ 4 → mI M' (q + 1) i = mI M (q + 1) i) ∧ (∀ b, b ≠ q + 1 → mI M' b = mI M b) ∧ Fqq M (q + 1) (x, y) M') := by
  have ap := h.1.apart
  have qp := h.1.2.2.2.2.2.1.2.1
  refine (x_RR_note hx hy h.1.1).mono (fun M' k => ?_)
  obtain ⟨k1, k2, k3, k4, k5, k6⟩ := k
  have n3 : mI M' (q + 1) 3 ≠ 0 := by
    by_cases u : mI M (q + 1) 3 = 0
    · rw [k4 u]; exact x0
    · rw [k5 u]; exact u
  have nb : ∀ b, b ≠ q + 1 → mI M' b = mI M b := fun b hb => k2.2.2.2.2.2.2 b hb
  have ff : txF M q p O P L M' := ⟨k2.mono (fun b y => Or.inl (by have y' : b = q + 1 := y; omega)), fun i _ i3 i4 _ _ _ _ _ => k3 i i3 i4, fun _ => n3, fun i _ _ => nb _ (by omega), fun i _ => by rw [nb p (by omega)], fun i _ _ => nb _ (by omega), fun i _ => ⟨by rw [nb O (by omega)], by rw [nb P (by omega)]⟩⟩
  exact ⟨k1.1, h.tx k1.1 ff (fun j => by rw [nb _ (by omega)]; exact h.2.1.2.2.2 j), ff, n3, k3, nb, k6 x0⟩
theorem x_tx_rule {l1 l2 : Int} (i1 : i32 l1) (i2 : i32 l2) (h : TX M z q w T A B D N C n p O P K Ab Be Cm V F ns sf ef c cnt L) (ha : mI M (q + 1) 2 = a) (han : a ≤ n) (hs : mI M p 2 = s) (hLs : L ≤ s) (hsa : s ≤ a) (hd : mI M (q + 1) 5 = d0) (hd4 : d0 ≤ 40) (nk : NK M (q + 1) A n V1 F1 ns1 c) (uq : UQ u M (q + 1) T A B D n c) (hI : ruI u = a) (hF : FT M (q + 1) (uF u)) (hD : mI M (q + 1) 5 = slv (uZ u)) (hask : Hid ((l2 = 0 → uQ u = 5) ∧ (l2 ≠ 0 → uQ u = 6))) (hz : Hid (∀ j, lwx (ruW u j) = 3 → Rf (ruW u) (uZ u) j j)) (hR : Rc (ruW u) (uS u) (uK u) (gyW (uZ u) (uQ u) []) a) : Ci G y_RR_readRule (d + 4) [vr (q + 1), vi l1, vi l2] M (fun x M' => i32 x ∧ mOk M' ∧ ruQ M z q w T A B D N C n p O P K Ab Be Cm V F ns sf ef c cnt L s V1 F1 ns1 a x M' ∧ rleV u (q + 1) p O P s l1 x M') := by
  have ap := h.1.apart
  have qp := h.1.2.2.2.2.2.1.2.1
  refine (x_RR_readRule i1 i2 h.1.1 ha han hs hsa hd hd4 h.2.1.2.2.2 nk uq hI hF hD hask hz hR).mono (fun x M' k => ?_)
  obtain ⟨⟨k1, k2, k3, k4⟩, kv⟩ := k
  have ff := rr_tx h.1 k2
  have hx : x = 0 ∨ x = 1 := by
    rcases k4 with ⟨e, -⟩ | ⟨e, -⟩
    · exact Or.inl e
    · exact Or.inr e
  have nb : ∀ b, b = q ∨ b = q + 21 ∨ b = q + 22 → mI M' b = mI M b := fun b hb => k2.1.2.2.2.2.2.2 b (fun y => by
    have y' : (q + 1 ≤ b ∧ b ≤ q + 1 + 9) ∨ b = p ∨ b = O ∨ b = P := y
    clear k4
    omega)
  have ix : i32 x := by
    clear k4
    exact i32s (by omega) (by omega)
  refine ⟨ix, k1.1, ⟨h.tx k1.1 (ff.less hLs) k3, ff, ⟨k2.2.1 6 (by decide) (by decide) (by decide) (by decide) (by decide) (by decide) (by decide), nb q (Or.inl rfl), nb _ (Or.inr (Or.inl rfl)), nb _ (Or.inr (Or.inr rfl))⟩, ?_⟩, kv⟩
  rcases k4 with ⟨e, a', L1, e1, -, e3, -⟩ | ⟨e, H', L1, a', g, haa⟩
  · exact Or.inl ⟨e, a', e1, e3⟩
  · obtain ⟨⟨g1, g2, g3, g4⟩, -, ⟨g5, g6⟩, -, ⟨g8, -⟩, -, -, ⟨gH, gHs⟩, gC, gL, -⟩ := g
    have b0 : bs M' (q + 1) 0 = 0 := rfl
    have s0 : sdp M' (q + 1) 0 = 0 := rfl
    have e0 : se M' (q + 1) 0 = 0 := rfl
    have u0 : uw 0 = 1 := rfl
    have hs0 := (gC s (Nat.le_refl _) (by omega)).2.2
    refine Or.inr ⟨e, L1, H', a', fun pc h0 h1 => ?_, by omega, by omega, by omega, g4, g1, haa, g5, by omega, by rw [g8, s0, hd]; omega⟩
    obtain ⟨c1, c2, c3⟩ := gC pc h0 h1
    refine ⟨c1, fun y => Or.inr ?_, c3⟩
    rcases c2 y with ⟨i, hi, -⟩ | u
    · exact absurd hi (by omega)
    · exact u
/-- a rule of an item, exactly: read from word a on, the pile zz below it, the fault ft before it -/
def irV (W pl E : Nat → Int) (Cf : Nat → Int × Int) (q p O P s a : Nat) (ft : Int × Int) (zz : List Int) (l1 x : Int) (M' : mM) : Prop := ∃ a' : Nat, mI M' (q + 1) 2 = a' ∧ ((x = 0 ∧ Rf W [50] 0 a') ∨ (x = 1 ∧ ∃ L' : Nat, mI M' p 2 = ((L' + 1 : Nat) : Int) ∧ mI M' O L' = 0 ∧ Eo W 6 a a' ∧ mI M' (q + 6) 0 = kdq W E 0 a a' ∧ FT M' (q + 1) (fst9 (fst9 ft (fl W E pl 0 a a')) (kft (l1 = 0 ∨ kdq W E 0 a a' = (if l1 = 2 then 1 else 0)) (pl a))) ∧ Cd W Cf pl (mI M' O) (mI M' P) 0 0 0 a a' s L' ∧ Rc W [50] 0 zz a'))
/-- kinds and orders of words, out of the names -/
def ECq (M : mM) (r p n : Nat) (W nq : Nat → Int) (sm : Nat → Nat → Prop) (nms : List nm9) (c : Nat) (co : Int) (E : Nat → Int) (Cf : Nat → Int × Int) : Prop := (∀ v, n ≤ v → Cf v = (3, 0)) ∧ (CT M r p nms → nms.length = c → (E = E9 sm nms (if co = 0 then 0 else 1) ∧ ∀ v, v < n → (W v = 2 → Cf v = (3, nq v)) ∧ (W v = 12 → Cf v = (3, 1)) ∧ (W v = 13 → Cf v = (3, 0)) ∧ (W v = 1 → E v ≠ -1 → ∃ (i : Nat) (e : nm9), nms[i]? = some e ∧ fnd9 sm nms v = some e ∧ (co = 0 ∨ e.2.1 = 1) ∧ Cf v = (mI M (r + 7) i, mI M (r + 8) i))))
theorem x_TR_readItemRule {k : Nat} {l2 : Int} (hk : k < 3) (i2 : i32 l2) (h : TX M z q w T A B D N C n p O P K Ab Be Cm V F ns sf ef c cnt L) (ha : mI M (q + 1) 2 = a) (han : a ≤ n) (hs : mI M p 2 = s) (hLs : L ≤ s) (hsa : s ≤ a) (hd : mI M (q + 1) 5 = d0) (hd4 : d0 ≤ 40) (nk : NK M (q + 1) A n V1 F1 ns1 c) (wt : WTq M T A B D n W pl nq sm) (hF : FT M (q + 1) ft) (hD : mI M (q + 1) 5 = slv zz) (hz : ∀ j, lwx (W j) = 3 → Rf W zz j j) (hR : Rc W [50] 0 (61 :: zz) a) : Ci G y_TR_readItemRule (d + 5) [vr q, vi k, vi l2] M (fun x M' => irQ M z q w T A B D N C n p O P K Ab Be Cm V F ns sf ef c cnt L s V1 F1 ns1 a k x M' ∧ (∀ i, mI M' (q + 22) i = if i = k then pl a else mI M (q + 22) i) ∧ ∃ E Cf, ECq M (q + 1) p n W nq sm nms c (mI M (q + 1) 6) E Cf ∧ irV W pl E Cf q p O P s a ft zz l2 x M') := by
  have ap := h.1.apart
  have qp := h.1.2.2.2.2.2.1.2.1
  have ok := h.1.1.1
  obtain ⟨t0, t1, t2, t3, t4, t5⟩ := h.1.2.1
  obtain ⟨s1, s2, s3, s4⟩ := h.1.2.2.1
  have hN : n ≤ 16384 := by have := h.1.1.2.2.2.1.2.2.1; have := h.1.1.2.2.2.1.1.2.2.2.2.2.2.1; omega
  refine k_TR_readItemRule ok (i32s (by omega) (by omega)) i2 ?_
  rw [t3, t4, s3, Int.toNat_natCast, hs]
  refine ⟨t0, h.1.1.2.2.2.2.1.1, s1, by omega, fun M5 e5 => ?_⟩
  obtain ⟨h5, x5, g5⟩ := tx_ui h ⟨by omega, by omega⟩ e5 (Or.inr (Or.inl rfl))
  have a5 : mI M5 (q + 1) 2 = a := by rw [g5, if_neg (by omega)]; exact ha
  rw [h5.1.2.1.2.1]
  refine ⟨h5.1.1.2.1.1, (s_RR_here h5.1.1 a5 han).mono (fun x9 M8 kk => ?_)⟩
  obtain ⟨e8, ex9, x0, x1⟩ := kk
  subst e8
  rw [h5.1.2.1.2.2.2.2.2, h5.1.2.2.1.2.2.2]
  refine ⟨i32s (by omega) (by omega), h5.1.1.1, h5.1.2.2.1.2.1, by omega, fun M13 e13 => ?_⟩
  obtain ⟨h13, x13, g13⟩ := tx_ui h5 (i32s (by omega) (by omega)) e13 (Or.inr (Or.inr (Or.inl rfl)))
  have gg : ∀ b i, b ≠ q + 21 → b ≠ q + 22 → mI M13 b i = mI M b i := fun b i b1 b2 => by rw [g13, if_neg (by omega), g5, if_neg (by omega)]
  have ff : ∀ b, b ≠ q + 21 → b ≠ q + 22 → mI M13 b = mI M b := fun b b1 b2 => by funext i; exact gg b i b1 b2
  have nk13 : NK M13 (q + 1) A n V1 F1 ns1 c := by
    unfold NK at nk ⊢
    rw [ff A (fun u => (h.1.2.2.2.2.2.1.2.2 A (by omega)).1 (by omega)) (fun u => (h.1.2.2.2.2.2.1.2.2 A (by omega)).1 (by omega)), gg (q + 1) 19 (by omega) (by omega), gg (q + 1) 6 (by omega) (by omega), ff (q + 1 + 6) (by omega) (by omega), ff (q + 1 + 7) (by omega) (by omega), ff (q + 1 + 8) (by omega) (by omega), ff (q + 1 + 9) (by omega) (by omega)]
    exact nk
  have hw13 : ∀ i, i < c → ∃ v : Nat, mI M13 (q + 1 + 6) i = v ∧ v < n ∧ mI M13 A v = 2 := fun i hi => (nk13.2.2 i hi).1
  have wt13 : WTq M13 T A B D n W pl nq sm := wt.fi h.1 (x5.1.trans x13.1)
  obtain ⟨E, Cf, uq, big, ec⟩ := uq_ex (p := p) (nms := nms) (c := c) wt13 hw13 rfl
  have ecq : ECq M (q + 1) p n W nq sm nms c (mI M (q + 1) 6) E Cf := by
    refine ⟨big, fun ct hl => ?_⟩
    have e6 : mI M13 (q + 1) 6 = mI M (q + 1) 6 := gg _ _ (by omega) (by omega)
    have ct13 : CT M13 (q + 1) p nms := by
      unfold CT at ct ⊢
      rw [gg (q + 1) 19 (by omega) (by omega), ff (q + 1 + 6) (by omega) (by omega), ff (q + 1 + 7) (by omega) (by omega), ff (q + 1 + 8) (by omega) (by omega), ff (q + 1 + 9) (by omega) (by omega), ff (p + 6) (by omega) (by omega), ff (p + 7) (by omega) (by omega)]
      exact ct
    have := ec ct13 hl
    rw [e6, ff (q + 1 + 7) (by omega) (by omega), ff (q + 1 + 8) (by omega) (by omega)] at this
    exact this
  have f13 : txF M q p O P s M13 := by
    have u := x5.trans x13
    exact ⟨u.1, u.2.1, u.2.2.1, u.2.2.2.1, u.2.2.2.2.1, u.2.2.2.2.2.1, fun i _ => ⟨gg O i (by omega) (by omega), gg P i (by omega) (by omega)⟩⟩
  rw [h13.1.2.1.2.1]
  refine ⟨h13.1.2.1.1, h13.1.1.2.1.1, (x_tx_rule (u := (W, E, pl, Cf, (a, ft), (zz, 6), ([50], 0))) i2 (i32s (by omega) (by omega)) h13 (by rw [gg _ _ (by omega) (by omega)]; exact ha) han (by rw [gg p 2 (by omega) (by omega)]; exact hs) hLs hsa (by rw [gg _ _ (by omega) (by omega)]; exact hd) hd4 nk13 (uq _) rfl (hF.same (gg _ _ (by omega) (by omega)) (gg _ _ (by omega) (by omega))) (by rw [gg _ _ (by omega) (by omega)]; exact hD) ⟨fun y => absurd y (by decide), fun _ => rfl⟩ hz hR).mono (fun x18 M17 kk => ?_)⟩
  obtain ⟨i18, o17, ⟨r1, r2, ⟨r3, r4, r5, r6⟩, r7⟩, a9, ea9, rv⟩ := kk
  have T21 : ∀ i, mI M17 (q + 21) i = if i = k then (s : Int) else mI M (q + 21) i := fun i => by
    rw [r5, g13, if_neg (by omega), g5]
    by_cases y : i = k
    · rw [if_pos ⟨rfl, y⟩, if_pos y]
    · rw [if_neg (fun u => y u.2), if_neg y]
  have T22 : ∀ i, mI M17 (q + 22) i = if i = k then pl a else mI M (q + 22) i := fun i => by
    have eB : x9 = pl a := by rw [ex9, (h.1.words x5.1).2.1]; exact (wt.1 a han).2.2
    rw [r6, g13]
    by_cases y : i = k
    · rw [if_pos ⟨rfl, y⟩, if_pos y, eB]
    · rw [if_neg (fun u => y u.2), if_neg y, g5, if_neg (by omega)]
  have b6 : mI M17 (q + 1) 6 = mI M (q + 1) 6 := by rw [r3, gg _ _ (by omega) (by omega)]
  have bq : mI M17 q = mI M q := by rw [r4, ff _ (by omega) (by omega)]
  refine ⟨i18, o17, fun y => ?_, fun y => ?_⟩
  · obtain ⟨-, a', u1, u2⟩ := r7.resolve_right (fun u => by have := u.1; omega)
    refine ⟨⟨r1, f13.trans r2, ⟨b6, bq, T21⟩, Or.inl ⟨rfl, a', u1, u2⟩⟩, T22, E, Cf, ecq, a9, ea9, Or.inl ⟨rfl, ?_⟩⟩
    rcases rv with ⟨-, rv⟩ | ⟨rv, -⟩
    · exact rv
    · exact absurd y (by rw [rv]; decide)
  · obtain ⟨-, e, H, a', u1, u2, u3, u4, u5, u6, u7, u8, u9, u10⟩ := r7.resolve_left (fun u => y u.1)
    rw [r1.1.2.1.2.2.2.1]
    refine ⟨r1.1.2.1.1, r1.1.1.2.2.2.2.1.1, (s_tx_add (i32s (by omega) (by omega)) (i32s (by omega) (by omega)) r1 u5 (by omega) (by omega)).mono (fun v M24 kk => ?_)⟩
    obtain ⟨v1, v2, v3, v4, v5, v6, v7, v8⟩ := kk
    obtain ⟨L9, g1, g2, g3, g4, g5, g6, g7⟩ : rlD (W, E, pl, Cf, (a, ft), (zz, 6), ([50], 0)) (q + 1) p O P s a9 _ M17 := (rv.resolve_left (fun u => y u.1)).2
    have eL : e = L9 := by rw [u5] at g1; omega
    subst eL
    have key : irV W pl E Cf q p O P s a ft zz l2 1 M24 := by
      refine ⟨a9, by rw [v8 (q + 1) (by omega) (by omega) (by omega)]; exact ea9, Or.inr ⟨rfl, e, v5, by rw [v6, if_pos rfl], g2, ?_, ?_, ?_, g7⟩⟩
      · rw [show q + 6 = q + 1 + 5 by omega, v8 (q + 1 + 5) (by omega) (by omega) (by omega)]; exact g3
      · exact g4.same (by rw [v8 (q + 1) (by omega) (by omega) (by omega)]) (by rw [v8 (q + 1) (by omega) (by omega) (by omega)])
      · exact g5.cg (fun t t1 t2 => ⟨by rw [v6, if_neg (by omega)], by rw [v7, if_neg (by omega)]⟩)
    refine ⟨v1, v2, ⟨v3, (f13.trans r2).trans (v4.less (by omega)), ⟨by rw [v8 (q + 1) (by omega) (by omega) (by omega)]; exact b6, by rw [v8 q (by omega) (by omega) (by omega)]; exact bq, fun i => by rw [v8 (q + 21) (by omega) (by omega) (by omega)]; exact T21 i⟩, Or.inr ⟨rfl, e, H, a', ⟨fun pc h0 h1 => ?_, u2, u3, u4, by rw [v6, if_pos rfl], by omega⟩, v5, by rw [v8 (q + 1) (by omega) (by omega) (by omega)]; exact u6, u7, u8, u9, by rw [v8 (q + 1) (by omega) (by omega) (by omega), u10, gg _ _ (by omega) (by omega)]⟩⟩, fun i => by rw [v8 (q + 22) (by omega) (by omega) (by omega)]; exact T22 i, E, Cf, ecq, key⟩
    rw [v6, v7, if_neg (by omega), if_neg (by omega)]
    exact u1 pc h0 h1
end TXB
end
section
/-! The class's reader of texts, exactly: names, consts, formulas. -/
section TXC
variable {G : mG} {d z q w T A B D N C n p O P K Ab Be Cm V F c s L L' cnt Bn a d0 V1 F1 nw : Nat} {M0 M M' M1 M2 : mM} {ns ns' ns1 : Nat → Int} {sf ef sf' ef' : Nat → Nat} {H : Nat → Nat} {S R : Nat → Prop} {W pl nq : Nat → Int} {sm : Nat → Nat → Prop} {nms : List nm9} {ft : Int × Int} {zz zr : List Int}
theorem WTq.is (wt : WTq M T A B D n W pl nq sm) (ha : a ≤ n) {y : Int} (h1 : 1 ≤ y) (h2 : y ≤ 38) : mI M A a = y + 1 ↔ W a = y := by
  obtain ⟨u1, u2, -⟩ := wt.1 a ha
  rw [u2]
  exact (csq_w u1).2.2 y h1 h2
theorem rc_t {y : Int} (h : Rc W [50] 0 (y :: zr) a) (e : W a = y) (hy : y < 50) : Rc W [50] 0 zr (a + 1) := h.trans (Rc.one (mst_t hy e.symm))
theorem rf_t {y : Int} (h : Rc W [50] 0 (y :: zr) a) (e : W a ≠ y) (hy : y < 50) : Rf W [50] 0 a := h.rf (Rf.of (mst_tn hy (fun u => e u.symm)))
theorem CT.cg (ct : CT M (q + 1) p nms) (h19 : mI M' (q + 1) 19 = mI M (q + 1) 19) (h6 : mI M' (q + 1 + 6) = mI M (q + 1 + 6)) (h7 : mI M' (q + 1 + 7) = mI M (q + 1 + 7)) (h8 : mI M' (q + 1 + 8) = mI M (q + 1 + 8)) (h9 : mI M' (q + 1 + 9) = mI M (q + 1 + 9)) (p6 : mI M' (p + 6) = mI M (p + 6)) (p7 : mI M' (p + 7) = mI M (p + 7)) : CT M' (q + 1) p nms := by
  unfold CT at ct ⊢
  rw [h19, h6, h7, h8, h9, p6, p7]
  exact ct
theorem CT.tx (ct : CT M (q + 1) p nms) (f : txE M q p O P s M') : CT M' (q + 1) p nms := by
  obtain ⟨f2, -, f4, -, f6, -⟩ := f
  exact ct.cg (f2 19 (by decide) (by decide) (by decide) (by decide) (by decide) (by decide) (by decide) (by decide)) (f4 6 (by omega) (by omega)) (f4 7 (by omega) (by omega)) (f4 8 (by omega) (by omega)) (f4 9 (by omega) (by omega)) (f6 6 (by omega) (by omega)) (f6 7 (by omega) (by omega))
/-- a name is known already -/
def knf (sm : Nat → Nat → Prop) (pl : Nat → Int) (nms : List nm9) (v : Nat) (f2 : Int × Int) : Prop := (fnd9 sm nms v = none → f2 = (0, 0)) ∧ (fnd9 sm nms v ≠ none → f2 = (2, pl v))
/-- what readName comes to, exactly -/
def rnV (W pl : Nat → Int) (sm : Nat → Nat → Prop) (M : mM) (q p c a : Nat) (nms : List nm9) (ft : Int × Int) (zr : List Int) (x : Int) (M' : mM) : Prop := ∃ a' : Nat, mI M' (q + 1) 2 = a' ∧ ((x = 0 ∧ Rf W [50] 0 a') ∨ (x = 1 ∧ a' = a + 2 ∧ W (a + 1) = 1 ∧ Rc W [50] 0 zr (a + 2) ∧ ∃ f2, FT M' (q + 1) (fst9 ft f2) ∧ (CT M (q + 1) p nms → nms.length = c → knf sm pl nms (a + 1) f2)))
theorem x_rn19 {l1 : Int} {Mc : mM} (hcc : CT Mc (q + 1) p nms → CT M (q + 1) p nms) (h : TX M z q w T A B D N C n p O P K Ab Be Cm V F ns sf ef c cnt L) (f0 : txF M0 q p O P L M) (g0 : nmF M0 q M) (hY : l1 ≠ 0 → mI M (q + 1) 3 ≠ 0) (ha : mI M (q + 1) 2 = a) (han : a < n) (wt : WTq M T A B D n W pl nq sm) (hF : FT M (q + 1) ft) (hR : Rc W [50] 0 (1 :: zr) (a + 1)) : h_TR_readName_19 G (d + 1) q M (fun x M' => rnmQ M0 z q w T A B D N C n p O P K Ab Be Cm V F ns sf ef c cnt L a l1 x M' ∧ rnV W pl sm Mc q p c a nms ft zr x M') := by
  have ap := h.1.apart
  have ok := h.1.1.1
  obtain ⟨t0, t1, t2, t3, t4, t5⟩ := h.1.2.1
  have k4 := h.1.1.2.1.1
  have hN : n ≤ 16384 := by have := h.1.1.2.2.2.1.2.2.1; have := h.1.1.2.2.2.1.1.2.2.2.2.2.2.1; omega
  refine k_TR_readName_19 ok ?_
  rw [t1, ha]
  refine ⟨t0, k4, ⟨by omega, by omega⟩, fun M15 e15 => ?_⟩
  obtain ⟨h15, x15, g15⟩ := tx_ui h ⟨by omega, by omega⟩ e15 (Or.inr (Or.inr (Or.inr (Or.inl ⟨rfl, Or.inl rfl⟩))))
  have a15 : mI M15 (q + 1) 2 = ((a + 1 : Nat) : Int) := by rw [g15, if_pos ⟨rfl, rfl⟩]; omega
  rw [h15.1.2.1.2.1, a15]
  refine ⟨h15.1.1.2.1.1, fun M18 e18 => ?_⟩
  obtain ⟨h18, x18, g18⟩ := tx_ui h15 ⟨by omega, by omega⟩ e18 (Or.inl rfl)
  have a18 : mI M18 (q + 1) 2 = ((a + 1 : Nat) : Int) := by rw [g18, if_neg (by omega)]; exact a15
  have n18 : nmF M0 q M18 := g0.trans ⟨fun i i2 i3 i4 => by rw [g18, if_neg (by omega), g15, if_neg (by omega)], fun i i3 => by rw [g18, if_neg (by omega), g15, if_neg (by omega)], fun b b1 b2 => by
    funext i
    rw [g18, if_neg (by omega), g15, if_neg (by omega)]⟩
  have q18 : mI M18 q 3 = ((a + 1 : Nat) : Int) := by rw [g18, if_pos ⟨rfl, rfl⟩]
  have f18 := (f0.trans x15).trans x18
  have Y18 : l1 ≠ 0 → mI M18 (q + 1) 3 ≠ 0 := fun y => by rw [g18, if_neg (by omega), g15, if_neg (by omega)]; exact hY y
  rw [h18.1.2.1.2.1]
  refine ⟨h18.1.1.2.1.1, (x_tx_accept (x := 2) (i32s (by omega) (by omega)) (by omega) h18 a18 (by omega)).mono (fun v M21 k => ?_)⟩
  obtain ⟨v32, o21, vv, h21, x21, k1, k2, k3, k4'⟩ := k
  have wt18 : WTq M18 T A B D n W pl nq sm := wt.fi h.1 (x15.1.trans x18.1)
  have F18 : FT M18 (q + 1) ft := hF.same (by rw [g18, if_neg (by omega), g15, if_neg (by omega)]) (by rw [g18, if_neg (by omega), g15, if_neg (by omega)])
  have n21 : nmF M0 q M21 := n18.trans ⟨fun i i2 _ _ => k2 i i2, fun i _ => by rw [k3 q (by omega)], fun b _ b2 => k3 b b2⟩
  have f21 := f18.trans x21
  have Y21 : l1 ≠ 0 → mI M21 (q + 1) 3 ≠ 0 := fun y => by rw [k2 3 (by decide)]; exact Y18 y
  refine ⟨v32, o21, fun y => ?_, fun y => ?_⟩
  · have e := (k1.resolve_left (fun u => by have := u.1; omega)).2
    rw [e]
    exact ⟨⟨h18, f18, n18, Y18, Or.inl ⟨rfl, a + 1, a18, by omega⟩⟩, a + 1, a18, Or.inl ⟨rfl, rf_t hR (fun u => k4' y ((wt18.is (by omega) (by omega) (by omega)).mpr u)) (by decide)⟩⟩
  · obtain ⟨e1, e2, e3, e4⟩ := k1.resolve_right (fun u => y u.1)
    have w1 : W (a + 1) = 1 := (wt18.is (by omega) (by omega) (by omega)).mp e2
    have rc2 := rc_t hR w1 (by decide)
    have wt21 : WTq M21 T A B D n W pl nq sm := wt18.fi h18.1 x21.1
    have F21 : FT M21 (q + 1) ft := F18.same (k2 3 (by decide)) (k2 4 (by decide))
    have ct21 : CT Mc (q + 1) p nms → CT M21 (q + 1) p nms := fun ct => (((hcc ct).tx x15.2).tx x18.2).tx x21.2
    have hw21 : ∀ i, i < c → ∃ v : Nat, mI M21 (q + 1 + 6) i = v ∧ v < n ∧ mI M21 A v = 2 := fun i hi => (h21.2.1.2.2.1.2.2 i hi).1
    have A21 : mI M21 A (a + 1) = 2 := by rw [(h18.1.words x21.1).1]; exact e2
    have q21 : mI M21 q 3 = ((a + 1 : Nat) : Int) := by rw [k3 q (by omega)]; exact q18
    rw [h21.1.2.1.2.1, q21]
    refine ⟨h21.1.2.1.1, h21.1.1.2.1.1, (x_RR_find h21.1.1 h21.2.1.2.2.1.nk e4 A21).mono (fun x29 M28 kk => ?_)⟩
    obtain ⟨e28, hx⟩ := kk
    subst e28
    have c72 := h21.2.1.2.2.1.2.1
    have i29 : i32 x29 := by rcases hx with ⟨u, -⟩ | ⟨i, u, hi, -⟩ <;> rw [u] <;> exact i32s (by omega) (by omega)
    obtain ⟨⟨w1', ⟨p0, p3, p4, p5⟩, -, ⟨kA, kB, kD⟩, ⟨cA, cB, cD⟩, w6, w7, w8, -⟩, -⟩ := id h21.1.1.2.2.2.1
    rw [h21.1.2.1.2.1, h21.1.1.2.2.1.1, p4, cB, q21, Int.toNat_natCast]
    have nN := h21.1.1.2.2.2.1.2.2.1
    refine ⟨i29, o21, fun yn => ⟨⟨h21, f21, n21, Y21, Or.inr ⟨rfl, e3, by omega, q21, A21⟩⟩, a + 2, e3, Or.inr ⟨rfl, rfl, w1, rc2, (0, 0), F21.none, fun ct hl => ?_⟩⟩, fun yn => ⟨h21.1.2.1.1, h21.1.1.2.1.1, w1', kB, by omega, (x_tx_note (x := 2) (i32s (by omega) (by omega)) (by omega) (o21 _ _).1 h21).mono (fun M44 kk => ?_)⟩⟩
    · have nn : nmn M28 (q + 1) T B D c (a + 1) := by
        rcases hx with ⟨-, u⟩ | ⟨i, u, hi, -⟩
        · exact u
        · exact absurd yn (by omega)
      rcases (ct21 ct).fnd wt21 (by rw [hl]; exact hw21) e4 w1 with ⟨-, q2⟩ | ⟨i, e, q1, -, -⟩
      · exact ⟨fun _ => rfl, fun z => absurd q2 z⟩
      · rw [hl] at q1; exact absurd q1.2.1 (nn i q1.1)
    obtain ⟨o44, h44, x44, u3, u4, u5, u6⟩ := kk
    have n44 : nmF M0 q M44 := n21.trans ⟨fun i _ i3 i4 => u4 i i3 i4, fun i _ => by rw [u5 q (by omega)], fun b _ b2 => u5 b b2⟩
    have eB : mI M28 B (a + 1) = pl (a + 1) := (wt21.1 (a + 1) (by omega)).2.2
    refine ⟨o44, ⟨h44, f21.trans x44, n44, fun _ => u3, Or.inr ⟨rfl, by rw [u4 2 (by decide) (by decide)]; exact e3, by omega, by rw [u5 q (by omega)]; exact q21, by rw [(h21.1.words x44.1).1]; exact A21⟩⟩, a + 2, by rw [u4 2 (by decide) (by decide)]; exact e3, Or.inr ⟨rfl, rfl, w1, rc2, (2, pl (a + 1)), by rw [← eB]; exact u6 ft F21, fun ct hl => ?_⟩⟩
    rcases (ct21 ct).fnd wt21 (by rw [hl]; exact hw21) e4 w1 with ⟨q1, -⟩ | ⟨i, e, -, -, q3⟩
    · rw [hl] at q1
      rcases hx with ⟨u, -⟩ | ⟨i, u, hi⟩
      · exact absurd u (by omega)
      · exact absurd hi.2.1 (q1 i hi.1)
    · exact ⟨fun z => absurd (q3.symm.trans z) (by simp), fun _ => rfl⟩
theorem x_TR_readName {l1 : Int} (i1 : i32 l1) (h : TX M z q w T A B D N C n p O P K Ab Be Cm V F ns sf ef c cnt L) (ha : mI M (q + 1) 2 = a) (han : a < n) (wt : WTq M T A B D n W pl nq sm) (hF : FT M (q + 1) ft) (hR : Rc W [50] 0 (1 :: zr) (a + 1)) : Ci G y_TR_readName (d + 2) [vr q, vi l1] M (fun x M' => rnmQ M z q w T A B D N C n p O P K Ab Be Cm V F ns sf ef c cnt L a l1 x M' ∧ rnV W pl sm M q p c a nms (fst9 ft (if l1 = 0 then (0, 0) else (5, pl a))) zr x M') := by
  have ok := h.1.1.1
  obtain ⟨t0, t1, t2, t3, t4, t5⟩ := h.1.2.1
  have k4 := h.1.1.2.1.1
  refine k_TR_readName ok i1 ⟨fun y => x_rn19 (fun z => z) h txF.refl nmF.refl (fun u => absurd y u) ha han wt (by rw [if_pos y]; exact hF.none) hR, fun y => ?_⟩
  rw [t1]
  refine ⟨t0, k4, (s_RR_here h.1.1 ha (by omega)).mono (fun x6 M5 k => ?_)⟩
  obtain ⟨e5, ex6, x0, x1⟩ := k
  subst e5
  refine ⟨i32s (by omega) (by omega), ok, k4, (x_tx_note (x := 5) (i32s (by omega) (by omega)) (by omega) (i32s (by omega) (by omega)) h).mono (fun M9 kk => ?_)⟩
  obtain ⟨o9, h9, x9, u3, u4, u5, u6⟩ := kk
  have eB : x6 = pl a := by rw [ex6]; exact (wt.1 a (by omega)).2.2
  have F9 := u6 ft hF
  rw [eB] at F9
  rw [if_neg y]
  refine ⟨o9, ?_⟩
  have key := x_rn19 (G := G) (d := d) (sm := sm) (nms := nms) (l1 := l1) (Mc := M5) (fun ct => ct.tx x9.2) h9 x9 ⟨fun i _ i3 i4 => u4 i i3 i4, fun i _ => by rw [u5 q (by omega)], fun b _ b2 => u5 b b2⟩ (fun _ => u3) (by rw [u4 2 (by decide) (by decide)]; exact ha) han (wt.fi h.1 x9.1) F9 hR
  exact key
end TXC
end
