/-! The class's machine, exactly: the steps of run. -/
section RUX
variable {G : mG} {d z m U Ab0 Be0 C0 t c p O P K L i pc tt : Nat} {M0 M : mM} {Q : Int → mM → Prop} {a b : Int}
/-- program and machine of a run -/
def Rnv (M0 : mM) (z m Ab0 Be0 p O P K L : Nat) : Prop := PK M0 z p O P K ∧ mR M0 m 0 = p ∧ Mpr M0 z m p O P Ab0 Be0 ∧ mI M0 p 2 = L ∧ L ≤ K ∧ L ≤ 16384
theorem run_num (hE : Rnv M0 z m Ab0 Be0 p O P K L) (hpc : pc < L) (hi : i < 1000000) (hM : MS M0 z m U Ab0 Be0 C0 M t c) (ht : t ≤ 16384) (o : mI M0 O pc = 3) (next : ∀ M', MS M0 z m U Ab0 Be0 C0 M' (t + 1) c → mtb m M M' → plq M M' m t → ptq M' m t (mI M0 P pc) 1 → h_Ma_run_14 G (d + 3) m ((pc + 1 : Nat) : Int) ((i + 1 : Nat) : Int) M' Q) : h_Ma_run_14 G (d + 3) m (pc : Int) (i : Int) M Q := by
  obtain ⟨hp, hm0, ha, hL, hLK, hLn⟩ := hE
  obtain ⟨ok, k0, h8, kA, kB, tA, tB, bA, bB, hb, ⟨mA, mB⟩, ne⟩ := hM.pile
  obtain ⟨hp1, hr0, iO, iP, iT⟩ := hM.prog hp hm0 ha
  obtain ⟨pk, ⟨pr0, pr1⟩, ⟨kO, kP, nO, nP⟩, -, -, -, ⟨⟨-, -, -, p8, p9, -⟩, ⟨-, -, -, pk8, pk9, -⟩, ⟨-, -, -, pn8, pn9, -⟩⟩⟩ := id hp1
  have l2 : mI M p 2 = L := by rw [show p = p + 0 by omega, iT 0 (by omega)]; exact hL
  have no : ¬ ((1000000 : Int) ≤ (i : Int) ∨ ((pc : Int) < 0 ∨ mI M (mR M m 0) 2 ≤ (pc : Int))) := by rw [hr0, l2]; omega
  refine k_Ma_run_14 ok (i32s (by omega) (by omega)) ⟨by omega, by omega⟩ ⟨fun _ _ => ⟨k0, by rw [hr0]; exact pk⟩, fun y => absurd y no, fun _ => ?_⟩
  rw [hr0, pr0, pr1, p8, p9, pn8, pn9, nO, nP, iO, iP, Int.toNat_natCast, show ((i : Int) + 1) = ((i + 1 : Nat) : Int) by omega, show ((pc : Int) + 1) = ((pc + 1 : Nat) : Int) by omega]
  have i0 : i32 (mI M0 P pc) := by rw [← iP]; exact (ok _ _).1
  refine ⟨k0, pk, kO, by omega, kP, by omega, fun o0 => absurd o0 (by rw [o]; decide), fun _ => ⟨fun _ => (x_Ma_push hM ht i0 ⟨by omega, by omega⟩).mono (fun M' q => ⟨q.1.pile.1, next M' q.1 q.2.1 q.2.2.1 q.2.2.2⟩), fun o3 => absurd o o3⟩⟩
theorem run_cst {x : Nat} (hE : Rnv M0 z m Ab0 Be0 p O P K L) (hpc : pc < L) (hi : i < 1000000) (hM : MS M0 z m U Ab0 Be0 C0 M t c) (ht : t ≤ 16384) (o : mI M0 O pc = 4) (ox : mI M0 P pc = x) (hx : x < 60) (hv : 1 ≤ mI M0 (p + 7) x ∧ mI M0 (p + 7) x < 1000000000) (next : ∀ M', MS M0 z m U Ab0 Be0 C0 M' (t + 1) c → mtb m M M' → plq M M' m t → ptq M' m t (mI M0 (p + 6) x) (mI M0 (p + 7) x) → h_Ma_run_14 G (d + 3) m ((pc + 1 : Nat) : Int) ((i + 1 : Nat) : Int) M' Q) : h_Ma_run_14 G (d + 3) m (pc : Int) (i : Int) M Q := by
  obtain ⟨hp, hm0, ha, hL, hLK, hLn⟩ := hE
  obtain ⟨ok, k0, h8, kA, kB, tA, tB, bA, bB, hb, ⟨mA, mB⟩, ne⟩ := hM.pile
  obtain ⟨hp1, hr0, iO, iP, iT⟩ := hM.prog hp hm0 ha
  obtain ⟨pk, ⟨pr0, pr1⟩, ⟨kO, kP, nO, nP⟩, -, -, -, ⟨⟨-, -, -, p8, p9, -⟩, ⟨-, -, -, pk8, pk9, -⟩, ⟨-, -, -, pn8, pn9, -⟩⟩⟩ := id hp1
  have l2 : mI M p 2 = L := by rw [show p = p + 0 by omega, iT 0 (by omega)]; exact hL
  have no : ¬ ((1000000 : Int) ≤ (i : Int) ∨ ((pc : Int) < 0 ∨ mI M (mR M m 0) 2 ≤ (pc : Int))) := by rw [hr0, l2]; omega
  refine k_Ma_run_14 ok (i32s (by omega) (by omega)) ⟨by omega, by omega⟩ ⟨fun _ _ => ⟨k0, by rw [hr0]; exact pk⟩, fun y => absurd y no, fun _ => ?_⟩
  rw [hr0, pr0, pr1, p8, p9, pn8, pn9, nO, nP, iO, iP, Int.toNat_natCast, show ((i : Int) + 1) = ((i + 1 : Nat) : Int) by omega, show ((pc : Int) + 1) = ((pc + 1 : Nat) : Int) by omega]
  rw [ox, iT 6 (by omega), iT 7 (by omega), Int.toNat_natCast]
  have i0 : i32 (mI M0 (p + 6) x) := by rw [← iT 6 (by omega)]; exact (ok _ _).1
  refine ⟨k0, pk, kO, by omega, kP, by omega, fun o0 => absurd o0 (by rw [o]; decide), fun _ => ⟨fun o3 => absurd o3 (by rw [o]; decide), fun _ => ⟨fun _ => ⟨pk8, by omega, pk9, by omega, (x_Ma_push hM ht i0 hv).mono (fun M' q => ⟨q.1.pile.1, next M' q.1 q.2.1 q.2.2.1 q.2.2.2⟩)⟩, fun o4 => absurd o o4⟩⟩⟩
theorem run_jmp (hE : Rnv M0 z m Ab0 Be0 p O P K L) (hpc : pc < L) (hi : i < 1000000) (hM : MS M0 z m U Ab0 Be0 C0 M (t + 1) c) (o : mI M0 O pc = 30 ∨ mI M0 O pc = 31) (ot : mI M0 P pc = tt) (pt : ptq M m t a b) (yes : (mI M0 O pc = 30 ↔ a = 0) → ∀ M', MS M0 z m U Ab0 Be0 C0 M' (t + 1) c → mtb m M M' → plq M M' m (t + 1) → h_Ma_run_14 G (d + 3) m ((tt : Nat) : Int) ((i + 1 : Nat) : Int) M' Q) (nay : ¬ (mI M0 O pc = 30 ↔ a = 0) → ∀ M', MS M0 z m U Ab0 Be0 C0 M' t c → mtb m M M' → plq M M' m t → h_Ma_run_14 G (d + 3) m ((pc + 1 : Nat) : Int) ((i + 1 : Nat) : Int) M' Q) : h_Ma_run_14 G (d + 3) m (pc : Int) (i : Int) M Q := by
  obtain ⟨hp, hm0, ha, hL, hLK, hLn⟩ := hE
  obtain ⟨ok, k0, h8, kA, kB, tA, tB, bA, bB, hb, ⟨mA, mB⟩, ne⟩ := hM.pile
  obtain ⟨hp1, hr0, iO, iP, iT⟩ := hM.prog hp hm0 ha
  obtain ⟨pk, ⟨pr0, pr1⟩, ⟨kO, kP, nO, nP⟩, -, -, -, ⟨⟨-, -, -, p8, p9, -⟩, ⟨-, -, -, pk8, pk9, -⟩, ⟨-, -, -, pn8, pn9, -⟩⟩⟩ := id hp1
  have l2 : mI M p 2 = L := by rw [show p = p + 0 by omega, iT 0 (by omega)]; exact hL
  have no : ¬ ((1000000 : Int) ≤ (i : Int) ∨ ((pc : Int) < 0 ∨ mI M (mR M m 0) 2 ≤ (pc : Int))) := by rw [hr0, l2]; omega
  refine k_Ma_run_14 ok (i32s (by omega) (by omega)) ⟨by omega, by omega⟩ ⟨fun _ _ => ⟨k0, by rw [hr0]; exact pk⟩, fun y => absurd y no, fun _ => ?_⟩
  rw [hr0, pr0, pr1, p8, p9, pn8, pn9, nO, nP, iO, iP, Int.toNat_natCast, show ((i : Int) + 1) = ((i + 1 : Nat) : Int) by omega, show ((pc : Int) + 1) = ((pc + 1 : Nat) : Int) by omega]
  have q1 : Int.toNat (mI M m 8 - 1) = t := by omega
  rw [q1, pt.1, ot]
  refine ⟨k0, pk, kO, by omega, kP, by omega, fun o0 => absurd o0 (by omega), fun _ => ⟨fun o3 => absurd o3 (by omega), fun _ => ⟨fun o4 => absurd o4 (by omega), fun _ => ⟨fun o5 => absurd o5 (by omega), fun _ => ⟨fun o7 => absurd o7 (by omega), fun _ => ⟨fun _ => ⟨kA, by omega, fun v61 e61 v67 e67 v73 e73 v79 e79 v83 e83 => ?_⟩, fun o30 => absurd o o30⟩⟩⟩⟩⟩⟩
  have hv : v73 = 0 ↔ ¬ (mI M0 O pc = 30 ↔ a = 0) := by
    by_cases u : a = 0 <;> by_cases v : mI M0 O pc = 30 <;> simp only [u, v, if_true, if_false] at e61 e67 <;> subst e61 e67 <;> simp [u, v, e73]
  clear e73 e61 e67
  by_cases y : v73 = 0
  · rw [if_pos y] at e79 e83
    refine ⟨by rw [e83]; exact ⟨by omega, by omega⟩, fun M87 e87 => ?_⟩
    have w := ms_top (t' := t) hM (by omega) (by omega) e87
    rw [e79]
    exact nay (hv.mp y) M87 w.1 w.2.1 (plq.fi w.2.2 ⟨mA, mB⟩)
  · rw [if_neg y] at e79 e83
    refine ⟨by rw [e83]; exact ⟨by omega, by omega⟩, fun M87 e87 => ?_⟩
    have w := ms_top (t' := t + 1) hM (by omega) (by omega) e87
    rw [e79]
    exact yes (Classical.byContradiction (fun u => y (hv.mpr u))) M87 w.1 w.2.1 (plq.fi w.2.2 ⟨mA, mB⟩)
theorem run_ask (hE : Rnv M0 z m Ab0 Be0 p O P K L) (hpc : pc < L) (hi : i < 1000000) (hM : MS M0 z m U Ab0 Be0 C0 M (t + 1) c) (o : mI M0 O pc = 33) (ot : mI M0 P pc = tt) (pt : ptq M m t a b) (yes : a = 0 → ∀ M', MS M0 z m U Ab0 Be0 C0 M' t c → mtb m M M' → plq M M' m t → h_Ma_run_14 G (d + 3) m ((tt : Nat) : Int) ((i + 1 : Nat) : Int) M' Q) (nay : a ≠ 0 → ∀ M', MS M0 z m U Ab0 Be0 C0 M' t c → mtb m M M' → plq M M' m t → h_Ma_run_14 G (d + 3) m ((pc + 1 : Nat) : Int) ((i + 1 : Nat) : Int) M' Q) : h_Ma_run_14 G (d + 3) m (pc : Int) (i : Int) M Q := by
  obtain ⟨hp, hm0, ha, hL, hLK, hLn⟩ := hE
  obtain ⟨ok, k0, h8, kA, kB, tA, tB, bA, bB, hb, ⟨mA, mB⟩, ne⟩ := hM.pile
  obtain ⟨hp1, hr0, iO, iP, iT⟩ := hM.prog hp hm0 ha
  obtain ⟨pk, ⟨pr0, pr1⟩, ⟨kO, kP, nO, nP⟩, -, -, -, ⟨⟨-, -, -, p8, p9, -⟩, ⟨-, -, -, pk8, pk9, -⟩, ⟨-, -, -, pn8, pn9, -⟩⟩⟩ := id hp1
  have l2 : mI M p 2 = L := by rw [show p = p + 0 by omega, iT 0 (by omega)]; exact hL
  have no : ¬ ((1000000 : Int) ≤ (i : Int) ∨ ((pc : Int) < 0 ∨ mI M (mR M m 0) 2 ≤ (pc : Int))) := by rw [hr0, l2]; omega
  refine k_Ma_run_14 ok (i32s (by omega) (by omega)) ⟨by omega, by omega⟩ ⟨fun _ _ => ⟨k0, by rw [hr0]; exact pk⟩, fun y => absurd y no, fun _ => ?_⟩
  rw [hr0, pr0, pr1, p8, p9, pn8, pn9, nO, nP, iO, iP, Int.toNat_natCast, show ((i : Int) + 1) = ((i + 1 : Nat) : Int) by omega, show ((pc : Int) + 1) = ((pc + 1 : Nat) : Int) by omega]
  rw [ot]
  refine ⟨k0, pk, kO, by omega, kP, by omega, fun o0 => absurd o0 (by omega), fun _ => ⟨fun o3 => absurd o3 (by omega), fun _ => ⟨fun o4 => absurd o4 (by omega), fun _ => ⟨fun o5 => absurd o5 (by omega), fun _ => ⟨fun o7 => absurd o7 (by omega), fun _ => ⟨fun o30 => absurd o30 (by omega), fun _ => ⟨fun _ => ⟨⟨by omega, by omega⟩, fun M96 e96 => ?_⟩, fun o33 => absurd o o33⟩⟩⟩⟩⟩⟩⟩
  have w := ms_top (t' := t) hM (by omega) (by omega) e96
  have pq : plq M M96 m (t + 1) := plq.fi w.2.2 ⟨mA, mB⟩
  have pt' := pq.pt (by omega) pt
  obtain ⟨ok6, k06, h86, kA6, kB6, tA6, -⟩ := w.1.pile
  have lA : mN M96 (mR M96 m 6) = mN M (mR M m 6) := by rw [w.2.2.2.1, w.2.2.2.2.1]
  rw [h86, lA, Int.toNat_natCast, pt'.1]
  refine ⟨kA6, by omega, fun v101 e101 => ?_⟩
  by_cases y : a = 0
  · rw [if_pos y] at e101
    rw [e101]
    exact yes y M96 w.1 w.2.1 (pq.mono (by omega))
  · rw [if_neg y] at e101
    rw [e101]
    exact nay y M96 w.1 w.2.1 (pq.mono (by omega))
theorem run_els (hE : Rnv M0 z m Ab0 Be0 p O P K L) (hpc : pc < L) (hi : i < 1000000) (hM : MS M0 z m U Ab0 Be0 C0 M t c) (o : mI M0 O pc = 42) (ot : mI M0 P pc = tt) (next : h_Ma_run_14 G (d + 3) m ((tt : Nat) : Int) ((i + 1 : Nat) : Int) M Q) : h_Ma_run_14 G (d + 3) m (pc : Int) (i : Int) M Q := by
  obtain ⟨hp, hm0, ha, hL, hLK, hLn⟩ := hE
  obtain ⟨ok, k0, h8, kA, kB, tA, tB, bA, bB, hb, ⟨mA, mB⟩, ne⟩ := hM.pile
  obtain ⟨hp1, hr0, iO, iP, iT⟩ := hM.prog hp hm0 ha
  obtain ⟨pk, ⟨pr0, pr1⟩, ⟨kO, kP, nO, nP⟩, -, -, -, ⟨⟨-, -, -, p8, p9, -⟩, ⟨-, -, -, pk8, pk9, -⟩, ⟨-, -, -, pn8, pn9, -⟩⟩⟩ := id hp1
  have l2 : mI M p 2 = L := by rw [show p = p + 0 by omega, iT 0 (by omega)]; exact hL
  have no : ¬ ((1000000 : Int) ≤ (i : Int) ∨ ((pc : Int) < 0 ∨ mI M (mR M m 0) 2 ≤ (pc : Int))) := by rw [hr0, l2]; omega
  refine k_Ma_run_14 ok (i32s (by omega) (by omega)) ⟨by omega, by omega⟩ ⟨fun _ _ => ⟨k0, by rw [hr0]; exact pk⟩, fun y => absurd y no, fun _ => ?_⟩
  rw [hr0, pr0, pr1, p8, p9, pn8, pn9, nO, nP, iO, iP, Int.toNat_natCast, show ((i : Int) + 1) = ((i + 1 : Nat) : Int) by omega, show ((pc : Int) + 1) = ((pc + 1 : Nat) : Int) by omega]
  rw [ot]
  exact ⟨k0, pk, kO, by omega, kP, by omega, fun o0 => absurd o0 (by omega), fun _ => ⟨fun o3 => absurd o3 (by omega), fun _ => ⟨fun o4 => absurd o4 (by omega), fun _ => ⟨fun o5 => absurd o5 (by omega), fun _ => ⟨fun o7 => absurd o7 (by omega), fun _ => ⟨fun o30 => absurd o30 (by omega), fun _ => ⟨fun o33 => absurd o33 (by omega), fun _ => ⟨fun _ => next, fun o42 => absurd o o42⟩⟩⟩⟩⟩⟩⟩⟩
theorem run_cmp {v : vrs} {k : Nat} (hE : Rnv M0 z m Ab0 Be0 p O P K L) (hpc : pc < L) (hi : i < 1000000) (hM : MS M0 z m U Ab0 Be0 C0 M t c) (o : mI M0 O pc = 15 ∨ mI M0 O pc = 16 ∨ (19 ≤ mI M0 O pc ∧ mI M0 O pc ≤ 29) ∨ mI M0 O pc = 40 ∨ mI M0 O pc = 41) (hc : i32 (mI M0 O pc) → i32 (mI M0 P pc) → Ci G y_Ma_compute (d + 3) [vr m, vi (mI M0 O pc), vi (mI M0 P pc)] M (cpx M0 z m U Ab0 Be0 C0 M k c v)) (next : v.1 = 0 → ∀ M', MS M0 z m U Ab0 Be0 C0 M' (k + 1) c → mtb m M M' → plq M M' m k → ptq M' m k v.2.1 v.2.2 → h_Ma_run_14 G (d + 3) m ((pc + 1 : Nat) : Int) ((i + 1 : Nat) : Int) M' Q) (flt : v.1 ≠ 0 → ∀ M', mI M' m 1 = v.1 → mI M' m 2 = v.2.1 → (∃ t2, MS M0 z m U Ab0 Be0 C0 M' t2 c) → mtb m M M' → Q 0 M') : h_Ma_run_14 G (d + 3) m (pc : Int) (i : Int) M Q := by
  obtain ⟨hp, hm0, ha, hL, hLK, hLn⟩ := hE
  obtain ⟨ok, k0, h8, kA, kB, tA, tB, bA, bB, hb, ⟨mA, mB⟩, ne⟩ := hM.pile
  obtain ⟨hp1, hr0, iO, iP, iT⟩ := hM.prog hp hm0 ha
  obtain ⟨pk, ⟨pr0, pr1⟩, ⟨kO, kP, nO, nP⟩, -, -, -, ⟨⟨-, -, -, p8, p9, -⟩, ⟨-, -, -, pk8, pk9, -⟩, ⟨-, -, -, pn8, pn9, -⟩⟩⟩ := id hp1
  have l2 : mI M p 2 = L := by rw [show p = p + 0 by omega, iT 0 (by omega)]; exact hL
  have no : ¬ ((1000000 : Int) ≤ (i : Int) ∨ ((pc : Int) < 0 ∨ mI M (mR M m 0) 2 ≤ (pc : Int))) := by rw [hr0, l2]; omega
  refine k_Ma_run_14 ok (i32s (by omega) (by omega)) ⟨by omega, by omega⟩ ⟨fun _ _ => ⟨k0, by rw [hr0]; exact pk⟩, fun y => absurd y no, fun _ => ?_⟩
  rw [hr0, pr0, pr1, p8, p9, pn8, pn9, nO, nP, iO, iP, Int.toNat_natCast, show ((i : Int) + 1) = ((i + 1 : Nat) : Int) by omega, show ((pc : Int) + 1) = ((pc + 1 : Nat) : Int) by omega]
  have io : i32 (mI M0 O pc) := by rw [← iO]; exact (ok _ _).1
  have ix : i32 (mI M0 P pc) := by rw [← iP]; exact (ok _ _).1
  refine ⟨k0, pk, kO, by omega, kP, by omega, fun o0 => absurd o0 (by omega), fun _ => ⟨fun o3 => absurd o3 (by omega), fun _ => ⟨fun o4 => absurd o4 (by omega), fun _ => ⟨fun o5 => absurd o5 (by omega), fun _ => ⟨fun o7 => absurd o7 (by omega), fun _ => ⟨fun o30 => absurd o30 (by omega), fun _ => ⟨fun o33 => absurd o33 (by omega), fun _ => ⟨fun o42 => absurd o42 (by omega), fun _ => (hc io ix).mono (fun r M' q => ?_)⟩⟩⟩⟩⟩⟩⟩⟩
  obtain ⟨q1, q2⟩ := q
  rcases q1 with ⟨e1, w0, w1, w2, t2, w3⟩ | ⟨e1, w0, w1, w2, w3⟩
  · rw [e1]
    exact ⟨i32s (by omega) (by omega), w3.pile.1, fun _ => flt w0 M' w1 w2 ⟨t2, w3⟩ q2, fun u => absurd rfl u⟩
  · rw [e1]
    exact ⟨i32s (by omega) (by omega), w1.pile.1, fun u => absurd u (by decide), fun _ => next w0 M' w1 q2 w2 w3⟩
end RUX
