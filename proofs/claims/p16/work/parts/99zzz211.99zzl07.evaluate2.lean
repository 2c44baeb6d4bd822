/-! The class's Solver: the numbers of what is chosen. -/
section NBT
variable {G : mG} {d s g a R cn cc bc i k n c un x y mu : Nat} {M M0 M' M1 M2 M3 : mM} {L : List Nat} {W : Nat → Nat}
def Cev (s x : Nat) : Prop := S36 (s + 31) x ∨ x = s + 32
theorem Cev.so {R' : Nat} (h : Cev s x) : Cso s M R' n x := h.elim (fun u => Or.inr (Or.inr (Or.inl u))) (fun u => Or.inr (Or.inr (Or.inr (Or.inl u))))
theorem Cev.nst (h : Cev s x) : ¬ Stb s x := by
  unfold Cev S36 at h
  unfold Stb
  omega
/-- while numbers are worked out -/
def evI (L : List Nat) (W : Nat → Nat) (s g a R k cn cc bc : Nat) (M0 M : mM) : Prop := NX L W (Tso s M0 R cn) (Cev s) False (s + 1) M0 M ∧ Sva L W s g a R k cn cc bc M ∧ mR M R = mR M0 R ∧ (∀ x, Stb s x → mI M x = mI M0 x) ∧ Rsm M R cn 17 ∧ (∀ i, i < cn → mI M (mR M0 R i) = mI M0 (mR M0 R i)) ∧ ∀ i, i ≤ 9 → mI M (g + i) = mI M0 (g + i)
theorem ev_mk (h : Sva L W s g a R k cn cc bc M0) (hcn : cn ≤ k) (q : NX L W (Tso s M0 R cn) (Cev s) False (s + 1) M0 M) (hr : Rsm M R cn 17) : evI L W s g a R k cn cc bc M0 M := by
  have hF := h.2.1.1
  have q' : NX L W (Tso s M0 R cn) (Cso s M0 R cn) False (s + 1) M0 M := q.mono hF (fun _ u => u) (h.tl hcn) (fun x u => u.so) (h.cl hcn) (fun u => u)
  obtain ⟨e1, e2, e3⟩ := h.nx hcn q' (q.sk hF h.2.1.2.1)
  refine ⟨q, e1, e3, fun x hx => ?_, hr, fun i hi => ?_, e2⟩
  · have ne : x ≠ s + 1 := by unfold Stb at hx; omega
    exact (q.oth (h.2.2.1 x hx) ne).2.2.2 (fun u => u.nst hx)
  · have f := h.2.2.2.2.1.2.2.2.2.2 i (by omega)
    refine (q.frl hF f).2 (fun u => ?_)
    have := h.2.2.2.2.2.1 i (by omega)
    unfold Cev S36 at u
    omega
/-- one row's numbers -/
theorem s_ev226 (h0 : Sva L W s g a R k cn cc bc M0) (hcn : cn ≤ k) (hk : k ≤ 512) (hU0 : Unk M0 s cn un) (hWr : ∀ i, i < k → 17 ≤ W (mR M0 R i + 1) ∧ 17 ≤ W (mR M0 R i + 3)) : ∀ (t i : Nat) (M : mM), un ≤ i + t → i ≤ un → evI L W s g a R k cn cc bc M0 M → (∀ j, j ≤ un → nv M (s + 31 + 9 + 2 * j) < 2 ^ (30 * 17)) → h_So_evaluate_226 G (d + 1) s a i M (evI L W s g a R k cn cc bc M0) := by
  obtain ⟨u1, u2, u3, u4⟩ := id hU0
  intro t
  induction t with
  | zero =>
    intro i M h1 h2 hI hv
    have ei : i = un := by omega
    subst ei
    obtain ⟨-, ⟨⟨o, ⟨⟨s0, -⟩, -⟩, -⟩, -⟩, -, st, -⟩ := id hI
    refine k_So_evaluate_226 o ⟨by omega, by omega⟩ ?_
    rw [st s (Or.inl rfl), u1]
    exact ⟨s0, fun _ => hI, fun u => absurd (Int.le_refl _) u⟩
  | succ t ih =>
    intro i M h1 h2 hI hv
    by_cases ei : i = un
    · exact ih i M (by omega) h2 hI hv
    obtain ⟨hN, hS, eR, st, hr, hti, gi⟩ := id hI
    obtain ⟨⟨o, ⟨⟨s0, gs⟩, ⟨-, -, -, -, r4, -, -, -, r8, -⟩, ⟨-, -, -, -, -, k8, -⟩, ⟨-, -, -, -, -, n8, -⟩⟩, -⟩, ⟨hF, hSK, hRs, hfw⟩, -, -, ⟨t1, t2, t3, t4, -, t7⟩, hrow, hD⟩ := id hS
    obtain ⟨⟨e0, ⟨-, re, -⟩, ⟨-, ke, -⟩, ⟨-, ne, -⟩⟩, -, res, -⟩ := id hRs
    have re' : mR M (s + 31) 1 = s + 33 := re
    have ke' : mK M (s + 33) = 34 := ke
    have ne' : mN M (s + 33) = 41 := ne
    have resI := res i (by omega)
    have resU := res un (by omega)
    have res1 : mR M (s + 33) i = s + 31 + 9 + 2 * i := resI.1
    have res2 : ∀ {M'}, mR M' (s + 33) = mR M (s + 33) → mR M' (s + 33) un = s + 31 + 9 + 2 * un := fun e => by rw [e]; exact resU.1
    obtain ⟨kst, c, lo, hi', e1, hkc, -⟩ := u4 i (by omega)
    have e1' : mI M (s + 125) i = ((kst : Nat) : Int) := by rw [st (s + 125) (Or.inr (Or.inr (Or.inr (Or.inr (Or.inr (Or.inr (Or.inl rfl)))))))]; exact e1
    have f := t7 kst (by omega)
    have fb := hrow kst (by omega)
    have wr := hWr kst (by omega)
    rw [← eR] at wr
    have sI := hF.szv resI.2 (hv i (by omega))
    have sU := hF.szv resU.2 (hv un (Nat.le_refl _))
    refine k_So_evaluate_226 o ⟨by omega, by omega⟩ ?_
    rw [st s (Or.inl rfl), u1, r8, n8, t2, t4, r4, re', ne', Int.toNat_natCast, e1', Int.toNat_natCast, res1, f.1.2.1.1]
    refine ⟨s0, fun u => absurd u (by omega), fun _ => ⟨t1, k8, ⟨by omega, by omega⟩, t3, ⟨by omega, by omega⟩, f.1.1, e0, ke', ⟨by omega, by omega⟩, hF.kd f.2.1, (f_put1 (d := d) o hF f.2.1 resI.2 (by omega) (by omega)).mono (fun M83 q => ?_)⟩⟩
    obtain ⟨c1, v1⟩ := q
    have F1 := c1.nf
    have z9 := hS.z9
    have x1 : NX L W (Tso s M0 R cn) (Cev s) False (s + 1) M M83 := (c1.nx (C := Cev s) (r := False) (fun x u => hS.cl (n := cn) hcn x u.so) z9).mono hF (fun t ht => Or.inr (Or.inr (Or.inr ⟨kst, hkc, Or.inl (by rw [← eR]; exact ht)⟩))) hN.2.1.1 (fun _ u => u) (fun x u => hS.cl (n := cn) hcn x u.so) (fun u => u)
    have N1 := hN.trans x1
    have S1 := (ev_mk h0 hcn N1 (M := M83) (fun j hj => ?_)).2.1
    · obtain ⟨⟨o1, ⟨⟨s01, -⟩, ⟨-, -, -, -, r41, -⟩, -⟩, -⟩, ⟨-, -, hRs1, -⟩, -, -, ⟨-, -, -, -, -, t71⟩, -, -⟩ := id S1
      obtain ⟨⟨e01, ⟨-, re1, -⟩, ⟨-, ke1, -⟩, ⟨-, ne1, -⟩⟩, -, res1', -⟩ := id hRs1
      have re1' : mR M83 (s + 31) 1 = s + 33 := re1
      have ke1' : mK M83 (s + 33) = 34 := ke1
      have ne1' : mN M83 (s + 33) = 41 := ne1
      have rU1 : mR M83 (s + 33) un = s + 31 + 9 + 2 * un := (res1' un (by omega)).1
      have i10 : mI M83 s 10 = ((un : Nat) : Int) := by rw [(c1.oth (hS.2.2.1 s (Or.inl rfl))).2.2.2, st s (Or.inl rfl)]; exact u1
      have fr1 := (c1.nl (I := fun _ => False) (r := False) noI z9).frl hF f
      have sU1 : sz M83 (s + 31 + 9 + 2 * un) ≤ 17 := by rw [(c1.num hF resU.2 (show ¬ (s + 31 + 9 + 2 * un = mR M R kst + 1) by omega)).2.2.2.1]; exact sU
      rw [r41, re1', ne1', i10, Int.toNat_natCast, rU1, fr1.1.2.1.2]
      refine ⟨c1.ok, fr1.1.1, s01, e01, ke1', ⟨by omega, by omega⟩, F1.kd f.2.2, (f_put1 (d := d) c1.ok F1 f.2.2 resU.2 (by omega) (by omega)).mono (fun M92 q => ?_)⟩
      obtain ⟨c2, v2⟩ := q
      have x2 : NX L W (Tso s M0 R cn) (Cev s) False (s + 1) M83 M92 := (c2.nx (C := Cev s) (r := False) (fun x u => S1.cl (n := cn) hcn x u.so) S1.z9).mono F1 (fun t ht => Or.inr (Or.inr (Or.inr ⟨kst, hkc, Or.inr (by rw [← eR]; exact ht)⟩))) hN.2.1.1 (fun _ u => u) (fun x u => S1.cl (n := cn) hcn x u.so) (fun u => u)
      have eR2 : mR M92 R = mR M R := by
        rw [(c2.oth S1.2.2.2.2.1.2.2.2.2.1.2).2.2.1, (c1.oth hS.2.2.2.2.1.2.2.2.2.1.2).2.2.1]
      have keep : ∀ b, b ∈ L → b ≠ mR M R kst + 1 → b ≠ mR M R kst + 3 → nv M92 b = nv M b := fun b hb n1 n3 => (c2.v F1 hb n3).trans (c1.v hF hb n1)
      rw [show ((i : Int) + 1) = ((i + 1 : Nat) : Int) by omega]
      refine ⟨c2.ok, ih (i + 1) M92 (by omega) (by omega) (ev_mk h0 hcn (N1.trans x2) (fun j hj => ?_)) (fun j hj => by rw [keep _ (res j (by omega)).2 (by omega) (by omega)]; exact hv j hj)⟩
      rw [eR2]
      by_cases cj : j = kst
      · rw [cj, v2, c1.v hF resU.2 (by omega), c2.v F1 f.2.1 (by omega), v1]
        exact ⟨hF.nn0 resU.2, hv un (Nat.le_refl _), hv i (by omega)⟩
      · have dj := hD j kst (by omega) (by omega) cj
        have fj := t7 j (by omega)
        rw [keep _ fj.2.1 (fun u => dj.1 (by omega)) dj.2.1, keep _ fj.2.2 dj.2.2 (fun u => dj.1 (by omega))]
        exact hr j hj
    · rw [(c1.oth hS.2.2.2.2.1.2.2.2.2.1.2).2.2.1]
      by_cases cj : j = kst
      · rw [cj, v1, c1.v hF f.2.2 (by omega)]
        exact ⟨(hr kst hkc).1, (hr kst hkc).2.1, hv i (by omega)⟩
      · have dj := hD j kst (by omega) (by omega) cj
        have fj := t7 j (by omega)
        rw [c1.v hF fj.2.1 (fun u => dj.1 (by omega)), c1.v hF fj.2.2 dj.2.2]
        exact hr j hj
theorem s_So_evaluate {wt : Nat → Nat} (h : Sva L W s g a R k cn cc bc M) (hcn : cn ≤ k) (hk : k ≤ 512) (hL : LHs M s cn cc) (hU : Unk M s cn un) (hwt : ∀ i, i < un → wtO M s g i (wt i) ∧ wt i ≤ 33) (h480 : wsu wt un ≤ 480) (hr : Rsm M R cn 17) (hWr : ∀ i, i < k → 17 ≤ W (mR M R i + 1) ∧ 17 ≤ W (mR M R i + 3)) (hW : ∀ x, Trs (s + 31) x → 40 ≤ W x) : Cv G y_So_evaluate (d + 6) [vr s, vr a] M (evI L W s g a R k cn cc bc M) := by
  obtain ⟨hg, ⟨hF, hSK, hRs, hfw⟩, hSt, -⟩ := id h
  obtain ⟨o, ⟨⟨s0, gs⟩, ⟨-, -, -, -, r4, -⟩, -⟩, -⟩ := id hg
  obtain ⟨⟨e0, ⟨re, -⟩, ⟨ke, -⟩, ⟨ne, -⟩⟩, oe, -⟩ := id hRs
  have re' : mR M (s + 31) 0 = s + 32 := re
  have ke' : mK M (s + 32) = 30 := ke
  have ne' : mN M (s + 32) = 1640 := ne
  have nS : ∀ i, i ≤ 9 → ¬ (fun z => z = s + 32) (g + i) := fun i hi u => by have u' : g + i = s + 32 := u; omega
  have c32 : ∀ x, (fun z => z = s + 32) x → Oc L M x := fun x u => by rw [u]; exact oe 1 (by decide)
  refine k_So_evaluate o ?_
  rw [r4, re']
  refine ⟨s0, e0, (s_JA_fill (d := d + 5) o ke' (by rw [ne']; decide) ⟨by decide, by decide⟩).mono (fun M3 q => ?_)⟩
  obtain ⟨o3, f3, i3⟩ := q
  rw [ne'] at i3
  have keepF : ∀ {x : Nat}, x ≠ s + 32 → mI M3 x = mI M x := fun hx => f3.2.2.2.2.2.2 _ hx
  refine ⟨o3, s_ev15 (M := M3) (wt := wt) (un := un) (a := a) (hg.fi f3 o3 nS) (hRs.1.fi f3) (fun j hj => by rw [keepF (show s + 122 ≠ s + 32 by omega), keepF (show s + 123 ≠ s + 32 by omega)]; exact hL j hj) ?_ ?_ (fun M' bits o' F' en hb => ?_) un 0 0 M3 (by omega) (by omega) o3 FI.refl (fun j hj => by show -1000000000 ≤ mI M3 (s + 32) j ∧ mI M3 (s + 32) j ≤ 1000000000; rw [i3 j hj]; decide) (fun j _ hj => i3 j hj) (Nat.zero_le _) (Nat.zero_le _)⟩
  · unfold Unk Slo at hU ⊢
    rw [keepF (show s ≠ s + 32 by omega), keepF (show s + 124 ≠ s + 32 by omega), keepF (show s + 125 ≠ s + 32 by omega), keepF (show s + 126 ≠ s + 32 by omega), keepF (show s + 122 ≠ s + 32 by omega), keepF (show s + 123 ≠ s + 32 by omega)]
    exact hU
  · intro i hi
    have := hwt i hi
    unfold wtO at this ⊢
    rw [keepF (show s + 125 ≠ s + 32 by omega), keepF (show s + 122 ≠ s + 32 by omega), keepF (show s + 123 ≠ s + 32 by omega), keepF (fun u => nS 6 (by decide) u)]
    exact this
  · have FF := f3.trans F'
    have i10 : mI M' s 10 = ((un : Nat) : Int) := by rw [FF.2.2.2.2.2.2 s (show ¬ s = s + 32 by omega)]; exact hU.1
    obtain ⟨x0, v0⟩ := FF.nx (T := Tso s M R cn) (r := False) (z := s + 1) o' hF (h.tl hcn) c32 h.z9
    have xE : NX L W (Tso s M R cn) (Cev s) False (s + 1) M M' := x0.mono hF (fun _ u => u) (h.tl hcn) (fun x u => Or.inr u) (fun x u => h.cl (n := cn) hcn x u.so) (fun u => u)
    have E' := ev_mk h hcn xE (fun j hj => ?_)
    · obtain ⟨-, ⟨-, ⟨hF', -, hRs', -⟩, -⟩, -⟩ := id E'
      rw [FF.1, FF.2.2.1, r4, i10]
      refine ⟨e0, (s_Re_settle (d := d) (rows := un) (bits := bits) (L := L) (W := W) hU.2.1 (by omega) o' hF' hRs' (fun j hj => en j (by have := hU.2.1; omega)) hW).mono (fun M10 q => ?_)⟩
      obtain ⟨n10, k10, v10⟩ := q
      have S' := E'.2.1
      have x10 : NX L W (Tso s M R cn) (Cev s) False (s + 1) M' M10 := (n10.nx hRs' S'.z9).mono hF' (fun t ht => Or.inr (Or.inl ht)) xE.2.1.1 (fun x u => Or.inl u) (fun x u => S'.cl (n := cn) hcn x u.so) (fun u => u)
      have X10 := xE.trans x10
      refine ⟨n10.ok, s_ev226 (d := d + 4) h hcn hk hU hWr un 0 M10 (by omega) (by omega) (ev_mk h hcn X10 (fun j hj => ?_)) (fun j hj => Int.lt_of_lt_of_le (v10 j hj) (by rw [show 30 * 17 = 510 by decide]; exact p2m (by omega)))⟩
      have f := h.2.2.2.2.1.2.2.2.2.2 j (by omega)
      have hb' := h.2.2.2.2.2.1 j (by omega)
      have nT : ∀ y, s + 134 < y → ¬ Trs (s + 31) y := fun y hy u => by
        rcases u with u | ⟨i, hi, u⟩ <;> omega
      have eR10 : mR M10 R = mR M R := by
        have nR : R ≠ s + 1 := fun u => by have t3 := h.2.2.2.2.1.2.2.1; rw [u, h.z9.2] at t3; omega
        exact (X10.oth h.2.2.2.2.1.2.2.2.2.1.2 nR).2.2.1
      have kx : ∀ b, b ∈ L → s + 134 < b → nv M10 b = nv M b := fun b hb hb2 => by
        rw [((n10.nx hRs' S'.z9).num hF' hb (nT b hb2)).2.2, v0 b hb]
      rw [eR10, kx _ f.2.1 (by omega), kx _ f.2.2 (by omega)]
      exact hr j hj
    · have f := h.2.2.2.2.1.2.2.2.2.2 j (by omega)
      rw [FF.2.2.1, v0 _ f.2.1, v0 _ f.2.2]
      exact hr j hj
end NBT
