section
/-! The class at rest: solve, judge, check, within, compare, billionths, print. -/
section NCY
variable {G : mG} {d t x n cn cc bc T Kt N A B D Cw p O P K p' O' P' K' Ab Be Cm U Ag Bg Cg Ps Pc : Nat} {M M' M1 : mM} {Z Y C : Nat → Prop} {v v' R k Rn kn : Nat → Nat} {Ls L L' : List Nat} {c9 c8 : tG9}
/-- cells of the top that are no numbers -/
theorem CJ.top (hj : CJ c9 C n t Ps Pc T Kt N A B D Cw p O P K p' O' P' K' Ab Be Cm U Ag Bg Cg cn cc bc Ls v R k Z M) : (¬ Z t ∧ ¬ Z (t + 235)) ∧ (t < mZ M ∧ t + 235 < mZ M) ∧ mI M (t + 62) 0 = ((cn : Nat) : Int) := by
  obtain ⟨z1, z2, -⟩ := hj.2.2.2.2.1.nz
  obtain ⟨c1, -⟩ := hj.2.2.2.2.1.oc
  exact ⟨⟨z1 t (by omega) (by omega), z2⟩, ⟨(c1 t (by omega) (by omega)).2, (c1 _ (by omega) (by omega)).2⟩, hj.tg.2.2.2.cnt.1⟩
theorem CJ.go0 (hj : CJ c9 C n t Ps Pc T Kt N A B D Cw p O P K p' O' P' K' Ab Be Cm U Ag Bg Cg cn cc bc Ls v R k Z M) (N1 : Nms L' (Wt t) (t + 85) (t + 62) (t + 236) cn cc bc v Rn kn M') (P1 : Sp Z (t + 85) v M M' L' Rn kn) (Q1 : Rq Ls k M L' kn M') (f2 : mI M' (v 2) = mI M (v 2)) (ch : mI M' (v 0) 1 ≠ 0 → Chs M' (t + 85) (t + 62) cn) : (cQ0 c9 C n t Ps Pc M M' ∧ sE0 M M' t) ∧ mR M' t = mR M t := by
  obtain ⟨⟨z1, z2⟩, ⟨l1, l2⟩, -⟩ := hj.top
  have jn := hj.2.2.2.1
  obtain ⟨-, e1, e2⟩ := (P1.1.2 t l1).2.2 z1
  exact ⟨hj.num N1.cnt.2.2.2 P1.1.yn (fun i _ => by rw [e1]) (by rw [e2]) (by rw [e2]) (by rw [e2]) (by rw [e2]) (jn.step ⟨z1, z2⟩ l2 P1.1 N1 P1.2 (by rw [f2]; exact jn.2.2.2.1) ch Q1) Q1, e1⟩
theorem CJ.go (hj : CJ c9 C n t Ps Pc T Kt N A B D Cw p O P K p' O' P' K' Ab Be Cm U Ag Bg Cg cn cc bc Ls v R k Z M) (N1 : Nms L' (Wt t) (t + 85) (t + 62) (t + 236) cn cc bc v Rn kn M') (P1 : Sp Z (t + 85) v M M' L' Rn kn) (Q1 : Rq Ls k M L' kn M') (f2 : mI M' (v 2) = mI M (v 2)) (ch : mI M' (v 0) 1 ≠ 0 → Chs M' (t + 85) (t + 62) cn) (kv : mI M' (v 0) 1 = mI M (v 0) 1) : cQ c9 C n t Ps Pc M M' := by
  obtain ⟨⟨a1, a2⟩, a3⟩ := hj.go0 N1 P1 Q1 f2 ch
  exact ⟨a1, a2.kn (hj.knf (by rw [a3]) kv)⟩
theorem c_CA_solve (h : CI c9 C n t Ps Pc M) (c0 : mI M (t + 62) 0 ≠ 0) : Ci G y_CA_solve (d + 9) [vr t] M (fun r M' => i32 r ∧ (cQ0 c9 C n t Ps Pc M M' ∧ sE0 M M' t ∧ mI M' (mR M' t 11) 1 = if r = 0 then 1 else 0) ∧ (kdT (xtm M (t + 62) (mI M (t + 62) 0).toNat) → svA9 (xtm M (t + 62) (mI M (t + 62) 0).toNat) r)) := by
  obtain ⟨T, Kt, N, A, B, D, Cw, p, O, P, K, p', O', P', K', Ab, Be, Cm, U, Ag, Bg, Cg, cn, cc, bc, Ls, v, R, k, Z, hj⟩ := h
  obtain ⟨⟨z1, z2⟩, -, e0⟩ := hj.top
  have jn := hj.2.2.2.1
  rw [e0] at c0
  refine (n_CA_solve (d := d) jn.1 jn.2.1 jn.2.2.1 z1 (by clear jn hj; omega) wt_r wt_s).mono (fun r M' q => ?_)
  obtain ⟨ix, ⟨L', Rn, kn, N1, P1, Q1, G1, V1⟩, ch, qsv, qk⟩ := q
  rw [e0, Int.toNat_natCast]
  obtain ⟨⟨a1, a2⟩, a3⟩ := hj.go0 N1 P1 Q1 (V1 2 (by decide) (by decide)) ch
  exact ⟨ix, ⟨a1, a2, by rw [a3, jn.2.2.1.2.2.1.1]; exact qk⟩, qsv⟩
theorem c_CA_judge {l : Int} (hl : l = 1 ∨ l = 2) (h : CI c9 C n t Ps Pc M) (c0 : mI M (t + 62) 0 ≠ 0) : Ci G y_CA_judge (d + 9) [vr t, vi l] M (fun r M' => i32 r ∧ cQ c9 C n t Ps Pc M M') := by
  obtain ⟨T, Kt, N, A, B, D, Cw, p, O, P, K, p', O', P', K', Ab, Be, Cm, U, Ag, Bg, Cg, cn, cc, bc, Ls, v, R, k, Z, hj⟩ := h
  obtain ⟨-, -, e0⟩ := hj.top
  have jn := hj.2.2.2.1
  rw [e0] at c0
  refine (n_CA_judge (d := d) hl jn.1 jn.2.1 jn.2.2.1 (by clear jn hj; omega) (tld_of hl hj.2.2.1.2.2.2.2.2.2.1) wt_r wt_s).mono (fun r M' q => ?_)
  obtain ⟨ix, ⟨L', Rn, kn, N1, P1, Q1, G1, V1⟩, e30⟩ := q
  refine ⟨ix, hj.go N1 P1 Q1 (V1 2 (by decide) (by decide)) (fun u => ?_) (by rw [V1 0 (by decide) (by decide)])⟩
  rw [V1 0 (by decide) (by decide)] at u
  exact chs_same (jn.2.2.2.2.1 u) e30 (G1 4 (by decide))
theorem c_CA_check (h : CI c9 C n t Ps Pc M) : Ci G y_CA_check (d + 8) [vr t] M (fun r M' => i32 r ∧ cQ c9 C n t Ps Pc M M') := by
  obtain ⟨T, Kt, N, A, B, D, Cw, p, O, P, K, p', O', P', K', Ab, Be, Cm, U, Ag, Bg, Cg, cn, cc, bc, Ls, v, R, k, Z, hj⟩ := id h
  have jn := hj.2.2.2.1
  refine (n_CA_check (d := d) jn.1 jn.2.1 jn.2.2.1 wt_s).mono (fun r M' q => ?_)
  obtain ⟨ix, q⟩ := q
  rcases q with e | ⟨⟨L', Rn, kn, N1, P1, Q1, G1, V1⟩, ev, e30⟩
  · exact h.rd ⟨e, ix⟩
  · refine ⟨ix, hj.go N1 P1 Q1 (V1 2 (by decide) (by decide)) (fun u => ?_) (by rw [ev])⟩
    rw [ev] at u
    exact chs_same (jn.2.2.2.2.1 u) e30 (G1 4 (by decide))
theorem c_CA_within {l : Int} (hl : 0 ≤ l ∧ l ≤ 32) (h : CI c9 C n t Ps Pc M) (c0 : mI M (t + 62) 0 ≠ 0) : Ci G y_CA_within (d + 9) [vr t, vi l] M (fun r M' => i32 r ∧ cQ c9 C n t Ps Pc M M' ∧ anA9 (xtm M (t + 62) (mI M (t + 62) 0).toNat) l.toNat r) := by
  obtain ⟨T, Kt, N, A, B, D, Cw, p, O, P, K, p', O', P', K', Ab, Be, Cm, U, Ag, Bg, Cg, cn, cc, bc, Ls, v, R, k, Z, hj⟩ := h
  obtain ⟨⟨z1, z2⟩, ⟨l1, l2⟩, e0⟩ := hj.top
  have jn := hj.2.2.2.1
  rw [e0] at c0
  refine (n_CA_within (d := d) hl jn.1 jn.2.1 jn.2.2.1 z1 (by clear jn hj; omega) jn.2.2.2.1 wt_r wt_s).mono (fun r M' q => ?_)
  obtain ⟨⟨ix, an⟩, v', L', Rn, kn, N1, tr, hv, f, cn', rq, ⟨g1, g2, g3, g4, g5⟩, f2, rt⟩ := q
  rw [e0, Int.toNat_natCast]
  obtain ⟨-, -, -, -, h5, ⟨h6, h6', h6z⟩, h7, h8⟩ := jn
  have sp := f.sm l2 (fun u => u.elim z2 (fun u => by omega))
  have r11 := hj.2.2.2.1.2.2.1.2.2.1.1
  have kf : knF M M' t := by
    unfold knF
    rw [tr.2.2.1.1, (vsw hv).1.1, g3, r11]
  refine ⟨ix, (fun q => ⟨q.1, q.2.kn kf⟩) (hj.num N1.cnt.2.2.2 (f.mono (fun x _ u => u.elim Or.inl (fun u => Or.inr (Or.inl u)))) (fun i hi => rt i (by omega) (by omega)) (by rw [g2]) (by rw [g2]) (by rw [g2]) (by rw [g2]) ⟨N1, cn', tr, f2, fun u => ?_, ⟨rq.2.2.2.1 _ h6, rq.2.2.2.2 _ h6', Or.inl h6z⟩, by unfold Pch; rw [sp.1, sp.2.1, sp.2.2.2]; exact h7, by rw [g2]; exact h8⟩ rq), an⟩
  rw [(vsw hv).1.1, g3] at u
  exact chs_same (h5 u) g5 (g1 4 (by decide))
/-- three tables to look at -/
theorem Ns.tv3 (h : Ns Z t Ls v R k cn cc bc M) : Tv3 Ls M t (t + 236) (v 0) (v 1) (v 3) (R 0) (R 1) (R 3) (k 0) (k 1) (k 3) cn := by
  obtain ⟨h1, -, h3, -⟩ := h
  have one : ∀ i, i < 4 → i ≠ 2 → Tv Ls M (t + 236) (v i) (R i) (k i) cn := fun i hi i2 => ⟨(h1.2.1.1 i hi).1, (h1.2.1.1 i hi).2.1, h1.2.2.2 i hi i2⟩
  exact ⟨⟨h3.2.2.1.1, h3.2.2.1.2.1, h3.2.2.1.2.2.2⟩, one 0 (by decide) (by decide), one 1 (by decide) (by decide), one 3 (by decide) (by decide)⟩
/-- a step of numbers that touches no table, in the class -/
theorem CJ.gox {Tn Cn' : Nat → Prop} (hj : CJ c9 C n t Ps Pc T Kt N A B D Cw p O P K p' O' P' K' Ab Be Cm U Ag Bg Cg cn cc bc Ls v R k Z M) (q : NX Ls (Wt t) Tn Cn' False (t + 85 + 1) M M') (hT : ∀ x, Tn x → x < t + 236) (hC : ∀ x, Cn' x → x = t ∨ x = t + 235 ∨ x = t + 230) (ti : ∀ i, i ≠ 18 → mI M' t i = mI M t i) (hp : (mK M' (t + 235) = 32 ∧ mN M' (t + 235) = 400 ∧ Pch M' (t + 235)) ∧ ∃ c : Nat, mI M' t 18 = ((c : Nat) : Int) ∧ c ≤ 400) : cQ c9 C n t Ps Pc M M' := by
  obtain ⟨⟨z1, z2⟩, ⟨l1, l2⟩, -⟩ := hj.top
  obtain ⟨zz, -⟩ := hj.2.2.2.2.1.nz
  obtain ⟨n1, n2, n3, n4, n5, ⟨n6, n6', n6z⟩, n7, n8⟩ := hj.2.2.2.1
  have hF := n1.1.2.1.1
  have nC : ∀ x, ¬ Z x → x ≠ t → x ≠ t + 235 → ¬ Cn' x := fun x a b c u => by
    rcases hC x u with w | w | w
    · exact b w
    · exact c w
    · rw [w] at a; exact a n6z
  have nv : ∀ j, j < 4 → ¬ Cn' (v j) := fun j hj u => by
    have zv := (n2.2.2.1 j hj).1
    have kv := (n1.2.1.1 j hj).1.1
    rcases hC _ u with w | w | w
    · rw [w] at zv; exact z1 zv
    · rw [w] at zv; exact z2 zv
    · rw [w, n6'.1.1] at kv; exact absurd kv (by decide)
  have ng : ∀ i, i ≤ 9 → ¬ Cn' (t + 62 + i) := fun i hi => nC _ (zz _ (by omega) (by omega)) (by omega) (by omega)
  have lt : ∀ x, Cn' x → x < t + 236 := fun x u => by have := hC x u; omega
  obtain ⟨N1, V1⟩ := n1.nxg q hT lt nv ng
  obtain ⟨c', f⟩ := q.cnu hF n2 n1.2.1
  have f' : FC (Yn Z t) M M' := f.mono (fun x _ u => by
    rcases u with u | u
    · exact Or.inl u
    · rcases hC x u with w | w | w
      · exact Or.inr (Or.inl w)
      · exact Or.inr (Or.inr w)
      · rw [w]; exact Or.inl n6z)
  have oct : Oc Ls M t := n2.oc l1 z1
  have rt : mR M' t = mR M t := (q.oth oct (by omega)).2.2.1
  have rq := q.rq (k := k) hF
  have g4 : mI M' (t + 62 + 4) = mI M (t + 62 + 4) := (q.oth (n1.1.2.2.2 4 (by decide)) (by omega)).2.2.2 (ng 4 (by decide))
  have s30 : mI M' (t + 85 + 30) = mI M (t + 85 + 30) := (q.oth (n1.1.2.2.1 _ st30) (by omega)).2.2.2 (fun u => by have := hC _ u; omega)
  refine (fun w => ⟨w.1, w.2.kn (hj.knf (by rw [rt]) (by rw [V1 0 (by decide)]))⟩) (hj.num q.ok f' (fun i _ => by rw [rt]) (ti 1 (by decide)) (ti 6 (by decide)) (ti 7 (by decide)) (ti 8 (by decide)) ⟨N1, c', n3.cg (q.kind l1) (fun i _ => by rw [rt]) f.1.1, by rw [V1 2 (by decide)]; exact n4, fun u => ?_, ⟨n6, rq.2.2.2.2 _ n6', Or.inl n6z⟩, hp.1, hp.2⟩ rq)
  rw [V1 0 (by decide)] at u
  exact chs_same (n5 u) s30 g4
theorem c_CA_compare {l1 l2 l3 l4 : Int} (i1 : i32 l1) (i2 : i32 l2) (i3 : i32 l3) (i4 : i32 l4) (h : CI c9 C n t Ps Pc M) : Ci G y_CA_compare (d + 6) [vr t, vi l1, vi l2, vi l3, vi l4] M (fun r M' => i32 r ∧ cQ c9 C n t Ps Pc M M') := by
  obtain ⟨T, Kt, N, A, B, D, Cw, p, O, P, K, p', O', P', K', Ab, Be, Cm, U, Ag, Bg, Cg, cn, cc, bc, Ls, v, R, k, Z, hj⟩ := id h
  obtain ⟨⟨z1, z2⟩, ⟨lt1, lt2⟩, -⟩ := hj.top
  have jn := hj.2.2.2.1
  have sk := jn.1.1.2.1.2.1
  have so := jn.1.1.1.2.1
  have hF := jn.1.1.2.1.1
  have w9 := wt_s (t := t) (t + 85 + 1 + 9) (by omega) (by omega)
  have w11 := wt_s (t := t) (t + 85 + 1 + 11) (by omega) (by omega)
  refine (s_CA_compare (d := d) (s := t + 85) (b := t + 236) i1 i2 i3 i4 hF sk hj.tg ⟨jn.2.2.1.2.1.2, so.1.1, so.2.1.1⟩ jn.tv3 (by omega) (by omega) (by omega)).mono (fun r M' q => ?_)
  obtain ⟨ix, q⟩ := q
  rcases q with e | q
  · exact h.rd ⟨e, ix⟩
  · have X := q.nx hF
    have ot := X.oth (jn.2.1.oc lt1 z1) (by omega)
    have op := X.oth (jn.2.1.oc lt2 z2) (by omega)
    obtain ⟨-, -, -, -, -, -, n7, n8⟩ := jn
    exact ⟨ix, hj.gox X (fun x u => by unfold Tor at u; omega) (fun x u => u.elim) (fun i _ => by rw [ot.2.2.2 (fun u => u)]) ⟨by unfold Pch; rw [op.1, op.2.1, op.2.2.2 (fun u => u)]; exact n7, by rw [ot.2.2.2 (fun u => u)]; exact n8⟩⟩
/-- the top's own numbers -/
theorem CJ.shn (hj : CJ c9 C n t Ps Pc T Kt N A B D Cw p O P K p' O' P' K' Ab Be Cm U Ag Bg Cg cn cc bc Ls v R k Z M) : Shn Ls M t (t + 85) (t + 228) (t + 230) (t + 236) ∧ Prt Ls M t (t + 235) (t + 228) := by
  obtain ⟨⟨z1, z2⟩, ⟨lt1, lt2⟩, -⟩ := hj.top
  have jn := hj.2.2.2.1
  have so := jn.1.1.1.2.1
  have os := jn.1.1.2.2.1 (t + 85) (Or.inl rfl)
  obtain ⟨n1, n2, n3, n4, n5, ⟨n6, n6', n6z⟩, n7, n8⟩ := jn
  have ot := n2.oc lt1 z1
  exact ⟨⟨⟨n3.1, n3.2.1.2, n3.2.2.2.1.1, n3.2.2.2.1.2.1⟩, ⟨so.1.1, so.2.1.1⟩, ⟨n6, n6'⟩, ⟨ot, os, by omega⟩, by omega, by omega, by omega⟩, ⟨n3.1, n3.2.2.2.1.1, n3.2.2.2.1.2.2⟩, ⟨n7.1, n7.2.1⟩, ⟨ot, n2.oc lt2 z2, by omega⟩, n6, n7.2.2⟩
theorem tsh_lo (h : Tsh (t + 85) (t + 228) (t + 230) x) : x < t + 236 := by unfold Tsh T4 at h; omega
theorem wt_h : ∀ x, t + 85 ≤ x → x < t + 236 → 300 ≤ Wt t x := fun x _ hx => by unfold Wt; rw [if_pos hx]; decide
theorem c_CA_billionths {l1 l2 : Int} (i1 : i32 l1) (i2 : i32 l2) (h : CI c9 C n t Ps Pc M) : Ci G y_CA_billionths (d + 5) [vr t, vi l1, vi l2] M (fun r M' => i32 r ∧ cQ c9 C n t Ps Pc M M') := by
  obtain ⟨T, Kt, N, A, B, D, Cw, p, O, P, K, p', O', P', K', Ab, Be, Cm, U, Ag, Bg, Cg, cn, cc, bc, Ls, v, R, k, Z, hj⟩ := id h
  obtain ⟨⟨z1, z2⟩, ⟨lt1, lt2⟩, -⟩ := hj.top
  have jn := hj.2.2.2.1
  have hF := jn.1.1.2.1.1
  have a1 := wt_h (t := t) (t + 228) (by omega) (by omega)
  have a2 := wt_h (t := t) (t + 230 + 1) (by omega) (by omega)
  have a3 := wt_h (t := t) (t + 230 + 3) (by omega) (by omega)
  have a4 := wt_h (t := t) (t + 85 + 1 + 5) (by omega) (by omega)
  have a5 := wt_h (t := t) (t + 85 + 1 + 7) (by omega) (by omega)
  refine (s_CA_billionths (d := d) i1 i2 hF jn.1.1.2.1.2.1 hj.tg hj.shn.1 jn.tv3 ⟨by omega, by omega, by omega, by omega, by omega⟩).mono (fun r M' q => ?_)
  obtain ⟨ix, q⟩ := q
  rcases q with e | X
  · exact h.rd ⟨e, ix⟩
  · have ot := X.oth (jn.2.1.oc lt1 z1) (by omega)
    have op := X.oth (jn.2.1.oc lt2 z2) (by omega)
    obtain ⟨-, -, -, -, -, -, n7, n8⟩ := jn
    have nt : ¬ (fun x => x = t + 230) t := fun u => by have u' : t = t + 230 := u; omega
    have np : ¬ (fun x => x = t + 230) (t + 235) := fun u => by have u' : t + 235 = t + 230 := u; omega
    exact ⟨ix, hj.gox X (fun x u => tsh_lo u) (fun x u => Or.inr (Or.inr u)) (fun i _ => by rw [ot.2.2.2 nt]) ⟨by unfold Pch; rw [op.1, op.2.1, op.2.2.2 np]; exact n7, by rw [ot.2.2.2 nt]; exact n8⟩⟩
theorem c_CA_print {l1 l2 : Int} (i1 : i32 l1) (i2 : i32 l2) (h : CI c9 C n t Ps Pc M) : Ci G y_CA_print (d + 6) [vr t, vi l1, vi l2] M (fun r M' => i32 r ∧ cQ c9 C n t Ps Pc M M') := by
  obtain ⟨T, Kt, N, A, B, D, Cw, p, O, P, K, p', O', P', K', Ab, Be, Cm, U, Ag, Bg, Cg, cn, cc, bc, Ls, v, R, k, Z, hj⟩ := id h
  have jn := hj.2.2.2.1
  have hF := jn.1.1.2.1.1
  have a1 := wt_h (t := t) (t + 228) (by omega) (by omega)
  refine (s_CA_print (d := d) i1 i2 hF jn.1.1.2.1.2.1 hj.tg hj.shn.1 hj.shn.2 jn.tv3 (fun x u => ?_) (by omega)).mono (fun r M' q => ?_)
  · have := wt_h (t := t) x (by unfold Tre T4 at u; omega) (by unfold Tre T4 at u; omega)
    omega
  obtain ⟨ix, q⟩ := q
  rcases q with e | ⟨X, pt, ⟨c, e18, c3⟩, ti⟩
  · exact h.rd ⟨e, ix⟩
  · exact ⟨ix, hj.gox X (fun x u => tsh_lo u) (fun x u => u) ti ⟨⟨pt.2.1.1, pt.2.1.2, pt.2.2.2.2⟩, c, e18, by omega⟩⟩
end NCY
end
section
/-! The class at rest: its game changes; choose, adopt. -/
section NCZ
variable {G : mG} {d t x n cn cc bc cn' cc' bc' T Kt N A B D Cw p O P K p' O' P' K' Ab Be Cm U Ag Bg Cg U1 Ag1 Bg1 Cg1 Ps Pc Ps1 Pc1 z : Nat} {M M' M1 : mM} {Z Y C C1 : Nat → Prop} {v v' R k Rn kn : Nat → Nat} {Ls L L' l1 l2 m m' : List Nat} {c9 c8 : tG9}
/-- a step and its room -/
def stp (C : Nat → Prop) (Ps Pc : Nat) (M : mM) (C1 : Nat → Prop) (Ps1 Pc1 : Nat) (M' : mM) : Prop := FC C M M' ∧ (∀ x, C1 x → C x ∨ (mZ M ≤ x ∧ x < mZ M')) ∧ mS M' + Ps ≤ mS M + Ps1 ∧ 64 * mZ M' + Pc ≤ 64 * mZ M + Pc1
/-- some cells of a list of cells are other ones -/
theorem nd_mid (h : (l1 ++ (m ++ l2)).Nodup) (h1 : ∀ x, x ∈ l1 → x < z) (h2 : ∀ x, x ∈ l2 → x < z) (hm : ∀ x, x ∈ m' → x ∈ m ∨ z ≤ x) (nd : m'.Nodup) : (l1 ++ (m' ++ l2)).Nodup := by
  rw [List.nodup_append, List.nodup_append] at h ⊢
  obtain ⟨a1, ⟨a2, a3, a4⟩, a5⟩ := h
  refine ⟨a1, ⟨nd, a3, fun x hx y hy e => ?_⟩, fun x hx y hy e => ?_⟩
  · rcases hm x hx with u | u
    · exact a4 x u y hy e
    · have := h2 y hy; omega
  · rcases List.mem_append.mp hy with u | u
    · rcases hm y u with w | w
      · exact a5 x hx y (List.mem_append.mpr (Or.inl w)) e
      · have := h1 x hx; omega
    · exact a5 x hx y (List.mem_append.mpr (Or.inr u)) e
/-- the numbers' side when the game is another -/
theorem Ns.game (h : Ns Z t Ls v R k cn cc bc M) (o : mOk M') (f : FC Y M M') (hY : ∀ x, Y x → ¬ Z x) (hp : ¬ Y (t + 235)) (zp : t + 235 < mZ M) (hr : ∀ i, 9 ≤ i → mR M' t i = mR M t i) (i18 : mI M' t 18 = mI M t 18) (gk : GK M' (t + 62)) (gt : GTT M' (t + 62) cn' cc' bc') (tk : ∀ i, i < 4 → i ≠ 2 → mI M (v i) 1 = 0 ∨ cn' = cn ∨ cn' = 0) (ch : mI M (v 0) 1 ≠ 0 → Chs M' (t + 85) (t + 62) cn') : Ns Z t Ls v R k cn' cc' bc' M' ∧ (Pn Ls k M' = Pn Ls k M ∧ Qn Ls k M' = Qn Ls k M) := by
  obtain ⟨h1, h2, h3, h4, h5, ⟨h6, h6', h6z⟩, h7, h8⟩ := h
  have nz : ∀ x, Z x → ¬ Y x := fun x a b => hY x b a
  have bz := h1.2.2.1
  have ks := f.ks h1 (fun x u => Or.inl (nz x (zm_in h2 x u)))
  have vI : ∀ i, i < 4 → mI M' (v i) = mI M (v i) := fun i hi => (f.sm (h1.2.1.1 i hi).1.2.2.2.2.1.1.1 (nz _ (h2.2.2.1 i hi).1)).2.2.2
  have sp := f.sm zp hp
  obtain ⟨N, cps⟩ := h1.keep ks ⟨o, h1.1.1.2.1.sm ks.2.1, gk.gk9.1, gk.gk9.2, gt⟩ (fun i hi i2 => (tk i hi i2).imp (fun e => by rw [vI i hi]; exact e) (fun e => e.imp (fun e => ⟨by rw [vI i hi], e⟩) id))
  exact ⟨⟨N, ks.cnu f h2, h3.cg (f.2 t h3.2.2.2.2).1 hr f.1.1, by rw [vI 2 (by decide)]; exact h4, fun u => ch (by rw [← vI 0 (by decide)]; exact u), ⟨h6, h6'.sm (f.sm h6'.1.2.2 (nz _ h6z)) f.1.1, h6z⟩, by unfold Pch; rw [sp.1, sp.2.1, sp.2.2.2]; exact h7, by rw [i18]; exact h8⟩, pn_cg cps⟩
/-- cells of the game and of the top -/
def Yg (t Ag Bg x : Nat) : Prop := x = t ∨ (t + 62 ≤ x ∧ x < t + 85) ∨ x = Ag ∨ x = Bg
theorem nd9g {T A B D O P O' P' Ab Be Ag Bg : Nat} (nd : [T, A, B, D, O, P, O', P', Ab, Be, Ag, Bg].Nodup) : (T ≠ Ag ∧ T ≠ Bg) ∧ (O ≠ Ag ∧ O ≠ Bg) ∧ (P ≠ Ag ∧ P ≠ Bg) := by
  simp only [List.nodup_cons, List.mem_cons, not_or, List.not_mem_nil, not_false_eq_true, and_true] at nd
  obtain ⟨⟨-, -, -, -, -, -, -, -, -, t1, t2⟩, -, -, -, ⟨-, -, -, -, -, o1, o2⟩, ⟨-, -, -, -, p1, p2⟩, -⟩ := nd
  exact ⟨⟨t1, t2⟩, ⟨o1, o2⟩, p1, p2⟩
theorem yl1 {t A B x : Nat} (pA : A = t + 72 + 3 ∨ t + 236 ≤ A) (pB : B = t + 72 + 4 ∨ t + 236 ≤ B) (h : (t + 2 ≤ x ∧ x < t + 62) ∨ (t + 85 ≤ x ∧ x < t + 236)) (u : x = t ∨ (t + 62 ≤ x ∧ x < t + 85) ∨ x = A ∨ x = B) : False := by
  rcases u with u | u | u | u
  · clear pA pB; omega
  · clear pA pB; omega
  · clear pB; omega
  · clear pA; omega
theorem yl2 {t A B x : Nat} (h : x ≠ t ∧ ¬ (t + 62 ≤ x ∧ x < t + 85)) (a : x ≠ A ∧ x ≠ B) (u : x = t ∨ (t + 62 ≤ x ∧ x < t + 85) ∨ x = A ∨ x = B) : False := by
  rcases u with u | u | u | u
  · exact h.1 u
  · exact h.2 u
  · exact a.1 u
  · exact a.2 u
theorem yl3 {t x : Nat} (h : x = t + 1 ∨ t + 236 ≤ x) : x ≠ t ∧ ¬ (t + 62 ≤ x ∧ x < t + 85) := by omega
theorem yl4 {t p p' O i : Nat} (o : O = p + i ∨ t + 236 ≤ O) (hi : i ≤ 2) (pp : (p = t + 30 ∧ p' = t + 46) ∨ (p = t + 46 ∧ p' = t + 30)) : O ≠ t ∧ ¬ (t + 62 ≤ O ∧ O < t + 85) := by omega
theorem yg_lo (h : Ap Z C t T A B D O P O' P' Ab Be Ag Bg M) (hx : Tx c9 t T Kt N A B D Cw p O P K p' O' P' K' Ab Be Cm M) (hm : MK M (t + 236) (t + 72) U Ag Bg Cg) : (∀ x, t + 2 ≤ x → x < t + 62 → ¬ Yg t Ag Bg x) ∧ (¬ Yg t Ag Bg T ∧ ¬ Yg t Ag Bg O ∧ ¬ Yg t Ag Bg P) ∧ (∀ x, Yg t Ag Bg x → C x ∧ ¬ Z x) ∧ ¬ Yg t Ag Bg (t + 235) ∧ (∀ x, t + 85 ≤ x → x < t + 236 → ¬ Yg t Ag Bg x) := by
  obtain ⟨z1, -⟩ := h.nz
  obtain ⟨c1, c2, c3⟩ := h.oc
  have o4 := hx.2.2.2.2.1.2.2.2.1
  have pp := hx.2.2.2.2.2.1
  have pT := h.2.2.1.1
  have ab := hm.2.2.2.2.2.1
  have hn := h.1
  have nd := h.2.1
  clear hx hm
  obtain ⟨a1, a2, a3⟩ := nd9g nd
  obtain ⟨b1, b2, -⟩ := ab
  clear nd h
  unfold Yg
  refine ⟨fun x a b u => yl1 b1 b2 (Or.inl ⟨a, b⟩) u, ⟨fun u => yl2 (yl3 pT) a1 u, fun u => yl2 (yl4 o4.1 (by decide) pp) a2 u, fun u => yl2 (yl4 o4.2.1 (by decide) pp) a3 u⟩, fun x u => ?_, fun u => yl1 b1 b2 (Or.inr ⟨by omega, by omega⟩) u, fun x a b u => yl1 b1 b2 (Or.inr ⟨a, b⟩) u⟩
  rcases u with u | u | u | u
  · rw [u]; exact ⟨(c1 t (by omega) (by omega)).1, z1 t (by omega) (by omega)⟩
  · exact ⟨(c1 x (by omega) (by omega)).1, z1 x (by omega) (by omega)⟩
  · rw [u]; exact ⟨(c3 Ag (by simp)).1, hn _ (Or.inr (Or.inr (by simp)))⟩
  · rw [u]; exact ⟨(c3 Bg (by simp)).1, hn _ (Or.inr (Or.inr (by simp)))⟩
/-- the game's arrays may be new -/
theorem Ap.game (h : Ap Z C t T A B D O P O' P' Ab Be Ag Bg M) (hz : mZ M ≤ mZ M') (e1 : Ag1 = Ag ∨ (mZ M ≤ Ag1)) (e2 : Bg1 = Bg ∨ (mZ M ≤ Bg1)) (z1 : Ag1 < mZ M' ∧ Bg1 < mZ M') (ne : Ag1 ≠ Bg1) : Ap Z (Zn C M M') t T A B D O P O' P' Ab Be Ag1 Bg1 M' := by
  obtain ⟨c1, c2, c3⟩ := h.oc
  have nd : ([T, A, B, D, O, P, O', P', Ab, Be] ++ ([Ag, Bg] ++ [])).Nodup := h.2.1
  have nd' : ([T, A, B, D, O, P, O', P', Ab, Be] ++ ([Ag1, Bg1] ++ [])).Nodup := nd_mid nd (z := mZ M) (fun x hx => (c3 x (List.mem_append.mpr (Or.inl hx) : x ∈ [T, A, B, D, O, P, O', P', Ab, Be] ++ [Ag, Bg])).2) (fun x hx => absurd hx List.not_mem_nil) (fun x hx => by
    rcases List.mem_cons.mp hx with u | u
    · rw [u]; exact e1.imp (fun e => by rw [e]; simp) id
    · rw [List.mem_singleton.mp u]; exact e2.imp (fun e => by rw [e]; simp) id) (by simp [ne])
  refine h.re hz nd' h.2.2.1 (fun x hx => ?_)
  rcases List.mem_append.mp (show x ∈ [T, A, B, D, O, P, O', P', Ab, Be] ++ [Ag1, Bg1] from hx) with u | u
  · exact Or.inl (List.mem_append.mpr (Or.inl u) : x ∈ [T, A, B, D, O, P, O', P', Ab, Be] ++ [Ag, Bg])
  · rcases List.mem_cons.mp u with u | u
    · rcases e1 with e | e
      · rw [u, e]; exact Or.inl (by simp)
      · rw [u]; exact Or.inr ⟨e, z1.1⟩
    · rcases e2 with e | e
      · rw [List.mem_singleton.mp u, e]; exact Or.inl (by simp)
      · rw [List.mem_singleton.mp u]; exact Or.inr ⟨e, z1.2⟩
theorem rmc_game {S1 : Nat} (h6 : Rmc Kt Cw K K' Cm Cg Ps Pc Ls k M) (pe : Pn Ls k M' = Pn Ls k M ∧ Qn Ls k M' = Qn Ls k M) (r1 : mS M' + 4 * Cg ≤ mS M + 4 * Cg1) (r2 : 64 * mZ M' + 2 * Cg ≤ 64 * mZ M + 2 * Cg1) : Rmc Kt Cw K K' Cm Cg1 (Ps + 4 * Cg1 - 4 * Cg) (Pc + 2 * Cg1 - 2 * Cg) Ls k M' ∧ mS M' + Ps ≤ mS M + (Ps + 4 * Cg1 - 4 * Cg) ∧ 64 * mZ M' + Pc ≤ 64 * mZ M + (Pc + 2 * Cg1 - 2 * Cg) := by
  unfold Rmc at h6 ⊢
  rw [pe.1, pe.2]
  exact ⟨⟨by omega, by omega, h6.2.2⟩, by omega, by omega⟩
/-- a step of the game, in the class -/
theorem CJ.game (hj : CJ c9 C n t Ps Pc T Kt N A B D Cw p O P K p' O' P' K' Ab Be Cm U Ag Bg Cg cn cc bc Ls v R k Z M) (o : mOk M') (f : FC (Yg t Ag Bg) M M') (rt : mR M' t = mR M t) (i1 : mI M' t 1 = mI M t 1) (i6 : mI M' t 6 = mI M t 6) (i18 : mI M' t 18 = mI M t 18) (gm : Gm t U1 Ag1 Bg1 Cg1 cn' cc' bc' (n + 1) M') (e1 : Ag1 = Ag ∨ mZ M ≤ Ag1) (e2 : Bg1 = Bg ∨ mZ M ≤ Bg1) (tk : ∀ i, i < 4 → i ≠ 2 → mI M (v i) 1 = 0 ∨ cn' = cn ∨ cn' = 0) (ch : mI M (v 0) 1 ≠ 0 → Chs M' (t + 85) (t + 62) cn') (r1 : mS M' + 4 * Cg ≤ mS M + 4 * Cg1) (r2 : 64 * mZ M' + 2 * Cg ≤ 64 * mZ M + 2 * Cg1) (tx6 : 1 ≤ cn' → mI M t 6 ≠ 0) : ∃ Ps1 Pc1, CJ c9 (Zn C M M') (n + 1) t Ps1 Pc1 T Kt N A B D Cw p O P K p' O' P' K' Ab Be Cm U1 Ag1 Bg1 Cg1 cn' cc' bc' Ls v R k Z M' ∧ stp C Ps Pc M (Zn C M M') Ps1 Pc1 M' := by
  obtain ⟨-, ⟨lt1, lt2⟩, -⟩ := hj.top
  obtain ⟨h1, h2, h3, h4, h5, h6, h7⟩ := hj
  obtain ⟨y1, ⟨y3, y4, y5⟩, y6, y7, y8⟩ := yg_lo h5 h2 h3.2.1
  have tx := h2.fc o f y1 y3 y4 y5 (fun i _ => by rw [rt]) i1 i6
  obtain ⟨ns, pq⟩ := h4.game o f (fun x u => (y6 x u).2) y7 lt2 (fun i _ => by rw [rt]) i18 gm.1 (gm.2.2.2.2.2.1.gtt gm.2.2.2.2.2.2.2) tk ch
  have mk := gm.2.1.2.2.2.2.2
  have ap := h5.game f.1.1 e1 e2 ⟨mk.2.1.2.1, mk.2.1.2.2.1⟩ mk.1.2.2.1
  obtain ⟨rm, s1, s2⟩ := rmc_game (S1 := 0) h6 pq r1 r2
  exact ⟨_, _, ⟨o, tx, gm, ns, ap, rm, by rw [i6]; exact tx6⟩, f.mono (fun x _ u => (y6 x u).1), fun x u => u, s1, s2⟩
theorem CJ.q (hj : CJ c9 C1 (n + 1) t Ps1 Pc1 T Kt N A B D Cw p O P K p' O' P' K' Ab Be Cm U Ag Bg Cg cn cc bc Ls v R k Z M') (s : stp C Ps Pc M C1 Ps1 Pc1 M') : cQ0 c9 C n t Ps Pc M M' := ⟨C1, Ps1, Pc1, ⟨T, Kt, N, A, B, D, Cw, p, O, P, K, p', O', P', K', Ab, Be, Cm, U, Ag, Bg, Cg, cn, cc, bc, Ls, v, R, k, Z, hj⟩, s⟩
/-- choices are told, in the class -/
theorem CJ.told (hj : CJ c9 C n t Ps Pc T Kt N A B D Cw p O P K p' O' P' K' Ab Be Cm U Ag Bg Cg cn cc bc Ls v R k Z M) (o : mOk M') (f : FI (fun x => x = t + 62 + 3) M M') (gs : 1 ≤ cn → GS M' (t + 62) (cn - 1)) : cQ c9 C n t Ps Pc M M' := by
  have fc : FC (Yg t Ag Bg) M M' := f.fc (fun x u => by have u' : x = t + 62 + 3 := u; unfold Yg; omega)
  have ne : ∀ x, x ≠ t + 65 → mI M' x = mI M x := fun x hx => f.2.2.2.2.2.2 x hx
  have et := ne t (by omega)
  have g3 := hj.2.2.1
  have jn := hj.2.2.2.1
  obtain ⟨g1, g2, g4, g5, g6, g7, g8, g9⟩ := g3.up
  obtain ⟨Ps1, Pc1, q1, q2⟩ := hj.game o fc (by rw [f.2.2.1]) (by rw [et]) (by rw [et]) (by rw [et]) ⟨g1.eq2 (fun i _ => ⟨by rw [f.1], by rw [f.2.1]⟩) (fun i _ => by rw [f.2.2.1]), g2.fi f (by rw [ne _ (by omega)]), g4, by rw [ne (t + 77) (by omega), ne (t + 72) (by omega)]; exact g5, by rw [ne (t + 72) (by omega)]; exact g6, g7.told f, gs, g9.1, fun j hj => by rw [ne _ (by omega)]; exact g9.2 j hj⟩ (Or.inl rfl) (Or.inl rfl) (fun _ _ _ => Or.inr (Or.inl rfl)) (fun u => chs_same (jn.2.2.2.2.1 u) (ne _ (by omega)) (ne _ (by omega))) (by rw [f.2.2.2.2.2.1]; exact Nat.le_refl _) (by rw [f.2.2.2.2.1]; exact Nat.le_refl _) hj.2.2.2.2.2.2
  have v65 : v 0 ≠ t + 65 := fun e => (hj.2.2.2.2.1.nz).1 (t + 65) (by omega) (by omega) (by rw [← e]; exact hj.vz)
  exact ⟨q1.q q2, by rw [et], by rw [et], by rw [et], fun i _ i3 => ne _ (by omega), hj.knf (by rw [f.2.2.1]) (by rw [ne _ v65])⟩
theorem c_CA_choose {l1 l2 : Int} (i1 : i32 l1) (i2 : i32 l2) (h : CI c9 C n t Ps Pc M) (hp : cmdP M (t + 62) (mI M (t + 62) 0).toNat l1 l2) : Cv G y_CA_choose (d + 2) [vr t, vi l1, vi l2] M (fun M' => cQ c9 C n t Ps Pc M M') := by
  obtain ⟨T, Kt, N, A, B, D, Cw, p, O, P, K, p', O', P', K', Ab, Be, Cm, U, Ag, Bg, Cg, cn, cc, bc, Ls, v, R, k, Z, hj⟩ := h
  obtain ⟨-, -, e0⟩ := hj.top
  rw [e0, Int.toNat_natCast] at hp
  exact (g_CA_choose (d := d) i1 i2 hj.tg hj.2.2.1.2.2.2.2.2.2.1 hp).mono (fun M' q => hj.told q.1 q.2.1 (fun _ => q.2.2))
theorem c_CA_adopt (h : CI c9 C n t Ps Pc M) (kn : mI M (mR M t 11) 1 ≠ 0) : Cv G y_CA_adopt (d + 1) [vr t] M (fun M' => cQ c9 C n t Ps Pc M M') := by
  obtain ⟨T, Kt, N, A, B, D, Cw, p, O, P, K, p', O', P', K', Ab, Be, Cm, U, Ag, Bg, Cg, cn, cc, bc, Ls, v, R, k, Z, hj⟩ := h
  have jn := hj.2.2.2.1
  rw [jn.2.2.1.2.2.1.1] at kn
  exact (g_CA_adopt (d := d) (s := t + 85) hj.tg hj.2.2.1.2.2.2.2.2.2.1 jn.2.2.1.2.1.2 jn.1.1.1.2.1 ⟨jn.2.2.1.2.2.1.1, (jn.1.2.1.1 0 (by decide)).1.1⟩ kn (jn.2.2.2.2.1 kn)).mono (fun M' q => hj.told q.1 q.2.1 q.2.2)
end NCZ
end
section
/-! The class's program tells a game: what exploring it comes to. -/
section PGD
variable {z g p O P K V F1 L cnt Ab Be : Nat} {M : mM} {ns1 : Nat → Int} {sf1 ef1 : Nat → Nat} {X9 : xR9}
theorem pgm_dc (pg : Pgm X9 M p O P) (hw : PW M z p O P K V F1 ns1 sf1 ef1 L cnt) (hO : ¬ gaS g Ab Be O) (hP : ¬ gaS g Ab Be P) : ∃ (F : Nat) (ns : Nat → Int) (sf ef : Nat → Nat) (W pl nq : Nat → Int) (sm : Nat → Nat → Prop) (N n : Nat) (nms : List nm9) (tg : Nat × Nat) (cms : List cm9), gcx M g p O P L V F Ab Be ns sf ef W pl nq sm N n nms ∧ PGx M p O P L V cnt W pl nq sm n ns ef nms tg cms ∧ xpl9 (evq W pl nq sm N nms) (stpq W pl nq sm N nms V (mI M (p + 3)) (mI M (p + 4))) tg cms ((List.range V).map (mI M (p + 5))) = X9 := by
  obtain ⟨⟨W, pl, nq, sm, N, nms, gm⟩, c4, n, hq, ⟨L', ns, sf, ef, h1, h2, h3, h4, ⟨a1, a2, a3⟩, ⟨t1, t2⟩, h7, h8⟩, ⟨v3, v60, v12, ht⟩, hX⟩ := pg
  obtain ⟨pk, ⟨p2, -, -⟩, ⟨p3, -⟩, -, ⟨p12, -⟩, -⟩ := hw
  have eL : L' = L := by
    rw [p2] at h1
    omega
  subst eL
  have eV : vcn nms = V := by
    have v3 : mI M p 3 = ((vcn nms : Nat) : Int) := v3
    rw [p3] at v3
    omega
  have ec : gm.2.2.length = cnt := by
    have h7 : gm.2.2.length = c4.2.2.1 := h7
    have v12 : mI M p 12 = ((c4.2.2.1 : Nat) : Int) := v12
    rw [p12] at v12
    omega
  have eW : gm.1.length = V := a1.trans eV
  have vo : VlO nms gm.1 := ⟨a1, fun v x hx => ⟨(a2 v x hx).2.2.2.1, (a2 v x hx).2.2.2.2⟩, a3⟩
  obtain ⟨tg, htg⟩ : ∃ tg, gm.2.1 = some tg := by
    cases e : gm.2.1 with
    | none => exact absurd (t1 e) ht
    | some tg => exact ⟨tg, rfl⟩
  refine ⟨rcn nms, ns, sf, ef, W, pl, nq, sm, N, n, nms, tg, gm.2.2, ⟨⟨hO, hP, pk.2.2.2.2.1.2.1, pk.2.2.2.2.1.2.2, v60⟩, hq, h2, h3, rfl, eV⟩, ⟨fun l1 e l2 he e3 => ?_, fun l1 e l2 he e3 => ?_, t2 tg htg, ec, fun c cm hc => ?_⟩, ?_⟩
  · obtain ⟨x, hx, -, b1, -, b3⟩ := vlo_get vo he e3
    obtain ⟨y3, y4, -⟩ := a2 _ x hx
    rw [y3, y4]
    exact ⟨b1, b3⟩
  · obtain ⟨x, hx, -, b1, b2, b3⟩ := vlo_get vo he e3
    obtain ⟨-, -, y5, -⟩ := a2 _ x hx
    rw [y5]
    exact ⟨by omega, fun u => by have := b3 u; omega⟩
  · rw [← eV]
    exact h8 c cm hc
  · have eS : (List.range V).map (mI M (p + 5)) = gm.1.map (fun x => x.2.2) := by
      refine List.ext_getElem? (fun v => ?_)
      by_cases y : v < V
      · have hx := List.getElem?_eq_getElem (l := gm.1) (i := v) (by rw [eW]; exact y)
        rw [List.getElem?_map, List.getElem?_range y, List.getElem?_map, hx]
        exact congrArg some (a2 v _ hx).2.2.1
      · rw [List.getElem?_eq_none (by rw [List.length_map, List.length_range]; omega), List.getElem?_eq_none (by rw [List.length_map, eW]; omega)]
    rw [hX, eS]
    have eX : XpG (W, pl, nq, sm, N, nms, gm) = xpl9 (evq W pl nq sm N nms) (stpq W pl nq sm N nms V (fun v => (gm.1.getD v (0, 0, 0)).1) (fun v => (gm.1.getD v (0, 0, 0)).2.1)) tg gm.2.2 (gm.1.map (fun x => x.2.2)) := by
      rw [← eW]
      show xpl9 _ _ (gm.2.1.getD (0, 0)) _ _ = _
      rw [htg]
      rfl
    rw [eX]
    refine xpl_cg (fun sg => rfl) (fun cm hc => ⟨fun sg => rfl, fun b hb => ⟨fun sg => rfl, fun sg => stpq_lo (fun q hq9 => ?_)⟩⟩)
    obtain ⟨c, hc'⟩ := List.getElem?_of_mem hc
    obtain ⟨b', hb'⟩ := List.getElem?_of_mem hb
    obtain ⟨-, -, -, -, u, v, -, -, -, -, d10⟩ := h8 c cm hc'
    obtain ⟨-, -, s2, -, r, l', e9, -, d11, -⟩ := d10 b' b hb'
    obtain ⟨-, -, -, lt, -⟩ := d11 q hq9
    have lt' : q.1 < V := by
      rw [← eV]
      exact lt
    have hx := List.getElem?_eq_getElem (l := gm.1) (i := q.1) (by rw [eW]; exact lt')
    obtain ⟨y3, y4, -⟩ := a2 _ _ hx
    have gd : gm.1.getD q.1 (0, 0, 0) = gm.1[q.1]'(by rw [eW]; exact lt') := by
      rw [List.getD_eq_getElem?_getD, hx]
      rfl
    show mI M (p + 3) q.1 = (gm.1.getD q.1 (0, 0, 0)).1 ∧ mI M (p + 4) q.1 = (gm.1.getD q.1 (0, 0, 0)).2.1
    rw [gd]
    exact ⟨y3, y4⟩
end PGD
end
section
/-! A state has at most as many commands as the text. -/
section SXT
variable {ev : List Int → Nat → Nat → vrs} {stp : List Int → List (Nat × Nat × Nat × Nat) → (Int × Int) × List Int} {sg : List Int} {nb c : Nat} {cm : cm9} {s : sl9} {cms : List cm9} {tg : Nat × Nat} {M : mM} {g cn : Nat}
theorem tcq_len : (tcq9 ev stp sg nb c cm s).2.2.2.length ≤ s.2.2.2.length + 1 := by
  unfold tcq9
  repeat' split
  all_goals first | exact Nat.le_succ _ | (rw [List.length_append]; exact Nat.le_refl _)
theorem tsq_len : ∀ (l : List cm9) (c : Nat) (s : sl9), (tsq9 ev stp sg nb l c s).2.2.2.length ≤ s.2.2.2.length + l.length
  | [], _, _ => Nat.le_refl _
  | cm :: l, c, s => by
    by_cases h : s.1.1 ≠ 0
    · rw [tsq_f h]; exact Nat.le_add_right _ _
    · have e : tsq9 ev stp sg nb (cm :: l) c s = tsq9 ev stp sg nb l (c + 1) (tcq9 ev stp sg nb c cm s) := if_neg h
      rw [e]
      have a := tsq_len l (c + 1) (tcq9 ev stp sg nb c cm s)
      have b := tcq_len (ev := ev) (stp := stp) (sg := sg) (nb := nb) (c := c) (cm := cm) (s := s)
      show _ ≤ s.2.2.2.length + (l.length + 1)
      omega
theorem ssq_len {S : List (List Int)} : (ssq9 ev stp tg cms sg nb S).2.2.2.length ≤ cms.length := by
  by_cases h : (ev sg tg.1 tg.2).1 = 0
  · by_cases h1 : (ev sg tg.1 tg.2).2.1 = 0
    · rw [ssq_n h h1]
      have a : (tsq9 ev stp sg nb cms 0 ((0, 0), S, 0, [])).2.2.2.length ≤ 0 + cms.length := tsq_len cms 0 ((0, 0), S, 0, [])
      rw [Nat.zero_add] at a
      exact a
    · rw [ssq_t h h1]; exact Nat.zero_le _
  · rw [ssq_f h]; exact Nat.zero_le _
theorem exq_len : ∀ (f k : Nat) (S : List (List Int)) (T : xt9), (∀ x, x ∈ T → x.2.length ≤ cms.length) → ∀ x, x ∈ (exq9 ev stp tg cms f k S T).2.2.2 → x.2.length ≤ cms.length
  | 0, k, S, T, h => h
  | f + 1, k, S, T, h => by
    cases e : S[k]? with
    | none => rw [exq_n e]; exact h
    | some sg9 =>
      by_cases h1 : (ssq9 ev stp tg cms sg9 (nbx9 T) S).1.1 = 0
      · rw [exq_s e h1]
        refine exq_len f (k + 1) _ _ (fun x hx => ?_)
        rcases List.mem_append.mp hx with u | u
        · exact h x u
        · rw [List.mem_singleton.mp u]; exact ssq_len
      · rw [exq_f e h1]
        exact fun x hx => absurd hx List.not_mem_nil
theorem xtm_60 (h : ∀ x, x ∈ xtm M g cn → x.2.length ≤ 60) (hx : ∀ j, j < cn → ∃ x y : Nat, mI M (g + 4) j = ((x : Nat) : Int) ∧ mI M (g + 4) (j + 1) = ((y : Nat) : Int) ∧ x ≤ y) : ∀ j, j < cn → mI M (g + 4) (j + 1) ≤ mI M (g + 4) j + 60 := fun j hj => by
  obtain ⟨x, y, e1, e2, xy⟩ := hx j hj
  have m := h (stm M g j) (by rw [xtm_map]; exact List.mem_map.mpr ⟨j, List.mem_range.mpr hj, rfl⟩)
  have m2 : (cml M g (mI M (g + 4) j).toNat ((mI M (g + 4) (j + 1)).toNat - (mI M (g + 4) j).toNat)).length ≤ 60 := m
  rw [cml_map, List.length_map, List.length_range, e1, e2, Int.toNat_natCast, Int.toNat_natCast] at m2
  rw [e1, e2]
  omega
end SXT
end
section
/-! The class at rest: what is known is forgotten; explore. -/
section NDA
variable {G : mG} {d t x n g s b cn cc bc cn' cc' bc' T Kt N A B D Cw p O P K p' O' P' K' Ab Be Cm U Ag Bg Cg U1 Ag1 Bg1 Cg1 Ps Pc Ps1 Pc1 Ps2 Pc2 z : Nat} {M M' M1 : mM} {Z Y C C1 C2 S : Nat → Prop} {v v' R k Rn kn : Nat → Nat} {Ls L : List Nat} {W : Nat → Nat} {c9 c8 : tG9}
theorem stp.trans (h : stp C Ps Pc M C1 Ps1 Pc1 M1) (q : stp C1 Ps1 Pc1 M1 C2 Ps2 Pc2 M') : stp C Ps Pc M C2 Ps2 Pc2 M' := by
  obtain ⟨h1, h2, h3, h4⟩ := h
  obtain ⟨q1, q2, q3, q4⟩ := q
  have a := h1.1.1
  have b := q1.1.1
  refine ⟨h1.trans (q1.mono (fun x _ u => h2 x u)), fun x u => ?_, by omega, by omega⟩
  rcases q2 x u with w | w
  · rcases h2 x w with y | y
    · exact Or.inl y
    · exact Or.inr ⟨y.1, by omega⟩
  · exact Or.inr ⟨by omega, w.2⟩
theorem cQ0.pre (h : stp C Ps Pc M C1 Ps1 Pc1 M1) (q : cQ0 c9 C1 n t Ps1 Pc1 M1 M') : cQ0 c9 C n t Ps Pc M M' := by
  obtain ⟨C2, Ps2, Pc2, q1, q2⟩ := q
  exact ⟨C2, Ps2, Pc2, q1, h.trans q2⟩
/-- the ghost of what was explored is free here -/
theorem cQ0.e9 {e : tE9} (h : cQ0 c9 C n t Ps Pc M M') : cQ0 (c9.1, c9.2.1, c9.2.2.1, c9.2.2.2.1, c9.2.2.2.2.1, c9.2.2.2.2.2.1, e) C n t Ps Pc M M' := by
  obtain ⟨C', Ps', Pc', ⟨T, Kt, N, A, B, D, Cw, p, O, P, K, p', O', P', K', Ab, Be, Cm, U, Ag, Bg, Cg, cn, cc, bc, Ls, v, R, k, Z, h1, ⟨w1, w2, w3, w4, w5, w6, w7, w8⟩, h3⟩, h4⟩ := h
  exact ⟨C', Ps', Pc', ⟨T, Kt, N, A, B, D, Cw, p, O, P, K, p', O', P', K', Ab, Be, Cm, U, Ag, Bg, Cg, cn, cc, bc, Ls, v, R, k, Z, h1, ⟨w1, w2, w3, w4, w5, w6, w7, w8⟩, h3⟩, h4⟩
theorem cQ0.e8 {k : Int} (h : cQ0 c9 C n t Ps Pc M M') : cQ0 (c9.1, kn9 c9.2 k) C n t Ps Pc M M' := cQ0.e9 (e := ((c9.2.2.2.2.2.2.1.1, c9.2.2.2.2.2.2.1.2.1, k), c9.2.2.2.2.2.2.2)) h
/-- ints of other cells, and the Solver -/
theorem Sb.fi (h : Sb L W s g cn cc bc M) (f : FI S M M') (o : mOk M') (hS : ∀ x, S x → Oc L M x) (hg : ∀ i, i ≤ 9 → ¬ S (g + i)) : Sb L W s g cn cc bc M' := by
  obtain ⟨hsg, ⟨hF, hSK, hRs, hfw⟩, hSt, hgo⟩ := h
  obtain ⟨xx, -⟩ := f.nx (T := fun _ => False) (r := False) (z := s + 1) o hF (fun _ u => u.elim) hS hSK.z9
  refine ⟨hsg.fi f o hg, ⟨xx.nf, xx.sk hF hSK, ?_, hfw.fi f⟩, fun x hx => (hSt x hx).fi f, fun i hi => (hgo i hi).fi f⟩
  obtain ⟨r1, r2, r3, r4⟩ := hRs
  exact ⟨r1.fi f, fun i hi => (r2 i hi).fi f, fun i hi => by rw [f.2.2.1]; exact r3 i hi, r4⟩
/-- what is known is forgotten -/
theorem CJ.forget (hj : CJ c9 C n t Ps Pc T Kt N A B D Cw p O P K p' O' P' K' Ab Be Cm U Ag Bg Cg cn cc bc Ls v R k Z M) (o : mOk M') (f : FI (Sfg (v 0) (v 1) (v 3)) M M') (e0 : mI M' (v 0) 1 = 0) (e1 : mI M' (v 1) 1 = 0) (e3 : mI M' (v 3) 1 = 0) : CJ c9 C n t Ps Pc T Kt N A B D Cw p O P K p' O' P' K' Ab Be Cm U Ag Bg Cg cn cc bc Ls v R k Z M' ∧ stp C Ps Pc M C Ps Pc M' ∧ (∀ i, i < 4 → mI M' (v i) 1 = 0) ∧ mI M' t = mI M t := by
  obtain ⟨⟨z1, z2⟩, ⟨lt1, lt2⟩, -⟩ := hj.top
  obtain ⟨h1, h2, h3, h4, h5, h6, h7⟩ := hj
  obtain ⟨y1, y2, ⟨y3, y4, y5⟩, y6⟩ := yn_lo h5 h2
  obtain ⟨n1, n2, n3, n4, n5, n6, n7, n8⟩ := h4
  have sv : ∀ x, Sfg (v 0) (v 1) (v 3) x → ∃ i, i < 4 ∧ i ≠ 2 ∧ x = v i := fun x u => by
    rcases u with u | u | u
    · exact ⟨0, by decide, by decide, u⟩
    · exact ⟨1, by decide, by decide, u⟩
    · exact ⟨3, by decide, by decide, u⟩
  have fz : FC Z M M' := f.fc (fun x u => by
    obtain ⟨i, hi, -, e⟩ := sv x u
    rw [e]; exact (n2.2.2.1 i hi).1)
  have sS : ∀ x, Sfg (v 0) (v 1) (v 3) x → Oc Ls M x ∧ mK M x = 13 := fun x u => by
    obtain ⟨i, hi, -, e⟩ := sv x u
    rw [e]; exact ⟨(n1.2.1.1 i hi).1.2.2.2.2.1.1, (n1.2.1.1 i hi).1.1⟩
  have gS : ∀ i, i ≤ 9 → ¬ Sfg (v 0) (v 1) (v 3) (t + 62 + i) := fun i hi u => by
    obtain ⟨j, hj, -, e⟩ := sv _ u
    exact (y2 (t + 62 + i) (by omega) (by omega)) (Or.inl (by rw [e]; exact (n2.2.2.1 j hj).1))
  have v2 : mI M' (v 2) = mI M (v 2) := f.2.2.2.2.2.2 _ (fun u => by
    obtain ⟨j, hj, j2, e⟩ := sv _ u
    exact (n1.2.1.2 2 j (by decide) hj (fun e => j2 e.symm)).2.1 e)
  have all : ∀ i, i < 4 → mI M' (v i) 1 = 0 := fun i hi => by
    have : i = 0 ∨ i = 1 ∨ i = 2 ∨ i = 3 := by omega
    rcases this with e | e | e | e <;> subst e
    · exact e0
    · exact e1
    · rw [v2]; exact n4
    · exact e3
  have N := n1.fi f o (fun x u => ⟨(sS x u).1, by rw [(sS x u).2]; decide⟩) (n1.1.fi f o (fun x u => (sS x u).1) gS) (fun j hj _ => Or.inr (all j hj))
  obtain ⟨-, er, ei⟩ := (fz.2 t lt1).2.2 z1
  have sp := fz.sm lt2 z2
  have zz : mZ M' = mZ M ∧ mS M' = mS M := ⟨f.2.2.2.2.1, f.2.2.2.2.2.1⟩
  have pe : Pn Ls k M' = Pn Ls k M ∧ Qn Ls k M' = Qn Ls k M := pn_cg (fun a _ => by unfold cp; rw [f.2.2.1, f.2.1])
  have c' : Cnu Z Ls (t + 85) v R k M' := ⟨n2.1, fun a ha => by rw [f.2.2.1]; exact n2.2.1 a ha, fun i hi => by rw [f.2.2.1]; exact n2.2.2.1 i hi, n2.2.2.2.1, n2.2.2.2.2.1.fi f, n2.2.2.2.2.2.fi f⟩
  have fy := fz.yn (t := t)
  refine ⟨⟨o, h2.fc o fy y1 y3 y4 y5 (fun i _ => by rw [er]) (by rw [ei]) (by rw [ei]), h3.fc fy y2, ⟨N, c', n3.cg (fz.2 t lt1).1 (fun i _ => by rw [er]) fz.1.1, all 2 (by decide), fun u => absurd e0 u, ⟨n6.1, n6.2.1.fi f, n6.2.2⟩, by unfold Pch; rw [sp.1, sp.2.1, sp.2.2.2]; exact n7, by rw [ei]; exact n8⟩, h5.mz fz.1.1, ?_, by rw [ei]; exact h7⟩, ⟨fz.mono (fun x _ u => y6 x (Or.inl u)), fun x u => Or.inl u, by rw [zz.2]; exact Nat.le_refl _, by rw [zz.1]; exact Nat.le_refl _⟩, all, ei⟩
  unfold Rmc
  rw [pe.1, pe.2]
  exact h6
theorem yg_t {M9 M20 M28 : mM} {a b : Int} (f : FC (Yg t Ag Bg) M M9) (e1 : M20 = mUI M9 t 7 a) (e2 : M28 = mUI M20 t 8 b) : FC (Yg t Ag Bg) M M28 ∧ FI (fun x => x = t) M9 M28 ∧ ∀ i, i ≠ 7 → i ≠ 8 → mI M28 t i = mI M9 t i := by
  have f1 : FI (fun x => x = t) M9 M20 := by rw [e1]; exact FI.ui rfl
  have f2 : FI (fun x => x = t) M20 M28 := by rw [e2]; exact FI.ui rfl
  have ff := f1.trans f2
  refine ⟨f.trans (ff.fc (fun x u => Or.inl (Or.inl u))), ff, fun i a b => ?_⟩
  rw [e2, mI_UI, if_neg (fun u => b u.2), e1, mI_UI, if_neg (fun u => a u.2)]
/-- the game's side, when ints of the top change -/
theorem Gm.fit (h : Gm t U Ag Bg Cg cn cc bc n M) (f : FI (fun x => x = t) M M') : Gm t U Ag Bg Cg cn cc bc n M' := h.fc (f.fc (fun _ u => u)) (fun x a b u => by omega)
theorem c_CA_explore (hF : FMs G) (hn : n ≤ 1000) (h : CI c9 C n t Ps Pc M) (c6 : mI M t 6 ≠ 0) : Ci G y_CA_explore (d + 8) [vr t] M (fun r M' => i32 r ∧ (cQ0 (c9.1, exp9 c9.2) C n t Ps Pc M M' ∧ mI M' t 1 = mI M t 1 ∧ XC (exp9 c9.2) M' t) ∧ r = c9.2.2.2.2.2.1.1.1) := by
  obtain ⟨T, Kt, N, A, B, D, Cw, p, O, P, K, p', O', P', K', Ab, Be, Cm, U, Ag, Bg, Cg, cn, cc, bc, Ls, v, R, k, Z, hj⟩ := h
  have jn := hj.2.2.2.1
  obtain ⟨⟨z1, -⟩, -, -⟩ := hj.top
  have tv := jn.tv3
  have nt : ∀ i, i < 4 → t ≠ v i := fun i hi e => z1 (by rw [e]; exact (jn.2.1.2.2.1 i hi).1)
  refine k_CA_explore hj.1 ⟨jn.2.2.1.1, fun u => absurd u c6, fun _ => (s_CA_forget (d := d + 7) (cn := cn) hj.1 jn.2.2.1.1 ⟨tv.1, tv.2.1.tb, tv.2.2.1.tb, tv.2.2.2.tb⟩ ⟨nt 0 (by decide), nt 1 (by decide), nt 3 (by decide)⟩).mono (fun M4 q => ?_)⟩
  obtain ⟨o4, f4, q0, q1, q3⟩ := q
  obtain ⟨hj4, st4, all4, et4⟩ := hj.forget o4 f4 q0 q1 q3
  clear hj tv nt
  obtain ⟨-, ⟨lt1, lt2⟩, -⟩ := hj4.top
  have tr4 := hj4.2.2.2.1.2.2.1
  have r44 := hj4.2.1.1.2.2.1
  rw [tr4.2.1.1, r44]
  obtain ⟨V, F, ns, sf, ef, L, cnt, hw⟩ := hj4.2.1.2.2.2.2.2.2.1 (by rw [et4]; exact c6)
  obtain ⟨g1, g2, g3, g4, g5, g6, g7, g8⟩ := id hj4.2.2.1
  have nd := hj4.2.2.2.2.1.2.1
  have pp := hj4.2.1.2.2.2.2.2.1
  have na : O ≠ Ag ∧ O ≠ Bg ∧ P ≠ Ag ∧ P ≠ Bg := ⟨fun e => by rw [e] at nd; simp at nd, fun e => by rw [e] at nd; simp at nd, fun e => by rw [e] at nd; simp at nd, fun e => by rw [e] at nd; simp at nd⟩
  have gz : GZ M4 (t + 236) (t + 62) p O P K V F ns sf ef L cnt U Ag Bg Cg := ⟨o4, g1, g2, g3, hw, ⟨by clear nd hj4; omega, by clear nd hj4; omega, na⟩, g4, ⟨g5.1, by clear nd hj4; have e : mI M4 (t + 62 + 10) 9 ≤ 512 * (n : Int) := g5.2; omega⟩⟩
  have nga : ∀ y, y ≠ Ag → y ≠ Bg → ¬ ((t + 62 ≤ y ∧ y ≤ t + 84)) → ¬ gaS (t + 62) Ag Bg y := fun y y1 y2 y3 u => by unfold gaS at u; omega
  have oo := hw.1.2.2.2.1
  have oa : ¬ (t + 62 ≤ O ∧ O ≤ t + 84) ∧ ¬ (t + 62 ≤ P ∧ P ≤ t + 84) := by clear nd hj4 gz; omega
  obtain ⟨F0, ns0, sf0, ef0, W0, pl0, nq0, sm0, N0, n0, nms0, tg0, cms0, cx, px, eX⟩ := pgm_dc (g := t + 62) (Ab := Ag) (Be := Bg) (hj4.2.1.2.2.2.2.2.2.2.2 (by rw [et4]; exact c6)).2.2.2 hw (nga O na.1 na.2.1 oa.1) (nga P na.2.2.1 na.2.2.2 oa.2)
  have gx := x_Ga_discover (d := d) (FMx.of (G := G)) gz cx px
  rw [eX] at gx
  have x60 : ∀ x, x ∈ c9.2.2.2.2.2.1.2.2.2 → x.2.length ≤ 60 := fun x hx => by
    rw [← eX] at hx
    have a := exq_len 513 0 _ _ (fun x hx => absurd hx List.not_mem_nil) x hx
    have b := px.2.2.2.1
    have c := hw.2.2.2.2.1.2
    clear nd hj4 hw gz
    omega
  clear cx px eX
  refine ⟨o4, tr4.1, g1.1, gx.mono (fun r M9 q => ?_)⟩
  obtain ⟨q, hX⟩ := q
  have g60 : ∀ cn1 : Nat, r = 0 → mI M9 (t + 62) 0 = ((cn1 : Nat) : Int) → ∀ x, x ∈ xtm M9 (t + 62) cn1 → x.2.length ≤ 60 := fun cn1 r0 e1 => by
    rcases hX with ⟨y, -⟩ | ⟨-, -, cn2, ge, y⟩
    · exact absurd r0 y
    · have e2 := ge.1
      have ec : cn2 = cn1 := by
        rw [e1] at e2
        clear nd hj4 hw gz
        omega
      rw [← ec, y]
      exact x60
  have hr : r = c9.2.2.2.2.2.1.1.1 := by
    rcases hX with ⟨-, y, -⟩ | ⟨y0, y, -⟩
    · rw [y]
    · rw [y]; exact y0
  clear gx
  obtain ⟨ir, ⟨U1, w9, A1, B1, C1, hU, gy⟩, st, hr0, hr1⟩ := q
  obtain ⟨y1, y2, y3, y4, y5, y6, y7, ⟨fa, ⟨ea, eb⟩, rs, rz⟩, y9, y10⟩ := gy
  have fg : FC (Yg t Ag Bg) M4 M9 := fa.fc (fun x u => by unfold gaS at u; unfold Yg; omega) (fun x u => by unfold gaR at u; unfold Yg; omega)
  have tag : t ≠ Ag ∧ t ≠ Bg := by
    have := g2.2.2.2.2.2.1
    clear nd hj4
    omega
  have t9 := fa.2 t lt1
  have er9 : mR M9 t = mR M4 t := t9.2.2.2.1 (fun u => by unfold gaR at u; omega)
  have ei9 : mI M9 t = mI M4 t := t9.2.2.2.2 (fun u => by unfold gaS at u; omega)
  rw [er9, tr4.2.1.1]
  have kt9 : mK M9 t = 1 := by rw [t9.1]; exact tr4.1
  refine ⟨ir, y1, fun _ => ⟨kt9, y2.1⟩, fun v15 e15 => ⟨kt9, ?_, fun M20 e20 => ⟨fun _ => ?_, fun v24 e24 => ⟨?_, fun M28 e28 => ⟨ir, ?_⟩⟩⟩⟩⟩
  · rw [e15]; split
    · exact ⟨by decide, by decide⟩
    · exact (y1 _ _).1
  · rw [e20, mK_UI, mR_UI, er9, tr4.2.1.1]; exact y2.1
  · rw [e24]; split
    · exact ⟨by decide, by decide⟩
    · rw [e20, mI_UI]; split
      · rw [e15]; split
        · exact ⟨by decide, by decide⟩
        · exact (y1 _ _).1
      · exact (y1 _ _).1
  obtain ⟨f28, ft, it⟩ := yg_t fg e20 e28
  have e3 := hw.2.2.1.1
  have i3 := (hj4.2.1.2.2.2.2.2.2.2.2 (by rw [et4]; exact c6)).1
  have kv28 : mI M28 (mR M28 t 11) 1 = 0 := by
    have zv := hj4.vz
    have ap := hj4.2.2.2.2.1.1
    have lv : v 0 < mZ M4 := hj4.2.2.2.2.1.2.2.2.2 _ (hj4.2.2.2.2.1.2.2.2.1 _ (Or.inr (Or.inl zv)))
    have ng : ¬ gaS (t + 62) Ag Bg (v 0) := fun u => by
      refine ap (v 0) ?_ zv
      unfold gaS at u
      rcases u with u | u | u
      · exact Or.inl ⟨by clear nd hj4; omega, by clear nd hj4; omega⟩
      · rw [u]; exact Or.inr (Or.inr (by simp))
      · rw [u]; exact Or.inr (Or.inr (by simp))
    have nt9 : ¬ v 0 = t := fun e => hj4.top.1.1 (by rw [← e]; exact zv)
    rw [ft.2.2.1, er9, tr4.2.2.1.1, ft.2.2.2.2.2.2 (v 0) nt9, (fa.2 (v 0) lv).2.2.2.2 ng]
    exact all4 0 (by decide)
  have hXC : XC (exp9 c9.2) M28 t := by
    have g28 : ∀ i, i ≤ 9 → i ≠ 3 → mI M28 (t + 62 + i) = mI M9 (t + 62 + i) := fun i _ _ => ft.2.2.2.2.2.2 _ (show ¬ (t + 62 + i = t) by omega)
    have t7 : mI M28 t 7 = v15 := by rw [e28, mI_UI, if_neg (fun u => absurd u.2 (by decide)), e20, mI_UI, if_pos ⟨rfl, rfl⟩]
    have t8 : mI M28 t 8 = v24 := by rw [e28, mI_UI, if_pos ⟨rfl, rfl⟩]
    have g0 : mI M28 (t + 62) 0 = mI M9 (t + 62) 0 := by rw [ft.2.2.2.2.2.2 (t + 62) (show ¬ (t + 62 = t) by omega)]
    have k11 : mI M20 (mR M20 t 9) 11 = mI M9 (t + 62) 11 := by rw [e20, mR_UI, er9, tr4.2.1.1, mI_UI, if_neg (fun u => absurd u.1 (by omega))]
    unfold XC exp9 exG
    rcases hX with ⟨y0, y1, y2⟩ | ⟨y0, y1, cn2, ⟨y2, -, y3⟩, y4⟩
    · have n0 : c9.2.2.2.2.2.1.1.1 ≠ 0 := by rw [← hr]; exact y0
      rw [if_pos n0, t7, t8, e15, if_neg y0, e24, if_neg y0, k11, y2, g0, (hr1 y0).1, y1]
      exact ⟨rfl, ⟨rfl, kv28⟩, rfl, fun _ => rfl, fun u => absurd rfl u⟩
    · have n0 : ¬ (c9.2.2.2.2.2.1.1.1 ≠ 0) := fun u => u (by rw [← hr]; exact y0)
      have ln : c9.2.2.2.2.2.1.2.2.1.length = cn2 := by rw [← y3]; unfold Sm9; rw [List.length_map, List.length_range]
      obtain ⟨cn1, cc1, bc1, c1, gq, gs⟩ := hr0 y0
      have ec : cn2 = cn1 := by
        have := gq.1.1
        rw [y2] at this
        omega
      rw [if_neg n0, t7, t8, e15, if_pos y0, e24, if_pos y0, g0]
      refine ⟨rfl, ⟨rfl, kv28⟩, by rw [y2]; show ((cn2 : Nat) : Int) = ((c9.2.2.2.2.2.1.2.2.1.length : Nat) : Int); rw [ln], fun u => ?_, fun _ => XC.tb (M := M9) ⟨V, ?_, ?_, ?_⟩ g28⟩
      · have u' : c9.2.2.2.2.2.1.2.2.1 = [] := u
        rw [u'] at ln
        have : cn2 = 0 := ln.symm
        omega
      · show (V : Int) = c9.2.2.1
        rw [← i3, e3]
      · show Sm9 M9 (t + 62) V c9.2.2.2.2.2.1.2.2.1.length = c9.2.2.2.2.2.1.2.2.1
        rw [ln]
        exact y3
      · show xtm M9 (t + 62) c9.2.2.2.2.2.1.2.2.1.length = c9.2.2.2.2.2.1.2.2.2
        rw [ln]
        exact y4
  clear hX
  suffices hh : cQ0 c9 C n t Ps Pc M4 M28 from ⟨⟨(cQ0.pre st4 hh).e9, by rw [it 1 (by decide) (by decide), ei9, et4], hXC⟩, hr⟩
  have i15 : i32 v15 := by
    rw [e15]; split
    · exact ⟨by decide, by decide⟩
    · exact (y1 _ _).1
  have o20 : mOk M20 := by rw [e20]; exact mOk_UI y1 i15
  have o28 : mOk M28 := by
    rw [e28]; refine mOk_UI o20 ?_
    rw [e24]; split
    · exact ⟨by decide, by decide⟩
    · exact (o20 _ _).1
  have sb : 0 ≤ mI M9 (t + 72) 9 ∧ mI M9 (t + 72) 9 ≤ 512 * ((n + 1 : Nat) : Int) := by
    have a := g5.1
    have b := g5.2
    have c : mI M9 (t + 72) 9 ≤ mI M4 (t + 72) 9 + 512 := st.1
    have e : mI M4 (t + 72) 9 ≤ mI M9 (t + 72) 9 := st.2
    clear nd hj4 hw gz
    omega
  have rz' : 64 * mZ M28 + 2 * Cg ≤ 64 * mZ M4 + 2 * C1 := by rw [ft.2.2.2.2.1]; clear nd hj4; omega
  have rs' : mS M28 + 4 * Cg ≤ mS M4 + 4 * C1 := by rw [ft.2.2.2.2.2.1]; clear nd hj4; omega
  have fin : ∀ cn' cc' bc' : Nat, GR M9 (t + 62) cn' cc' bc' → (1 ≤ cn' → GS M9 (t + 62) (cn' - 1)) → GG0 M9 (t + 62) cn' cc' bc' → cQ0 c9 C n t Ps Pc M4 M28 := fun cn' cc' bc' a1 a2 a3 => by
    have gm : Gm t U1 A1 B1 C1 cn' cc' bc' (n + 1) M9 := ⟨y2, y3, hU, y9, sb, a1, a2, a3⟩
    obtain ⟨Ps1, Pc1, w1, w2⟩ := hj4.game o28 f28 (by rw [ft.2.2.1, er9]) (by rw [it 1 (by decide) (by decide), ei9]) (by rw [it 6 (by decide) (by decide), ei9]) (by rw [it 18 (by decide) (by decide), ei9]) (gm.fit ft) ea eb (fun i hi _ => Or.inl (all4 i hi)) (fun u => absurd (all4 0 (by decide)) u) rs' rz' (fun _ => by rw [et4]; exact c6)
    exact w1.q w2
  by_cases c : r = 0
  · obtain ⟨cn1, cc1, bc1, c1, gq, gs⟩ := hr0 c
    refine fin cn1 cc1 bc1 (Or.inr ⟨c1, gq⟩) (fun _ => gs) ⟨fun e => by omega, xtm_60 (g60 cn1 c gq.1.1) (fun j hj => ?_)⟩
    obtain ⟨x, y, f1, f2, f3, -⟩ := gq.2.2.2.2.2.2.2.2.1 j (by clear nd hj4; omega)
    exact ⟨x, y, f1, f2, f3⟩
  · exact fin 0 0 0 (Or.inl ⟨rfl, (hr1 c).1⟩) (fun u => by omega) ⟨fun _ => ⟨rfl, rfl⟩, fun j hj => absurd hj (by omega)⟩
end NDA
end
section
/-! The class at rest: the steps of compile. -/
section NDB
variable {G : mG} {d t x n cn cc bc T Kt N A B D Cw p O P K p' O' P' K' Ab Be Cm U Ag Bg Cg Ps Pc Ps1 Pc1 Kt' N' A1 B1 D1 Cw1 O1 P1 K1 Ab1 Be1 Cm1 N0 nw : Nat} {M M' M1 M2 : mM} {Z Y C : Nat → Prop} {v R k : Nat → Nat} {Ls : List Nat} {c9 c8 : tG9}
/-- the top alone has changed, and the text's side is known -/
theorem CJ.tonly (hj : CJ c9 C n t Ps Pc T Kt N A B D Cw p O P K p' O' P' K' Ab Be Cm U Ag Bg Cg cn cc bc Ls v R k Z M) (o : mOk M') (f : FC (fun x => x = t) M M') (zz : mZ M' = mZ M ∧ mS M' = mS M) (hr : ∀ i, 9 ≤ i → mR M' t i = mR M t i) (i18 : mI M' t 18 = mI M t 18) (t6 : 1 ≤ cn → mI M' t 6 ≠ 0) : Gm t U Ag Bg Cg cn cc bc n M' ∧ Ns Z t Ls v R k cn cc bc M' ∧ Ap Z C t T A B D O P O' P' Ab Be Ag Bg M' ∧ Rmc Kt Cw K K' Cm Cg Ps Pc Ls k M' ∧ (1 ≤ cn → mI M' t 6 ≠ 0) ∧ stp C Ps Pc M C Ps Pc M' := by
  obtain ⟨⟨z1, z2⟩, ⟨lt1, lt2⟩, -⟩ := hj.top
  obtain ⟨h1, h2, h3, h4, h5, h6, h7⟩ := hj
  obtain ⟨c1, -⟩ := h5.oc
  have n1 : ∀ y, y ≠ t → ¬ (fun x => x = t) y := fun y a b => a b
  obtain ⟨ns, pe, qe⟩ := h4.fc o f (fun x u w => by rw [u] at w; exact z1 w) (fun i hi => n1 _ (by omega)) (n1 _ (by omega)) lt2 hr i18
  refine ⟨h3.fc f (fun x a b => n1 x (by omega)), ns, h5.mz f.1.1, ?_, t6, f.mono (fun x _ u => by rw [u]; exact (c1 t (by omega) (by omega)).1), fun x u => Or.inl u, by rw [zz.2]; exact Nat.le_refl _, by rw [zz.1]; exact Nat.le_refl _⟩
  unfold Rmc
  rw [pe, qe]
  exact h6
theorem top_lo (h : Ap Z C t T A B D O P O' P' Ab Be Ag Bg M) (hx : Tx c9 t T Kt N A B D Cw p O P K p' O' P' K' Ab Be Cm M) : T ≠ t ∧ O ≠ t ∧ P ≠ t := by
  have o4 := hx.2.2.2.2.1.2.2.2.1
  have pp := hx.2.2.2.2.2.1
  have pT := h.2.2.1.1
  clear hx h
  omega
/-- an int of the top, of no weight -/
theorem CJ.tint {j : Nat} {a : Int} (hj : CJ c9 C n t Ps Pc T Kt N A B D Cw p O P K p' O' P' K' Ab Be Cm U Ag Bg Cg cn cc bc Ls v R k Z M) (ja : j ≠ 1 ∧ j ≠ 6 ∧ j ≠ 18) (ia : i32 a) (e : M' = mUI M t j a) : CJ c9 C n t Ps Pc T Kt N A B D Cw p O P K p' O' P' K' Ab Be Cm U Ag Bg Cg cn cc bc Ls v R k Z M' ∧ stp C Ps Pc M C Ps Pc M' := by
  have f : FI (fun x => x = t) M M' := by rw [e]; exact FI.ui rfl
  have o : mOk M' := by rw [e]; exact mOk_UI hj.1 ia
  have fc := f.fc (Z := fun x => x = t) (fun _ u => u)
  have it : ∀ i, i ≠ j → mI M' t i = mI M t i := fun i hi => by rw [e, mI_UI, if_neg (fun u => hi u.2)]
  obtain ⟨a1, a2, a3, a4, a5, a6⟩ := hj.tonly o fc ⟨f.2.2.2.2.1, f.2.2.2.2.2.1⟩ (fun i _ => by rw [f.2.2.1]) (it 18 (fun u => ja.2.2 u.symm)) (by rw [it 6 (fun u => ja.2.1 u.symm)]; exact hj.2.2.2.2.2.2)
  obtain ⟨b1, b2, b3⟩ := top_lo hj.2.2.2.2.1 hj.2.1
  exact ⟨⟨o, hj.2.1.fc o fc (fun x a b u => by have u' : x = t := u; omega) b1 b2 b3 (fun i _ => by rw [f.2.2.1]) (it 1 (fun u => ja.1 u.symm)) (it 6 (fun u => ja.2.1 u.symm)), a1, a2, a3, a4, a5⟩, a6⟩
/-- the tape is empty -/
theorem CJ.empty (hj : CJ c9 C n t Ps Pc T Kt N A B D Cw p O P K p' O' P' K' Ab Be Cm U Ag Bg Cg cn cc bc Ls v R k Z M) (e : M' = mUI M t 1 0) : CJ c9 C n t Ps Pc T Kt 0 A B D Cw p O P K p' O' P' K' Ab Be Cm U Ag Bg Cg cn cc bc Ls v R k Z M' ∧ stp C Ps Pc M C Ps Pc M' ∧ FI (fun x => x = t) M M' := by
  have f : FI (fun x => x = t) M M' := by rw [e]; exact FI.ui rfl
  have o : mOk M' := by rw [e]; exact mOk_UI hj.1 ⟨by decide, by decide⟩
  have fc := f.fc (Z := fun x => x = t) (fun _ u => u)
  have it : ∀ i, i ≠ 1 → mI M' t i = mI M t i := fun i hi => by rw [e, mI_UI, if_neg (fun u => hi u.2)]
  obtain ⟨a1, a2, a3, a4, a5, a6⟩ := hj.tonly o fc ⟨f.2.2.2.2.1, f.2.2.2.2.2.1⟩ (fun i _ => by rw [f.2.2.1]) (it 18 (by decide)) (by rw [it 6 (by decide)]; exact hj.2.2.2.2.2.2)
  obtain ⟨b1, b2, b3⟩ := top_lo hj.2.2.2.2.1 hj.2.1
  obtain ⟨⟨ta1, ta2, ta3⟩, ta4, ta5, ta6, ta9⟩ := hj.2.1.2.1
  have tap : Tap c9.1 M' t T Kt 0 := ⟨⟨by rw [f.1]; exact ta1, by rw [f.2.2.1]; exact ta2, by rw [e, mI_UI, if_pos ⟨rfl, rfl⟩]; rfl⟩, by rw [f.1, f.2.1]; exact ta4, by rw [f.2.2.2.2.1]; exact ta5, ⟨Nat.zero_le _, Nat.zero_le _, ta6.2.2⟩, fun j hj => absurd hj (Nat.not_lt_zero _)⟩
  exact ⟨⟨o, hj.2.1.tap o fc (fun x a b u => by have u' : x = t := u; omega) b2 b3 (fun i _ => by rw [f.2.2.1]) (it 6 (by decide)) tap, a1, a2, a3, a4, a5⟩, a6, f⟩
theorem nd9w {T A B D O P : Nat} {r : List Nat} (nd : (T :: A :: B :: D :: O :: P :: r).Nodup) : (T ≠ A ∧ T ≠ B ∧ T ≠ D) ∧ (O ≠ A ∧ O ≠ B ∧ O ≠ D) ∧ (P ≠ A ∧ P ≠ B ∧ P ≠ D) := by
  simp only [List.nodup_cons, List.mem_cons, not_or] at nd
  obtain ⟨⟨t1, t2, t3, -⟩, ⟨-, -, a1, a2, -⟩, ⟨-, b1, b2, -⟩, ⟨d1, d2, -⟩, -⟩ := nd
  exact ⟨⟨t1, t2, t3⟩, ⟨fun e => a1 e.symm, fun e => b1 e.symm, fun e => d1 e.symm⟩, ⟨fun e => a2 e.symm, fun e => b2 e.symm, fun e => d2 e.symm⟩⟩
theorem wl1 {t A B D x : Nat} (pA : A = t + 4 ∨ t + 236 ≤ A) (pB : B = t + 5 ∨ t + 236 ≤ B) (pD : D = t + 6 ∨ t + 236 ≤ D) (h : x = t ∨ (t + 7 ≤ x ∧ x < t + 236)) (u : x = t + 2 ∨ x = A ∨ x = B ∨ x = D) : False := by
  rcases u with u | u | u | u
  · clear pA pB pD; omega
  · clear pB pD; omega
  · clear pA pD; omega
  · clear pA pB; omega
theorem wl2 {t T A B D : Nat} (h : T ≠ t + 2) (a : T ≠ A ∧ T ≠ B ∧ T ≠ D) (u : T = t + 2 ∨ T = A ∨ T = B ∨ T = D) : False := by
  rcases u with u | u | u | u
  · exact h u
  · exact a.1 u
  · exact a.2.1 u
  · exact a.2.2 u
theorem wl3 {t p p' O : Nat} {i : Nat} (o : O = p + i ∨ t + 236 ≤ O) (pp : (p = t + 30 ∧ p' = t + 46) ∨ (p = t + 46 ∧ p' = t + 30)) : O ≠ t + 2 ∧ O ≠ t := by omega
/-- cells of the words -/
theorem wo_lo (h : Ap Z C t T A B D O P O' P' Ab Be Ag Bg M) (hx : Tx c9 t T Kt N A B D Cw p O P K p' O' P' K' Ab Be Cm M) : (∀ x, t + 7 ≤ x → x < t + 236 → ¬ woA (t + 2) A B D x) ∧ (¬ woA (t + 2) A B D T ∧ ¬ woA (t + 2) A B D O ∧ ¬ woA (t + 2) A B D P) ∧ (∀ x, woA (t + 2) A B D x → C x ∧ ¬ Z x) ∧ ¬ woA (t + 2) A B D t := by
  obtain ⟨z1, -⟩ := h.nz
  obtain ⟨c1, c2, c3⟩ := h.oc
  have o4 := hx.2.2.2.2.1.2.2.2.1
  have pp := hx.2.2.2.2.2.1
  have pT := h.2.2.1
  have hn := h.1
  have nd := h.2.1
  clear hx
  obtain ⟨a1, a2, a3⟩ := nd9w nd
  obtain ⟨p1, p2, p3, p4⟩ := pT
  clear nd h
  have nT : T ≠ t + 2 := by clear a1 a2 a3 p2 p3 p4 o4 pp; omega
  unfold woA
  refine ⟨fun x a b u => wl1 p2 p3 p4 (Or.inr ⟨a, b⟩) u, ⟨fun u => wl2 nT a1 u, fun u => wl2 (wl3 o4.1 pp).1 a2 u, fun u => wl2 (wl3 o4.2.1 pp).1 a3 u⟩, fun x u => ?_, fun u => wl1 p2 p3 p4 (Or.inl rfl) u⟩
  rcases u with u | u | u | u
  · rw [u]; exact ⟨(c1 _ (by omega) (by omega)).1, z1 _ (by omega) (by omega)⟩
  · rw [u]; exact ⟨(c3 A (by simp)).1, hn _ (Or.inr (Or.inr (by simp)))⟩
  · rw [u]; exact ⟨(c3 B (by simp)).1, hn _ (Or.inr (Or.inr (by simp)))⟩
  · rw [u]; exact ⟨(c3 D (by simp)).1, hn _ (Or.inr (Or.inr (by simp)))⟩
theorem Ap.words (h : Ap Z C t T A B D O P O' P' Ab Be Ag Bg M) (hz : mZ M ≤ mZ M') (t5 : t + 236 ≤ mZ M) (gr : grw M A B D Cw M' A1 B1 D1 Cw1) : Ap Z (Zn C M M') t T A1 B1 D1 O P O' P' Ab Be Ag Bg M' := by
  obtain ⟨c1, c2, c3⟩ := h.oc
  have pl := h.2.2.1
  rcases gr with ⟨e1, e2, e3, -⟩ | ⟨e1, e2, e3, -, z1, -⟩
  · subst e1 e2 e3
    exact h.re hz h.2.1 pl (fun x hx => Or.inl hx)
  · have nd : ([T] ++ ([A, B, D] ++ [O, P, O', P', Ab, Be, Ag, Bg])).Nodup := h.2.1
    have nd' : ([T] ++ ([A1, B1, D1] ++ [O, P, O', P', Ab, Be, Ag, Bg])).Nodup := nd_mid nd (z := mZ M) (fun x hx => (c3 x (by rw [List.mem_singleton.mp hx]; simp)).2) (fun x hx => (c3 x (List.mem_append.mpr (Or.inr hx) : x ∈ [T, A, B, D] ++ [O, P, O', P', Ab, Be, Ag, Bg])).2) (fun x hx => by
      simp only [List.mem_cons, List.not_mem_nil, or_false] at hx
      right; omega) (by simp; omega)
    refine h.re hz nd' ⟨pl.1, by omega, by omega, by omega⟩ (fun x hx => ?_)
    rcases List.mem_append.mp (show x ∈ [T] ++ ([A1, B1, D1] ++ [O, P, O', P', Ab, Be, Ag, Bg]) from hx) with u | u
    · rw [List.mem_singleton.mp u]; exact Or.inl (by simp)
    · rcases List.mem_append.mp u with u | u
      · simp only [List.mem_cons, List.not_mem_nil, or_false] at u
        right; omega
      · exact Or.inl (List.mem_append.mpr (Or.inr u) : x ∈ [T, A, B, D] ++ [O, P, O', P', Ab, Be, Ag, Bg])
theorem rmc_words (h6 : Rmc Kt Cw K K' Cm Cg Ps Pc Ls k M) (pe : Pn Ls k M' = Pn Ls k M ∧ Qn Ls k M' = Qn Ls k M) (c8 : 128 ≤ Cw) (gr : grw M A B D Cw M' A1 B1 D1 Cw1) : Rmc Kt Cw1 K K' Cm Cg (Ps + 6 * Cw1 - 6 * Cw) (Pc + 2 * Cw1 - 2 * Cw) Ls k M' ∧ mS M' + Ps ≤ mS M + (Ps + 6 * Cw1 - 6 * Cw) ∧ 64 * mZ M' + Pc ≤ 64 * mZ M + (Pc + 2 * Cw1 - 2 * Cw) := by
  unfold Rmc at h6 ⊢
  unfold grw at gr
  rw [pe.1, pe.2]
  rcases gr with g | g <;> exact ⟨⟨by omega, by omega, h6.2.2⟩, by omega, by omega⟩
/-- the words of a tape are read -/
theorem CJ.words (hj : CJ c9 C n t Ps Pc T Kt N A B D Cw p O P K p' O' P' K' Ab Be Cm U Ag Bg Cg cn cc bc Ls v R k Z M) (o : mOk M') (fa : FA (woA (t + 2) A B D) (fun x => x = t + 2) M M') (wb : WB M' (t + 2) A1 B1 D1 Cw1) (gr : grw M A B D Cw M' A1 B1 D1 Cw1) : ∃ Ps1 Pc1, CJ c9 (Zn C M M') n t Ps1 Pc1 T Kt N A1 B1 D1 Cw1 p O P K p' O' P' K' Ab Be Cm U Ag Bg Cg cn cc bc Ls v R k Z M' ∧ stp C Ps Pc M (Zn C M M') Ps1 Pc1 M' ∧ mR M' t = mR M t ∧ mI M' t = mI M t ∧ (∀ i, i ≤ 9 → mI M' (t + 62 + i) = mI M (t + 62 + i)) ∧ mI M' (v 0) = mI M (v 0) := by
  have hj0 := hj
  obtain ⟨-, ⟨lt1, lt2⟩, -⟩ := hj.top
  obtain ⟨h1, h2, h3, h4, h5, h6, h7⟩ := hj
  obtain ⟨y1, ⟨y3, y4, y5⟩, y6, y7⟩ := wo_lo h5 h2
  have fc : FC (woA (t + 2) A B D) M M' := fa.fc (fun _ u => u) (fun x u => Or.inl u)
  obtain ⟨-, er, ei⟩ := (fc.2 t lt1).2.2 y7
  obtain ⟨w1, w2, w3, w4, w5, w6, w7, w8⟩ := h2
  have c8 := w3.2.2.2.2.2.2.1
  have tx : Tx c9 t T Kt N A1 B1 D1 Cw1 p O P K p' O' P' K' Ab Be Cm M' := by
    refine ⟨by rw [er]; exact w1, w2.fc fc y3 (by rw [er]) (by rw [ei]), wb, w4.fc o fc (fun x a b => y1 x (by omega) (by omega)) (y1 _ (by omega) (by omega)), w5.fc fc (y1 _ (by omega) (by omega)), w6, fun u => ?_, w8.fc fc w5 (by rw [ei]) (fun i hi => y1 _ (by omega) (by omega)) y4 y5⟩
    rw [ei] at u
    obtain ⟨V, F, ns, sf, ef, L, cnt, hw⟩ := w7 u
    exact ⟨V, F, ns, sf, ef, L, cnt, hw.fc fc (fun i hi => y1 _ (by omega) (by omega)) y4 y5⟩
  obtain ⟨ns, pq⟩ := h4.fc o fc (fun x u => (y6 x u).2) (fun i hi => y1 _ (by omega) (by omega)) (y1 _ (by omega) (by omega)) lt2 (fun i _ => by rw [er]) (by rw [ei])
  obtain ⟨rm, s1, s2⟩ := rmc_words h6 pq c8 gr
  exact ⟨_, _, ⟨o, tx, h3.fc fc (fun x a b => y1 x (by omega) (by omega)), ns, h5.words fc.1.1 (by omega) gr, rm, by rw [ei]; exact h7⟩, ⟨fc.mono (fun x _ u => (y6 x u).1), fun x u => u, s1, s2⟩, er, ei, fun i hi => (fc.sm (by clear hj0; omega) (y1 _ (by omega) (by omega))).2.2.2, hj0.vfc fc (fun x u => (y6 x u).2)⟩
end NDB
end
section
/-! The class at rest: a text is translated, and becomes the text. -/
section NDC
variable {G : mG} {d t x n cn cc bc T Kt N A B D Cw p O P K p' O' P' K' Ab Be Cm U Ag Bg Cg Ps Pc Ps1 Pc1 A1 B1 D1 O1 P1 K1 Ab1 Be1 Cm1 N0 nw : Nat} {M M' M1 M2 : mM} {Z Y C : Nat → Prop} {v R k : Nat → Nat} {Ls : List Nat} {c9 c8 : tG9}
theorem Wf.fi1 {w : Nat} {S : Nat → Prop} (h : Wf M w T A B D N0 Cw nw) (f : FI S M M') (hw : ¬ S w) (hA : ¬ S A) (hB : ¬ S B) (hD : ¬ S D) : Wf M' w T A B D N0 Cw nw := by
  unfold Wf WA at h ⊢
  rw [f.1, f.2.1, f.2.2.1, f.2.2.2.2.2.2 w hw, f.2.2.2.2.2.2 A hA, f.2.2.2.2.2.2 B hB, f.2.2.2.2.2.2 D hD]
  exact h
/-- two different places of the list of cells -/
theorem nd_ne (nd : [T, A, B, D, O, P, O', P', Ab, Be, Ag, Bg].Nodup) : (T ≠ O' ∧ T ≠ P' ∧ T ≠ Ab ∧ T ≠ Be) ∧ (A ≠ O' ∧ A ≠ P' ∧ A ≠ Ab ∧ A ≠ Be) ∧ (B ≠ O' ∧ B ≠ P' ∧ B ≠ Ab ∧ B ≠ Be) ∧ (D ≠ O' ∧ D ≠ P' ∧ D ≠ Ab ∧ D ≠ Be) ∧ (O ≠ O' ∧ O ≠ P' ∧ O ≠ Ab ∧ O ≠ Be) ∧ (P ≠ O' ∧ P ≠ P' ∧ P ≠ Ab ∧ P ≠ Be) := by
  simp only [List.nodup_cons, List.mem_cons, not_or, List.not_mem_nil, not_false_eq_true, and_true] at nd
  obtain ⟨⟨-, -, -, -, -, t1, t2, t3, t4, -⟩, ⟨-, -, -, -, a1, a2, a3, a4, -⟩, ⟨-, -, -, b1, b2, b3, b4, -⟩, ⟨-, -, d1, d2, d3, d4, -⟩, ⟨-, o1, o2, o3, o4, -⟩, ⟨p1, p2, p3, p4, -⟩, -⟩ := nd
  exact ⟨⟨t1, t2, t3, t4⟩, ⟨a1, a2, a3, a4⟩, ⟨b1, b2, b3, b4⟩, ⟨d1, d2, d3, d4⟩, ⟨o1, o2, o3, o4⟩, ⟨p1, p2, p3, p4⟩⟩
theorem of_ne {a b z x : Nat} (o : b = a ∨ z ≤ b) (h : x ≠ a) (hz : x < z) : x ≠ b := by omega
theorem lo_p (pp : (p = t + 30 ∧ p' = t + 46) ∨ (p = t + 46 ∧ p' = t + 30)) : (t + 30 ≤ p' ∧ p' ≤ t + 46) ∧ (∀ i, i ≤ 15 → t + 30 ≤ p + i ∧ p + i < t + 62 ∧ ¬ (p' ≤ p + i ∧ p + i ≤ p' + 15)) := by
  refine ⟨by omega, fun i hi => ?_⟩
  omega
/-- cells of the reader, and of the program that is spare -/
theorem tzs_no (a : ¬ (t + 7 ≤ x ∧ x ≤ t + 29)) (b : ¬ (p' ≤ x ∧ x ≤ p' + 15)) (c : x ≠ O' ∧ x ≠ P' ∧ x ≠ Ab ∧ x ≠ Be) : ¬ tzS (t + 7) p' O' P' Ab Be x := by
  rintro (u | u | u | u | u | u)
  · exact a ⟨u.1, by omega⟩
  · exact b u
  · exact c.1 u
  · exact c.2.1 u
  · exact c.2.2.1 u
  · exact c.2.2.2 u
theorem tz_pl (hx : Tx c9 t T Kt N A B D Cw p O P K p' O' P' K' Ab Be Cm M) : (O' = p' + 1 ∨ t + 236 ≤ O') ∧ (P' = p' + 2 ∨ t + 236 ≤ P') ∧ (Ab = t + 21 ∨ t + 236 ≤ Ab) ∧ (Be = t + 22 ∨ t + 236 ≤ Be) ∧ (O = p + 1 ∨ t + 236 ≤ O) ∧ (P = p + 2 ∨ t + 236 ≤ P) := by
  have o4 := hx.2.2.2.1.2.2.2.2.2.1.2.2.2.1
  have q4 := hx.2.2.2.2.1.2.2.2.1
  have m4 := hx.2.2.2.1.2.2.2.2.1.2.2.2.2.2.1
  exact ⟨o4.1, o4.2.1, m4.1, m4.2.1, q4.1, q4.2.1⟩
/-- a cell of the first ones, but not of theirs -/
theorem tz_out (hx : Tx c9 t T Kt N A B D Cw p O P K p' O' P' K' Ab Be Cm M) (a : ¬ (t + 7 ≤ x ∧ x ≤ t + 29)) (b : ¬ (p' ≤ x ∧ x ≤ p' + 15)) (c : x < t + 236) : ¬ tzS (t + 7) p' O' P' Ab Be x := by
  obtain ⟨q1, q2, q3, q4, -⟩ := tz_pl hx
  clear hx
  exact tzs_no a b ⟨of_ne q1 (by omega) c, of_ne q2 (by omega) c, of_ne q3 (by omega) c, of_ne q4 (by omega) c⟩
/-- the words lie apart from the reader and the program -/
theorem tzw_of (h : Ap Z C t T A B D O P O' P' Ab Be Ag Bg M) (hx : Tx c9 t T Kt N A B D Cw p O P K p' O' P' K' Ab Be Cm M) : TZw M (t + 7) (t + 2) T A B D p' O' P' Ab Be := by
  obtain ⟨c1, -, c3⟩ := h.oc
  have lp := (lo_p hx.2.2.2.2.2.1).1
  obtain ⟨q1, q2, q3, q4, -⟩ := tz_pl hx
  obtain ⟨pT, pA, pB, pD⟩ := h.2.2.1
  obtain ⟨n1, n2, n3, n4, -⟩ := nd_ne h.2.1
  have l2 := (c1 (t + 2) (by omega) (by omega)).2
  have lT := (c3 T (by simp)).2
  have lA := (c3 A (by simp)).2
  have lB := (c3 B (by simp)).2
  have lD := (c3 D (by simp)).2
  clear hx h c1 c3
  intro x u
  rcases u with u | u | u | u | u <;> subst u
  · clear n1 n2 n3 n4 pT pA pB pD
    exact ⟨by omega, by omega, of_ne q1 (by omega) (by omega), of_ne q2 (by omega) (by omega), of_ne q3 (by omega) (by omega), of_ne q4 (by omega) (by omega), l2⟩
  · clear q1 q2 q3 q4 n2 n3 n4 pA pB pD
    exact ⟨by omega, by omega, n1.1, n1.2.1, n1.2.2.1, n1.2.2.2, lT⟩
  · clear q1 q2 q3 q4 n1 n3 n4 pT pB pD
    exact ⟨by omega, by omega, n2.1, n2.2.1, n2.2.2.1, n2.2.2.2, lA⟩
  · clear q1 q2 q3 q4 n1 n2 n4 pT pA pD
    exact ⟨by omega, by omega, n3.1, n3.2.1, n3.2.2.1, n3.2.2.2, lB⟩
  · clear q1 q2 q3 q4 n1 n2 n3 pT pA pB
    exact ⟨by omega, by omega, n4.1, n4.2.1, n4.2.2.1, n4.2.2.2, lD⟩
/-- the cells that translating may change -/
theorem tz_lo (h : Ap Z C t T A B D O P O' P' Ab Be Ag Bg M) (hx : Tx c9 t T Kt N A B D Cw p O P K p' O' P' K' Ab Be Cm M) : (¬ tzS (t + 7) p' O' P' Ab Be t ∧ ¬ tzS (t + 7) p' O' P' Ab Be (t + 2)) ∧ (∀ i, i ≤ 15 → ¬ tzS (t + 7) p' O' P' Ab Be (p + i)) ∧ (¬ tzS (t + 7) p' O' P' Ab Be T ∧ ¬ tzS (t + 7) p' O' P' Ab Be O ∧ ¬ tzS (t + 7) p' O' P' Ab Be P) ∧ (∀ x, t + 62 ≤ x → x < t + 236 → ¬ tzS (t + 7) p' O' P' Ab Be x) ∧ (∀ x, tzS (t + 7) p' O' P' Ab Be x → C x ∧ ¬ Z x) := by
  obtain ⟨z1, -⟩ := h.nz
  obtain ⟨c1, c2, c3⟩ := h.oc
  obtain ⟨lp, lq⟩ := lo_p hx.2.2.2.2.2.1
  obtain ⟨-, -, -, -, q5, q6⟩ := tz_pl hx
  have pT := h.2.2.1.1
  have hn := h.1
  obtain ⟨n1, -, -, -, n5, n6⟩ := nd_ne h.2.1
  have out : ∀ x, ¬ (t + 7 ≤ x ∧ x ≤ t + 29) → ¬ (p' ≤ x ∧ x ≤ p' + 15) → x < t + 236 → ¬ tzS (t + 7) p' O' P' Ab Be x := fun x a b c => tz_out hx a b c
  clear hx h
  have tT : ¬ (t + 7 ≤ T ∧ T ≤ t + 29) ∧ ¬ (p' ≤ T ∧ T ≤ p' + 15) := by clear n1 n5 n6 q5 q6 lq out; omega
  refine ⟨⟨out _ (by omega) (by omega) (by omega), out _ (by omega) (by omega) (by omega)⟩, fun i hi => out _ (by have := lq i hi; omega) (lq i hi).2.2 (by have := lq i hi; omega), ⟨tzs_no tT.1 tT.2 n1, tzs_no ?_ ?_ n5, tzs_no ?_ ?_ n6⟩, fun x a b => out x (by omega) (by omega) b, fun x u => ?_⟩
  · have l1 := lq 1 (by decide)
    clear lq out n1 n5 n6 q6 pT
    rcases q5 with e | e <;> omega
  · have l1 := lq 1 (by decide)
    clear lq out n1 n5 n6 q6 pT
    rcases q5 with e | e
    · rw [e]; exact l1.2.2
    · omega
  · have l1 := lq 2 (by decide)
    clear lq out n1 n5 n6 q5 pT
    rcases q6 with e | e <;> omega
  · have l1 := lq 2 (by decide)
    clear lq out n1 n5 n6 q5 pT
    rcases q6 with e | e
    · rw [e]; exact l1.2.2
    · omega
  clear n1 n5 n6 q5 q6 pT lq out
  rcases u with u | u | u | u | u | u
  · exact ⟨(c1 x (by omega) (by omega)).1, z1 x (by omega) (by omega)⟩
  · exact ⟨(c1 x (by omega) (by omega)).1, z1 x (by omega) (by omega)⟩
  · rw [u]; exact ⟨(c3 O' (by simp)).1, hn _ (Or.inr (Or.inr (by simp)))⟩
  · rw [u]; exact ⟨(c3 P' (by simp)).1, hn _ (Or.inr (Or.inr (by simp)))⟩
  · rw [u]; exact ⟨(c3 Ab (by simp)).1, hn _ (Or.inr (Or.inr (by simp)))⟩
  · rw [u]; exact ⟨(c3 Be (by simp)).1, hn _ (Or.inr (Or.inr (by simp)))⟩
theorem Ap.trl (h : Ap Z C t T A B D O P O' P' Ab Be Ag Bg M) (hz : mZ M ≤ mZ M') (e1 : (O1 = O' ∧ P1 = P') ∨ (mZ M ≤ O1 ∧ mZ M ≤ P1)) (e2 : Ab1 = Ab ∨ mZ M ≤ Ab1) (e3 : Be1 = Be ∨ mZ M ≤ Be1) (lt : O1 < mZ M' ∧ P1 < mZ M' ∧ Ab1 < mZ M' ∧ Be1 < mZ M') (ne : O1 ≠ P1 ∧ Ab1 ≠ Be1 ∧ O1 ≠ Ab1 ∧ O1 ≠ Be1 ∧ P1 ≠ Ab1 ∧ P1 ≠ Be1) : Ap Z (Zn C M M') t T A B D O P O1 P1 Ab1 Be1 Ag Bg M' := by
  obtain ⟨c1, c2, c3⟩ := h.oc
  have nd : ([T, A, B, D, O, P] ++ ([O', P', Ab, Be] ++ [Ag, Bg])).Nodup := h.2.1
  have hm : ∀ x, x ∈ [O1, P1, Ab1, Be1] → x ∈ [O', P', Ab, Be] ∨ mZ M ≤ x := fun x hx => by
    simp only [List.mem_cons, List.not_mem_nil, or_false] at hx ⊢
    omega
  have hl : ∀ x, x ∈ [O1, P1, Ab1, Be1] → x < mZ M' := fun x hx => by
    simp only [List.mem_cons, List.not_mem_nil, or_false] at hx
    omega
  have nd4 : [O1, P1, Ab1, Be1].Nodup := by
    simp only [List.nodup_cons, List.mem_cons, not_or, List.not_mem_nil, not_false_eq_true, and_true]
    exact ⟨⟨ne.1, ne.2.2.1, ne.2.2.2.1⟩, ⟨ne.2.2.2.2.1, ne.2.2.2.2.2⟩, ne.2.1, trivial, List.nodup_nil⟩
  have in1 : ∀ x, x ∈ [T, A, B, D, O, P] → x ∈ [T, A, B, D, O, P, O', P', Ab, Be, Ag, Bg] := fun x hx => (List.mem_append.mpr (Or.inl hx) : x ∈ [T, A, B, D, O, P] ++ [O', P', Ab, Be, Ag, Bg])
  have in2 : ∀ x, x ∈ [Ag, Bg] → x ∈ [T, A, B, D, O, P, O', P', Ab, Be, Ag, Bg] := fun x hx => (List.mem_append.mpr (Or.inr hx) : x ∈ [T, A, B, D, O, P, O', P', Ab, Be] ++ [Ag, Bg])
  have in3 : ∀ x, x ∈ [O', P', Ab, Be] → x ∈ [T, A, B, D, O, P, O', P', Ab, Be, Ag, Bg] := fun x hx => (List.mem_append.mpr (Or.inr (List.mem_append.mpr (Or.inl hx))) : x ∈ [T, A, B, D, O, P] ++ ([O', P', Ab, Be] ++ [Ag, Bg]))
  have nd' : ([T, A, B, D, O, P] ++ ([O1, P1, Ab1, Be1] ++ [Ag, Bg])).Nodup := nd_mid nd (z := mZ M) (fun x hx => (c3 x (in1 x hx)).2) (fun x hx => (c3 x (in2 x hx)).2) hm nd4
  refine h.re hz nd' h.2.2.1 (fun x hx => ?_)
  rcases List.mem_append.mp (show x ∈ [T, A, B, D, O, P] ++ ([O1, P1, Ab1, Be1] ++ [Ag, Bg]) from hx) with u | u
  · exact Or.inl (in1 x u)
  · rcases List.mem_append.mp u with u | u
    · exact (hm x u).imp (in3 x) (fun w => ⟨w, hl x u⟩)
    · exact Or.inl (in2 x u)
theorem rmc_trl (h6 : Rmc Kt Cw K K' Cm Cg Ps Pc Ls k M) (pe : Pn Ls k M' = Pn Ls k M ∧ Qn Ls k M' = Qn Ls k M) (r1 : mS M' + 4 * Cm + 4 * K' ≤ mS M + 4 * Cm1 + 4 * K1) (r2 : 64 * mZ M' + 2 * Cm + K' ≤ 64 * mZ M + 2 * Cm1 + K1) : Rmc Kt Cw K K1 Cm1 Cg (Ps + 4 * Cm1 + 4 * K1 - 4 * Cm - 4 * K') (Pc + 2 * Cm1 + K1 - 2 * Cm - K') Ls k M' ∧ mS M' + Ps ≤ mS M + (Ps + 4 * Cm1 + 4 * K1 - 4 * Cm - 4 * K') ∧ 64 * mZ M' + Pc ≤ 64 * mZ M + (Pc + 2 * Cm1 + K1 - 2 * Cm - K') := by
  unfold Rmc at h6 ⊢
  rw [pe.1, pe.2]
  exact ⟨⟨by omega, by omega, h6.2.2⟩, by omega, by omega⟩
/-- the reader at rest again -/
theorem tz_of {z q w a c L V F cnt : Nat} {ns : Nat → Int} {sf ef : Nat → Nat} (h : TX M z q w T A B D N0 Cw nw p O P K Ab Be Cm V F ns sf ef c cnt L) : TZ M z q p O P K Ab Be Cm ∧ (O < mZ M ∧ P < mZ M ∧ Ab < mZ M ∧ Be < mZ M) ∧ (O ≠ P ∧ Ab ≠ Be) := by
  obtain ⟨⟨⟨b1, b2, b3, b4, b5, b6, b7⟩, ⟨c1, c2, c3, c4, c5, c6⟩, t3, t4, t5, ⟨s1, s2, s3⟩, t7⟩, ⟨d1, d2, d3, d4⟩, -⟩ := h
  have oz := b5.2.2.2.2.1
  have mz := t4.2.2.2.2.2.2.1
  exact ⟨⟨b1, b2, ⟨c1, c2, c3, c5, c6⟩, t3, t4, b5, ⟨s1, s2⟩, t7, d4⟩, ⟨oz.2.1, oz.2.2, mz.2.1, mz.2.2.1⟩, b5.2.2.2.1.2.2.1, t4.2.2.2.2.2.1.2.2.1⟩
/-- a text that was read can be explored -/
theorem pw_of {z q w c L V F cnt : Nat} {ns : Nat → Int} {sf ef : Nat → Nat} (h : TX M z q w T A B D N0 Cw nw p O P K Ab Be Cm V F ns sf ef c cnt L) (e3 : mI M (q + 1) 3 = 0) (h11 : mI M p 11 ≠ -1) (h2 : mI M p 2 = ((L : Nat) : Int)) (hL : L ≤ nw) : PW M z p O P K V F ns sf ef L cnt := by
  obtain ⟨⟨⟨b1, b2, b3, b4, b5, b6, b7⟩, -⟩, ⟨d1, d2, d3, d4⟩, ⟨e1, e2⟩⟩ := h
  obtain ⟨u, u1, u2⟩ := e2 e3
  have w1 := b4.1.2.2.2.2.2.2.1
  have w2 := b4.2.2.1
  exact ⟨b5, ⟨h2, by omega, by omega⟩, d1, d2.2, e1, h11, u, u1, u2⟩
/-- a text is translated -/
theorem CJ.trl {x : Int} (hj : CJ c9 C n t Ps Pc T Kt N A B D Cw p O P K p' O' P' K' Ab Be Cm U Ag Bg Cg cn cc bc Ls v R k Z M) (q : tzQ M (t + 236) (t + 7) (t + 2) T A B D N0 Cw nw p' O' P' K' Ab Be Cm x M') : ∃ O1 P1 K1 Ab1 Be1 Cm1 Ps1 Pc1, CJ c9 (Zn C M M') n t Ps1 Pc1 T Kt N A B D Cw p O P K p' O1 P1 K1 Ab1 Be1 Cm1 U Ag Bg Cg cn cc bc Ls v R k Z M' ∧ stp C Ps Pc M (Zn C M M') Ps1 Pc1 M' ∧ (x = 0 → ∃ (V F : Nat) (ns : Nat → Int) (sf ef : Nat → Nat) (L cnt : Nat), PW M' (t + 236) p' O1 P1 K1 V F ns sf ef L cnt) ∧ mI M' t = mI M t ∧ (∀ i, i ≤ 9 → mI M' (t + 62 + i) = mI M (t + 62 + i)) ∧ mI M' (v 0) = mI M (v 0) := by
  have hj0 := hj
  obtain ⟨-, ⟨lt1, lt2⟩, -⟩ := hj.top
  obtain ⟨h1, h2, h3, h4, h5, h6, h7⟩ := hj
  obtain ⟨O1, P1, K1, Ab1, Be1, Cm1, V, F, ns, sf, ef, c, cnt, L, tx, fa, ⟨e1, e2, e3⟩, ⟨r1, r2⟩, ex, ex0⟩ := q
  obtain ⟨⟨y0, y2⟩, yp, ⟨y3, y4, y5⟩, yg, y6⟩ := tz_lo h5 h2
  obtain ⟨tz, lt, ⟨ne1, ne2⟩⟩ := tz_of (a := 0) tx
  have o := tz.1
  have pp := h2.2.2.2.2.2.1
  have fc : FC (tzS (t + 7) p' O' P' Ab Be) M M' := fa.fc (fun _ u => u) (fun x u => by unfold tzR at u; unfold tzS; clear h2 h3 h4 h5 tx; omega)
  obtain ⟨-, er, ei⟩ := (fc.2 t lt1).2.2 y0
  obtain ⟨w1, w2, w3, w4, w5, w6, w7, w8⟩ := h2
  have tx' : Tx c9 t T Kt N A B D Cw p O P K p' O1 P1 K1 Ab1 Be1 Cm1 M' := by
    refine ⟨by rw [er]; exact w1, w2.fc fc y3 (by rw [er]) (by rw [ei]), w3.fc fc y2, tz, w5.fc fc (yp 0 (by decide)), w6, fun u => ?_, w8.fc fc w5 (by rw [ei]) yp y4 y5⟩
    rw [ei] at u
    obtain ⟨V, F, ns, sf, ef, L, cnt, hw⟩ := w7 u
    exact ⟨V, F, ns, sf, ef, L, cnt, hw.fc fc yp y4 y5⟩
  obtain ⟨ns', pq⟩ := h4.fc o fc (fun x u => (y6 x u).2) (fun i hi => yg _ (by omega) (by omega)) (yg _ (by omega) (by omega)) lt2 (fun i _ => by rw [er]) (by rw [ei])
  obtain ⟨rm, s1, s2⟩ := rmc_trl h6 pq r1 r2
  refine ⟨O1, P1, K1, Ab1, Be1, Cm1, _, _, ⟨o, tx', h3.fc fc (fun x a b => yg x (by omega) (by omega)), ns', h5.trl fc.1.1 e1 e2 e3 lt ⟨ne1, ne2, tz.2.2.2.2.2.2.2.1.1, tz.2.2.2.2.2.2.2.1.2.1, tz.2.2.2.2.2.2.2.1.2.2.1, tz.2.2.2.2.2.2.2.1.2.2.2⟩, rm, by rw [ei]; exact h7⟩, ⟨fc.mono (fun x _ u => (y6 x u).1), fun x u => u, s1, s2⟩, fun x0 => ?_, ei, fun i hi => (fc.sm (by clear hj0; omega) (yg _ (by omega) (by omega))).2.2.2, hj0.vfc fc (fun x u => (y6 x u).2)⟩
  obtain ⟨a1, a2, a3⟩ := ex0 x0
  exact ⟨V, F, ns, sf, ef, L, cnt, pw_of tx (by rw [← ex]; exact x0) a1 a2 a3⟩
theorem Ap.swp (h : Ap Z C t T A B D O P O' P' Ab Be Ag Bg M) : Ap Z C t T A B D O' P' O P Ab Be Ag Bg M := by
  obtain ⟨h1, h2, h3, h4, h5⟩ := h
  have mm : ∀ x, x ∈ [T, A, B, D, O', P', O, P, Ab, Be, Ag, Bg] → x ∈ [T, A, B, D, O, P, O', P', Ab, Be, Ag, Bg] := fun x hx => by
    rcases List.mem_append.mp (show x ∈ [T, A, B, D] ++ ([O', P', O, P] ++ [Ab, Be, Ag, Bg]) from hx) with u | u
    · exact (List.mem_append.mpr (Or.inl u) : x ∈ [T, A, B, D] ++ ([O, P, O', P'] ++ [Ab, Be, Ag, Bg]))
    · rcases List.mem_append.mp u with u | u
      · have u' : x ∈ [O, P, O', P'] := by
          simp only [List.mem_cons, List.not_mem_nil, or_false] at u ⊢
          omega
        exact (List.mem_append.mpr (Or.inr (List.mem_append.mpr (Or.inl u'))) : x ∈ [T, A, B, D] ++ ([O, P, O', P'] ++ [Ab, Be, Ag, Bg]))
      · exact (List.mem_append.mpr (Or.inr (List.mem_append.mpr (Or.inr u))) : x ∈ [T, A, B, D] ++ ([O, P, O', P'] ++ [Ab, Be, Ag, Bg]))
  have nd : ([T, A, B, D] ++ ([O, P, O', P'] ++ [Ab, Be, Ag, Bg])).Nodup := h2
  have nd4 : [O', P', O, P].Nodup := by
    have q := (List.nodup_append.1 (List.nodup_append.1 nd).2.1).1
    simp only [List.nodup_cons, List.mem_cons, not_or, List.not_mem_nil, not_false_eq_true, and_true] at q ⊢
    obtain ⟨⟨a, b, c⟩, ⟨e, f⟩, g, i⟩ := q
    exact ⟨⟨g, fun z => b z.symm, fun z => e z.symm⟩, ⟨fun z => c z.symm, fun z => f z.symm⟩, a, i⟩
  have lt : ∀ x, x ∈ [T, A, B, D, O, P, O', P', Ab, Be, Ag, Bg] → x < mZ M := fun x hx => h5 x (h4 x (Or.inr (Or.inr hx)))
  have nd' : ([T, A, B, D] ++ ([O', P', O, P] ++ [Ab, Be, Ag, Bg])).Nodup := nd_mid nd (z := mZ M) (fun x hx => lt x (List.mem_append.mpr (Or.inl hx) : x ∈ [T, A, B, D] ++ ([O, P, O', P'] ++ [Ab, Be, Ag, Bg]))) (fun x hx => lt x (List.mem_append.mpr (Or.inr (List.mem_append.mpr (Or.inr hx))) : x ∈ [T, A, B, D] ++ ([O, P, O', P'] ++ [Ab, Be, Ag, Bg]))) (fun x hx => Or.inl (by
    simp only [List.mem_cons, List.not_mem_nil, or_false] at hx ⊢
    omega)) nd4
  exact ⟨fun x hx => h1 x (hx.imp id (fun u => u.imp id (mm x))), nd', h3, fun x hx => h4 x (hx.imp id (fun u => u.imp id (mm x))), h5⟩
end NDC
end
