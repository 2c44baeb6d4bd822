section
/-! The class at rest: solve, judge, check, within, compare, billionths, print. -/
section NCY
variable {G : mG} {d t x n cn cc bc T Kt N A B D Cw p O P K p' O' P' K' Ab Be Cm U Ag Bg Cg Ps Pc : Nat} {M M' M1 : mM} {Z Y C : Nat → Prop} {v v' R k Rn kn : Nat → Nat} {Ls L L' : List Nat} {c9 c8 : tG9}
/-- cells of the top that are no numbers -/
theorem CJ.top (hj : CJ c9 C n t Ps Pc T Kt N A B D Cw p O P K p' O' P' K' Ab Be Cm U Ag Bg Cg cn cc bc Ls v R k Z M) : (¬ Z t ∧ ¬ Z (t + 234)) ∧ (t < mZ M ∧ t + 234 < mZ M) ∧ mI M (t + 62) 0 = ((cn : Nat) : Int) := by
  obtain ⟨z1, z2, -⟩ := hj.2.2.2.2.1.nz
  obtain ⟨c1, -⟩ := hj.2.2.2.2.1.oc
  exact ⟨⟨z1 t (by omega) (by omega), z2⟩, ⟨(c1 t (by omega) (by omega)).2, (c1 _ (by omega) (by omega)).2⟩, hj.tg.2.2.2.cnt.1⟩
theorem CJ.go0 (hj : CJ c9 C n t Ps Pc T Kt N A B D Cw p O P K p' O' P' K' Ab Be Cm U Ag Bg Cg cn cc bc Ls v R k Z M) (N1 : Nms L' (Wt t) (t + 85) (t + 62) (t + 235) cn cc bc v Rn kn M') (P1 : Sp Z (t + 85) v M M' L' Rn kn) (Q1 : Rq Ls k M L' kn M') (f2 : mI M' (v 2) = mI M (v 2)) (ch : mI M' (v 0) 1 ≠ 0 → Chs M' (t + 85) (t + 62) cn) : (cQ0 c9 C n t Ps Pc M M' ∧ sE0 M M' t) ∧ mR M' t = mR M t := by
  obtain ⟨⟨z1, z2⟩, ⟨l1, l2⟩, -⟩ := hj.top
  have jn := hj.2.2.2.1
  obtain ⟨-, e1, e2⟩ := (P1.1.2 t l1).2.2 z1
  exact ⟨hj.num N1.cnt.2.2.2 P1.1.yn (fun i _ => by rw [e1]) (by rw [e2]) (by rw [e2]) (by rw [e2]) (by rw [e2]) (jn.step ⟨z1, z2⟩ l2 P1.1 N1 P1.2 (by rw [f2]; exact jn.2.2.2.1) ch Q1) Q1, e1⟩
theorem CJ.go (hj : CJ c9 C n t Ps Pc T Kt N A B D Cw p O P K p' O' P' K' Ab Be Cm U Ag Bg Cg cn cc bc Ls v R k Z M) (N1 : Nms L' (Wt t) (t + 85) (t + 62) (t + 235) cn cc bc v Rn kn M') (P1 : Sp Z (t + 85) v M M' L' Rn kn) (Q1 : Rq Ls k M L' kn M') (f2 : mI M' (v 2) = mI M (v 2)) (ch : mI M' (v 0) 1 ≠ 0 → Chs M' (t + 85) (t + 62) cn) (kv : mI M' (v 0) 1 = mI M (v 0) 1) : cQ c9 C n t Ps Pc M M' := by
  obtain ⟨⟨a1, a2⟩, a3⟩ := hj.go0 N1 P1 Q1 f2 ch
  exact ⟨a1, a2.kn (hj.knf (by rw [a3]) kv)⟩
theorem c_CA_solve (h : CI c9 C n t Ps Pc M) (c0 : mI M (t + 62) 0 ≠ 0) : Ci G y_CA_solve (d + 9) [vr t] M (fun r M' => i32 r ∧ (cQ0 c9 C n t Ps Pc M M' ∧ sE0 M M' t ∧ mI M' (mR M' t 11) 1 = if r = 0 then 1 else 0) ∧ (kdT (xtm M (t + 62) (mI M (t + 62) 0).toNat) → svA9 (xtm M (t + 62) (mI M (t + 62) 0).toNat) r)) := by
  obtain ⟨T, Kt, N, A, B, D, Cw, p, O, P, K, p', O', P', K', Ab, Be, Cm, U, Ag, Bg, Cg, cn, cc, bc, Ls, v, R, k, Z, hj⟩ := h
  obtain ⟨⟨z1, z2⟩, -, e0⟩ := hj.top
  have jn := hj.2.2.2.1
  rw [e0] at c0
  refine (n_CA_solve (d := d) jn.1 jn.2.1 jn.2.2.1 z1 (by clear jn hj; omega) wt_r wt_s).mono (fun r M' q => ?_)
  obtain ⟨ix, ⟨L', Rn, kn, N1, P1, Q1, G1, V1⟩, ch, qsv, qk⟩ := q
  rw [e0, Int.toNat_natCast]
  obtain ⟨⟨a1, a2⟩, a3⟩ := hj.go0 N1 P1 Q1 (V1 2 (by decide) (by decide)) ch
  exact ⟨ix, ⟨a1, a2, by rw [a3, jn.2.2.1.2.2.1.1]; exact qk⟩, qsv⟩
theorem c_CA_judge {l : Int} (hl : l = 1 ∨ l = 2) (h : CI c9 C n t Ps Pc M) (c0 : mI M (t + 62) 0 ≠ 0) : Ci G y_CA_judge (d + 9) [vr t, vi l] M (fun r M' => i32 r ∧ cQ c9 C n t Ps Pc M M') := by
  obtain ⟨T, Kt, N, A, B, D, Cw, p, O, P, K, p', O', P', K', Ab, Be, Cm, U, Ag, Bg, Cg, cn, cc, bc, Ls, v, R, k, Z, hj⟩ := h
  obtain ⟨-, -, e0⟩ := hj.top
  have jn := hj.2.2.2.1
  rw [e0] at c0
  refine (n_CA_judge (d := d) hl jn.1 jn.2.1 jn.2.2.1 (by clear jn hj; omega) (tld_of hl hj.2.2.1.2.2.2.2.2.2.1) wt_r wt_s).mono (fun r M' q => ?_)
  obtain ⟨ix, ⟨L', Rn, kn, N1, P1, Q1, G1, V1⟩, e30⟩ := q
  refine ⟨ix, hj.go N1 P1 Q1 (V1 2 (by decide) (by decide)) (fun u => ?_) (by rw [V1 0 (by decide) (by decide)])⟩
  rw [V1 0 (by decide) (by decide)] at u
  exact chs_same (jn.2.2.2.2.1 u) e30 (G1 4 (by decide))
theorem c_CA_check (h : CI c9 C n t Ps Pc M) : Ci G y_CA_check (d + 8) [vr t] M (fun r M' => i32 r ∧ cQ c9 C n t Ps Pc M M') := by
  obtain ⟨T, Kt, N, A, B, D, Cw, p, O, P, K, p', O', P', K', Ab, Be, Cm, U, Ag, Bg, Cg, cn, cc, bc, Ls, v, R, k, Z, hj⟩ := id h
  have jn := hj.2.2.2.1
  refine (n_CA_check (d := d) jn.1 jn.2.1 jn.2.2.1 wt_s).mono (fun r M' q => ?_)
  obtain ⟨ix, q⟩ := q
  rcases q with e | ⟨⟨L', Rn, kn, N1, P1, Q1, G1, V1⟩, ev, e30⟩
  · exact h.rd ⟨e, ix⟩
  · refine ⟨ix, hj.go N1 P1 Q1 (V1 2 (by decide) (by decide)) (fun u => ?_) (by rw [ev])⟩
    rw [ev] at u
    exact chs_same (jn.2.2.2.2.1 u) e30 (G1 4 (by decide))
theorem c_CA_within {l : Int} (hl : 0 ≤ l ∧ l ≤ 32) (h : CI c9 C n t Ps Pc M) (c0 : mI M (t + 62) 0 ≠ 0) : Ci G y_CA_within (d + 9) [vr t, vi l] M (fun r M' => i32 r ∧ cQ c9 C n t Ps Pc M M' ∧ anA9 (xtm M (t + 62) (mI M (t + 62) 0).toNat) l.toNat r) := by
  obtain ⟨T, Kt, N, A, B, D, Cw, p, O, P, K, p', O', P', K', Ab, Be, Cm, U, Ag, Bg, Cg, cn, cc, bc, Ls, v, R, k, Z, hj⟩ := h
  obtain ⟨⟨z1, z2⟩, ⟨l1, l2⟩, e0⟩ := hj.top
  have jn := hj.2.2.2.1
  rw [e0] at c0
  refine (n_CA_within (d := d) hl jn.1 jn.2.1 jn.2.2.1 z1 (by clear jn hj; omega) jn.2.2.2.1 wt_r wt_s).mono (fun r M' q => ?_)
  obtain ⟨⟨ix, an⟩, v', L', Rn, kn, N1, tr, hv, f, cn', rq, ⟨g1, g2, g3, g4, g5⟩, f2, rt⟩ := q
  rw [e0, Int.toNat_natCast]
  obtain ⟨-, -, -, -, h5, ⟨h6, h6', h6z⟩, h7, h8⟩ := jn
  have sp := f.sm l2 (fun u => u.elim z2 (fun u => by omega))
  have r11 := hj.2.2.2.1.2.2.1.2.2.1.1
  have kf : knF M M' t := by
    unfold knF
    rw [tr.2.2.1.1, (vsw hv).1.1, g3, r11]
  refine ⟨ix, (fun q => ⟨q.1, q.2.kn kf⟩) (hj.num N1.cnt.2.2.2 (f.mono (fun x _ u => u.elim Or.inl (fun u => Or.inr (Or.inl u)))) (fun i hi => rt i (by omega) (by omega)) (by rw [g2]) (by rw [g2]) (by rw [g2]) (by rw [g2]) ⟨N1, cn', tr, f2, fun u => ?_, ⟨rq.2.2.2.1 _ h6, rq.2.2.2.2 _ h6', Or.inl h6z⟩, by unfold Pch; rw [sp.1, sp.2.1, sp.2.2.2]; exact h7, by rw [g2]; exact h8⟩ rq), an⟩
  rw [(vsw hv).1.1, g3] at u
  exact chs_same (h5 u) g5 (g1 4 (by decide))
/-- three tables to look at -/
theorem Ns.tv3 (h : Ns Z t Ls v R k cn cc bc M) : Tv3 Ls M t (t + 235) (v 0) (v 1) (v 3) (R 0) (R 1) (R 3) (k 0) (k 1) (k 3) cn := by
  obtain ⟨h1, -, h3, -⟩ := h
  have one : ∀ i, i < 4 → i ≠ 2 → Tv Ls M (t + 235) (v i) (R i) (k i) cn := fun i hi i2 => ⟨(h1.2.1.1 i hi).1, (h1.2.1.1 i hi).2.1, h1.2.2.2 i hi i2⟩
  exact ⟨⟨h3.2.2.1.1, h3.2.2.1.2.1, h3.2.2.1.2.2.2⟩, one 0 (by decide) (by decide), one 1 (by decide) (by decide), one 3 (by decide) (by decide)⟩
/-- a step of numbers that touches no table, in the class -/
theorem CJ.gox {Tn Cn' : Nat → Prop} (hj : CJ c9 C n t Ps Pc T Kt N A B D Cw p O P K p' O' P' K' Ab Be Cm U Ag Bg Cg cn cc bc Ls v R k Z M) (q : NX Ls (Wt t) Tn Cn' False (t + 85 + 1) M M') (hT : ∀ x, Tn x → x < t + 235) (hC : ∀ x, Cn' x → x = t ∨ x = t + 234 ∨ x = t + 229) (ti : ∀ i, i ≠ 18 → mI M' t i = mI M t i) (hp : (mK M' (t + 234) = 32 ∧ mN M' (t + 234) = 400 ∧ Pch M' (t + 234)) ∧ ∃ c : Nat, mI M' t 18 = ((c : Nat) : Int) ∧ c ≤ 400) : cQ c9 C n t Ps Pc M M' := by
  obtain ⟨⟨z1, z2⟩, ⟨l1, l2⟩, -⟩ := hj.top
  obtain ⟨zz, -⟩ := hj.2.2.2.2.1.nz
  obtain ⟨n1, n2, n3, n4, n5, ⟨n6, n6', n6z⟩, n7, n8⟩ := hj.2.2.2.1
  have hF := n1.1.2.1.1
  have nC : ∀ x, ¬ Z x → x ≠ t → x ≠ t + 234 → ¬ Cn' x := fun x a b c u => by
    rcases hC x u with w | w | w
    · exact b w
    · exact c w
    · rw [w] at a; exact a n6z
  have nv : ∀ j, j < 4 → ¬ Cn' (v j) := fun j hj u => by
    have zv := (n2.2.2 j hj).1
    have kv := (n1.2.1.1 j hj).1.1
    rcases hC _ u with w | w | w
    · rw [w] at zv; exact z1 zv
    · rw [w] at zv; exact z2 zv
    · rw [w, n6'.1.1] at kv; exact absurd kv (by decide)
  have ng : ∀ i, i ≤ 9 → ¬ Cn' (t + 62 + i) := fun i hi => nC _ (zz _ (by omega) (by omega)) (by omega) (by omega)
  have lt : ∀ x, Cn' x → x < t + 235 := fun x u => by have := hC x u; omega
  obtain ⟨N1, V1⟩ := n1.nxg q hT lt nv ng
  obtain ⟨c', f⟩ := q.cnu hF n2 n1.2.1
  have f' : FC (Yn Z t) M M' := f.mono (fun x _ u => by
    rcases u with u | u
    · exact Or.inl u
    · rcases hC x u with w | w | w
      · exact Or.inr (Or.inl w)
      · exact Or.inr (Or.inr w)
      · rw [w]; exact Or.inl n6z)
  have oct : Oc Ls M t := n2.oc l1 z1
  have rt : mR M' t = mR M t := (q.oth oct (by omega)).2.2.1
  have rq := q.rq (k := k) hF
  have g4 : mI M' (t + 62 + 4) = mI M (t + 62 + 4) := (q.oth (n1.1.2.2.2 4 (by decide)) (by omega)).2.2.2 (ng 4 (by decide))
  have s30 : mI M' (t + 85 + 30) = mI M (t + 85 + 30) := (q.oth (n1.1.2.2.1 _ st30) (by omega)).2.2.2 (fun u => by have := hC _ u; omega)
  refine (fun w => ⟨w.1, w.2.kn (hj.knf (by rw [rt]) (by rw [V1 0 (by decide)]))⟩) (hj.num q.ok f' (fun i _ => by rw [rt]) (ti 1 (by decide)) (ti 6 (by decide)) (ti 7 (by decide)) (ti 8 (by decide)) ⟨N1, c', n3.cg (q.kind l1) (fun i _ => by rw [rt]) f.1.1, by rw [V1 2 (by decide)]; exact n4, fun u => ?_, ⟨n6, rq.2.2.2.2 _ n6', Or.inl n6z⟩, hp.1, hp.2⟩ rq)
  rw [V1 0 (by decide)] at u
  exact chs_same (n5 u) s30 g4
theorem c_CA_compare {l1 l2 l3 l4 : Int} (i1 : i32 l1) (i2 : i32 l2) (i3 : i32 l3) (i4 : i32 l4) (h : CI c9 C n t Ps Pc M) : Ci G y_CA_compare (d + 6) [vr t, vi l1, vi l2, vi l3, vi l4] M (fun r M' => i32 r ∧ cQ c9 C n t Ps Pc M M') := by
  obtain ⟨T, Kt, N, A, B, D, Cw, p, O, P, K, p', O', P', K', Ab, Be, Cm, U, Ag, Bg, Cg, cn, cc, bc, Ls, v, R, k, Z, hj⟩ := id h
  obtain ⟨⟨z1, z2⟩, ⟨lt1, lt2⟩, -⟩ := hj.top
  have jn := hj.2.2.2.1
  have sk := jn.1.1.2.1.2.1
  have so := jn.1.1.1.2.1
  have hF := jn.1.1.2.1.1
  have w9 := wt_s (t := t) (t + 85 + 1 + 9) (by omega) (by omega)
  have w11 := wt_s (t := t) (t + 85 + 1 + 11) (by omega) (by omega)
  refine (s_CA_compare (d := d) (s := t + 85) (b := t + 235) i1 i2 i3 i4 hF sk hj.tg ⟨jn.2.2.1.2.1.2, so.1.1, so.2.1.1⟩ jn.tv3 (by omega) (by omega) (by omega)).mono (fun r M' q => ?_)
  obtain ⟨ix, q⟩ := q
  rcases q with e | q
  · exact h.rd ⟨e, ix⟩
  · have X := q.nx hF
    have ot := X.oth (jn.2.1.oc lt1 z1) (by omega)
    have op := X.oth (jn.2.1.oc lt2 z2) (by omega)
    obtain ⟨-, -, -, -, -, -, n7, n8⟩ := jn
    exact ⟨ix, hj.gox X (fun x u => by unfold Tor at u; omega) (fun x u => u.elim) (fun i _ => by rw [ot.2.2.2 (fun u => u)]) ⟨by unfold Pch; rw [op.1, op.2.1, op.2.2.2 (fun u => u)]; exact n7, by rw [ot.2.2.2 (fun u => u)]; exact n8⟩⟩
/-- the top's own numbers -/
theorem CJ.shn (hj : CJ c9 C n t Ps Pc T Kt N A B D Cw p O P K p' O' P' K' Ab Be Cm U Ag Bg Cg cn cc bc Ls v R k Z M) : Shn Ls M t (t + 85) (t + 227) (t + 229) (t + 235) ∧ Prt Ls M t (t + 234) (t + 227) := by
  obtain ⟨⟨z1, z2⟩, ⟨lt1, lt2⟩, -⟩ := hj.top
  have jn := hj.2.2.2.1
  have so := jn.1.1.1.2.1
  have os := jn.1.1.2.2.1 (t + 85) (Or.inl rfl)
  obtain ⟨n1, n2, n3, n4, n5, ⟨n6, n6', n6z⟩, n7, n8⟩ := jn
  have ot := n2.oc lt1 z1
  exact ⟨⟨⟨n3.1, n3.2.1.2, n3.2.2.2.1.1, n3.2.2.2.1.2.1⟩, ⟨so.1.1, so.2.1.1⟩, ⟨n6, n6'⟩, ⟨ot, os, by omega⟩, by omega, by omega, by omega⟩, ⟨n3.1, n3.2.2.2.1.1, n3.2.2.2.1.2.2⟩, ⟨n7.1, n7.2.1⟩, ⟨ot, n2.oc lt2 z2, by omega⟩, n6, n7.2.2⟩
theorem tsh_lo (h : Tsh (t + 85) (t + 227) (t + 229) x) : x < t + 235 := by unfold Tsh T4 at h; omega
theorem wt_h : ∀ x, t + 85 ≤ x → x < t + 235 → 300 ≤ Wt t x := fun x _ hx => by unfold Wt; rw [if_pos hx]; decide
theorem c_CA_billionths {l1 l2 : Int} (i1 : i32 l1) (i2 : i32 l2) (h : CI c9 C n t Ps Pc M) : Ci G y_CA_billionths (d + 5) [vr t, vi l1, vi l2] M (fun r M' => i32 r ∧ cQ c9 C n t Ps Pc M M') := by
  obtain ⟨T, Kt, N, A, B, D, Cw, p, O, P, K, p', O', P', K', Ab, Be, Cm, U, Ag, Bg, Cg, cn, cc, bc, Ls, v, R, k, Z, hj⟩ := id h
  obtain ⟨⟨z1, z2⟩, ⟨lt1, lt2⟩, -⟩ := hj.top
  have jn := hj.2.2.2.1
  have hF := jn.1.1.2.1.1
  have a1 := wt_h (t := t) (t + 227) (by omega) (by omega)
  have a2 := wt_h (t := t) (t + 229 + 1) (by omega) (by omega)
  have a3 := wt_h (t := t) (t + 229 + 3) (by omega) (by omega)
  have a4 := wt_h (t := t) (t + 85 + 1 + 5) (by omega) (by omega)
  have a5 := wt_h (t := t) (t + 85 + 1 + 7) (by omega) (by omega)
  refine (s_CA_billionths (d := d) i1 i2 hF jn.1.1.2.1.2.1 hj.tg hj.shn.1 jn.tv3 ⟨by omega, by omega, by omega, by omega, by omega⟩).mono (fun r M' q => ?_)
  obtain ⟨ix, q⟩ := q
  rcases q with e | X
  · exact h.rd ⟨e, ix⟩
  · have ot := X.oth (jn.2.1.oc lt1 z1) (by omega)
    have op := X.oth (jn.2.1.oc lt2 z2) (by omega)
    obtain ⟨-, -, -, -, -, -, n7, n8⟩ := jn
    have nt : ¬ (fun x => x = t + 229) t := fun u => by have u' : t = t + 229 := u; omega
    have np : ¬ (fun x => x = t + 229) (t + 234) := fun u => by have u' : t + 234 = t + 229 := u; omega
    exact ⟨ix, hj.gox X (fun x u => tsh_lo u) (fun x u => Or.inr (Or.inr u)) (fun i _ => by rw [ot.2.2.2 nt]) ⟨by unfold Pch; rw [op.1, op.2.1, op.2.2.2 np]; exact n7, by rw [ot.2.2.2 nt]; exact n8⟩⟩
theorem c_CA_print {l1 l2 : Int} (i1 : i32 l1) (i2 : i32 l2) (h : CI c9 C n t Ps Pc M) : Ci G y_CA_print (d + 6) [vr t, vi l1, vi l2] M (fun r M' => i32 r ∧ cQ c9 C n t Ps Pc M M') := by
  obtain ⟨T, Kt, N, A, B, D, Cw, p, O, P, K, p', O', P', K', Ab, Be, Cm, U, Ag, Bg, Cg, cn, cc, bc, Ls, v, R, k, Z, hj⟩ := id h
  have jn := hj.2.2.2.1
  have hF := jn.1.1.2.1.1
  have a1 := wt_h (t := t) (t + 227) (by omega) (by omega)
  refine (s_CA_print (d := d) i1 i2 hF jn.1.1.2.1.2.1 hj.tg hj.shn.1 hj.shn.2 jn.tv3 (fun x u => ?_) (by omega)).mono (fun r M' q => ?_)
  · have := wt_h (t := t) x (by unfold Tre T4 at u; omega) (by unfold Tre T4 at u; omega)
    omega
  obtain ⟨ix, q⟩ := q
  rcases q with e | ⟨X, pt, ⟨c, e18, c3⟩, ti⟩
  · exact h.rd ⟨e, ix⟩
  · exact ⟨ix, hj.gox X (fun x u => tsh_lo u) (fun x u => u) ti ⟨⟨pt.2.1.1, pt.2.1.2, pt.2.2.2.2⟩, c, e18, by omega⟩⟩
end NCY
end
section
/-! The class at rest: its game changes; choose, adopt. -/
section NCZ
variable {G : mG} {d t x n cn cc bc cn' cc' bc' T Kt N A B D Cw p O P K p' O' P' K' Ab Be Cm U Ag Bg Cg U1 Ag1 Bg1 Cg1 Ps Pc Ps1 Pc1 z : Nat} {M M' M1 : mM} {Z Y C C1 : Nat → Prop} {v v' R k Rn kn : Nat → Nat} {Ls L L' l1 l2 m m' : List Nat} {c9 c8 : tG9}
/-- a step and its room -/
def stp (C : Nat → Prop) (Ps Pc : Nat) (M : mM) (C1 : Nat → Prop) (Ps1 Pc1 : Nat) (M' : mM) : Prop := FC C M M' ∧ (∀ x, C1 x → C x ∨ (mZ M ≤ x ∧ x < mZ M')) ∧ mS M' + Ps ≤ mS M + Ps1 ∧ 64 * mZ M' + Pc ≤ 64 * mZ M + Pc1
/-- some cells of a list of cells are other ones -/
theorem nd_mid (h : (l1 ++ (m ++ l2)).Nodup) (h1 : ∀ x, x ∈ l1 → x < z) (h2 : ∀ x, x ∈ l2 → x < z) (hm : ∀ x, x ∈ m' → x ∈ m ∨ z ≤ x) (nd : m'.Nodup) : (l1 ++ (m' ++ l2)).Nodup := by
  rw [List.nodup_append, List.nodup_append] at h ⊢
  obtain ⟨a1, ⟨a2, a3, a4⟩, a5⟩ := h
  refine ⟨a1, ⟨nd, a3, fun x hx y hy e => ?_⟩, fun x hx y hy e => ?_⟩
  · rcases hm x hx with u | u
    · exact a4 x u y hy e
    · have := h2 y hy; omega
  · rcases List.mem_append.mp hy with u | u
    · rcases hm y u with w | w
      · exact a5 x hx y (List.mem_append.mpr (Or.inl w)) e
      · have := h1 x hx; omega
    · exact a5 x hx y (List.mem_append.mpr (Or.inr u)) e
/-- the numbers' side when the game is another -/
theorem Ns.game (h : Ns Z t Ls v R k cn cc bc M) (o : mOk M') (f : FC Y M M') (hY : ∀ x, Y x → ¬ Z x) (hp : ¬ Y (t + 234)) (zp : t + 234 < mZ M) (hr : ∀ i, 9 ≤ i → mR M' t i = mR M t i) (i18 : mI M' t 18 = mI M t 18) (gk : GK M' (t + 62)) (gt : GTT M' (t + 62) cn' cc' bc') (tk : ∀ i, i < 4 → i ≠ 2 → mI M (v i) 1 = 0 ∨ cn' = cn ∨ cn' = 0) (ch : mI M (v 0) 1 ≠ 0 → Chs M' (t + 85) (t + 62) cn') : Ns Z t Ls v R k cn' cc' bc' M' ∧ (Pn Ls k M' = Pn Ls k M ∧ Qn Ls k M' = Qn Ls k M) := by
  obtain ⟨h1, h2, h3, h4, h5, ⟨h6, h6', h6z⟩, h7, h8⟩ := h
  have nz : ∀ x, Z x → ¬ Y x := fun x a b => hY x b a
  have bz := h1.2.2.1
  have ks := f.ks h1 (fun x u => Or.inl (nz x (zm_in h2 x u)))
  have vI : ∀ i, i < 4 → mI M' (v i) = mI M (v i) := fun i hi => (f.sm (h1.2.1.1 i hi).1.2.2.2.2.1.1.1 (nz _ (h2.2.2 i hi).1)).2.2.2
  have sp := f.sm zp hp
  obtain ⟨N, cps⟩ := h1.keep ks ⟨o, h1.1.1.2.1.sm ks.2.1, gk.gk9.1, gk.gk9.2, gt⟩ (fun i hi i2 => (tk i hi i2).imp (fun e => by rw [vI i hi]; exact e) (fun e => e.imp (fun e => ⟨by rw [vI i hi], e⟩) id))
  exact ⟨⟨N, ks.cnu h2, h3.cg (f.2 t h3.2.2.2.2).1 hr f.1.1, by rw [vI 2 (by decide)]; exact h4, fun u => ch (by rw [← vI 0 (by decide)]; exact u), ⟨h6, h6'.sm (f.sm h6'.1.2.2 (nz _ h6z)) f.1.1, h6z⟩, by unfold Pch; rw [sp.1, sp.2.1, sp.2.2.2]; exact h7, by rw [i18]; exact h8⟩, pn_cg cps⟩
/-- cells of the game and of the top -/
def Yg (t Ag Bg x : Nat) : Prop := x = t ∨ (t + 62 ≤ x ∧ x < t + 85) ∨ x = Ag ∨ x = Bg
theorem nd9g {T A B D O P O' P' Ab Be Ag Bg : Nat} (nd : [T, A, B, D, O, P, O', P', Ab, Be, Ag, Bg].Nodup) : (T ≠ Ag ∧ T ≠ Bg) ∧ (O ≠ Ag ∧ O ≠ Bg) ∧ (P ≠ Ag ∧ P ≠ Bg) := by
  simp only [List.nodup_cons, List.mem_cons, not_or, List.not_mem_nil, not_false_eq_true, and_true] at nd
  obtain ⟨⟨-, -, -, -, -, -, -, -, -, t1, t2⟩, -, -, -, ⟨-, -, -, -, -, o1, o2⟩, ⟨-, -, -, -, p1, p2⟩, -⟩ := nd
  exact ⟨⟨t1, t2⟩, ⟨o1, o2⟩, p1, p2⟩
theorem yl1 {t A B x : Nat} (pA : A = t + 72 + 3 ∨ t + 235 ≤ A) (pB : B = t + 72 + 4 ∨ t + 235 ≤ B) (h : (t + 2 ≤ x ∧ x < t + 62) ∨ (t + 85 ≤ x ∧ x < t + 235)) (u : x = t ∨ (t + 62 ≤ x ∧ x < t + 85) ∨ x = A ∨ x = B) : False := by
  rcases u with u | u | u | u
  · clear pA pB; omega
  · clear pA pB; omega
  · clear pB; omega
  · clear pA; omega
theorem yl2 {t A B x : Nat} (h : x ≠ t ∧ ¬ (t + 62 ≤ x ∧ x < t + 85)) (a : x ≠ A ∧ x ≠ B) (u : x = t ∨ (t + 62 ≤ x ∧ x < t + 85) ∨ x = A ∨ x = B) : False := by
  rcases u with u | u | u | u
  · exact h.1 u
  · exact h.2 u
  · exact a.1 u
  · exact a.2 u
theorem yl3 {t x : Nat} (h : x = t + 1 ∨ t + 235 ≤ x) : x ≠ t ∧ ¬ (t + 62 ≤ x ∧ x < t + 85) := by omega
theorem yl4 {t p p' O i : Nat} (o : O = p + i ∨ t + 235 ≤ O) (hi : i ≤ 2) (pp : (p = t + 30 ∧ p' = t + 46) ∨ (p = t + 46 ∧ p' = t + 30)) : O ≠ t ∧ ¬ (t + 62 ≤ O ∧ O < t + 85) := by omega
theorem yg_lo (h : Ap Z C t T A B D O P O' P' Ab Be Ag Bg M) (hx : Tx c9 t T Kt N A B D Cw p O P K p' O' P' K' Ab Be Cm M) (hm : MK M (t + 235) (t + 72) U Ag Bg Cg) : (∀ x, t + 2 ≤ x → x < t + 62 → ¬ Yg t Ag Bg x) ∧ (¬ Yg t Ag Bg T ∧ ¬ Yg t Ag Bg O ∧ ¬ Yg t Ag Bg P) ∧ (∀ x, Yg t Ag Bg x → C x ∧ ¬ Z x) ∧ ¬ Yg t Ag Bg (t + 234) ∧ (∀ x, t + 85 ≤ x → x < t + 235 → ¬ Yg t Ag Bg x) := by
  obtain ⟨z1, -⟩ := h.nz
  obtain ⟨c1, c2, c3⟩ := h.oc
  have o4 := hx.2.2.2.2.1.2.2.2.1
  have pp := hx.2.2.2.2.2.1
  have pT := h.2.2.1.1
  have ab := hm.2.2.2.2.2.1
  have hn := h.1
  have nd := h.2.1
  clear hx hm
  obtain ⟨a1, a2, a3⟩ := nd9g nd
  obtain ⟨b1, b2, -⟩ := ab
  clear nd h
  unfold Yg
  refine ⟨fun x a b u => yl1 b1 b2 (Or.inl ⟨a, b⟩) u, ⟨fun u => yl2 (yl3 pT) a1 u, fun u => yl2 (yl4 o4.1 (by decide) pp) a2 u, fun u => yl2 (yl4 o4.2.1 (by decide) pp) a3 u⟩, fun x u => ?_, fun u => yl1 b1 b2 (Or.inr ⟨by omega, by omega⟩) u, fun x a b u => yl1 b1 b2 (Or.inr ⟨a, b⟩) u⟩
  rcases u with u | u | u | u
  · rw [u]; exact ⟨(c1 t (by omega) (by omega)).1, z1 t (by omega) (by omega)⟩
  · exact ⟨(c1 x (by omega) (by omega)).1, z1 x (by omega) (by omega)⟩
  · rw [u]; exact ⟨(c3 Ag (by simp)).1, hn _ (Or.inr (Or.inr (by simp)))⟩
  · rw [u]; exact ⟨(c3 Bg (by simp)).1, hn _ (Or.inr (Or.inr (by simp)))⟩
/-- the game's arrays may be new -/
theorem Ap.game (h : Ap Z C t T A B D O P O' P' Ab Be Ag Bg M) (hz : mZ M ≤ mZ M') (e1 : Ag1 = Ag ∨ (mZ M ≤ Ag1)) (e2 : Bg1 = Bg ∨ (mZ M ≤ Bg1)) (z1 : Ag1 < mZ M' ∧ Bg1 < mZ M') (ne : Ag1 ≠ Bg1) : Ap Z (Zn C M M') t T A B D O P O' P' Ab Be Ag1 Bg1 M' := by
  obtain ⟨c1, c2, c3⟩ := h.oc
  have nd : ([T, A, B, D, O, P, O', P', Ab, Be] ++ ([Ag, Bg] ++ [])).Nodup := h.2.1
  have nd' : ([T, A, B, D, O, P, O', P', Ab, Be] ++ ([Ag1, Bg1] ++ [])).Nodup := nd_mid nd (z := mZ M) (fun x hx => (c3 x (List.mem_append.mpr (Or.inl hx) : x ∈ [T, A, B, D, O, P, O', P', Ab, Be] ++ [Ag, Bg])).2) (fun x hx => absurd hx List.not_mem_nil) (fun x hx => by
    rcases List.mem_cons.mp hx with u | u
    · rw [u]; exact e1.imp (fun e => by rw [e]; simp) id
    · rw [List.mem_singleton.mp u]; exact e2.imp (fun e => by rw [e]; simp) id) (by simp [ne])
  refine h.re hz nd' h.2.2.1 (fun x hx => ?_)
  rcases List.mem_append.mp (show x ∈ [T, A, B, D, O, P, O', P', Ab, Be] ++ [Ag1, Bg1] from hx) with u | u
  · exact Or.inl (List.mem_append.mpr (Or.inl u) : x ∈ [T, A, B, D, O, P, O', P', Ab, Be] ++ [Ag, Bg])
  · rcases List.mem_cons.mp u with u | u
    · rcases e1 with e | e
      · rw [u, e]; exact Or.inl (by simp)
      · rw [u]; exact Or.inr ⟨e, z1.1⟩
    · rcases e2 with e | e
      · rw [List.mem_singleton.mp u, e]; exact Or.inl (by simp)
      · rw [List.mem_singleton.mp u]; exact Or.inr ⟨e, z1.2⟩
theorem rmc_game {S1 : Nat} (h6 : Rmc Kt Cw K K' Cm Cg Ps Pc Ls k M) (pe : Pn Ls k M' = Pn Ls k M ∧ Qn Ls k M' = Qn Ls k M) (r1 : mS M' + 4 * Cg ≤ mS M + 4 * Cg1) (r2 : 64 * mZ M' + 2 * Cg ≤ 64 * mZ M + 2 * Cg1) : Rmc Kt Cw K K' Cm Cg1 (Ps + 4 * Cg1 - 4 * Cg) (Pc + 2 * Cg1 - 2 * Cg) Ls k M' ∧ mS M' + Ps ≤ mS M + (Ps + 4 * Cg1 - 4 * Cg) ∧ 64 * mZ M' + Pc ≤ 64 * mZ M + (Pc + 2 * Cg1 - 2 * Cg) := by
  unfold Rmc at h6 ⊢
  rw [pe.1, pe.2]
  exact ⟨⟨by omega, by omega, h6.2.2⟩, by omega, by omega⟩
/-- a step of the game, in the class -/
theorem CJ.game (hj : CJ c9 C n t Ps Pc T Kt N A B D Cw p O P K p' O' P' K' Ab Be Cm U Ag Bg Cg cn cc bc Ls v R k Z M) (o : mOk M') (f : FC (Yg t Ag Bg) M M') (rt : mR M' t = mR M t) (i1 : mI M' t 1 = mI M t 1) (i6 : mI M' t 6 = mI M t 6) (i18 : mI M' t 18 = mI M t 18) (gm : Gm t U1 Ag1 Bg1 Cg1 cn' cc' bc' (n + 1) M') (e1 : Ag1 = Ag ∨ mZ M ≤ Ag1) (e2 : Bg1 = Bg ∨ mZ M ≤ Bg1) (tk : ∀ i, i < 4 → i ≠ 2 → mI M (v i) 1 = 0 ∨ cn' = cn ∨ cn' = 0) (ch : mI M (v 0) 1 ≠ 0 → Chs M' (t + 85) (t + 62) cn') (r1 : mS M' + 4 * Cg ≤ mS M + 4 * Cg1) (r2 : 64 * mZ M' + 2 * Cg ≤ 64 * mZ M + 2 * Cg1) (tx6 : 1 ≤ cn' → mI M t 6 ≠ 0) : ∃ Ps1 Pc1, CJ c9 (Zn C M M') (n + 1) t Ps1 Pc1 T Kt N A B D Cw p O P K p' O' P' K' Ab Be Cm U1 Ag1 Bg1 Cg1 cn' cc' bc' Ls v R k Z M' ∧ stp C Ps Pc M (Zn C M M') Ps1 Pc1 M' := by
  obtain ⟨-, ⟨lt1, lt2⟩, -⟩ := hj.top
  obtain ⟨h1, h2, h3, h4, h5, h6, h7⟩ := hj
  obtain ⟨y1, ⟨y3, y4, y5⟩, y6, y7, y8⟩ := yg_lo h5 h2 h3.2.1
  have tx := h2.fc o f y1 y3 y4 y5 (fun i _ => by rw [rt]) i1 i6
  obtain ⟨ns, pq⟩ := h4.game o f (fun x u => (y6 x u).2) y7 lt2 (fun i _ => by rw [rt]) i18 gm.1 (gm.2.2.2.2.2.1.gtt gm.2.2.2.2.2.2.2) tk ch
  have mk := gm.2.1.2.2.2.2.2
  have ap := h5.game f.1.1 e1 e2 ⟨mk.2.1.2.1, mk.2.1.2.2.1⟩ mk.1.2.2.1
  obtain ⟨rm, s1, s2⟩ := rmc_game (S1 := 0) h6 pq r1 r2
  exact ⟨_, _, ⟨o, tx, gm, ns, ap, rm, by rw [i6]; exact tx6⟩, f.mono (fun x _ u => (y6 x u).1), fun x u => u, s1, s2⟩
theorem CJ.q (hj : CJ c9 C1 (n + 1) t Ps1 Pc1 T Kt N A B D Cw p O P K p' O' P' K' Ab Be Cm U Ag Bg Cg cn cc bc Ls v R k Z M') (s : stp C Ps Pc M C1 Ps1 Pc1 M') : cQ0 c9 C n t Ps Pc M M' := ⟨C1, Ps1, Pc1, ⟨T, Kt, N, A, B, D, Cw, p, O, P, K, p', O', P', K', Ab, Be, Cm, U, Ag, Bg, Cg, cn, cc, bc, Ls, v, R, k, Z, hj⟩, s⟩
/-- choices are told, in the class -/
theorem CJ.told (hj : CJ c9 C n t Ps Pc T Kt N A B D Cw p O P K p' O' P' K' Ab Be Cm U Ag Bg Cg cn cc bc Ls v R k Z M) (o : mOk M') (f : FI (fun x => x = t + 62 + 3) M M') (gs : 1 ≤ cn → GS M' (t + 62) (cn - 1)) : cQ c9 C n t Ps Pc M M' := by
  have fc : FC (Yg t Ag Bg) M M' := f.fc (fun x u => by have u' : x = t + 62 + 3 := u; unfold Yg; omega)
  have ne : ∀ x, x ≠ t + 65 → mI M' x = mI M x := fun x hx => f.2.2.2.2.2.2 x hx
  have et := ne t (by omega)
  have g3 := hj.2.2.1
  have jn := hj.2.2.2.1
  obtain ⟨g1, g2, g4, g5, g6, g7, g8, g9⟩ := g3.up
  obtain ⟨Ps1, Pc1, q1, q2⟩ := hj.game o fc (by rw [f.2.2.1]) (by rw [et]) (by rw [et]) (by rw [et]) ⟨g1.eq2 (fun i _ => ⟨by rw [f.1], by rw [f.2.1]⟩) (fun i _ => by rw [f.2.2.1]), g2.fi f (by rw [ne _ (by omega)]), g4, by rw [ne (t + 77) (by omega), ne (t + 72) (by omega)]; exact g5, by rw [ne (t + 72) (by omega)]; exact g6, g7.told f, gs, g9⟩ (Or.inl rfl) (Or.inl rfl) (fun _ _ _ => Or.inr (Or.inl rfl)) (fun u => chs_same (jn.2.2.2.2.1 u) (ne _ (by omega)) (ne _ (by omega))) (by rw [f.2.2.2.2.2.1]; exact Nat.le_refl _) (by rw [f.2.2.2.2.1]; exact Nat.le_refl _) hj.2.2.2.2.2.2
  have v65 : v 0 ≠ t + 65 := fun e => (hj.2.2.2.2.1.nz).1 (t + 65) (by omega) (by omega) (by rw [← e]; exact hj.vz)
  exact ⟨q1.q q2, by rw [et], by rw [et], by rw [et], fun i _ i3 => ne _ (by omega), hj.knf (by rw [f.2.2.1]) (by rw [ne _ v65])⟩
theorem c_CA_choose {l1 l2 : Int} (i1 : i32 l1) (i2 : i32 l2) (h : CI c9 C n t Ps Pc M) (hp : cmdP M (t + 62) (mI M (t + 62) 0).toNat l1 l2) : Cv G y_CA_choose (d + 2) [vr t, vi l1, vi l2] M (fun M' => cQ c9 C n t Ps Pc M M') := by
  obtain ⟨T, Kt, N, A, B, D, Cw, p, O, P, K, p', O', P', K', Ab, Be, Cm, U, Ag, Bg, Cg, cn, cc, bc, Ls, v, R, k, Z, hj⟩ := h
  obtain ⟨-, -, e0⟩ := hj.top
  rw [e0, Int.toNat_natCast] at hp
  exact (g_CA_choose (d := d) i1 i2 hj.tg hj.2.2.1.2.2.2.2.2.2.1 hp).mono (fun M' q => hj.told q.1 q.2.1 (fun _ => q.2.2))
theorem c_CA_adopt (h : CI c9 C n t Ps Pc M) (kn : mI M (mR M t 11) 1 ≠ 0) : Cv G y_CA_adopt (d + 1) [vr t] M (fun M' => cQ c9 C n t Ps Pc M M') := by
  obtain ⟨T, Kt, N, A, B, D, Cw, p, O, P, K, p', O', P', K', Ab, Be, Cm, U, Ag, Bg, Cg, cn, cc, bc, Ls, v, R, k, Z, hj⟩ := h
  have jn := hj.2.2.2.1
  rw [jn.2.2.1.2.2.1.1] at kn
  exact (g_CA_adopt (d := d) (s := t + 85) hj.tg hj.2.2.1.2.2.2.2.2.2.1 jn.2.2.1.2.1.2 jn.1.1.1.2.1 ⟨jn.2.2.1.2.2.1.1, (jn.1.2.1.1 0 (by decide)).1.1⟩ kn (jn.2.2.2.2.1 kn)).mono (fun M' q => hj.told q.1 q.2.1 q.2.2)
end NCZ
end
section
/-! The class's program tells a game: what exploring it comes to. -/
section PGD
variable {z g p O P K V F1 L cnt Ab Be : Nat} {M : mM} {ns1 : Nat → Int} {sf1 ef1 : Nat → Nat} {X9 : xR9}
theorem pgm_dc (pg : Pgm X9 M p O P) (hw : PW M z p O P K V F1 ns1 sf1 ef1 L cnt) (hO : ¬ gaS g Ab Be O) (hP : ¬ gaS g Ab Be P) : ∃ (F : Nat) (ns : Nat → Int) (sf ef : Nat → Nat) (W pl nq : Nat → Int) (sm : Nat → Nat → Prop) (N n : Nat) (nms : List nm9) (tg : Nat × Nat) (cms : List cm9), gcx M g p O P L V F Ab Be ns sf ef W pl nq sm N n nms ∧ PGx M p O P L V cnt W pl nq sm n ns ef nms tg cms ∧ xpl9 (evq W pl nq sm N nms) (stpq W pl nq sm N nms V (mI M (p + 3)) (mI M (p + 4))) tg cms ((List.range V).map (mI M (p + 5))) = X9 := by
  obtain ⟨⟨W, pl, nq, sm, N, nms, gm⟩, c4, n, hq, ⟨L', ns, sf, ef, h1, h2, h3, h4, ⟨a1, a2, a3⟩, ⟨t1, t2⟩, h7, h8⟩, ⟨v3, v60, v12, ht⟩, hX⟩ := pg
  obtain ⟨pk, ⟨p2, -, -⟩, ⟨p3, -⟩, -, ⟨p12, -⟩, -⟩ := hw
  have eL : L' = L := by
    rw [p2] at h1
    omega
  subst eL
  have eV : vcn nms = V := by
    have v3 : mI M p 3 = ((vcn nms : Nat) : Int) := v3
    rw [p3] at v3
    omega
  have ec : gm.2.2.length = cnt := by
    have h7 : gm.2.2.length = c4.2.2.1 := h7
    have v12 : mI M p 12 = ((c4.2.2.1 : Nat) : Int) := v12
    rw [p12] at v12
    omega
  have eW : gm.1.length = V := a1.trans eV
  have vo : VlO nms gm.1 := ⟨a1, fun v x hx => ⟨(a2 v x hx).2.2.2.1, (a2 v x hx).2.2.2.2⟩, a3⟩
  obtain ⟨tg, htg⟩ : ∃ tg, gm.2.1 = some tg := by
    cases e : gm.2.1 with
    | none => exact absurd (t1 e) ht
    | some tg => exact ⟨tg, rfl⟩
  refine ⟨rcn nms, ns, sf, ef, W, pl, nq, sm, N, n, nms, tg, gm.2.2, ⟨⟨hO, hP, pk.2.2.2.2.1.2.1, pk.2.2.2.2.1.2.2, v60⟩, hq, h2, h3, rfl, eV⟩, ⟨fun l1 e l2 he e3 => ?_, fun l1 e l2 he e3 => ?_, t2 tg htg, ec, fun c cm hc => ?_⟩, ?_⟩
  · obtain ⟨x, hx, -, b1, -, b3⟩ := vlo_get vo he e3
    obtain ⟨y3, y4, -⟩ := a2 _ x hx
    rw [y3, y4]
    exact ⟨b1, b3⟩
  · obtain ⟨x, hx, -, b1, b2, b3⟩ := vlo_get vo he e3
    obtain ⟨-, -, y5, -⟩ := a2 _ x hx
    rw [y5]
    exact ⟨by omega, fun u => by have := b3 u; omega⟩
  · rw [← eV]
    exact h8 c cm hc
  · have eS : (List.range V).map (mI M (p + 5)) = gm.1.map (fun x => x.2.2) := by
      refine List.ext_getElem? (fun v => ?_)
      by_cases y : v < V
      · have hx := List.getElem?_eq_getElem (l := gm.1) (i := v) (by rw [eW]; exact y)
        rw [List.getElem?_map, List.getElem?_range y, List.getElem?_map, hx]
        exact congrArg some (a2 v _ hx).2.2.1
      · rw [List.getElem?_eq_none (by rw [List.length_map, List.length_range]; omega), List.getElem?_eq_none (by rw [List.length_map, eW]; omega)]
    rw [hX, eS]
    have eX : XpG (W, pl, nq, sm, N, nms, gm) = xpl9 (evq W pl nq sm N nms) (stpq W pl nq sm N nms V (fun v => (gm.1.getD v (0, 0, 0)).1) (fun v => (gm.1.getD v (0, 0, 0)).2.1)) tg gm.2.2 (gm.1.map (fun x => x.2.2)) := by
      rw [← eW]
      show xpl9 _ _ (gm.2.1.getD (0, 0)) _ _ = _
      rw [htg]
      rfl
    rw [eX]
    refine xpl_cg (fun sg => rfl) (fun cm hc => ⟨fun sg => rfl, fun b hb => ⟨fun sg => rfl, fun sg => stpq_lo (fun q hq9 => ?_)⟩⟩)
    obtain ⟨c, hc'⟩ := List.getElem?_of_mem hc
    obtain ⟨b', hb'⟩ := List.getElem?_of_mem hb
    obtain ⟨-, -, -, -, u, v, -, -, -, -, d10⟩ := h8 c cm hc'
    obtain ⟨-, -, s2, -, r, l', e9, -, d11, -⟩ := d10 b' b hb'
    obtain ⟨-, -, -, lt, -⟩ := d11 q hq9
    have lt' : q.1 < V := by
      rw [← eV]
      exact lt
    have hx := List.getElem?_eq_getElem (l := gm.1) (i := q.1) (by rw [eW]; exact lt')
    obtain ⟨y3, y4, -⟩ := a2 _ _ hx
    have gd : gm.1.getD q.1 (0, 0, 0) = gm.1[q.1]'(by rw [eW]; exact lt') := by
      rw [List.getD_eq_getElem?_getD, hx]
      rfl
    show mI M (p + 3) q.1 = (gm.1.getD q.1 (0, 0, 0)).1 ∧ mI M (p + 4) q.1 = (gm.1.getD q.1 (0, 0, 0)).2.1
    rw [gd]
    exact ⟨y3, y4⟩
end PGD
end
