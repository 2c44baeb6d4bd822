/-! The class at rest: solve, judge, check, within, compare, billionths, print. -/
section NCY
variable {G : mG} {d t x n cn cc bc T Kt N A B D Cw p O P K p' O' P' K' Ab Be Cm U Ag Bg Cg Ps Pc : Nat} {M M' M1 : mM} {Z Y C : Nat → Prop} {v v' R k Rn kn : Nat → Nat} {Ls L L' : List Nat} {c9 c8 : tG9}
/-- cells of the top that are no numbers -/
theorem CJ.top (hj : CJ c9 C n t Ps Pc T Kt N A B D Cw p O P K p' O' P' K' Ab Be Cm U Ag Bg Cg cn cc bc Ls v R k Z M) : (¬ Z t ∧ ¬ Z (t + 235)) ∧ (t < mZ M ∧ t + 235 < mZ M) ∧ mI M (t + 62) 0 = ((cn : Nat) : Int) := by
  obtain ⟨z1, z2, -⟩ := hj.2.2.2.2.1.nz
  obtain ⟨c1, -⟩ := hj.2.2.2.2.1.oc
  exact ⟨⟨z1 t (by omega) (by omega), z2⟩, ⟨(c1 t (by omega) (by omega)).2, (c1 _ (by omega) (by omega)).2⟩, hj.tg.2.2.2.cnt.1⟩
theorem CJ.go0 (hj : CJ c9 C n t Ps Pc T Kt N A B D Cw p O P K p' O' P' K' Ab Be Cm U Ag Bg Cg cn cc bc Ls v R k Z M) (N1 : Nms L' (Wt t) (t + 85) (t + 62) (t + 236) cn cc bc v Rn kn M') (P1 : Sp Z (t + 85) v M M' L' Rn kn) (Q1 : Rq Ls k M L' kn M') (f2 : mI M' (v 2) = mI M (v 2)) (ch : mI M' (v 0) 1 ≠ 0 → Chs M' (t + 85) (t + 62) cn) : (cQ0 c9 C n t Ps Pc M M' ∧ sE0 M M' t) ∧ mR M' t = mR M t := by
  obtain ⟨⟨z1, z2⟩, ⟨l1, l2⟩, -⟩ := hj.top
  have jn := hj.2.2.2.1
  obtain ⟨-, e1, e2⟩ := (P1.1.2 t l1).2.2 z1
  exact ⟨hj.num N1.cnt.2.2.2 P1.1.yn (fun i _ => by rw [e1]) (by rw [e2]) (by rw [e2]) (by rw [e2]) (by rw [e2]) (jn.step ⟨z1, z2⟩ l2 P1.1 N1 P1.2 (by rw [f2]; exact jn.2.2.2.1) ch Q1) Q1, e1⟩
theorem CJ.go (hj : CJ c9 C n t Ps Pc T Kt N A B D Cw p O P K p' O' P' K' Ab Be Cm U Ag Bg Cg cn cc bc Ls v R k Z M) (N1 : Nms L' (Wt t) (t + 85) (t + 62) (t + 236) cn cc bc v Rn kn M') (P1 : Sp Z (t + 85) v M M' L' Rn kn) (Q1 : Rq Ls k M L' kn M') (f2 : mI M' (v 2) = mI M (v 2)) (ch : mI M' (v 0) 1 ≠ 0 → Chs M' (t + 85) (t + 62) cn) (kv : mI M' (v 0) 1 = mI M (v 0) 1) : cQ c9 C n t Ps Pc M M' := by
  obtain ⟨⟨a1, a2⟩, a3⟩ := hj.go0 N1 P1 Q1 f2 ch
  exact ⟨a1, a2.kn (hj.knf (by rw [a3]) kv)⟩
theorem c_CA_solve (h : CI c9 C n t Ps Pc M) (c0 : mI M (t + 62) 0 ≠ 0) : Ci G y_CA_solve (d + 9) [vr t] M (fun r M' => i32 r ∧ (cQ0 c9 C n t Ps Pc M M' ∧ sE0 M M' t ∧ mI M' (mR M' t 11) 1 = if r = 0 then 1 else 0) ∧ (kdT (xtm M (t + 62) (mI M (t + 62) 0).toNat) → svA9 (xtm M (t + 62) (mI M (t + 62) 0).toNat) r)) := by
  obtain ⟨T, Kt, N, A, B, D, Cw, p, O, P, K, p', O', P', K', Ab, Be, Cm, U, Ag, Bg, Cg, cn, cc, bc, Ls, v, R, k, Z, hj⟩ := h
  obtain ⟨⟨z1, z2⟩, -, e0⟩ := hj.top
  have jn := hj.2.2.2.1
  rw [e0] at c0
  refine (n_CA_solve (d := d) jn.1 jn.2.1 jn.2.2.1 z1 (by clear jn hj; omega) wt_r wt_s).mono (fun r M' q => ?_)
  obtain ⟨ix, ⟨L', Rn, kn, N1, P1, Q1, G1, V1⟩, ch, qsv, qk⟩ := q
  rw [e0, Int.toNat_natCast]
  obtain ⟨⟨a1, a2⟩, a3⟩ := hj.go0 N1 P1 Q1 (V1 2 (by decide) (by decide)) ch
  exact ⟨ix, ⟨a1, a2, by rw [a3, jn.2.2.1.2.2.1.1]; exact qk⟩, qsv⟩
theorem c_CA_judge {l : Int} (hl : l = 1 ∨ l = 2) (h : CI c9 C n t Ps Pc M) (c0 : mI M (t + 62) 0 ≠ 0) : Ci G y_CA_judge (d + 9) [vr t, vi l] M (fun r M' => i32 r ∧ cQ c9 C n t Ps Pc M M') := by
  obtain ⟨T, Kt, N, A, B, D, Cw, p, O, P, K, p', O', P', K', Ab, Be, Cm, U, Ag, Bg, Cg, cn, cc, bc, Ls, v, R, k, Z, hj⟩ := h
  obtain ⟨-, -, e0⟩ := hj.top
  have jn := hj.2.2.2.1
  rw [e0] at c0
  refine (n_CA_judge (d := d) hl jn.1 jn.2.1 jn.2.2.1 (by clear jn hj; omega) (tld_of hl hj.2.2.1.2.2.2.2.2.2.1) wt_r wt_s).mono (fun r M' q => ?_)
  obtain ⟨ix, ⟨L', Rn, kn, N1, P1, Q1, G1, V1⟩, e30⟩ := q
  refine ⟨ix, hj.go N1 P1 Q1 (V1 2 (by decide) (by decide)) (fun u => ?_) (by rw [V1 0 (by decide) (by decide)])⟩
  rw [V1 0 (by decide) (by decide)] at u
  exact chs_same (jn.2.2.2.2.1 u) e30 (G1 4 (by decide))
theorem c_CA_check (h : CI c9 C n t Ps Pc M) : Ci G y_CA_check (d + 8) [vr t] M (fun r M' => i32 r ∧ cQ c9 C n t Ps Pc M M') := by
  obtain ⟨T, Kt, N, A, B, D, Cw, p, O, P, K, p', O', P', K', Ab, Be, Cm, U, Ag, Bg, Cg, cn, cc, bc, Ls, v, R, k, Z, hj⟩ := id h
  have jn := hj.2.2.2.1
  refine (n_CA_check (d := d) jn.1 jn.2.1 jn.2.2.1 wt_s).mono (fun r M' q => ?_)
  obtain ⟨ix, q⟩ := q
  rcases q with e | ⟨⟨L', Rn, kn, N1, P1, Q1, G1, V1⟩, ev, e30⟩
  · exact h.rd ⟨e, ix⟩
  · refine ⟨ix, hj.go N1 P1 Q1 (V1 2 (by decide) (by decide)) (fun u => ?_) (by rw [ev])⟩
    rw [ev] at u
    exact chs_same (jn.2.2.2.2.1 u) e30 (G1 4 (by decide))
theorem c_CA_within {l : Int} (hl : 0 ≤ l ∧ l ≤ 32) (h : CI c9 C n t Ps Pc M) (c0 : mI M (t + 62) 0 ≠ 0) : Ci G y_CA_within (d + 9) [vr t, vi l] M (fun r M' => i32 r ∧ cQ c9 C n t Ps Pc M M' ∧ anA9 (xtm M (t + 62) (mI M (t + 62) 0).toNat) l.toNat r) := by
  obtain ⟨T, Kt, N, A, B, D, Cw, p, O, P, K, p', O', P', K', Ab, Be, Cm, U, Ag, Bg, Cg, cn, cc, bc, Ls, v, R, k, Z, hj⟩ := h
  obtain ⟨⟨z1, z2⟩, ⟨l1, l2⟩, e0⟩ := hj.top
  have jn := hj.2.2.2.1
  rw [e0] at c0
  refine (n_CA_within (d := d) hl jn.1 jn.2.1 jn.2.2.1 z1 (by clear jn hj; omega) jn.2.2.2.1 wt_r wt_s).mono (fun r M' q => ?_)
  obtain ⟨⟨ix, an⟩, v', L', Rn, kn, N1, tr, hv, f, cn', rq, ⟨g1, g2, g3, g4, g5⟩, f2, rt⟩ := q
  rw [e0, Int.toNat_natCast]
  obtain ⟨-, -, -, -, h5, ⟨h6, h6', h6z⟩, h7, h8⟩ := jn
  have sp := f.sm l2 (fun u => u.elim z2 (fun u => by omega))
  have r11 := hj.2.2.2.1.2.2.1.2.2.1.1
  have kf : knF M M' t := by
    unfold knF
    rw [tr.2.2.1.1, (vsw hv).1.1, g3, r11]
  refine ⟨ix, (fun q => ⟨q.1, q.2.kn kf⟩) (hj.num N1.cnt.2.2.2 (f.mono (fun x _ u => u.elim Or.inl (fun u => Or.inr (Or.inl u)))) (fun i hi => rt i (by omega) (by omega)) (by rw [g2]) (by rw [g2]) (by rw [g2]) (by rw [g2]) ⟨N1, cn', tr, f2, fun u => ?_, ⟨rq.2.2.2.1 _ h6, rq.2.2.2.2 _ h6', Or.inl h6z⟩, by unfold Pch; rw [sp.1, sp.2.1, sp.2.2.2]; exact h7, by rw [g2]; exact h8⟩ rq), an⟩
  rw [(vsw hv).1.1, g3] at u
  exact chs_same (h5 u) g5 (g1 4 (by decide))
/-- three tables to look at -/
theorem Ns.tv3 (h : Ns Z t Ls v R k cn cc bc M) : Tv3 Ls M t (t + 236) (v 0) (v 1) (v 3) (R 0) (R 1) (R 3) (k 0) (k 1) (k 3) cn := by
  obtain ⟨h1, -, h3, -⟩ := h
  have one : ∀ i, i < 4 → i ≠ 2 → Tv Ls M (t + 236) (v i) (R i) (k i) cn := fun i hi i2 => ⟨(h1.2.1.1 i hi).1, (h1.2.1.1 i hi).2.1, h1.2.2.2 i hi i2⟩
  exact ⟨⟨h3.2.2.1.1, h3.2.2.1.2.1, h3.2.2.1.2.2.2⟩, one 0 (by decide) (by decide), one 1 (by decide) (by decide), one 3 (by decide) (by decide)⟩
/-- a step of numbers that touches no table, in the class -/
theorem CJ.gox {Tn Cn' : Nat → Prop} (hj : CJ c9 C n t Ps Pc T Kt N A B D Cw p O P K p' O' P' K' Ab Be Cm U Ag Bg Cg cn cc bc Ls v R k Z M) (q : NX Ls (Wt t) Tn Cn' False (t + 85 + 1) M M') (hT : ∀ x, Tn x → x < t + 236) (hC : ∀ x, Cn' x → x = t ∨ x = t + 235 ∨ x = t + 230) (ti : ∀ i, i ≠ 18 → mI M' t i = mI M t i) (hp : (mK M' (t + 235) = 32 ∧ mN M' (t + 235) = 400 ∧ Pch M' (t + 235)) ∧ ∃ c : Nat, mI M' t 18 = ((c : Nat) : Int) ∧ c ≤ 400) : cQ c9 C n t Ps Pc M M' := by
  obtain ⟨⟨z1, z2⟩, ⟨l1, l2⟩, -⟩ := hj.top
  obtain ⟨zz, -⟩ := hj.2.2.2.2.1.nz
  obtain ⟨n1, n2, n3, n4, n5, ⟨n6, n6', n6z⟩, n7, n8⟩ := hj.2.2.2.1
  have hF := n1.1.2.1.1
  have nC : ∀ x, ¬ Z x → x ≠ t → x ≠ t + 235 → ¬ Cn' x := fun x a b c u => by
    rcases hC x u with w | w | w
    · exact b w
    · exact c w
    · rw [w] at a; exact a n6z
  have nv : ∀ j, j < 4 → ¬ Cn' (v j) := fun j hj u => by
    have zv := (n2.2.2.1 j hj).1
    have kv := (n1.2.1.1 j hj).1.1
    rcases hC _ u with w | w | w
    · rw [w] at zv; exact z1 zv
    · rw [w] at zv; exact z2 zv
    · rw [w, n6'.1.1] at kv; exact absurd kv (by decide)
  have ng : ∀ i, i ≤ 9 → ¬ Cn' (t + 62 + i) := fun i hi => nC _ (zz _ (by omega) (by omega)) (by omega) (by omega)
  have lt : ∀ x, Cn' x → x < t + 236 := fun x u => by have := hC x u; omega
  obtain ⟨N1, V1⟩ := n1.nxg q hT lt nv ng
  obtain ⟨c', f⟩ := q.cnu hF n2 n1.2.1
  have f' : FC (Yn Z t) M M' := f.mono (fun x _ u => by
    rcases u with u | u
    · exact Or.inl u
    · rcases hC x u with w | w | w
      · exact Or.inr (Or.inl w)
      · exact Or.inr (Or.inr w)
      · rw [w]; exact Or.inl n6z)
  have oct : Oc Ls M t := n2.oc l1 z1
  have rt : mR M' t = mR M t := (q.oth oct (by omega)).2.2.1
  have rq := q.rq (k := k) hF
  have g4 : mI M' (t + 62 + 4) = mI M (t + 62 + 4) := (q.oth (n1.1.2.2.2 4 (by decide)) (by omega)).2.2.2 (ng 4 (by decide))
  have s30 : mI M' (t + 85 + 30) = mI M (t + 85 + 30) := (q.oth (n1.1.2.2.1 _ st30) (by omega)).2.2.2 (fun u => by have := hC _ u; omega)
  refine (fun w => ⟨w.1, w.2.kn (hj.knf (by rw [rt]) (by rw [V1 0 (by decide)]))⟩) (hj.num q.ok f' (fun i _ => by rw [rt]) (ti 1 (by decide)) (ti 6 (by decide)) (ti 7 (by decide)) (ti 8 (by decide)) ⟨N1, c', n3.cg (q.kind l1) (fun i _ => by rw [rt]) f.1.1, by rw [V1 2 (by decide)]; exact n4, fun u => ?_, ⟨n6, rq.2.2.2.2 _ n6', Or.inl n6z⟩, hp.1, hp.2⟩ rq)
  rw [V1 0 (by decide)] at u
  exact chs_same (n5 u) s30 g4
theorem c_CA_compare {l1 l2 l3 l4 : Int} (i1 : i32 l1) (i2 : i32 l2) (i3 : i32 l3) (i4 : i32 l4) (h : CI c9 C n t Ps Pc M) : Ci G y_CA_compare (d + 6) [vr t, vi l1, vi l2, vi l3, vi l4] M (fun r M' => i32 r ∧ cQ c9 C n t Ps Pc M M') := by
  obtain ⟨T, Kt, N, A, B, D, Cw, p, O, P, K, p', O', P', K', Ab, Be, Cm, U, Ag, Bg, Cg, cn, cc, bc, Ls, v, R, k, Z, hj⟩ := id h
  obtain ⟨⟨z1, z2⟩, ⟨lt1, lt2⟩, -⟩ := hj.top
  have jn := hj.2.2.2.1
  have sk := jn.1.1.2.1.2.1
  have so := jn.1.1.1.2.1
  have hF := jn.1.1.2.1.1
  have w9 := wt_s (t := t) (t + 85 + 1 + 9) (by omega) (by omega)
  have w11 := wt_s (t := t) (t + 85 + 1 + 11) (by omega) (by omega)
  refine (s_CA_compare (d := d) (s := t + 85) (b := t + 236) i1 i2 i3 i4 hF sk hj.tg ⟨jn.2.2.1.2.1.2, so.1.1, so.2.1.1⟩ jn.tv3 (by omega) (by omega) (by omega)).mono (fun r M' q => ?_)
  obtain ⟨ix, q⟩ := q
  rcases q with e | q
  · exact h.rd ⟨e, ix⟩
  · have X := q.nx hF
    have ot := X.oth (jn.2.1.oc lt1 z1) (by omega)
    have op := X.oth (jn.2.1.oc lt2 z2) (by omega)
    obtain ⟨-, -, -, -, -, -, n7, n8⟩ := jn
    exact ⟨ix, hj.gox X (fun x u => by unfold Tor at u; omega) (fun x u => u.elim) (fun i _ => by rw [ot.2.2.2 (fun u => u)]) ⟨by unfold Pch; rw [op.1, op.2.1, op.2.2.2 (fun u => u)]; exact n7, by rw [ot.2.2.2 (fun u => u)]; exact n8⟩⟩
/-- the top's own numbers -/
theorem CJ.shn (hj : CJ c9 C n t Ps Pc T Kt N A B D Cw p O P K p' O' P' K' Ab Be Cm U Ag Bg Cg cn cc bc Ls v R k Z M) : Shn Ls M t (t + 85) (t + 228) (t + 230) (t + 236) ∧ Prt Ls M t (t + 235) (t + 228) := by
  obtain ⟨⟨z1, z2⟩, ⟨lt1, lt2⟩, -⟩ := hj.top
  have jn := hj.2.2.2.1
  have so := jn.1.1.1.2.1
  have os := jn.1.1.2.2.1 (t + 85) (Or.inl rfl)
  obtain ⟨n1, n2, n3, n4, n5, ⟨n6, n6', n6z⟩, n7, n8⟩ := jn
  have ot := n2.oc lt1 z1
  exact ⟨⟨⟨n3.1, n3.2.1.2, n3.2.2.2.1.1, n3.2.2.2.1.2.1⟩, ⟨so.1.1, so.2.1.1⟩, ⟨n6, n6'⟩, ⟨ot, os, by omega⟩, by omega, by omega, by omega⟩, ⟨n3.1, n3.2.2.2.1.1, n3.2.2.2.1.2.2⟩, ⟨n7.1, n7.2.1⟩, ⟨ot, n2.oc lt2 z2, by omega⟩, n6, n7.2.2⟩
theorem tsh_lo (h : Tsh (t + 85) (t + 228) (t + 230) x) : x < t + 236 := by unfold Tsh T4 at h; omega
theorem wt_h : ∀ x, t + 85 ≤ x → x < t + 236 → 300 ≤ Wt t x := fun x _ hx => by unfold Wt; rw [if_pos hx]; decide
theorem c_CA_billionths {l1 l2 : Int} (i1 : i32 l1) (i2 : i32 l2) (h : CI c9 C n t Ps Pc M) : Ci G y_CA_billionths (d + 5) [vr t, vi l1, vi l2] M (fun r M' => i32 r ∧ cQ c9 C n t Ps Pc M M') := by
  obtain ⟨T, Kt, N, A, B, D, Cw, p, O, P, K, p', O', P', K', Ab, Be, Cm, U, Ag, Bg, Cg, cn, cc, bc, Ls, v, R, k, Z, hj⟩ := id h
  obtain ⟨⟨z1, z2⟩, ⟨lt1, lt2⟩, -⟩ := hj.top
  have jn := hj.2.2.2.1
  have hF := jn.1.1.2.1.1
  have a1 := wt_h (t := t) (t + 228) (by omega) (by omega)
  have a2 := wt_h (t := t) (t + 230 + 1) (by omega) (by omega)
  have a3 := wt_h (t := t) (t + 230 + 3) (by omega) (by omega)
  have a4 := wt_h (t := t) (t + 85 + 1 + 5) (by omega) (by omega)
  have a5 := wt_h (t := t) (t + 85 + 1 + 7) (by omega) (by omega)
  refine (s_CA_billionths (d := d) i1 i2 hF jn.1.1.2.1.2.1 hj.tg hj.shn.1 jn.tv3 ⟨by omega, by omega, by omega, by omega, by omega⟩).mono (fun r M' q => ?_)
  obtain ⟨ix, q⟩ := q
  rcases q with e | X
  · exact h.rd ⟨e, ix⟩
  · have ot := X.oth (jn.2.1.oc lt1 z1) (by omega)
    have op := X.oth (jn.2.1.oc lt2 z2) (by omega)
    obtain ⟨-, -, -, -, -, -, n7, n8⟩ := jn
    have nt : ¬ (fun x => x = t + 230) t := fun u => by have u' : t = t + 230 := u; omega
    have np : ¬ (fun x => x = t + 230) (t + 235) := fun u => by have u' : t + 235 = t + 230 := u; omega
    exact ⟨ix, hj.gox X (fun x u => tsh_lo u) (fun x u => Or.inr (Or.inr u)) (fun i _ => by rw [ot.2.2.2 nt]) ⟨by unfold Pch; rw [op.1, op.2.1, op.2.2.2 np]; exact n7, by rw [ot.2.2.2 nt]; exact n8⟩⟩
theorem c_CA_print {l1 l2 : Int} (i1 : i32 l1) (i2 : i32 l2) (h : CI c9 C n t Ps Pc M) : Ci G y_CA_print (d + 6) [vr t, vi l1, vi l2] M (fun r M' => i32 r ∧ cQ c9 C n t Ps Pc M M') := by
  obtain ⟨T, Kt, N, A, B, D, Cw, p, O, P, K, p', O', P', K', Ab, Be, Cm, U, Ag, Bg, Cg, cn, cc, bc, Ls, v, R, k, Z, hj⟩ := id h
  have jn := hj.2.2.2.1
  have hF := jn.1.1.2.1.1
  have a1 := wt_h (t := t) (t + 228) (by omega) (by omega)
  refine (s_CA_print (d := d) i1 i2 hF jn.1.1.2.1.2.1 hj.tg hj.shn.1 hj.shn.2 jn.tv3 (fun x u => ?_) (by omega)).mono (fun r M' q => ?_)
  · have := wt_h (t := t) x (by unfold Tre T4 at u; omega) (by unfold Tre T4 at u; omega)
    omega
  obtain ⟨ix, q⟩ := q
  rcases q with e | ⟨X, pt, ⟨c, e18, c3⟩, ti⟩
  · exact h.rd ⟨e, ix⟩
  · exact ⟨ix, hj.gox X (fun x u => tsh_lo u) (fun x u => u) ti ⟨⟨pt.2.1.1, pt.2.1.2, pt.2.2.2.2⟩, c, e18, by omega⟩⟩
end NCY
