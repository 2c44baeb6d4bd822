/-! The class at rest: steps of its numbers. -/
section NCX
variable {G : mG} {d t x n g s b cn cc bc T Kt N A B D Cw p O P K p' O' P' K' Ab Be Cm U Ag Bg Cg Ps Pc : Nat} {M M' M1 : mM} {Z Y C Tn Cm' : Nat → Prop} {v v' R k Rn kn : Nat → Nat} {Ls L L' : List Nat} {W : Nat → Nat} {r : Prop} {c9 c8 : tG9}
theorem stb_ne (h : Stb s x) : x ≠ s + 1 := by unfold Stb at h; omega
theorem gi_ne {i : Nat} (h : g + 22 < s) (hi : i ≤ 9) : g + i ≠ s + 1 := by omega
theorem re_ne {i : Nat} : s + 31 + i ≠ s + 1 := by omega
/-- the Solver under a step of numbers -/
theorem Sb.nx (h : Sb L W s g cn cc bc M) (q : NX L W Tn Cm' False (s + 1) M M') (hg : ∀ i, i ≤ 9 → ¬ Cm' (g + i)) : Sb L W s g cn cc bc M' := by
  obtain ⟨⟨o, ⟨⟨a1, a2⟩, a3, a4, a5⟩, ⟨b1, b2, b3, b4⟩, ⟨b5, b6⟩, gt⟩, ⟨hF, hSK, ⟨⟨c0, c1, c2, c3⟩, c4, c5, c6⟩, hf⟩, hSt, hgo⟩ := h
  have st : ∀ x, Stb s x → mK M' x = mK M x ∧ mN M' x = mN M x ∧ mR M' x = mR M x := fun x hx => by
    have := q.oth (hSt x hx) (stb_ne hx)
    exact ⟨this.1, this.2.1, this.2.2.1⟩
  have go : ∀ i, i ≤ 9 → mK M' (g + i) = mK M (g + i) ∧ mN M' (g + i) = mN M (g + i) ∧ mR M' (g + i) = mR M (g + i) ∧ mI M' (g + i) = mI M (g + i) := fun i hi => by
    have := q.oth (hgo i hi) (gi_ne a2 hi)
    exact ⟨this.1, this.2.1, this.2.2.1, this.2.2.2 (hg i hi)⟩
  have re : ∀ i, i ≤ 6 → mK M' (s + 31 + i) = mK M (s + 31 + i) ∧ mN M' (s + 31 + i) = mN M (s + 31 + i) ∧ mR M' (s + 31 + i) = mR M (s + 31 + i) := fun i hi => by
    have := q.oth (c4 i hi) re_ne
    exact ⟨this.1, this.2.1, this.2.2.1⟩
  have e0 := st s (Or.inl rfl)
  have e29 := st (s + 29) (Or.inr (Or.inl rfl))
  have e30 := st (s + 30) (Or.inr (Or.inr (Or.inl rfl)))
  have e122 := st (s + 122) (Or.inr (Or.inr (Or.inr (Or.inl rfl))))
  have e123 := st (s + 123) (Or.inr (Or.inr (Or.inr (Or.inr (Or.inl rfl)))))
  have e124 := st (s + 124) (Or.inr (Or.inr (Or.inr (Or.inr (Or.inr (Or.inl rfl))))))
  have e125 := st (s + 125) (Or.inr (Or.inr (Or.inr (Or.inr (Or.inr (Or.inr (Or.inl rfl)))))))
  have e126 := st (s + 126) (Or.inr (Or.inr (Or.inr (Or.inr (Or.inr (Or.inr (Or.inr (Or.inl rfl))))))))
  have e128 := st (s + 128) (Or.inr (Or.inr (Or.inr (Or.inr (Or.inr (Or.inr (Or.inr (Or.inr (Or.inl rfl)))))))))
  have e129 := st (s + 129) (Or.inr (Or.inr (Or.inr (Or.inr (Or.inr (Or.inr (Or.inr (Or.inr (Or.inr rfl)))))))))
  have g0 := go 0 (by decide)
  rw [Nat.add_zero] at g0
  have r0 := re 0 (by decide)
  rw [Nat.add_zero] at r0
  have r1 := re 1 (by decide)
  have r2 := re 2 (by decide)
  have r3 := re 3 (by decide)
  have r4 := re 4 (by decide)
  have r5 := re 5 (by decide)
  have r6 := re 6 (by decide)
  refine ⟨⟨q.ok, ⟨⟨by rw [e0.1]; exact a1, a2⟩, by rw [e0.2.2]; exact a3, by rw [e29.1, e30.1, e122.1, e123.1, e124.1, e125.1, e126.1, e128.1, e129.1]; exact a4, by rw [e29.2.1, e30.2.1, e122.2.1, e123.2.1, e124.2.1, e125.2.1, e126.2.1, e128.2.1, e129.2.1]; exact a5⟩, ⟨by rw [g0.1]; exact b1, by rw [g0.2.2.1]; exact b2, fun i i1 i2 => by rw [(go i i2).1]; exact b3 i i1 i2, by rw [(go 2 (by decide)).2.1, (go 4 (by decide)).2.1, (go 6 (by decide)).2.1, (go 7 (by decide)).2.1, (go 8 (by decide)).2.1, (go 9 (by decide)).2.1]; exact b4⟩, ⟨by rw [g0.2.2.1]; exact b5, by rw [(go 3 (by decide)).2.1]; exact b6⟩, gt.same (fun i hi => (go i hi).2.2.2)⟩, ⟨q.nf, q.sk hF hSK, ⟨⟨by rw [r0.1]; exact c0, by rw [r0.2.2]; exact c1, by rw [r1.1, r2.1, r3.1, r4.1, r5.1, r6.1]; exact c2, by rw [r1.2.1, r2.2.1, r3.2.1, r4.2.1, r5.2.1, r6.2.1]; exact c3⟩, fun i hi => q.oc hF (c4 i hi), fun i hi => by rw [r2.2.2]; exact c5 i hi, c6⟩, (q.frl hF hf).1⟩, fun x hx => q.oc hF (hSt x hx), fun i hi => q.oc hF (hgo i hi)⟩
/-- a step of numbers that touches no table -/
theorem Nms.nxg (h : Nms L W s g b cn cc bc v R k M) (q : NX L W Tn Cm' False (s + 1) M M') (hT : ∀ x, Tn x → x < b) (hC : ∀ x, Cm' x → x < b) (hv : ∀ j, j < 4 → ¬ Cm' (v j)) (hg : ∀ i, i ≤ 9 → ¬ Cm' (g + i)) : Nms L W s g b cn cc bc v R k M' ∧ ∀ j, j < 4 → mI M' (v j) = mI M (v j) := by
  obtain ⟨sb, tb, ⟨b1, b2⟩, tk⟩ := h
  have hF := sb.2.1.1
  refine ⟨⟨sb.nx q hg, tb.nx q hF, ⟨b1, Nat.le_trans b2 q.2.2.1.1.1⟩, fun j hj j2 => (tk j hj j2).nx (tb.1 j hj) q hF (hv j hj) (fun l hl => ?_)⟩, fun j hj => (q.oth (tb.1 j hj).1.2.2.2.2.1.1 (by have := (tb.1 j hj).2.2.2.2.1; omega)).2.2.2 (hv j hj)⟩
  have bl := (tb.1 j hj).2.1 l hl
  exact ⟨fun u => by have := hT _ u; omega, fun u => by have := hT _ u; omega, fun u => by have := hC _ u; omega⟩
theorem NX.cnu (q : NX L W Tn Cm' r (s + 1) M M') (hF : NF L W M) (hc : Cnu Z L s v R k M) (tb : Tb0 L M s b v R k) : Cnu (Zn Z M M') L s v R k M' ∧ FC (fun x => Z x ∨ Cm' x) M M' := by
  have hc' : Cnu (fun x => Z x ∨ Cm' x) L s v R k M := hc.cg (fun x u => Or.inl u)
  refine ⟨?_, (q.fc hF hc' tb (fun x u => Or.inr u)).1⟩
  obtain ⟨c1, c2, c3, c4, c5, c6⟩ := hc
  refine ⟨fun x a1 a2 => Or.inl (c1 x a1 a2), fun a ha => ⟨Or.inl (c2 a ha).1, ?_⟩, fun i hi => ⟨Or.inl (c3 i hi).1, Or.inl (c3 i hi).2.1, fun j hj => ?_⟩, Or.inl c4, c5.nx q hF c6, q.oc hF c6⟩
  · by_cases c : Tn a
    · rcases q.2.2.2.1 a c with e | e
      · rw [e]; exact Or.inl (c2 a ha).2
      · exact Or.inr ⟨e, (q.nf.lt ha).2⟩
    · rw [(q.num hF ha c).1]; exact Or.inl (c2 a ha).2
  · rw [((tb.1 i hi).nx q hF).2]; exact Or.inl ((c3 i hi).2.2 j hj)
/-- the cells that a call about numbers may change -/
def Yn (Z : Nat → Prop) (t x : Nat) : Prop := Z x ∨ x = t ∨ x = t + 235
theorem yn_lo (h : Ap Z C t T A B D O P O' P' Ab Be Ag Bg M) (hx : Tx c9 t T Kt N A B D Cw p O P K p' O' P' K' Ab Be Cm M) : (∀ x, t + 2 ≤ x → x < t + 62 → ¬ Yn Z t x) ∧ (∀ x, t + 62 ≤ x → x < t + 85 → ¬ Yn Z t x) ∧ (¬ Yn Z t T ∧ ¬ Yn Z t O ∧ ¬ Yn Z t P) ∧ ∀ x, Yn Z t x → C x := by
  obtain ⟨z1, z2, z3, z4, z5⟩ := h.nz
  obtain ⟨c1, c2, c3⟩ := h.oc
  have o4 := hx.2.2.2.2.1.2.2.2.1
  have pp := hx.2.2.2.2.2.1
  have pT := h.2.2.1.1
  clear hx
  have nn : ∀ x, ¬ Z x → x ≠ t → x ≠ t + 235 → ¬ Yn Z t x := fun x a b c u => u.elim a (fun u => u.elim b c)
  refine ⟨fun x a b => nn x (z1 x (by omega) (by omega)) (by omega) (by omega), fun x a b => nn x (z1 x (by omega) (by omega)) (by omega) (by omega), ⟨nn T z3 (by omega) (by omega), nn O z4 (by omega) (by omega), nn P z5 (by omega) (by omega)⟩, fun x u => ?_⟩
  rcases u with u | u | u
  · exact (c2 x u).1
  · rw [u]; exact (c1 t (by omega) (by omega)).1
  · rw [u]; exact (c1 _ (by omega) (by omega)).1
/-- a step of numbers, in the class -/
theorem CJ.num (hj : CJ c9 C n t Ps Pc T Kt N A B D Cw p O P K p' O' P' K' Ab Be Cm U Ag Bg Cg cn cc bc Ls v R k Z M) (o : mOk M') (f : FC (Yn Z t) M M') (hr : ∀ i, i ≤ 5 → mR M' t i = mR M t i) (i1 : mI M' t 1 = mI M t 1) (i6 : mI M' t 6 = mI M t 6) (i7 : mI M' t 7 = mI M t 7) (i8 : mI M' t 8 = mI M t 8) (ns : Ns (Zn Z M M') t L' v' Rn kn cn cc bc M') (rq : Rq Ls k M L' kn M') : cQ0 c9 C n t Ps Pc M M' ∧ sE0 M M' t := by
  obtain ⟨h1, h2, h3, h4, h5, h6, h7⟩ := hj
  obtain ⟨y1, y2, ⟨y3, y4, y5⟩, y6⟩ := yn_lo h5 h2
  have tx := h2.fc o f y1 y3 y4 y5 hr i1 i6
  refine ⟨⟨Zn C M M', Ps + Pn L' kn M' - Pn Ls k M, Pc + 64 * Qn L' kn M' - 64 * Qn Ls k M, ⟨T, Kt, N, A, B, D, Cw, p, O, P, K, p', O', P', K', Ab, Be, Cm, U, Ag, Bg, Cg, cn, cc, bc, L', v', Rn, kn, Zn Z M M', o, tx, (h3.fc f y2).up, ns, h5.zn f.1.1, ?_, by rw [i6]; exact h7⟩, f.mono (fun x _ u => y6 x u), fun x u => u, ?_, ?_⟩, i1, i7, i8, fun i hi _ => (f.sm (by have := h3.2.1.2.2.2.2.2.2.1.1; clear h2 h4 h5 h6 tx ns; omega) (y2 _ (by omega) (by omega))).2.2.2⟩
  · clear tx ns h2 h3 h4 h5 f
    obtain ⟨r1, r2, r3, -⟩ := rq
    unfold Rmc at h6 ⊢
    exact ⟨by omega, by omega, by omega⟩
  · clear tx ns h2 h3 h4 h5 f
    obtain ⟨r1, r2, r3, -⟩ := rq
    unfold Rmc at h6
    omega
  · clear tx ns h2 h3 h4 h5 f
    obtain ⟨r1, r2, r3, -⟩ := rq
    unfold Rmc at h6
    omega
/-- the numbers' side after a step that leaves the top and what is printed -/
theorem Ns.step (h : Ns Z t Ls v R k cn cc bc M) (nz : ¬ Z t ∧ ¬ Z (t + 235)) (zp : t + 235 < mZ M) (f : FC Z M M') (nm : Nms L' (Wt t) (t + 85) (t + 62) (t + 236) cn cc bc v Rn kn M') (cn' : Cnu (Zn Z M M') L' (t + 85) v Rn kn M') (f2 : mI M' (v 2) 1 = 0) (ch : mI M' (v 0) 1 ≠ 0 → Chs M' (t + 85) (t + 62) cn) (rq : Rq Ls k M L' kn M') : Ns (Zn Z M M') t L' v Rn kn cn cc bc M' := by
  obtain ⟨h1, h2, h3, h4, h5, ⟨h6, h6', h6z⟩, h7, h8⟩ := h
  obtain ⟨tr, ti⟩ := h3.fc f nz.1
  have sp := f.sm zp nz.2
  exact ⟨nm, cn', tr, f2, ch, ⟨rq.2.2.2.1 _ h6, rq.2.2.2.2 _ h6', Or.inl h6z⟩, by unfold Pch; rw [sp.1, sp.2.1, sp.2.2.2]; exact h7, by rw [ti]; exact h8⟩
theorem FC.yn (f : FC Z M M') : FC (Yn Z t) M M' := f.mono (fun x _ u => Or.inl u)
end NCX
