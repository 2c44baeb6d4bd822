/-! The class at rest: its game changes; choose, adopt. -/
section NCZ
variable {G : mG} {d t x n cn cc bc cn' cc' bc' T Kt N A B D Cw p O P K p' O' P' K' Ab Be Cm U Ag Bg Cg U1 Ag1 Bg1 Cg1 Ps Pc Ps1 Pc1 z : Nat} {M M' M1 : mM} {Z Y C C1 : Nat → Prop} {v v' R k Rn kn : Nat → Nat} {Ls L L' l1 l2 m m' : List Nat} {c9 c8 : tG9}
/-- a step and its room -/
def stp (C : Nat → Prop) (Ps Pc : Nat) (M : mM) (C1 : Nat → Prop) (Ps1 Pc1 : Nat) (M' : mM) : Prop := FC C M M' ∧ (∀ x, C1 x → C x ∨ (mZ M ≤ x ∧ x < mZ M')) ∧ mS M' + Ps ≤ mS M + Ps1 ∧ 64 * mZ M' + Pc ≤ 64 * mZ M + Pc1
/-- some cells of a list of cells are other ones -/
theorem nd_mid (h : (l1 ++ (m ++ l2)).Nodup) (h1 : ∀ x, x ∈ l1 → x < z) (h2 : ∀ x, x ∈ l2 → x < z) (hm : ∀ x, x ∈ m' → x ∈ m ∨ z ≤ x) (nd : m'.Nodup) : (l1 ++ (m' ++ l2)).Nodup := by
  rw [List.nodup_append, List.nodup_append] at h ⊢
  obtain ⟨a1, ⟨a2, a3, a4⟩, a5⟩ := h
  refine ⟨a1, ⟨nd, a3, fun x hx y hy e => ?_⟩, fun x hx y hy e => ?_⟩
  · rcases hm x hx with u | u
    · exact a4 x u y hy e
    · have := h2 y hy; omega
  · rcases List.mem_append.mp hy with u | u
    · rcases hm y u with w | w
      · exact a5 x hx y (List.mem_append.mpr (Or.inl w)) e
      · have := h1 x hx; omega
    · exact a5 x hx y (List.mem_append.mpr (Or.inr u)) e
/-- the numbers' side when the game is another -/
theorem Ns.game (h : Ns Z t Ls v R k cn cc bc M) (o : mOk M') (f : FC Y M M') (hY : ∀ x, Y x → ¬ Z x) (hp : ¬ Y (t + 235)) (zp : t + 235 < mZ M) (hr : ∀ i, 9 ≤ i → mR M' t i = mR M t i) (i18 : mI M' t 18 = mI M t 18) (gk : GK M' (t + 62)) (gt : GTT M' (t + 62) cn' cc' bc') (tk : ∀ i, i < 4 → i ≠ 2 → mI M (v i) 1 = 0 ∨ cn' = cn ∨ cn' = 0) (ch : mI M (v 0) 1 ≠ 0 → Chs M' (t + 85) (t + 62) cn') : Ns Z t Ls v R k cn' cc' bc' M' ∧ (Pn Ls k M' = Pn Ls k M ∧ Qn Ls k M' = Qn Ls k M) := by
  obtain ⟨h1, h2, h3, h4, h5, ⟨h6, h6', h6z⟩, h7, h8⟩ := h
  have nz : ∀ x, Z x → ¬ Y x := fun x a b => hY x b a
  have bz := h1.2.2.1
  have ks := f.ks h1 (fun x u => Or.inl (nz x (zm_in h2 x u)))
  have vI : ∀ i, i < 4 → mI M' (v i) = mI M (v i) := fun i hi => (f.sm (h1.2.1.1 i hi).1.2.2.2.2.1.1.1 (nz _ (h2.2.2.1 i hi).1)).2.2.2
  have sp := f.sm zp hp
  obtain ⟨N, cps⟩ := h1.keep ks ⟨o, h1.1.1.2.1.sm ks.2.1, gk.gk9.1, gk.gk9.2, gt⟩ (fun i hi i2 => (tk i hi i2).imp (fun e => by rw [vI i hi]; exact e) (fun e => e.imp (fun e => ⟨by rw [vI i hi], e⟩) id))
  exact ⟨⟨N, ks.cnu f h2, h3.cg (f.2 t h3.2.2.2.2).1 hr f.1.1, by rw [vI 2 (by decide)]; exact h4, fun u => ch (by rw [← vI 0 (by decide)]; exact u), ⟨h6, h6'.sm (f.sm h6'.1.2.2 (nz _ h6z)) f.1.1, h6z⟩, by unfold Pch; rw [sp.1, sp.2.1, sp.2.2.2]; exact h7, by rw [i18]; exact h8⟩, pn_cg cps⟩
/-- cells of the game and of the top -/
def Yg (t Ag Bg x : Nat) : Prop := x = t ∨ (t + 62 ≤ x ∧ x < t + 85) ∨ x = Ag ∨ x = Bg
theorem nd9g {T A B D O P O' P' Ab Be Ag Bg : Nat} (nd : [T, A, B, D, O, P, O', P', Ab, Be, Ag, Bg].Nodup) : (T ≠ Ag ∧ T ≠ Bg) ∧ (O ≠ Ag ∧ O ≠ Bg) ∧ (P ≠ Ag ∧ P ≠ Bg) := by
  simp only [List.nodup_cons, List.mem_cons, not_or, List.not_mem_nil, not_false_eq_true, and_true] at nd
  obtain ⟨⟨-, -, -, -, -, -, -, -, -, t1, t2⟩, -, -, -, ⟨-, -, -, -, -, o1, o2⟩, ⟨-, -, -, -, p1, p2⟩, -⟩ := nd
  exact ⟨⟨t1, t2⟩, ⟨o1, o2⟩, p1, p2⟩
theorem yl1 {t A B x : Nat} (pA : A = t + 72 + 3 ∨ t + 236 ≤ A) (pB : B = t + 72 + 4 ∨ t + 236 ≤ B) (h : (t + 2 ≤ x ∧ x < t + 62) ∨ (t + 85 ≤ x ∧ x < t + 236)) (u : x = t ∨ (t + 62 ≤ x ∧ x < t + 85) ∨ x = A ∨ x = B) : False := by
  rcases u with u | u | u | u
  · clear pA pB; omega
  · clear pA pB; omega
  · clear pB; omega
  · clear pA; omega
theorem yl2 {t A B x : Nat} (h : x ≠ t ∧ ¬ (t + 62 ≤ x ∧ x < t + 85)) (a : x ≠ A ∧ x ≠ B) (u : x = t ∨ (t + 62 ≤ x ∧ x < t + 85) ∨ x = A ∨ x = B) : False := by
  rcases u with u | u | u | u
  · exact h.1 u
  · exact h.2 u
  · exact a.1 u
  · exact a.2 u
theorem yl3 {t x : Nat} (h : x = t + 1 ∨ t + 236 ≤ x) : x ≠ t ∧ ¬ (t + 62 ≤ x ∧ x < t + 85) := by omega
theorem yl4 {t p p' O i : Nat} (o : O = p + i ∨ t + 236 ≤ O) (hi : i ≤ 2) (pp : (p = t + 30 ∧ p' = t + 46) ∨ (p = t + 46 ∧ p' = t + 30)) : O ≠ t ∧ ¬ (t + 62 ≤ O ∧ O < t + 85) := by omega
theorem yg_lo (h : Ap Z C t T A B D O P O' P' Ab Be Ag Bg M) (hx : Tx c9 t T Kt N A B D Cw p O P K p' O' P' K' Ab Be Cm M) (hm : MK M (t + 236) (t + 72) U Ag Bg Cg) : (∀ x, t + 2 ≤ x → x < t + 62 → ¬ Yg t Ag Bg x) ∧ (¬ Yg t Ag Bg T ∧ ¬ Yg t Ag Bg O ∧ ¬ Yg t Ag Bg P) ∧ (∀ x, Yg t Ag Bg x → C x ∧ ¬ Z x) ∧ ¬ Yg t Ag Bg (t + 235) ∧ (∀ x, t + 85 ≤ x → x < t + 236 → ¬ Yg t Ag Bg x) := by
  obtain ⟨z1, -⟩ := h.nz
  obtain ⟨c1, c2, c3⟩ := h.oc
  have o4 := hx.2.2.2.2.1.2.2.2.1
  have pp := hx.2.2.2.2.2.1
  have pT := h.2.2.1.1
  have ab := hm.2.2.2.2.2.1
  have hn := h.1
  have nd := h.2.1
  clear hx hm
  obtain ⟨a1, a2, a3⟩ := nd9g nd
  obtain ⟨b1, b2, -⟩ := ab
  clear nd h
  unfold Yg
  refine ⟨fun x a b u => yl1 b1 b2 (Or.inl ⟨a, b⟩) u, ⟨fun u => yl2 (yl3 pT) a1 u, fun u => yl2 (yl4 o4.1 (by decide) pp) a2 u, fun u => yl2 (yl4 o4.2.1 (by decide) pp) a3 u⟩, fun x u => ?_, fun u => yl1 b1 b2 (Or.inr ⟨by omega, by omega⟩) u, fun x a b u => yl1 b1 b2 (Or.inr ⟨a, b⟩) u⟩
  rcases u with u | u | u | u
  · rw [u]; exact ⟨(c1 t (by omega) (by omega)).1, z1 t (by omega) (by omega)⟩
  · exact ⟨(c1 x (by omega) (by omega)).1, z1 x (by omega) (by omega)⟩
  · rw [u]; exact ⟨(c3 Ag (by simp)).1, hn _ (Or.inr (Or.inr (by simp)))⟩
  · rw [u]; exact ⟨(c3 Bg (by simp)).1, hn _ (Or.inr (Or.inr (by simp)))⟩
/-- the game's arrays may be new -/
theorem Ap.game (h : Ap Z C t T A B D O P O' P' Ab Be Ag Bg M) (hz : mZ M ≤ mZ M') (e1 : Ag1 = Ag ∨ (mZ M ≤ Ag1)) (e2 : Bg1 = Bg ∨ (mZ M ≤ Bg1)) (z1 : Ag1 < mZ M' ∧ Bg1 < mZ M') (ne : Ag1 ≠ Bg1) : Ap Z (Zn C M M') t T A B D O P O' P' Ab Be Ag1 Bg1 M' := by
  obtain ⟨c1, c2, c3⟩ := h.oc
  have nd : ([T, A, B, D, O, P, O', P', Ab, Be] ++ ([Ag, Bg] ++ [])).Nodup := h.2.1
  have nd' : ([T, A, B, D, O, P, O', P', Ab, Be] ++ ([Ag1, Bg1] ++ [])).Nodup := nd_mid nd (z := mZ M) (fun x hx => (c3 x (List.mem_append.mpr (Or.inl hx) : x ∈ [T, A, B, D, O, P, O', P', Ab, Be] ++ [Ag, Bg])).2) (fun x hx => absurd hx List.not_mem_nil) (fun x hx => by
    rcases List.mem_cons.mp hx with u | u
    · rw [u]; exact e1.imp (fun e => by rw [e]; simp) id
    · rw [List.mem_singleton.mp u]; exact e2.imp (fun e => by rw [e]; simp) id) (by simp [ne])
  refine h.re hz nd' h.2.2.1 (fun x hx => ?_)
  rcases List.mem_append.mp (show x ∈ [T, A, B, D, O, P, O', P', Ab, Be] ++ [Ag1, Bg1] from hx) with u | u
  · exact Or.inl (List.mem_append.mpr (Or.inl u) : x ∈ [T, A, B, D, O, P, O', P', Ab, Be] ++ [Ag, Bg])
  · rcases List.mem_cons.mp u with u | u
    · rcases e1 with e | e
      · rw [u, e]; exact Or.inl (by simp)
      · rw [u]; exact Or.inr ⟨e, z1.1⟩
    · rcases e2 with e | e
      · rw [List.mem_singleton.mp u, e]; exact Or.inl (by simp)
      · rw [List.mem_singleton.mp u]; exact Or.inr ⟨e, z1.2⟩
theorem rmc_game {S1 : Nat} (h6 : Rmc Kt Cw K K' Cm Cg Ps Pc Ls k M) (pe : Pn Ls k M' = Pn Ls k M ∧ Qn Ls k M' = Qn Ls k M) (r1 : mS M' + 4 * Cg ≤ mS M + 4 * Cg1) (r2 : 64 * mZ M' + 2 * Cg ≤ 64 * mZ M + 2 * Cg1) : Rmc Kt Cw K K' Cm Cg1 (Ps + 4 * Cg1 - 4 * Cg) (Pc + 2 * Cg1 - 2 * Cg) Ls k M' ∧ mS M' + Ps ≤ mS M + (Ps + 4 * Cg1 - 4 * Cg) ∧ 64 * mZ M' + Pc ≤ 64 * mZ M + (Pc + 2 * Cg1 - 2 * Cg) := by
  unfold Rmc at h6 ⊢
  rw [pe.1, pe.2]
  exact ⟨⟨by omega, by omega, h6.2.2⟩, by omega, by omega⟩
/-- a step of the game, in the class -/
theorem CJ.game (hj : CJ c9 C n t Ps Pc T Kt N A B D Cw p O P K p' O' P' K' Ab Be Cm U Ag Bg Cg cn cc bc Ls v R k Z M) (o : mOk M') (f : FC (Yg t Ag Bg) M M') (rt : mR M' t = mR M t) (i1 : mI M' t 1 = mI M t 1) (i6 : mI M' t 6 = mI M t 6) (i18 : mI M' t 18 = mI M t 18) (gm : Gm t U1 Ag1 Bg1 Cg1 cn' cc' bc' (n + 1) M') (e1 : Ag1 = Ag ∨ mZ M ≤ Ag1) (e2 : Bg1 = Bg ∨ mZ M ≤ Bg1) (tk : ∀ i, i < 4 → i ≠ 2 → mI M (v i) 1 = 0 ∨ cn' = cn ∨ cn' = 0) (ch : mI M (v 0) 1 ≠ 0 → Chs M' (t + 85) (t + 62) cn') (r1 : mS M' + 4 * Cg ≤ mS M + 4 * Cg1) (r2 : 64 * mZ M' + 2 * Cg ≤ 64 * mZ M + 2 * Cg1) (tx6 : 1 ≤ cn' → mI M t 6 ≠ 0) : ∃ Ps1 Pc1, CJ c9 (Zn C M M') (n + 1) t Ps1 Pc1 T Kt N A B D Cw p O P K p' O' P' K' Ab Be Cm U1 Ag1 Bg1 Cg1 cn' cc' bc' Ls v R k Z M' ∧ stp C Ps Pc M (Zn C M M') Ps1 Pc1 M' := by
  obtain ⟨-, ⟨lt1, lt2⟩, -⟩ := hj.top
  obtain ⟨h1, h2, h3, h4, h5, h6, h7⟩ := hj
  obtain ⟨y1, ⟨y3, y4, y5⟩, y6, y7, y8⟩ := yg_lo h5 h2 h3.2.1
  have tx := h2.fc o f y1 y3 y4 y5 (fun i _ => by rw [rt]) i1 i6
  obtain ⟨ns, pq⟩ := h4.game o f (fun x u => (y6 x u).2) y7 lt2 (fun i _ => by rw [rt]) i18 gm.1 (gm.2.2.2.2.2.1.gtt gm.2.2.2.2.2.2.2) tk ch
  have mk := gm.2.1.2.2.2.2.2
  have ap := h5.game f.1.1 e1 e2 ⟨mk.2.1.2.1, mk.2.1.2.2.1⟩ mk.1.2.2.1
  obtain ⟨rm, s1, s2⟩ := rmc_game (S1 := 0) h6 pq r1 r2
  exact ⟨_, _, ⟨o, tx, gm, ns, ap, rm, by rw [i6]; exact tx6⟩, f.mono (fun x _ u => (y6 x u).1), fun x u => u, s1, s2⟩
theorem CJ.q (hj : CJ c9 C1 (n + 1) t Ps1 Pc1 T Kt N A B D Cw p O P K p' O' P' K' Ab Be Cm U Ag Bg Cg cn cc bc Ls v R k Z M') (s : stp C Ps Pc M C1 Ps1 Pc1 M') : cQ0 c9 C n t Ps Pc M M' := ⟨C1, Ps1, Pc1, ⟨T, Kt, N, A, B, D, Cw, p, O, P, K, p', O', P', K', Ab, Be, Cm, U, Ag, Bg, Cg, cn, cc, bc, Ls, v, R, k, Z, hj⟩, s⟩
/-- choices are told, in the class -/
theorem CJ.told (hj : CJ c9 C n t Ps Pc T Kt N A B D Cw p O P K p' O' P' K' Ab Be Cm U Ag Bg Cg cn cc bc Ls v R k Z M) (o : mOk M') (f : FI (fun x => x = t + 62 + 3) M M') (gs : 1 ≤ cn → GS M' (t + 62) (cn - 1)) : cQ c9 C n t Ps Pc M M' := by
  have fc : FC (Yg t Ag Bg) M M' := f.fc (fun x u => by have u' : x = t + 62 + 3 := u; unfold Yg; omega)
  have ne : ∀ x, x ≠ t + 65 → mI M' x = mI M x := fun x hx => f.2.2.2.2.2.2 x hx
  have et := ne t (by omega)
  have g3 := hj.2.2.1
  have jn := hj.2.2.2.1
  obtain ⟨g1, g2, g4, g5, g6, g7, g8, g9⟩ := g3.up
  obtain ⟨Ps1, Pc1, q1, q2⟩ := hj.game o fc (by rw [f.2.2.1]) (by rw [et]) (by rw [et]) (by rw [et]) ⟨g1.eq2 (fun i _ => ⟨by rw [f.1], by rw [f.2.1]⟩) (fun i _ => by rw [f.2.2.1]), g2.fi f (by rw [ne _ (by omega)]), g4, by rw [ne (t + 77) (by omega), ne (t + 72) (by omega)]; exact g5, by rw [ne (t + 72) (by omega)]; exact g6, g7.told f, gs, g9.1, fun j hj => by rw [ne _ (by omega)]; exact g9.2 j hj⟩ (Or.inl rfl) (Or.inl rfl) (fun _ _ _ => Or.inr (Or.inl rfl)) (fun u => chs_same (jn.2.2.2.2.1 u) (ne _ (by omega)) (ne _ (by omega))) (by rw [f.2.2.2.2.2.1]; exact Nat.le_refl _) (by rw [f.2.2.2.2.1]; exact Nat.le_refl _) hj.2.2.2.2.2.2
  have v65 : v 0 ≠ t + 65 := fun e => (hj.2.2.2.2.1.nz).1 (t + 65) (by omega) (by omega) (by rw [← e]; exact hj.vz)
  exact ⟨q1.q q2, by rw [et], by rw [et], by rw [et], fun i _ i3 => ne _ (by omega), hj.knf (by rw [f.2.2.1]) (by rw [ne _ v65])⟩
theorem c_CA_choose {l1 l2 : Int} (i1 : i32 l1) (i2 : i32 l2) (h : CI c9 C n t Ps Pc M) (hp : cmdP M (t + 62) (mI M (t + 62) 0).toNat l1 l2) : Cv G y_CA_choose (d + 2) [vr t, vi l1, vi l2] M (fun M' => cQ c9 C n t Ps Pc M M') := by
  obtain ⟨T, Kt, N, A, B, D, Cw, p, O, P, K, p', O', P', K', Ab, Be, Cm, U, Ag, Bg, Cg, cn, cc, bc, Ls, v, R, k, Z, hj⟩ := h
  obtain ⟨-, -, e0⟩ := hj.top
  rw [e0, Int.toNat_natCast] at hp
  exact (g_CA_choose (d := d) i1 i2 hj.tg hj.2.2.1.2.2.2.2.2.2.1 hp).mono (fun M' q => hj.told q.1 q.2.1 (fun _ => q.2.2))
theorem c_CA_adopt (h : CI c9 C n t Ps Pc M) (kn : mI M (mR M t 11) 1 ≠ 0) : Cv G y_CA_adopt (d + 1) [vr t] M (fun M' => cQ c9 C n t Ps Pc M M') := by
  obtain ⟨T, Kt, N, A, B, D, Cw, p, O, P, K, p', O', P', K', Ab, Be, Cm, U, Ag, Bg, Cg, cn, cc, bc, Ls, v, R, k, Z, hj⟩ := h
  have jn := hj.2.2.2.1
  rw [jn.2.2.1.2.2.1.1] at kn
  exact (g_CA_adopt (d := d) (s := t + 85) hj.tg hj.2.2.1.2.2.2.2.2.2.1 jn.2.2.1.2.1.2 jn.1.1.1.2.1 ⟨jn.2.2.1.2.2.1.1, (jn.1.2.1.1 0 (by decide)).1.1⟩ kn (jn.2.2.2.2.1 kn)).mono (fun M' q => hj.told q.1 q.2.1 q.2.2)
end NCZ
