/-! The class's game, exactly: a rule is worked out in a state. -/
section GBA
variable {G : mG} {d z g m U p O P K V F L cnt Ab Be C Ab0 Be0 C0 n N : Nat} {M0 M M' : mM} {ns : Nat → Int} {sf ef : Nat → Nat} {F1 : Nat} {ns1 : Nat → Int} {sf1 ef1 : Nat → Nat} {W pl nq : Nat → Int} {sm : Nat → Nat → Prop} {nms : List nm9} {sg : Nat → Int} {X : Nat → Prop}
/-- what a leaf's order pushes in a state -/
theorem lf_st {r l : List nm9} {ec : Nat → Int × Int} (hq : NqO W nq n) (hn : NmO W pl sm N n nms) (hs : SgO sg nms) (fm : FmC M p O P L W pl nq sm N n ns sf ef nms) (hr : nms = r ++ l) (hV : vcn nms ≤ 12) (hF : rcn nms ≤ 60) (hst : ∀ v, v < vcn nms → mI M U ((mI M m 4).toNat + v) = sg v) (lf : LfC W nq sm n r ec) : ∀ k, (W k = 1 ∨ W k = 2 ∨ W k = 12 ∨ W k = 13) → (W k = 1 → E9 sm r 0 k ≠ -1) → Lfq M p m U (fvs W pl nq sm N sg nms.reverse) ns (rcn r) W (E9 sm r 0) (cvb W pl nq sm N sg n r.reverse) ec k := by
  intro k hk hne
  refine ⟨cvb_ok hq (fun a e' b u => nvs_ok hq hn hs _ a e' (b ++ l) (Nat.le_refl _) (by rw [hr, u]; simp)) k hk hne, ?_⟩
  unfold cvb
  by_cases kn : k < n
  · rw [if_pos kn]
    obtain ⟨c2, c12, c13, c1⟩ := lf.2 k kn
    by_cases h1 : W k = 1
    · obtain ⟨l1, e, l2, q1, q2, q3, q4⟩ := E9_sp (hne h1)
      have hc := c1 h1 l1 e l2 q1 q2 q3
      have b := cvs_old (pl := pl) (nq := nq) (N := N) (sg := sg) (l := []) h1 q1 q2 q3
      rw [List.append_nil] at b
      have hm : nms = l1 ++ e :: (l2 ++ l) := by rw [hr, q1]; simp
      obtain ⟨⟨e1, e3⟩, -⟩ := hn l1 e (l2 ++ l) hm
      rw [b, hc]
      have rl : rcn r = rcn l1 + rcn (e :: l2) := by rw [q1, rcn_app]
      have vl : vcn nms = vcn l1 + vcn (e :: (l2 ++ l)) := by rw [hm, vcn_app]
      have rn : rcn nms = rcn r + rcn l := by rw [hr, rcn_app]
      by_cases y3 : e.2.1 = 3
      · have vl2 : vcn (e :: (l2 ++ l)) = vcn (l2 ++ l) + 1 := by
          show vcn (l2 ++ l) + (if e.2.1 = 3 then 1 else 0) = _
          rw [if_pos y3]
        refine Or.inr (Or.inr (Or.inl ⟨?_, vcn l1, ?_, by omega, ?_⟩))
        · show srt9 e.2.1 = 5
          rw [y3]; rfl
        · show (if e.2.1 = 3 then ((vcn l1 : Nat) : Int) else ((rcn l1 : Nat) : Int)) = _
          rw [if_pos y3]
        · unfold nvs
          rw [if_neg (by omega), if_pos y3, vcn_rev, hst _ (by omega)]
      · have rl2 : rcn (e :: l2) = rcn l2 + 1 := by
          show rcn l2 + (if e.2.1 = 3 then 0 else 1) = _
          rw [if_neg y3]
        obtain ⟨f1, f2, f3⟩ := fm l1 e (l2 ++ l) hm y3
        by_cases y1 : e.2.1 = 1
        · obtain ⟨g1, g2⟩ := f2 y1
          refine Or.inr (Or.inl ⟨?_, rcn l1, ?_, by omega, g2, ?_⟩)
          · show srt9 e.2.1 = 4
            rw [y1]; rfl
          · show (if e.2.1 = 3 then ((vcn l1 : Nat) : Int) else ((rcn l1 : Nat) : Int)) = _
            rw [if_neg y3]
          · unfold nvs
            rw [if_pos y1]
            exact g1
        · have y2 : e.2.1 = 2 := by omega
          refine Or.inr (Or.inr (Or.inr ⟨?_, rcn l1, ?_, by omega, ?_, ?_⟩))
          · show srt9 e.2.1 = 7
            rw [y2]; rfl
          · show (if e.2.1 = 3 then ((vcn l1 : Nat) : Int) else ((rcn l1 : Nat) : Int)) = _
            rw [if_neg y3]
          · rw [f1, y2]; rfl
          · have e9 : nms.reverse = (l2 ++ l).reverse ++ e :: l1.reverse := by rw [hm]; simp
            rw [e9, ← rcn_rev l1]
            exact (fvs_at y3 _).symm
    · rw [cvs_no h1]
      refine Or.inl ?_
      by_cases h2 : W k = 2
      · rw [if_pos h2, c2 h2]
        exact ⟨rfl, rfl⟩
      · rw [if_neg h2]
        by_cases h3 : W k = 12
        · rw [if_pos h3, c12 h3]
          exact ⟨rfl, rfl⟩
        · rw [if_neg h3, c13 (by omega)]
          exact ⟨rfl, rfl⟩
  · rw [if_neg kn, lf.1 k (by omega)]
    exact Or.inl ⟨rfl, rfl⟩
theorem fr_st (hq : NqO W nq n) (hn : NmO W pl sm N n nms) (hs : SgO sg nms) (fm : FmC M p O P L W pl nq sm N n ns sf ef nms) (hV : vcn nms ≤ 12) (hF : rcn nms ≤ 60) (hst : ∀ v, v < vcn nms → mI M U ((mI M m 4).toNat + v) = sg v) (hX : ∀ x, x < 60 → X x) : ∀ x, x < rcn nms → ns x = 7 → Frq M p m U O P L pl W (fvs W pl nq sm N sg nms.reverse) ns sf ef X x := by
  intro x hx h7
  obtain ⟨l1, e, l2, q1, q2, q3⟩ := rcn_sp nms x hx
  obtain ⟨f1, f2, f3⟩ := fm l1 e l2 q1 q2
  rw [q3] at f1 f2 f3
  have y2 : e.2.1 = 2 := srt_7 (by rw [← f1]; exact h7)
  obtain ⟨g1, g2, g3, g4, g5, ec, g6, g7⟩ := f3 y2
  obtain ⟨-, -, -, hf⟩ := hn l1 e l2 q1
  obtain ⟨t1, t2, t3, t4⟩ := hf y2
  refine ⟨hX x (by omega), g1, g2, g3, g4, g5, e.1 + 2, nxq W 34 N e.1, E9 sm l1 0, cvb W pl nq sm N sg n l1.reverse, ec, t1, t3, g7, ?_, ?_⟩
  · have e9 : nms.reverse = l2.reverse ++ e :: l1.reverse := by rw [q1]; simp
    rw [cvb_vl t1 t2, e9]
    have := fvs_at (w := W) (pl := pl) (nq := nq) (sm := sm) (N := N) (sg := sg) (r := l1.reverse) q2 l2.reverse
    rw [rcn_rev, q3] at this
    rw [this]
    unfold nvs
    rw [if_neg (by omega), if_neg q2]
  · have := lf_st (m := m) (U := U) hq hn hs fm q1 hV hF hst g6
    rw [q3] at this
    exact this
/-- what the game's runs hang on -/
def gcx (M0 : mM) (g p O P L V F Ab0 Be0 : Nat) (ns : Nat → Int) (sf ef : Nat → Nat) (W pl nq : Nat → Int) (sm : Nat → Nat → Prop) (N n : Nat) (nms : List nm9) : Prop := (¬ gaS g Ab0 Be0 O ∧ ¬ gaS g Ab0 Be0 P ∧ O < mZ M0 ∧ P < mZ M0 ∧ F ≤ 60) ∧ NqO W nq n ∧ NmO W pl sm N n nms ∧ FmC M0 p O P L W pl nq sm N n ns sf ef nms ∧ rcn nms = F ∧ vcn nms = V
/-- the machine stands in state k, whose values are sg -/
def gst9 (M : mM) (g V F : Nat) (ns W pl nq : Nat → Int) (sm : Nat → Nat → Prop) (N : Nat) (nms : List nm9) (k : Nat) (sg : Nat → Int) : Prop := mI M (g + 10) 4 = ((12 * k : Nat) : Int) ∧ (∀ v, v < V → mI M (g + 1) (12 * k + v) = sg v) ∧ SgO sg nms ∧ MVp (g + 10) (fvs W pl nq sm N sg nms.reverse) ns F M
theorem gst9.cg {k : Nat} (h : gst9 M g V F ns W pl nq sm N nms k sg) (e10 : ∀ i, i = 4 ∨ i = 9 → mI M' (g + 10) i = mI M (g + 10) i) (e1 : ∀ v, v < V → mI M' (g + 1) (12 * k + v) = mI M (g + 1) (12 * k + v)) (e5 : mI M' (g + 15) = mI M (g + 15)) (e6 : mI M' (g + 16) = mI M (g + 16)) (e7 : mI M' (g + 17) = mI M (g + 17)) : gst9 M' g V F ns W pl nq sm N nms k sg := by
  obtain ⟨h1, h2, h3, h4⟩ := h
  refine ⟨by rw [e10 4 (Or.inl rfl)]; exact h1, fun v hv => by rw [e1 v hv]; exact h2 v hv, h3, fun x hx h7 u => ?_⟩
  have u : mI M' (g + 15) x = mI M' (g + 10) 9 := u
  rw [e5, e10 9 (Or.inr rfl)] at u
  have := h4 x hx h7 u
  show _ = (0, mI M' (g + 16) x, mI M' (g + 17) x)
  rw [e6, e7]
  exact this
theorem gx_O (hx : GX M0 z g p O P K V F1 ns1 sf1 ef1 L cnt Ab0 Be0 C0 M Ab Be C) (cx : gcx M0 g p O P L V F Ab0 Be0 ns sf ef W pl nq sm N n nms) : mI M O = mI M0 O ∧ mI M P = mI M0 P := by
  obtain ⟨⟨a, b, c, e, -⟩, -⟩ := cx
  obtain ⟨-, -, -, -, -, -, -, ⟨f, -⟩, -⟩ := hx
  exact ⟨(f.2 O c).2.2.2.2 a, (f.2 P e).2.2.2.2 b⟩
theorem gx_p (hx : GX M0 z g p O P K V F1 ns1 sf1 ef1 L cnt Ab0 Be0 C0 M Ab Be C) : ∀ i, i ≤ 15 → mI M (p + i) = mI M0 (p + i) := hx.2.2.2.2.2.2.2.2.2
/-- what a run of the game's machine comes to -/
def grQ (M0 : mM) (z g p O P K V F1 : Nat) (ns1 : Nat → Int) (sf1 ef1 : Nat → Nat) (L cnt Ab0 Be0 C0 : Nat) (M : mM) (Ab Be : Nat) (r : Int) (M' : mM) : Prop := i32 r ∧ mOk M' ∧ (r = 0 ∨ r = 1) ∧ ∃ Ab' Be' C', GX M0 z g p O P K V F1 ns1 sf1 ef1 L cnt Ab0 Be0 C0 M' Ab' Be' C' ∧ FA (mcS (g + 10) Ab Be) (fun x => x = g + 10) M M' ∧ (mI M' (g + 10) 9 = mI M (g + 10) 9 ∧ mI M' (g + 10) 4 = mI M (g + 10) 4)
theorem gr_mk {h0 : Nat} {r : Int} (hx : GX M0 z g p O P K V F1 ns1 sf1 ef1 L cnt Ab0 Be0 C0 M Ab Be C) (k : rnQ M z (g + 10) (g + 1) Ab Be C (fun x => x < 60 ∧ 1 = 1) h0 r M') : grQ M0 z g p O P K V F1 ns1 sf1 ef1 L cnt Ab0 Be0 C0 M Ab Be r M' := by
  have ne := hx.ne
  obtain ⟨h1, h2, h3, h4, h5, ⟨h61, h62, h63⟩, h7, h8, h9, h10⟩ := hx
  obtain ⟨p1, -⟩ := id h4
  obtain ⟨o1, o2, -, o4⟩ := p1.2.2.2.1
  obtain ⟨a1, a2, a3, a4⟩ := h3.2.2.2.2.2.1
  obtain ⟨k1, k2⟩ := k
  have hr : r = 0 ∨ r = 1 := k2.imp (fun u => u.1) (fun u => u.1)
  have fin : ∀ {t c : Nat}, MS M z (g + 10) (g + 1) Ab Be C M' t c → grQ M0 z g p O P K V F1 ns1 sf1 ef1 L cnt Ab0 Be0 C0 M Ab Be r M' := fun {t c} hM => by
    obtain ⟨Ab', Be', C', ok, hk, hf, hab, hr', ⟨m8, mt, mb⟩, -, hm⟩ := hM
    have hf9 : FA (gaS g Ab Be) (gaR g) M M' := hf.mono (fun x _ y => by
      have y' : x = g + 10 ∨ x = g + 10 + 2 ∨ (g + 10 + 5 ≤ x ∧ x ≤ g + 10 + 9) ∨ x = Ab ∨ x = Be := y
      show (g ≤ x ∧ x ≤ g + 22) ∨ x = Ab ∨ x = Be
      omega) (fun x _ y => Or.inr y)
    obtain ⟨z1, zA, zB, zU⟩ := h3.2.2.2.2.2.2.1
    obtain ⟨pz0, pz1, pz2⟩ := p1.2.2.2.2.1
    have cl : ∀ i, i ≤ 22 → mK M' (g + i) = mK M (g + i) ∧ mN M' (g + i) = mN M (g + i) := fun i hi => ⟨(hf.2 (g + i) (by omega)).1, (hf.2 (g + i) (by omega)).2.1⟩
    have rg : mR M' g = mR M g := (hf.2 g (by omega)).2.2.2.1 (show ¬ g = g + 10 by omega)
    refine ⟨m_b32 hr, ok, hr, Ab', Be', C', ⟨ok, h2.eq2 cl (fun i _ => by rw [rg]), hk, h4.fa hf9 ne.2.2.2 ne.1 ne.2.1 ne.2.2.1, ⟨by rw [rg]; exact h5.1, by rw [hm.2.2]; exact h5.2⟩, ⟨h61, h62, ?_⟩, k1, h8.trans ⟨hf9, hab, hr'⟩, fun x hx => (k1 x ⟨hx, rfl⟩).1, fun i hi => by rw [(hf9.2 (p + i) (by omega)).2.2.2.2 (ne.1 i hi)]; exact h10 i hi⟩, hf, hm.1, hm.2.1⟩
    clear h1 h2 h3 h4 h5 h7 h8 h9 h10 k1 k2 hk hf hf9 cl rg mb hr' hm hr ne
    omega
  rcases k2 with ⟨e1, f0, t, c, hM⟩ | ⟨e1, hM⟩
  · exact fin hM
  · exact fin hM
theorem gx_env (hx : GX M0 z g p O P K V F1 ns1 sf1 ef1 L cnt Ab0 Be0 C0 M Ab Be C) : Rnv M z (g + 10) Ab Be p O P K L ∧ (¬ mcS (g + 10) Ab Be (g + 1) ∧ g + 1 < mZ M) ∧ V ≤ 12 := by
  obtain ⟨h1, h2, h3, h4, h5, ⟨h61, h62, h63⟩, h7, h8, h9, h10⟩ := hx
  obtain ⟨p1, ⟨p2, p3, p4⟩, ⟨p5, p6⟩, p7, ⟨p8, p9⟩, p10, -⟩ := id h4
  obtain ⟨o1, o2, -, o4⟩ := p1.2.2.2.1
  obtain ⟨a1, a2, a3, a4⟩ := h3.2.2.2.2.2.1
  have zz := h3.2.2.2.2.2.2.1.1
  refine ⟨⟨p1, h5.2, ⟨by omega, h63, by omega, o4, a1, a2⟩, p2, p3, p4⟩, ⟨fun y => ?_, by omega⟩, p6⟩
  have y' : g + 1 = g + 10 ∨ g + 1 = g + 10 + 2 ∨ (g + 10 + 5 ≤ g + 1 ∧ g + 1 ≤ g + 10 + 9) ∨ g + 1 = Ab ∨ g + 1 = Be := y
  omega
theorem gst9.at {k : Nat} (st : gst9 M g V F ns W pl nq sm N nms k sg) (hv : vcn nms = V) : ∀ v, v < vcn nms → mI M (g + 1) ((mI M (g + 10) 4).toNat + v) = sg v := fun v hv' => by
  rw [st.1, Int.toNat_natCast]
  exact st.2.1 v (by omega)
theorem gst9.run {k : Nat} {r : Int} (st : gst9 M g V F ns W pl nq sm N nms k sg) (hx : GX M0 z g p O P K V F1 ns1 sf1 ef1 L cnt Ab0 Be0 C0 M Ab Be C) (q : grQ M0 z g p O P K V F1 ns1 sf1 ef1 L cnt Ab0 Be0 C0 M Ab Be r M') (hv : MVp (g + 10) (fvs W pl nq sm N sg nms.reverse) ns F M') : gst9 M' g V F ns W pl nq sm N nms k sg := by
  obtain ⟨-, -, -, Ab', Be', C', -, f, -, e4⟩ := q
  obtain ⟨ce, -⟩ := ga_ce hx f
  exact ⟨by rw [e4]; exact st.1, fun v hv => by rw [ce 1 (by omega)]; exact st.2.1 v hv, st.2.2.1, hv⟩
/-- a rule is worked out in a state -/
theorem x_Ga_run {k i j s : Nat} (hF : FMx G) (hx : GX M0 z g p O P K V F1 ns1 sf1 ef1 L cnt Ab0 Be0 C0 M Ab Be C) (cx : gcx M0 g p O P L V F Ab0 Be0 ns sf ef W pl nq sm N n nms) (st : gst9 M g V F ns W pl nq sm N nms k sg) (ru : RuC M0 O P L W pl nq sm n ns ef nms i j s) : Ci G y_Ma_run (d + 4) [vr (g + 10), vi s] M (fun r M' => grQ M0 z g p O P K V F1 ns1 sf1 ef1 L cnt Ab0 Be0 C0 M Ab Be r M' ∧ rnx (g + 10) (vlq W (cvs W pl nq sm N sg nms.reverse) pl 0 0 i j) r M' ∧ gst9 M' g V F ns W pl nq sm N nms k sg) := by
  obtain ⟨env, hU, V12⟩ := gx_env hx
  have F60 := cx.1.2.2.2.2
  obtain ⟨eO, eP⟩ := gx_O hx cx
  have ep := gx_p hx
  obtain ⟨-, hq, hn, fm, hrc, hvc⟩ := id cx
  have fm' := fm.cg (ep 6 (by omega)) (ep 7 (by omega)) (ep 8 (by omega)) eO eP
  obtain ⟨r, l, ec, e, u1, u2, u3, u4, u5, u6, u7, u8, u9⟩ := ru
  have hst := st.at hvc
  have rl : rcn nms = rcn r + rcn l := by rw [u1, rcn_app]
  have fr := fr_st (m := g + 10) (U := g + 1) (X := fun x => x < 60 ∧ 1 = 1) hq hn st.2.2.1 fm' (by omega) (by omega) hst (fun x hx => ⟨hx, rfl⟩)
  have lf := lf_st (m := g + 10) (U := g + 1) hq hn st.2.2.1 fm' u1 (by omega) (by omega) hst u5
  rw [hrc] at fr
  refine (x_Ma_runw (H := rcn r) (F0 := F) (by omega) hF hx.1 hx.2.2.1 hx.2.2.2.2.2.2.1 st.2.2.2 env F60 hU fr u6 lf u2 u4 (by rw [eO, eP]; exact u7) u8 (by rw [eO]; exact u9)).mono (fun r' M' k => ?_)
  obtain ⟨k1, k2, k3⟩ := k
  have q := gr_mk hx k1
  rw [vls_r u1 u2 u3 u4] at k2
  exact ⟨q, k2, st.run hx q k3⟩
theorem stq_cg {cv cv' : Nat → vrs} {lo hi : Nat → Int} : ∀ (l : List (Nat × Nat × Nat × Nat)) (nx : Nat → Int), (∀ q, q ∈ l → vlq W cv pl 0 0 q.2.1 q.2.2.1 = vlq W cv' pl 0 0 q.2.1 q.2.2.1) → stq9 W cv pl lo hi l nx = stq9 W cv' pl lo hi l nx
  | [], nx, _ => rfl
  | q :: l, nx, h => by
    rw [stq9, stq9, h q List.mem_cons_self]
    rw [stq_cg l _ (fun q' h' => h q' (List.mem_cons_of_mem _ h'))]
/-- a branch's sets are worked out in a state -/
theorem x_Ga_runs {k s : Nat} {l : List (Nat × Nat × Nat × Nat)} {nx : Nat → Int} (hF : FMx G) (hx : GX M0 z g p O P K V F1 ns1 sf1 ef1 L cnt Ab0 Be0 C0 M Ab Be C) (cx : gcx M0 g p O P L V F Ab0 Be0 ns sf ef W pl nq sm N n nms) (st : gst9 M g V F ns W pl nq sm N nms k sg) (ru : SeC M0 O P L V W pl nq sm n ns ef nms l s) (hnx : ∀ j, j < 12 → mI M (g + 12) j = nx j) : Ci G y_Ma_run (d + 4) [vr (g + 10), vi s] M (fun r M' => grQ M0 z g p O P K V F1 ns1 sf1 ef1 L cnt Ab0 Be0 C0 M Ab Be r M' ∧ ((r = 0 ∧ (stq9 W (cvs W pl nq sm N sg nms.reverse) pl (mI M0 (p + 3)) (mI M0 (p + 4)) l nx).1.1 ≠ 0 ∧ mI M' (g + 10) 1 = (stq9 W (cvs W pl nq sm N sg nms.reverse) pl (mI M0 (p + 3)) (mI M0 (p + 4)) l nx).1.1 ∧ mI M' (g + 10) 2 = (stq9 W (cvs W pl nq sm N sg nms.reverse) pl (mI M0 (p + 3)) (mI M0 (p + 4)) l nx).1.2) ∨ (r = 1 ∧ (stq9 W (cvs W pl nq sm N sg nms.reverse) pl (mI M0 (p + 3)) (mI M0 (p + 4)) l nx).1.1 = 0 ∧ ∀ j, j < 12 → mI M' (g + 12) j = (stq9 W (cvs W pl nq sm N sg nms.reverse) pl (mI M0 (p + 3)) (mI M0 (p + 4)) l nx).2 j)) ∧ gst9 M' g V F ns W pl nq sm N nms k sg) := by
  obtain ⟨env, hU, V12⟩ := gx_env hx
  have F60 := cx.1.2.2.2.2
  obtain ⟨eO, eP⟩ := gx_O hx cx
  have ep := gx_p hx
  obtain ⟨-, hq, hn, fm, hrc, hvc⟩ := id cx
  have fm' := fm.cg (ep 6 (by omega)) (ep 7 (by omega)) (ep 8 (by omega)) eO eP
  obtain ⟨r, l', e, u1, u2, u6, u7, u8, u9⟩ := ru
  have hst := st.at hvc
  have rl : rcn nms = rcn r + rcn l' := by rw [u1, rcn_app]
  have fr := fr_st (m := g + 10) (U := g + 1) (X := fun x => x < 60 ∧ 1 = 1) hq hn st.2.2.1 fm' (by omega) (by omega) hst (fun x hx => ⟨hx, rfl⟩)
  have lf := fun (ec : Nat → Int × Int) (u5 : LfC W nq sm n r ec) => lf_st (m := g + 10) (U := g + 1) hq hn st.2.2.1 fm' u1 (by omega) (by omega) hst u5
  rw [hrc] at fr
  have ecg := stq_cg (W := W) (pl := pl) (cv := cvs W pl nq sm N sg nms.reverse) (cv' := cvb W pl nq sm N sg n r.reverse) (lo := mI M0 (p + 3)) (hi := mI M0 (p + 4)) l nx (fun q hq' => (vls_r u1 (u2 q hq').1 (u2 q hq').2.1 (u2 q hq').2.2.1).symm)
  rw [ecg]
  refine (x_Ma_runt (Φ := LfC W nq sm n r) (H := rcn r) (F0 := F) (lo := mI M0 (p + 3)) (hi := mI M0 (p + 4)) (by omega) hF hx.1 hx.2.2.1 hx.2.2.2.2.2.2.1 st.2.2.2 env F60 hU fr u6 lf (fun v _ => by rw [ep 3 (by omega)]) (fun v _ => by rw [ep 4 (by omega)]) (fun q h' => ⟨(u2 q h').1, (u2 q h').2.2.1, by have := (u2 q h').2.2.2.1; omega, (u2 q h').2.2.2.2⟩) (by rw [eO, eP]; exact u7) u8 (by rw [eO]; exact u9) hnx).mono (fun r' M' k => ?_)
  obtain ⟨k1, k2, k3⟩ := k
  have q := gr_mk hx k1
  exact ⟨q, k2, st.run hx q k3⟩
theorem x_Ga_machineFault (hO : mOk M) (hk : mK M g = 7) (hr : mR M g 15 = g + 10) (hm : mK M (g + 10) = 5) : Ci G y_Ga_machineFault d [vr g] M (fun r M' => i32 r ∧ r = mI M (g + 10) 1 ∧ plQ M g M' ∧ mI M' g 10 = mI M (g + 10) 2) := by
  refine k_Ga_machineFault hO ⟨hk, by rw [hr]; exact hm, fun M3 e3 => ?_⟩
  have f3 : FI (fun x => x = g) M M3 := by rw [e3]; exact FI.ui rfl
  have o3 : mOk M3 := by rw [e3]; exact mOk_UI hO (hO _ _).1
  rw [f3.1, f3.2.2.1, hr]
  refine ⟨hm, (o3 _ _).1, by rw [f3.2.2.2.2.2.2 (g + 10) (show ¬ g + 10 = g by omega)], ⟨o3, f3, fun i hi => ?_⟩, by rw [mI_ui g 10 e3, if_pos ⟨rfl, rfl⟩, hr]⟩
  rw [mI_ui g i e3, if_neg (fun u => hi u.2)]
end GBA
