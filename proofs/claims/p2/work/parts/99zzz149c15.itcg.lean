section
/-! The game that a text tells hangs on its own words alone: pure. -/
theorem tw_cg {α : Type} {p q : α → Bool} : ∀ (l : List α), (∀ x, x ∈ l → p x = q x) → l.takeWhile p = l.takeWhile q
  | [], _ => rfl
  | a :: t, h => by
    rw [List.takeWhile_cons, List.takeWhile_cons, h a List.mem_cons_self, tw_cg t (fun x hx => h x (List.mem_cons_of_mem _ hx))]
section XCC
variable {w w' pl pl' nq nq' : Nat → Int} {sm sm' : Nat → Nat → Prop} {N i j k e q : Nat} {nms : List nm9} {s : st9} {g : gm9}
theorem vix_cg (ag : AgW w w' pl pl' nq nq' sm sm' N) (nm : NmW w N nms) (hk : k < N) (h1 : w k = 1) : vix9 sm nms k = vix9 sm' nms k := by
  unfold vix9
  refine congrArg vcn (tw_cg nms (fun e he => ?_))
  have eq : sm e.1 k = sm' e.1 k := propext (ag.2 e.1 k (nm e he).1 hk (nm e he).2 h1)
  show (!@decide (sm e.1 k) (Classical.propDecidable _)) = (!@decide (sm' e.1 k) (Classical.propDecidable _))
  rw [eq]
theorem sel_cg (ag : AgW w w' pl pl' nq nq' sm sm' N) (nm : NmW w N nms) : ∀ (f0 k q : Nat), Se w f0 k q → q < N → ∀ (f : Nat), sel9 w sm N nms f k = sel9 w' sm' N nms f k ∧ ∀ x, x ∈ sel9 w sm N nms f k → Eo w 6 x.2.1 x.2.2.1 ∧ x.2.2.1 ≤ N ∧ x.2.2.2 < N := by
  intro f0
  induction f0 with
  | zero => intro k q h; exact h.elim
  | succ f0 ih =>
    intro k q h hq f
    have sg := h.sg.1
    obtain ⟨h0, h1, h2, h3, c, eo, h5, h6⟩ := h
    have lt := eo.pr.1
    have cq : c + 1 ≤ q := by
      rcases h6 with ⟨y, -⟩ | ⟨-, y⟩
      · omega
      · have := y.sg.1
        omega
    cases f with
    | zero => exact ⟨rfl, fun x hx => absurd hx (by simp [sel9])⟩
    | succ f =>
      have c1 : cpq w (k + 4) N = c := cpq_at eo h5 (by omega)
      have c2 : cpq w' (k + 4) N = c := cpq_at (ag.eo eo (by omega)) (by rw [← (ag.1 c (by omega)).1]; exact h5) (by omega)
      have vx := vix_cg (k := k + 1) ag nm (by omega) h1
      rw [sel9, sel9, c1, c2, vx, ← (ag.1 (c + 1) (by omega)).1]
      by_cases w29 : w (c + 1) = 29
      · rw [if_pos w29, if_pos w29]
        have y := (h6.resolve_left (fun u => u.2 w29)).2
        obtain ⟨i1, i2⟩ := ih (c + 2) q y hq f
        refine ⟨by rw [i1], fun x hx => ?_⟩
        rcases List.mem_cons.mp hx with u | u
        · rw [u]
          exact ⟨eo, by show c ≤ N; omega, by show k < N; omega⟩
        · exact i2 x u
      · rw [if_neg w29, if_neg w29]
        refine ⟨rfl, fun x hx => ?_⟩
        rw [List.mem_singleton.mp hx]
        exact ⟨eo, by show c ≤ N; omega, by show k < N; omega⟩
theorem brs_cg (ag : AgW w w' pl pl' nq nq' sm sm' N) (nm : NmW w N nms) (he : e < N) : ∀ (f0 p : Nat), Br w f0 p e → 1 ≤ p → ∀ (f b : Nat), (brf w pl sm N nms e f p b).1 = 0 → brs9 w pl sm N nms e f p = brs9 w' pl' sm' N nms e f p ∧ ∀ x, x ∈ brs9 w pl sm N nms e f p → (Eo w 6 x.2.1.1 x.2.1.2 ∧ x.2.1.2 < N) ∧ ∀ q, q ∈ x.2.2 → Eo w 6 q.2.1 q.2.2.1 ∧ q.2.2.1 ≤ N ∧ q.2.2.2 < N := by
  intro f0
  induction f0 with
  | zero => intro p h; exact h.elim
  | succ f0 ih =>
    intro p h hp f b h0
    have sg := h.sg.1
    obtain ⟨q, s, eo5, w33, ss, h4⟩ := h
    have eo := eo5.one (show 5 ≤ 6 by omega)
    have lt := eo.pr.1
    have sgs := ss.sg.1
    have se : s ≤ e := by
      rcases h4 with ⟨y, -⟩ | ⟨-, y⟩
      · omega
      · have := y.sg.1
        omega
    cases f with
    | zero => exact ⟨rfl, fun x hx => absurd hx (by simp [brs9])⟩
    | succ f =>
      have c1 : clq w (p - 1) N = q := clq_eo (by rw [show p - 1 + 1 = p by omega]; exact eo) w33 (by omega)
      have c2 : clq w' (p - 1) N = q := clq_eo (by rw [show p - 1 + 1 = p by omega]; exact ag.eo eo (by omega)) (by rw [← (ag.1 q (by omega)).1]; exact w33) (by omega)
      have nl : ¬ e ≤ p := by omega
      have nxt : ∀ b, (brf w pl sm N nms e f (s + 1) b).1 = 0 → brs9 w pl sm N nms e f (s + 1) = brs9 w' pl' sm' N nms e f (s + 1) ∧ ∀ x, x ∈ brs9 w pl sm N nms e f (s + 1) → (Eo w 6 x.2.1.1 x.2.1.2 ∧ x.2.1.2 < N) ∧ ∀ q, q ∈ x.2.2 → Eo w 6 q.2.1 q.2.2.1 ∧ q.2.2.1 ≤ N ∧ q.2.2.2 < N := fun b hb => by
        rcases h4 with ⟨y, -⟩ | ⟨-, y⟩
        · rw [brs_e (by omega), brs_e (by omega)]
          exact ⟨rfl, fun x hx => absurd hx (by simp)⟩
        · exact ih (s + 1) y (by omega) f b hb
      rw [brf, if_neg nl] at h0
      by_cases b8 : b = 8
      · rw [if_pos b8] at h0
        exact absurd h0 (by simp)
      rw [if_neg b8, c1] at h0
      by_cases r0 : (rf9 w pl sm nms 0 0 p q).1 ≠ 0
      · rw [if_pos r0] at h0
        exact absurd h0 r0
      rw [if_neg r0] at h0
      rw [brs9, if_neg nl, brs9, if_neg nl, c1, c2, ← (ag.1 (q + 1) (by omega)).1, ← (ag.1 p (by omega)).2.1]
      rcases ss with ⟨w10, es⟩ | ⟨w10, f1, hse⟩
      · rw [if_pos w10] at h0
        rw [if_pos w10, if_pos w10]
        have e3 : q + 3 = s + 1 := by omega
        rw [e3] at h0 ⊢
        obtain ⟨n1, n2⟩ := nxt (b + 1) h0
        refine ⟨by rw [n1], fun x hx => ?_⟩
        rcases List.mem_cons.mp hx with u | u
        · rw [u]
          exact ⟨⟨eo, by show q < N; omega⟩, fun y hy => absurd hy (by simp)⟩
        · exact n2 x u
      · rw [if_neg w10] at h0
        rw [if_neg w10, if_neg w10]
        have s1 := sef_cg ag nm f1 (q + 1) s hse (by omega) N []
        by_cases z : (sef w pl sm N nms N (q + 1) []).1.1 ≠ 0
        · rw [if_pos z] at h0
          exact absurd h0 z
        rw [if_neg z] at h0
        have s2 := sef_at (pl := pl) (sm := sm) (nms := nms) f1 (q + 1) s hse (by omega) N [] (by omega) (Decidable.not_not.mp z)
        rw [s2] at h0
        rw [← s1, s2]
        obtain ⟨n1, n2⟩ := nxt (b + 1) h0
        obtain ⟨l1, l2⟩ := sel_cg ag nm f1 (q + 1) s hse (by omega) N
        refine ⟨by rw [n1, l1], fun x hx => ?_⟩
        rcases List.mem_cons.mp hx with u | u
        · rw [u]
          exact ⟨⟨eo, by show q < N; omega⟩, l2⟩
        · exact n2 x u
theorem var_cg (ag : AgW w w' pl pl' nq nq' sm sm' N) (nm : NmW w N nms) (he : e < N) (vs : Vs w (k + 3) i) (hi : (w i ≠ 9 ∧ i = e) ∨ (w i = 9 ∧ Eo w 6 (i + 1) e)) : var9 w pl nq sm N nms k e = var9 w' pl' nq' sm' N nms k e := by
  have ie : i ≤ e := by
    rcases hi with ⟨-, y⟩ | ⟨-, y⟩
    · omega
    · have := y.pr.1
      omega
  have ki := vs.sg.1
  have wk := (ag.1 (k + 3) (by omega)).1
  have wi := (ag.1 i (by omega)).1
  have ini : (if w (k + 3) = 5 then k + 4 else nxq w 9 (e - (k + 3)) (k + 3)) = i ∧ (if w' (k + 3) = 5 then k + 4 else nxq w' 9 (e - (k + 3)) (k + 3)) = i := by
    rcases vs with ⟨w5, ei⟩ | ⟨w5, j, eo0, w16, eo1⟩
    · rw [if_pos w5, if_pos (by rw [← wk]; exact w5)]
      omega
    · have a0 := eo0.pr.1
      have a1 := eo1.pr.1
      have no9 : ∀ t, k + 3 ≤ t → t < i → w t ≠ 9 := fun t t1 t2 => by
        by_cases c1 : t < j
        · exact eo0.no9 (Or.inl rfl) t1 c1
        · by_cases c2 : t = j
          · rw [c2, w16]; decide
          · exact eo1.no9 (Or.inl rfl) (by omega) t2
      have no9' : ∀ t, k + 3 ≤ t → t < i → w' t ≠ 9 := fun t t1 t2 => by
        rw [← (ag.1 t (by omega)).1]
        exact no9 t t1 t2
      rw [if_neg w5, if_neg (by rw [← wk]; exact w5)]
      rcases hi with ⟨-, ei⟩ | ⟨w9, eo2⟩
      · rw [nxq_no (fun t t1 t2 => no9 t t1 (by omega)), nxq_no (fun t t1 t2 => no9' t t1 (by omega))]
        omega
      · have := eo2.pr.1
        exact ag.nx (by omega) (by omega) (by omega) w9 no9
  have r2 : w i = 9 → vlq w (cv9 w nq sm nms) pl 0 0 (i + 1) e = vlq w' (cv9 w' nq' sm' nms) pl' 0 0 (i + 1) e := fun w9 => by
    have eo := (hi.resolve_left (fun u => u.1 w9)).2
    exact vq_cg ag nm eo (by omega)
  have r01 : w (k + 3) ≠ 5 → ∃ j, (nxq w 16 N (k + 3) = j ∧ nxq w' 16 N (k + 3) = j) ∧ vlq w (cv9 w nq sm nms) pl 0 0 (k + 3) j = vlq w' (cv9 w' nq' sm' nms) pl' 0 0 (k + 3) j ∧ vlq w (cv9 w nq sm nms) pl 0 0 (j + 1) i = vlq w' (cv9 w' nq' sm' nms) pl' 0 0 (j + 1) i := fun w5 => by
    obtain ⟨-, j, eo0, w16, eo1⟩ := vs.resolve_left (fun u => w5 u.1)
    have a0 := eo0.pr.1
    have a1 := eo1.pr.1
    exact ⟨j, ag.nx (by omega) (by omega) (by omega) w16 (fun t t1 t2 => eo0.no9 (Or.inr (Or.inl rfl)) t1 t2), vq_cg ag nm eo0 (by omega), vq_cg ag nm eo1 (by omega)⟩
  unfold var9
  simp only []
  rw [ini.1, ini.2, ← wk, ← wi]
  by_cases w5 : w (k + 3) = 5
  · simp only [if_pos w5]
    by_cases w9 : w i = 9
    · simp only [if_pos w9]
      rw [r2 w9]
    · simp only [if_neg w9]
  · obtain ⟨j, ⟨j1, j2⟩, j3, j4⟩ := r01 w5
    simp only [if_neg w5]
    rw [j1, j2, j3, j4]
    by_cases w9 : w i = 9
    · simp only [if_pos w9]
      rw [r2 w9]
    · simp only [if_neg w9]
theorem ite_cg (ag : AgW w w' pl pl' nq nq' sm sm' N) (nm : NmW w N s.1) (hit : It w k e) (eN : e < N) (n1 : nxq w 34 N k = e) (n2 : nxq w' 34 N k = e) : ite9 w pl nq sm N 60 k s = ite9 w' pl' nq' sm' N 60 k s := by
  have kN : k < N := by
    have := hit.2.1
    omega
  have wk := (ag.1 k kN).1
  unfold ite9
  simp only [n1, n2]
  rw [← wk]
  rcases hit.2.2 with ⟨h0, h1, h2, eo⟩ | ⟨h0, h1, h2, i, vs, hi⟩ | ⟨h0, j, f1, eo, w17, br⟩ | ⟨h0, eo⟩
  · rw [if_pos h0, if_pos h0, itr_cg ag nm (by omega) h1 eo]
  · rw [if_neg (show ¬ (w k = 3 ∨ w k = 6) by omega), if_neg (show ¬ (w k = 3 ∨ w k = 6) by omega), if_pos h0, if_pos h0, itv_cg ag nm (by omega) h1 vs hi]
  · rw [if_neg (show ¬ (w k = 3 ∨ w k = 6) by omega), if_neg (show ¬ (w k = 3 ∨ w k = 6) by omega), if_neg (show ¬ (w k = 4) by omega), if_neg (show ¬ (w k = 4) by omega), if_neg (show ¬ (w k = 11) by omega), if_neg (show ¬ (w k = 11) by omega), itc_cg ag nm (by omega) eo w17 br]
  · rw [if_neg (show ¬ (w k = 3 ∨ w k = 6) by omega), if_neg (show ¬ (w k = 3 ∨ w k = 6) by omega), if_neg (show ¬ (w k = 4) by omega), if_neg (show ¬ (w k = 4) by omega), if_pos h0, if_pos h0, itt_cg ag nm (by omega) eo]
theorem itc_0 (h : (itc w pl sm N 60 k e s).2.2.1 = 0) (hj : nxq w 17 N (k + 1) = j) : (brf w pl sm N s.1 e N (j + 1) 0).1 = 0 := by
  unfold itc at h
  simp only [hj] at h
  by_cases c1 : s.2.1.2.2.1 = 60
  · rw [if_pos c1] at h
    exact absurd h (by simp)
  rw [if_neg c1] at h
  by_cases c2 : (fst9 (rf9 w pl sm s.1 0 1 (k + 1) j) (brf w pl sm N s.1 e N (j + 1) 0)).1 ≠ 0
  · rw [if_pos c2] at h
    exact absurd h c2
  exact (fst9_1.mp (Decidable.not_not.mp c2)).2
theorem igm_cg (ag : AgW w w' pl pl' nq nq' sm sm' N) (nm : NmW w N s.1) (hit : It w k e) (eN : e < N) (n1 : nxq w 34 N k = e) (n2 : nxq w' 34 N k = e) (z : (ite9 w pl nq sm N 60 k s).2.2.1 = 0) (go : GmO w N g) : igm9 w pl nq sm N s.1 k g = igm9 w' pl' nq' sm' N s.1 k g ∧ GmO w N (igm9 w pl nq sm N s.1 k g) := by
  have kN : k < N := by
    have := hit.2.1
    omega
  have wk := (ag.1 k kN).1
  unfold ite9 at z
  simp only [n1] at z
  unfold igm9
  rw [← wk, n1, n2]
  rcases hit.2.2 with ⟨h0, h1, h2, eo⟩ | ⟨h0, h1, h2, i, vs, hi⟩ | ⟨h0, j, f1, eo, w17, br⟩ | ⟨h0, eo⟩
  · rw [if_pos h0, if_pos h0]
    exact ⟨rfl, go⟩
  · rw [if_neg (show ¬ (w k = 3 ∨ w k = 6) by omega), if_neg (show ¬ (w k = 3 ∨ w k = 6) by omega), if_pos h0, if_pos h0, var_cg ag nm eN vs hi]
    exact ⟨rfl, go.1, go.2⟩
  · have h36 : ¬ (w k = 3 ∨ w k = 6) := by omega
    have h4 : ¬ w k = 4 := by omega
    have h11 : ¬ w k = 11 := by omega
    rw [if_neg h36, if_neg h4, if_neg h11] at z
    rw [if_neg h36, if_neg h36, if_neg h4, if_neg h4, if_neg h11, if_neg h11]
    have lt := eo.pr.1
    have je := br.sg.1
    obtain ⟨a1, a2⟩ := ag.nx (x := 17) (f := N) (k := k + 1) (e := j) (by omega) (by omega) (by omega) w17 (fun t t1 t2 => eo.no9 (Or.inr (Or.inr rfl)) t1 t2)
    obtain ⟨b1, b2⟩ := brs_cg ag nm eN f1 (j + 1) br (by omega) N 0 (itc_0 z a1)
    have ec : cmd9 w pl sm N s.1 k e = cmd9 w' pl' sm' N s.1 k e := by
      unfold cmd9
      rw [a1, a2, b1, ← wk, (ag.1 k kN).2.1]
    refine ⟨by rw [ec], go.1, fun cm hc => ?_⟩
    rcases List.mem_append.mp hc with u | u
    · exact go.2 cm u
    · rw [List.mem_singleton.mp u]
      unfold cmd9
      rw [a1]
      exact ⟨⟨eo, by show j < N; omega⟩, b2⟩
  · have h36 : ¬ (w k = 3 ∨ w k = 6) := by omega
    have h4 : ¬ w k = 4 := by omega
    rw [if_neg h36, if_neg h36, if_neg h4, if_neg h4, if_pos h0, if_pos h0]
    refine ⟨rfl, fun tg ht => ?_, go.2⟩
    have : (k + 1, e) = tg := Option.some.inj ht
    rw [← this]
    exact ⟨eo, eN⟩
theorem igs_cg (ag : AgW w w' pl pl' nq nq' sm sm' N) : ∀ (f f' k : Nat) (s : st9) (g : gm9), Ac w N f [50] k → NmW w N s.1 → GmO w N g → igs9 w pl nq sm N 60 f' k s g = igs9 w' pl' nq' sm' N 60 f' k s g ∧ GmO w N (igs9 w pl nq sm N 60 f' k s g) := by
  intro f
  induction f using Nat.strongRecOn with
  | ind f ih =>
    intro f' k s g hac nm go
    cases f' with
    | zero => exact ⟨rfl, go⟩
    | succ f' =>
      rw [igs9, igs9]
      by_cases f0 : s.2.2.1 = 0
      · rw [if_neg (show ¬ s.2.2.1 ≠ 0 from fun u => u f0), if_neg (show ¬ s.2.2.1 ≠ 0 from fun u => u f0)]
        rcases ac_item hac with ⟨c0, c1⟩ | ⟨c0, e, g', hg, hit, hac'⟩
        · rw [if_pos c0, if_pos (show w' k = 0 by rw [← (ag.1 k (by omega)).1]; exact c0)]
          exact ⟨rfl, go⟩
        · have eN := ac_le hac'
          have sg := hit.sg
          have kN : k < N := by
            have := hit.2.1
            omega
          obtain ⟨n1, n2⟩ := ag.nx (x := 34) (f := N) (k := k) (e := e) sg.1 (by omega) (by omega) hit.1 sg.2.2.2
          have wk := (ag.1 k kN).1
          have es := ite_cg ag nm hit (by omega) n1 n2
          have nm' : NmW w N (ite9 w pl nq sm N 60 k s).1 := ite_nm nm (by have := hit.2.1; omega) (fun u => by
            rcases hit.2.2 with ⟨h0, h1, -⟩ | ⟨h0, h1, -⟩ | ⟨h0, -⟩ | ⟨h0, -⟩
            · exact h1
            · exact h1
            · omega
            · omega)
          rw [if_neg c0, if_neg (show ¬ w' k = 0 by rw [← wk]; exact c0), n1, n2, ← es]
          by_cases z : (ite9 w pl nq sm N 60 k s).2.2.1 ≠ 0
          · rw [if_pos z, if_pos z]
            exact ih g' hg f' (e + 1) _ g hac' nm' go
          · obtain ⟨m1, m2⟩ := igm_cg (g := g) ag nm hit (by omega) n1 n2 (Decidable.not_not.mp z) go
            rw [if_neg z, if_neg z, ← m1]
            exact ih g' hg f' (e + 1) _ _ hac' nm' m2
      · rw [if_pos f0, if_pos f0]
        exact ⟨rfl, go⟩
theorem NmF.add (h : NmF w N nms) {y : nm9} (h1 : y.1 < N ∧ w y.1 = 1) (h2 : y.2.1 ≠ 1 → y.2.1 ≠ 3 → Eo w 6 (y.1 + 2) (nxq w 34 N y.1) ∧ nxq w 34 N y.1 < N) : NmF w N (nms ++ [y]) := fun e he => by
  rcases List.mem_append.mp he with u | u
  · exact h e u
  · rw [List.mem_singleton.mp u]
    exact ⟨h1, h2⟩
theorem ite_nmf (nf : NmF w N s.1) (it : It w k e) (nx : nxq w 34 N k = e) (he : e < N) : NmF w N (ite9 w pl nq sm N 60 k s).1 := by
  have lt := it.2.1
  have nx1 : nxq w 34 N (k + 1) = e := nxq_at (by omega) (by omega) it.1 (fun m m1 m2 => it.sg.2.2.2 m (by omega) m2)
  unfold ite9
  simp only [nx]
  rcases it.2.2 with ⟨h0, h1, h2, eo⟩ | ⟨h0, h1, h2, i, vs, hi⟩ | ⟨h0, j, f1, eo, w17, br⟩ | ⟨h0, eo⟩
  · have ad : ∀ y : Nat × Int × vrs, NmF w N (s.1 ++ [(k + 1, y)]) := fun y => nf.add ⟨by show k + 1 < N; omega, h1⟩ (fun _ _ => by
      show Eo w 6 (k + 1 + 2) (nxq w 34 N (k + 1)) ∧ nxq w 34 N (k + 1) < N
      rw [nx1]
      exact ⟨eo, he⟩)
    rw [if_pos h0]
    unfold itr
    simp only []
    repeat' split
    all_goals first | exact nf | exact ad _
  · have ad : ∀ y : Int × vrs, NmF w N (s.1 ++ [(k + 1, 3, y)]) := fun y => nf.add ⟨by show k + 1 < N; omega, h1⟩ (fun _ u => absurd rfl u)
    rw [if_neg (show ¬ (w k = 3 ∨ w k = 6) by omega), if_pos h0]
    unfold itv
    simp only []
    repeat' split
    all_goals first | exact nf | exact ad _
  · rw [if_neg (show ¬ (w k = 3 ∨ w k = 6) by omega), if_neg (show ¬ (w k = 4) by omega), if_neg (show ¬ (w k = 11) by omega)]
    unfold itc
    simp only []
    repeat' split
    all_goals exact nf
  · rw [if_neg (show ¬ (w k = 3 ∨ w k = 6) by omega), if_neg (show ¬ (w k = 4) by omega), if_pos h0]
    unfold itt
    simp only []
    repeat' split
    all_goals exact nf
theorem its_nmf : ∀ (f f' k : Nat) (s : st9), Ac w N f [50] k → NmF w N s.1 → NmF w N (its9 w pl nq sm N 60 f' k s).1 := by
  intro f
  induction f using Nat.strongRecOn with
  | ind f ih =>
    intro f' k s hac nf
    cases f' with
    | zero => exact nf
    | succ f' =>
      rw [its9]
      by_cases f0 : s.2.2.1 = 0
      · rw [if_neg (show ¬ s.2.2.1 ≠ 0 from fun u => u f0)]
        rcases ac_item hac with ⟨c0, c1⟩ | ⟨c0, e, g, hg, hit, hac'⟩
        · rw [if_pos c0]
          split
          · exact nf
          · exact nf
        · have eN := ac_le hac'
          have lt := hit.2.1
          have nx : nxq w 34 N k = e := nxq_at (by omega) (by omega) hit.1 (fun m m1 m2 => hit.sg.2.2.2 m m1 m2)
          rw [if_neg c0, nx]
          exact ih g hg f' (e + 1) _ hac' (ite_nmf nf hit nx (by omega))
      · rw [if_pos f0]
        exact nf
/-- two readings of the same words: exploring comes to the same -/
theorem xpg_same {f : Nat} (ag : AgW w w' pl pl' nq nq' sm sm' N) (hac : Ac w N f [50] 0) (hg : (igs9 w pl nq sm N 60 N 0 ([], (0, 0, 0, 0), (0, 0)) ([], none, [])).2.1 ≠ none) : XpG (w, pl, nq, sm, N, (its9 w pl nq sm N 60 N 0 ([], (0, 0, 0, 0), (0, 0))).1, igs9 w pl nq sm N 60 N 0 ([], (0, 0, 0, 0), (0, 0)) ([], none, [])) = XpG (w', pl', nq', sm', N, (its9 w pl nq sm N 60 N 0 ([], (0, 0, 0, 0), (0, 0))).1, igs9 w' pl' nq' sm' N 60 N 0 ([], (0, 0, 0, 0), (0, 0)) ([], none, [])) := by
  have nf := its_nmf (pl := pl) (nq := nq) (sm := sm) f N 0 ([], (0, 0, 0, 0), (0, 0)) hac (fun e he => absurd he (by simp))
  obtain ⟨g1, g2⟩ := igs_cg ag f N 0 ([], (0, 0, 0, 0), (0, 0)) ([], none, []) hac (fun e he => absurd he (by simp)) ⟨fun tg h => absurd h (by simp), fun cm h => absurd h (by simp)⟩
  rw [← g1]
  exact xpg_cg ag nf g2 hg
end XCC
end
section
/-! The reference keeps what was explored. -/
section XEA
variable {a g W : Nat} {M M' : mM} {S : List (List Int)} {T : xt9} {i9 : tI9} {r : Int}
/-- the tables of what was explored: states S, kinds and commands T -/
def XF (M : mM) (a W : Nat) (S : List (List Int)) (T : xt9) : Prop := ∃ (L w : Nat) (B : Nat → Nat), (1 ≤ S.length ∧ S.length ≤ 512) ∧ (mI M a 40 = (w : Int) ∧ w ≤ 4096) ∧ Wy M a S.length w ∧ (ln M (a + 109) = L ∧ ln M (a + 111) = L ∧ ln M (a + 113) = L ∧ ln M (a + 115) = L) ∧ (B 0 = 0 ∧ B L = w) ∧ (∀ i, i < L → okc M a B i) ∧ Wc M a w ∧ SmR M a W S.length = S ∧ xtR M a S.length = T
theorem sl.nt {q : Nat} (h : sl M M' q) : nt M' q = nt M q := funext (fun j => h.2 j)
theorem XF.xe (h : XF M a W S T) (k : xeF M M' a) : XF M' a W S T := by
  obtain ⟨⟨a1, a2, a3⟩, ⟨b1, b2, b3, b4, b5⟩, ⟨c1, c2⟩, d1, d2, d3, d4, -⟩ := k
  obtain ⟨L, w, B, h1, h2, h3, h4, h5, h6, h7, h8, h9⟩ := h
  refine ⟨L, w, B, h1, by rw [a3]; exact h2, ?_, by rw [d1.1, d2.1, d3.1, d4.1]; exact h4, h5, fun i hi => ?_, ?_, ?_, ?_⟩
  · unfold Wy
    rw [b5, c1, c2]
    exact h3
  · unfold okc
    rw [d2.nt, d3.nt, d4.nt, c1, c2]
    exact h6 i hi
  · unfold Wc
    rw [c1, c2]
    exact h7
  · unfold SmR lsR
    rw [b1]
    exact h8
  · unfold xtR stR cmL cmQ brR
    rw [b2, b3, b4, b5, c1, c2, d1.nt, d2.nt, d3.nt, d4.nt]
    exact h9
theorem SvT.xe (h : SvT M (a + 117) T) (k : xeF M M' a) : SvT M' (a + 117) T := h.sv k.2.2.2.2.2.2.2.1 k.2.2.2.2.2.2.2.2
/-- the latest fault's place, explore's state, and what was explored -/
def XE (i9 : tI9) (M : mM) (a : Nat) : Prop := mI M a 12 = i9.2.2.2.2.2.1.1 ∧ (mI M a 30 = i9.2.2.2.2.2.1.2.1 ∧ mI M (a + 117 + 30) 0 = i9.2.2.2.2.2.1.2.2) ∧ mI M a 29 = ((i9.2.2.2.2.2.2.1.length : Nat) : Int) ∧ (i9.2.2.2.2.2.2.1 = [] → i9.2.2.2.2.2.2.2 = []) ∧ (i9.2.2.2.2.2.2.1 ≠ [] → ∃ W : Nat, (W : Int) = i9.2.1 ∧ XF M a W i9.2.2.2.2.2.2.1 i9.2.2.2.2.2.2.2 ∧ SvT M (a + 117) i9.2.2.2.2.2.2.2 ∧ kdT i9.2.2.2.2.2.2.2)
theorem XE.xe (h : XE i9 M a) (k : xeF M M' a) (e : mI M' a 12 = mI M a 12) (e' : mI M' (a + 117 + 30) 0 = mI M (a + 117 + 30) 0) : XE i9 M' a := by
  obtain ⟨h1, h2, h3, h4, h5⟩ := h
  refine ⟨by rw [e]; exact h1, ⟨by rw [k.1.2.1]; exact h2.1, e'.trans h2.2⟩, by rw [k.1.1]; exact h3, h4, fun u => ?_⟩
  obtain ⟨W, w1, w2, w3, w4⟩ := h5 u
  exact ⟨W, w1, w2.xe k, w3.xe k, w4⟩
theorem XE.fx (h : XE i9 M a) (k : FX M a M') : XE i9 M' a := h.xe k.2.1 k.2.2.1 k.2.2.2
/-- what exploring leaves, by what it comes to -/
def exG (X : xR9) : tE9 := if X.1.1 ≠ 0 then ((X.1.2, ((X.2.1 : Nat) : Int), 0), [], []) else ((-1, -1, 0), X.2.2.1, X.2.2.2)
theorem XTr.xf (h : XTr M a g W S T) : S ≠ [] ∧ XF M a W S T := by
  obtain ⟨h1, h2, h3, w9, h4, h5, L, w, B, xd, hw⟩ := h
  obtain ⟨⟨x1, x2, x3⟩, ⟨x4, x5⟩, x6, x7, x8, ⟨x9, x10, x11⟩, x12⟩ := xd
  have ew : w9 = w := by omega
  subst ew
  refine ⟨fun u => ?_, L, w9, B, ⟨x2, x3⟩, ⟨x4, x5⟩, x7, x8, ⟨x9, hw⟩, x12, h5, h2, h3⟩
  rw [u] at x2
  exact absurd x2 (by decide)
theorem xpR.xe {X : xR9} (h : xpR X a g W r M') (hw : (W : Int) = i9.2.1) (he : i9.2.2.2.2.2 = exG X) : XE i9 M' a ∧ r = X.1.1 := by
  unfold XE
  rw [he]
  unfold exG
  rcases h with ⟨h1, h2, h3, h4, h5, h6⟩ | ⟨h1, h2, h3, h4, h5, h6, h7, h8⟩
  · rw [if_pos h1]
    exact ⟨⟨h3, ⟨h4, h6⟩, h5, fun _ => rfl, fun u => absurd rfl u⟩, h2⟩
  · have n0 : ¬ (X.1.1 ≠ 0) := fun u => u (by rw [h1])
    rw [if_neg n0]
    obtain ⟨f1, f2⟩ := h5.xf
    exact ⟨⟨h3, ⟨h4, h8⟩, h5.1, fun u => absurd u f1, fun _ => ⟨W, hw, f2, h6, h7⟩⟩, by rw [h1]; exact h2⟩
end XEA
end
section
/-! What the questions about the states answer: pure. -/
section ASQ
variable {α : Type} {M : mM} {a g : Nat}
theorem rget (f : Nat → α) (n k : Nat) : ((List.range n).map f)[k]? = if k < n then some (f k) else none := by
  by_cases h : k < n
  · rw [if_pos h, List.getElem?_map, List.getElem?_range h]
    all_goals rfl
  · rw [if_neg h]
    exact List.getElem?_eq_none (by rw [List.length_map, List.length_range]; omega)
/-- state l: its kind and commands -/
def stA9 (T : xt9) (l : Int) : Option (Int × List sc9) := if l < 0 then none else T[l.toNat]?
def kdA9 (T : xt9) (l : Int) : Int := ((stA9 T l).map (fun x => x.1)).getD (-1)
def cnA9 (T : xt9) (l : Int) : Int := ((stA9 T l).map (fun x => ((x.2.length : Nat) : Int))).getD (-1)
/-- command l2 of state l1 -/
def cmA9 (T : xt9) (l1 l2 : Int) : Option sc9 := (stA9 T l1).bind (fun x => if l2 < 0 then none else x.2[l2.toNat]?)
def caA9 (T : xt9) (l1 l2 : Int) : Int := ((cmA9 T l1 l2).map (fun c => (c.1 : Int))).getD (-1)
def bnA9 (T : xt9) (l1 l2 : Int) : Int := ((cmA9 T l1 l2).map (fun c => ((c.2.2.length : Nat) : Int))).getD (-1)
/-- branch l3 of it -/
def bqA9 (c : sc9) (l3 : Int) : Option (Nat × Int) := if l3 < 0 then none else c.2.2[l3.toNat]?
def b1A9 (mu : Int) (l4 : Int) (b : Nat × Int) : Int := if l4 = 0 then (b.1 : Int) else if l4 = 1 then b.2 / (Int.gcd b.2 mu : Int) else if l4 = 2 then mu / (Int.gcd b.2 mu : Int) else -1
def brA9 (T : xt9) (l1 l2 l3 l4 : Int) : Int := ((cmA9 T l1 l2).map (fun c => ((bqA9 c l3).map (b1A9 c.2.1 l4)).getD (-1))).getD (-1)
/-- var l2 in state l1 -/
def vaA9 (S : List (List Int)) (l1 l2 : Int) : Int := ((S[l1.toNat]?).bind (fun x => x[l2.toNat]?)).getD 0
theorem cml_map {m : Nat} : cml M g a m = (List.range m).map (fun t => cmm M g (a + t)) := by
  induction m with
  | zero => rfl
  | succ m ih =>
    rw [List.range_succ, List.map_append, ← ih]
    all_goals rfl
theorem brl_map {m : Nat} : brl M g a m = (List.range m).map (fun t => ((mI M (g + 8) (a + t)).toNat, mI M (g + 9) (a + t))) := by
  induction m with
  | zero => rfl
  | succ m ih =>
    rw [List.range_succ, List.map_append, ← ih]
    all_goals rfl
theorem xtm_map {m : Nat} : xtm M g m = (List.range m).map (stm M g) := by
  induction m with
  | zero => rfl
  | succ m ih =>
    rw [List.range_succ, List.map_append, ← ih]
    all_goals rfl
/-- a share and its multiple, in lowest terms -/
theorem low9 {x y mu : Int} (hx : 0 < x) (hy : 0 < y) (hm : 0 < mu) (g1 : Int.gcd x y = 1) (hd : y ∣ mu) : x * (mu / y) / (Int.gcd (x * (mu / y)) mu : Int) = x ∧ mu / (Int.gcd (x * (mu / y)) mu : Int) = y := by
  obtain ⟨k, hk⟩ := hd
  have k0 : 0 < k := by
    rcases Int.lt_or_le 0 k with u | u
    · exact u
    · have h9 : y * k ≤ y * 0 := Int.mul_le_mul_of_nonneg_left u (Int.le_of_lt hy)
      rw [Int.mul_zero, ← hk] at h9
      omega
  have e1 : mu / y = k := by rw [hk]; exact Int.mul_ediv_cancel_left _ (by omega)
  rw [e1]
  have e2 : Int.gcd (x * k) mu = k.natAbs := by rw [hk, Int.gcd_mul_right, g1, Nat.one_mul]
  have e3 : ((k.natAbs : Nat) : Int) = k := Int.natAbs_of_nonneg (by omega)
  rw [e2, e3]
  exact ⟨Int.mul_ediv_cancel _ (by omega), by rw [hk]; exact Int.mul_ediv_cancel _ (by omega)⟩
end ASQ
end
section
/-! The reference between two calls: what the solver's calls leave; the methods that read. -/
section PUB
variable {G : mG} {d a s n k w : Nat} {M M' M2 : mM} {S : Nat → Prop} {Nt9 : tP9}
/-- the reference between two calls, with what was explored -/
def RI (Nt9 : tP9) (M : mM) (a : Nat) : Prop := mOk M ∧ Wd M a ∧ (Tpl Nt9 M (mR M a 1) ∧ ln M (mR M a 2) ≤ 16384) ∧ (0 ≤ mI M a 29 ∧ mI M a 29 ≤ 512) ∧ Sv M (a + 117) (mI M a 29).toNat ∧ (mI M a 11 ≠ 0 → Gd Nt9.2.2 M (mR M a 9)) ∧ (0 < mI M a 29 → mI M a 11 ≠ 0 ∧ XL M a) ∧ (0 ≤ mI M a 48 ∧ mI M a 48 ≤ 900 ∧ mI M a 11 = Nt9.2.2.1 ∧ XE Nt9.2.2 M a)
theorem RI.r0 (h : RI Nt9 M a) : RI0 Nt9 M a := ⟨h.1, h.2.1, h.2.2.1, h.2.2.2.1, h.2.2.2.2.1, h.2.2.2.2.2.1, h.2.2.2.2.2.2.1, h.2.2.2.2.2.2.2.1, h.2.2.2.2.2.2.2.2.1, h.2.2.2.2.2.2.2.2.2.1⟩
theorem RI.xe (h : RI Nt9 M a) : XE Nt9.2.2 M a := h.2.2.2.2.2.2.2.2.2.2
theorem RI0.ri (h : RI0 Nt9 M a) (x : XE Nt9.2.2 M a) : RI Nt9 M a := ⟨h.1, h.2.1, h.2.2.1, h.2.2.2.1, h.2.2.2.2.1, h.2.2.2.2.2.1, h.2.2.2.2.2.2.1, h.2.2.2.2.2.2.2.1, h.2.2.2.2.2.2.2.2.1, h.2.2.2.2.2.2.2.2.2, x⟩
theorem RI.step {j : Nat} {v : Int} (h : RI Nt9 M a) (hv : i32 v) (hj : j ≠ 11 ∧ j ≠ 29 ∧ j ≠ 48) (e : M' = mUI M a j v) (h0 : j < 12 := by decide) : RI Nt9 M' a ∧ FX M a M' ∧ (∀ i, mI M' a i = if i = j then v else mI M a i) := by
  obtain ⟨a1, a2, a3⟩ := h.r0.step hv hj e h0
  exact ⟨a1.ri (h.xe.fx a2), a2, a3⟩
/-- an answer, and the reference at rest -/
def rQ (Nt9 : tP9) (M : mM) (a : Nat) (r : Int) (M' : mM) : Prop := i32 r ∧ RI Nt9 M' a ∧ FX M a M'
theorem Wd.pl3 (w : Wd M a) : mR M a 31 = a + 105 ∧ mR M a 32 = a + 106 ∧ mR M a 33 = a + 107 ∧ mR M a 34 = a + 108 ∧ mR M a 35 = a + 109 ∧ mR M a 36 = a + 111 ∧ mR M a 37 = a + 113 ∧ mR M a 38 = a + 115 ∧ mR M a 39 = a + 117 := w.1.2.2.2.2.2.1
theorem Wd.pl4 (w : Wd M a) : (mK M (a + 105) = 30 ∧ mN M (a + 105) = 6144) ∧ (mK M (a + 106) = 30 ∧ mN M (a + 106) = 512) ∧ (mK M (a + 107) = 30 ∧ mN M (a + 107) = 512) ∧ (mK M (a + 108) = 30 ∧ mN M (a + 108) = 512) := w.1.2.2.2.2.2.2.2.2.1
theorem Wd.pl5 (w : Wd M a) : (mR M a 41 = a + 21185 ∧ mR M a 42 = a + 21186 ∧ mR M a 43 = a + 21187) ∧ mR M a 47 = a + 21191 := ⟨⟨w.1.2.2.2.2.2.2.1.1, w.1.2.2.2.2.2.2.1.2.1, w.1.2.2.2.2.2.2.1.2.2.1⟩, w.1.2.2.2.2.2.2.1.2.2.2.2.2.2⟩
theorem Wd.pl6 (w : Wd M a) : (mK M (a + 21185) = 30 ∧ mN M (a + 21185) = 4096) ∧ (mK M (a + 21186) = 33 ∧ mN M (a + 21186) = 4096) ∧ (mK M (a + 21187) = 33 ∧ mN M (a + 21187) = 4096) ∧ (mK M (a + 21191) = 30 ∧ mN M (a + 21191) = 900) := ⟨w.1.2.2.2.2.2.2.2.2.2.1.1, w.1.2.2.2.2.2.2.2.2.2.1.2.1, w.1.2.2.2.2.2.2.2.2.2.1.2.2.1, w.1.2.2.2.2.2.2.2.2.2.1.2.2.2.2.2.2⟩
/-- the solver alone has changed, and what is printed -/
theorem RI0.sol (h : RI0 Nt9 M a) (o : mOk M') (f : FI S M M') (hS : ∀ x, S x → vH (a + 117) x ∨ x = a + 21191) (hv : Sv M' (a + 117) (mI M a 29).toNat) : RI0 Nt9 M' a ∧ FX0 M a M' ∧ mI M' a = mI M a := by
  obtain ⟨hO, w, ht, h1, h2, h3, h4, h5⟩ := h
  have hg := w.g9
  have no : ∀ q : Nat, False → q ∈ nums a := fun _ z => z.elim
  have hS' : ∀ x, S x → a + 117 ≤ x ∧ x ≤ a + 21191 ∧ (x < a + 117 + 22 ∨ a + 117 + 28 < x) := fun x z => by
    rcases hS x z with y | y
    · have y' : a + 117 ≤ x ∧ x ≤ a + 117 + 21067 ∧ (x < a + 117 + 22 ∨ a + 117 + 28 < x) := y
      omega
    · omega
  have m : Mv (fun _ => False) S M a M' := mv_fi o w f (fun x z => by
    have z' := hS' x z
    rcases hS x z with y | y
    · have y' : a + 117 ≤ x ∧ x ≤ a + 117 + 21067 ∧ (x < a + 117 + 22 ∨ a + 117 + 28 < x) := y
      exact ⟨by omega, by omega, fun u => by have := nums_in u; omega, fun q hq u => by have := nums_in hq; omega⟩
    · have e := offx (a := a) (o := 21191) (by decide)
      rw [y]
      exact ⟨by omega, by omega, e.2.1, e.2.2⟩)
  have aI := (m.fld w no (fun z => by have := hS' _ z; omega)).1
  have aR := m.rfl_a w no
  have tp := w.tape
  have cI : ∀ x, ¬ S x → mI M' x = mI M x := f.2.2.2.2.2.2
  have xe : xeF M M' a := ⟨by rw [aI]; exact ⟨rfl, rfl, rfl⟩, ⟨cI _ (fun z => by have := hS' _ z; omega), cI _ (fun z => by have := hS' _ z; omega), cI _ (fun z => by have := hS' _ z; omega), cI _ (fun z => by have := hS' _ z; omega), cI _ (fun z => by
    rcases hS _ z with y | y
    · have y' : a + 117 ≤ a + 21185 ∧ a + 21185 ≤ a + 117 + 21067 ∧ (a + 21185 < a + 117 + 22 ∨ a + 117 + 28 < a + 21185) := y
      omega
    · omega)⟩, ⟨by rw [f.2.2.2.1], by rw [f.2.2.2.1]⟩, (m.lst (nums_o (by decide)) (fun z => z)).sl, (m.lst (nums_o (by decide)) (fun z => z)).sl, (m.lst (nums_o (by decide)) (fun z => z)).sl, (m.lst (nums_o (by decide)) (fun z => z)).sl, hv.2.2.2.1.trans h2.2.2.2.1.symm, fun i p q => cI _ (fun z => by have := hS' _ z; omega)⟩
  refine ⟨⟨o, m.2.1, ⟨by rw [aR]; exact ht.1.sm (m.lst tp.1 (fun z => z)), by rw [aR, (m.lst tp.2.1 (fun z => z)).1]; exact ht.2⟩, ?_⟩, ⟨FR.fi f (fun x z => by have := hS' x z; omega), xe, by rw [aI]⟩, aI⟩
  unfold RX
  rw [aR, aI]
  refine ⟨h1, hv, fun q => gd_mv (h3 q) w hg m no (fun _ z => z.elim) (fun x z => by have := hS' x z; omega), fun q => ⟨(h4 q).1, ?_⟩, h5⟩
  obtain ⟨x1, x2, x3, x4⟩ := (h4 q).2
  have s9 := m.lst (q := a + 109) (nums_o (by decide)) (fun z => z)
  have s11 := m.lst (q := a + 111) (nums_o (by decide)) (fun z => z)
  have s13 := m.lst (q := a + 113) (nums_o (by decide)) (fun z => z)
  unfold XL mny
  rw [aI, s9.1, s11.1, s13.1, cI (a + 107) (fun z => by have := hS' _ z; omega), cI (a + 108) (fun z => by have := hS' _ z; omega), cI (a + 117 + 23) (fun z => by have := hS' _ z; omega)]
  refine ⟨x1, x2, x3, fun i hi => ?_⟩
  rw [s11.2.1, s13.2.1]
  exact x4 i hi
theorem RI.sol (h : RI Nt9 M a) (o : mOk M') (f : FI S M M') (hS : ∀ x, S x → vH (a + 117) x ∨ x = a + 21191) (hv : Sv M' (a + 117) (mI M a 29).toNat) (hk : mI M' (a + 117 + 30) 0 = mI M (a + 117 + 30) 0) : RI Nt9 M' a ∧ FX M a M' ∧ mI M' a = mI M a := by
  obtain ⟨a1, a2, a3⟩ := h.r0.sol o f hS hv
  exact ⟨a1.ri (h.xe.fx (a2.fx hk)), a2.fx hk, a3⟩
/-- are values worked out -/
def kn9 (i : tI9) (k : Int) : tI9 := (i.1, i.2.1, i.2.2.1, i.2.2.2.1, i.2.2.2.2.1, (i.2.2.2.2.2.1.1, i.2.2.2.2.2.1.2.1, k), i.2.2.2.2.2.2)
theorem RI0.e8 {l : Int} {c : Nat → Int} {i : tI9} {e : tE9} (h : RI0 (l, c, i) M a) : RI0 (l, c, i.1, i.2.1, i.2.2.1, i.2.2.2.1, i.2.2.2.2.1, e) M a := by
  obtain ⟨h1, h2, h3, h4, h5, h6, h7, h8⟩ := h
  exact ⟨h1, h2, h3, h4, h5, h6, h7, h8⟩
theorem RI.solv {k : Int} (h : RI Nt9 M a) (o : mOk M') (f : FI S M M') (hS : ∀ x, S x → vH (a + 117) x ∨ x = a + 21191) (hv : Sv M' (a + 117) (mI M a 29).toNat) (hk : mI M' (a + 117 + 30) 0 = k) : RI (Nt9.1, Nt9.2.1, kn9 Nt9.2.2 k) M' a ∧ FR M a M' ∧ mI M' a = mI M a := by
  obtain ⟨a1, a2, a3⟩ := h.r0.sol o f hS hv
  obtain ⟨x1, x2, x3, x4, x5⟩ := h.xe
  refine ⟨RI0.ri (RI0.e8 (l := Nt9.1) (c := Nt9.2.1) (i := Nt9.2.2) a1) ⟨by rw [a3]; exact x1, ⟨by rw [a3]; exact x2.1, hk⟩, by rw [a3]; exact x3, x4, fun u => ?_⟩, a2.1, a3⟩
  obtain ⟨W, w1, w2, w3, w4⟩ := x5 u
  exact ⟨W, w1, w2.xe a2.2.1, w3.xe a2.2.1, w4⟩
/-- a step that only touches the tape and the fault -/
theorem RI0.mv {P : Nat → Prop} (h : RI0 Nt9 M a) (m : Mv P S M a M') (hP : ∀ q, P q → q = mR M a 1) (hS : ∀ x, S x → x = a) (hf : ∀ i, i ≠ 0 → mI M' a i = mI M a i) {n1 : tP9} (hl : Tpl n1 M' (mR M a 1)) (hn : n1.2.2 = Nt9.2.2) : RI0 n1 M' a ∧ FX M a M' := by
  obtain ⟨hO, w, ht, hx⟩ := h
  have tp := w.tape
  have hin : ∀ q, P q → q ∈ nums a := fun q z => by rw [hP q z]; exact tp.1
  have aR := m.rfl_a w hin
  have s1 := w.1.2.1
  have hg := w.g9
  have ra := ra_mv w hg m hin (fun q z => by
    have := hP q z
    refine ⟨fun y => ?_, by omega, by omega, by omega, by omega⟩
    have y' : q = mR M a 9 + 1 ∨ q = mR M a 9 + 3 ∨ q = mR M a 9 + 5 ∨ q = mR M a 9 + 7 ∨ q = mR M a 9 + 9 ∨ q = mR M a 9 + 11 ∨ q = mR M a 9 + 30 ∨ q = mR M a 9 + 32 ∨ q = mR M a 9 + 34 := y
    omega) (fun x z => by have := hS x z; omega) ⟨hf 11 (by decide), hf 29 (by decide), hf 48 (by decide), hf 30 (by decide), hf 40 (by decide)⟩
  refine ⟨⟨m.1, m.2.1, ⟨by rw [aR]; exact hl, by rw [aR, (m.lst tp.2.1 (fun z => tp.2.2 (hP _ z).symm)).1]; exact ht.2⟩, by rw [aR, hn]; exact hx.ra ra⟩, FR.mv m hin (fun x z => by have := hS x z; omega), ra.2.2.2.2.2.2.2, hf 12 (by decide), by rw [(ra.2.1 (a + 117 + 30) (by omega) (by omega)).2.2.2]⟩
theorem RI.mv {P : Nat → Prop} (h : RI Nt9 M a) (m : Mv P S M a M') (hP : ∀ q, P q → q = mR M a 1) (hS : ∀ x, S x → x = a) (hf : ∀ i, i ≠ 0 → mI M' a i = mI M a i) {n1 : tP9} (hl : Tpl n1 M' (mR M a 1)) (hn : n1.2.2 = Nt9.2.2) : RI n1 M' a ∧ FX M a M' := by
  obtain ⟨a1, a2⟩ := h.r0.mv m hP hS hf hl hn
  exact ⟨a1.ri (by rw [hn]; exact h.xe.fx a2), a2⟩
theorem r_MM_feed {v : Nat → Int} (hv : ∀ i, i32 (v i)) (h : RI Nt9 M a) : Ci G y_MM_feed (d + 2) [vr a, vi (v 0), vi (v 1), vi (v 2), vi (v 3), vi (v 4)] M (fun r M' => ∃ n1, rQ n1 M a r M' ∧ ((Nt9.1 + 20 ≤ 16384 ∧ r = Nt9.1 + 20 ∧ n1 = (r, fdc Nt9.2.1 Nt9.1.toNat (v 0) (v 1) (v 2) (v 3) (v 4), Nt9.2.2)) ∨ (16384 < Nt9.1 + 20 ∧ r = -1 ∧ n1 = Nt9))) := by
  have bN := h.2.2.1.1
  refine (s_MM_feed hv h.1 h.2.1 (by rw [bN.1]; exact bN.2.1)).mono (fun r M1 q => ?_)
  have b0 : 0 ≤ ln M (mR M a 1) := (h.2.1.nu h.2.1.tape.1).2.2.2.1.1
  obtain ⟨m, hf, f0, hh⟩ := id q
  have e : i32 r ∧ ∃ n1, Tpl n1 M1 (mR M a 1) ∧ ((Nt9.1 + 20 ≤ 16384 ∧ r = Nt9.1 + 20 ∧ n1 = (r, fdc Nt9.2.1 Nt9.1.toNat (v 0) (v 1) (v 2) (v 3) (v 4), Nt9.2.2)) ∨ (16384 < Nt9.1 + 20 ∧ r = -1 ∧ n1 = Nt9)) := by
    obtain ⟨c1, c2, c3⟩ := bN
    rcases hh with ⟨y1, y2, y3, y4, y5⟩ | ⟨y1, y2, y3⟩
    · rw [c1] at y1 y2 y4 y5 b0
      refine ⟨i32s (by omega) (by omega), _, ⟨y3, by show r ≤ 16384; omega, fun j hj => ?_⟩, Or.inl ⟨by omega, by omega, rfl⟩⟩
      have hj : (j : Int) < r := hj
      obtain ⟨m, hm⟩ : ∃ m : Nat, Nt9.1 = m := ⟨Nt9.1.toNat, by omega⟩
      rw [hm] at y4 y5 c3 y2
      rw [Int.toNat_natCast] at y5
      show nt M1 (mR M a 1) j = fdc Nt9.2.1 Nt9.1.toNat (v 0) (v 1) (v 2) (v 3) (v 4) j
      rw [hm, Int.toNat_natCast]
      unfold fdc f4
      by_cases d0 : j < m
      · rw [if_pos (by omega), if_pos (by omega), if_pos (by omega), if_pos (by omega), if_pos d0, y4 j (by omega)]
        exact c3 j (by omega)
      · have key : ∀ i, i < 5 → m + 4 * i ≤ j → j < m + 4 * i + 4 → nt M1 (mR M a 1) j = byt (v i) (j - (m + 4 * i)) := fun i hi h1 h2 => by
          have := y5 i (j - (m + 4 * i)) hi (by omega)
          rw [show m + 4 * i + (j - (m + 4 * i)) = j by omega] at this
          exact this
        by_cases d1 : j < m + 4
        · rw [if_pos (by omega), if_pos (by omega), if_pos (by omega), if_pos (by omega), if_neg d0]
          exact key 0 (by decide) (by omega) (by omega)
        by_cases d2 : j < m + 8
        · rw [if_pos (by omega), if_pos (by omega), if_pos (by omega), if_neg d1]
          exact key 1 (by decide) (by omega) (by omega)
        by_cases d3 : j < m + 12
        · rw [if_pos (by omega), if_pos (by omega), if_neg d2]
          exact key 2 (by decide) (by omega) (by omega)
        by_cases d4 : j < m + 16
        · rw [if_pos (by omega), if_neg d3]
          exact key 3 (by decide) (by omega) (by omega)
        · rw [if_neg d4]
          exact key 4 (by decide) (by omega) (by omega)
    · have y4 := y3.1
      rw [c1] at y1
      exact ⟨i32s (by omega) (by omega), Nt9, (show Tpl Nt9 M (mR M a 1) from ⟨c1, c2, c3⟩).sm y3, Or.inr ⟨by omega, y2, rfl⟩⟩
  obtain ⟨ir, n1, hl, hd⟩ := e
  obtain ⟨r1, F1⟩ := h.mv m (fun q z => z) (fun x z => z) hf hl (by rcases hd with ⟨-, -, y⟩ | ⟨-, -, y⟩ <;> rw [y])
  exact ⟨n1, ⟨ir, r1, F1⟩, hd⟩
theorem r_MM_end {l : Int} (hl : i32 l) (h : RI Nt9 M a) : Ci G y_MM_end d [vr a, vi l] M (fun r M' => ∃ n1, rQ n1 M a r M' ∧ ((0 ≤ l ∧ l ≤ 20 ∧ 20 ≤ Nt9.1 ∧ n1 = (Nt9.1 - 20 + l, Nt9.2)) ∨ (¬ (0 ≤ l ∧ l ≤ 20 ∧ 20 ≤ Nt9.1) ∧ n1 = Nt9))) := by
  have bN := h.2.2.1.1
  refine (s_MM_end hl h.1 h.2.1 (by rw [bN.1]; exact bN.2.1)).mono (fun r M1 q => ?_)
  have b0 : 0 ≤ ln M (mR M a 1) := (h.2.1.nu h.2.1.tape.1).2.2.2.1.1
  obtain ⟨m, hf, hh⟩ := id q
  have e : i32 r ∧ ∃ n1, Tpl n1 M1 (mR M a 1) ∧ ((0 ≤ l ∧ l ≤ 20 ∧ 20 ≤ Nt9.1 ∧ n1 = (Nt9.1 - 20 + l, Nt9.2)) ∨ (¬ (0 ≤ l ∧ l ≤ 20 ∧ 20 ≤ Nt9.1) ∧ n1 = Nt9)) := by
    obtain ⟨c1, c2, c3⟩ := bN
    rcases hh with ⟨y1, y2, y3, y4, y5, y6, y7⟩ | ⟨y1, y2, y3, y4⟩
    · rw [c1] at y3 y5
      exact ⟨i32s (by omega) (by omega), _, ⟨by rw [y6, y5], by show Nt9.1 - 20 + l ≤ 16384; omega, fun j hj => by
        have hj : (j : Int) < Nt9.1 - 20 + l := hj
        rw [y7]
        exact c3 j (by omega)⟩, Or.inl ⟨y1, y2, y3, rfl⟩⟩
    · rw [c1] at y1
      exact ⟨i32s (by omega) (by omega), Nt9, (show Tpl Nt9 M (mR M a 1) from ⟨c1, c2, c3⟩).sm y4, Or.inr ⟨y1, rfl⟩⟩
  obtain ⟨ir, n1, hl', hd⟩ := e
  obtain ⟨r1, F1⟩ := h.mv m (fun q z => z) (fun x z => z) hf hl' (by rcases hd with ⟨-, -, -, y⟩ | ⟨-, y⟩ <;> rw [y])
  exact ⟨n1, ⟨ir, r1, F1⟩, hd⟩
theorem r_MM_place1 (h : RI Nt9 M a) : Ci G y_MM_place1 d [vr a] M (fun r M' => rQ Nt9 M a r M' ∧ r = Nt9.2.2.2.2.2.2.2.1.1) := by
  refine k_MM_place1 h.1 ⟨h.2.1.1.1, fun M2 e2 => ?_⟩
  obtain ⟨r2, F2, -⟩ := h.step ⟨by decide, by decide⟩ ⟨by decide, by decide, by decide⟩ e2
  exact ⟨⟨(r2.1 _ _).1, r2, F2⟩, r2.xe.1⟩
theorem r_MM_state1 (h : RI Nt9 M a) : Ci G y_MM_state1 d [vr a] M (fun r M' => rQ Nt9 M a r M' ∧ r = Nt9.2.2.2.2.2.2.2.1.2.1) := by
  refine k_MM_state1 h.1 ⟨h.2.1.1.1, fun M2 e2 => ?_⟩
  obtain ⟨r2, F2, -⟩ := h.step ⟨by decide, by decide⟩ ⟨by decide, by decide, by decide⟩ e2
  exact ⟨⟨(r2.1 _ _).1, r2, F2⟩, r2.xe.2.1.1⟩
theorem r_MM_states (h : RI Nt9 M a) : Ci G y_MM_states d [vr a] M (fun r M' => rQ Nt9 M a r M' ∧ r = ((Nt9.2.2.2.2.2.2.2.2.1.length : Nat) : Int)) := by
  refine k_MM_states h.1 ⟨h.2.1.1.1, fun M2 e2 => ?_⟩
  obtain ⟨r2, F2, -⟩ := h.step ⟨by decide, by decide⟩ ⟨by decide, by decide, by decide⟩ e2
  exact ⟨⟨(r2.1 _ _).1, r2, F2⟩, r2.xe.2.2.1⟩
/-- what items answers -/
def itq (i : tI9) (l : Int) : Int := if i.1 = 0 then -1 else if l = 0 then i.2.1 else if l = 1 then i.2.2.1 else if l = 2 then i.2.2.2.1 else -1
theorem r_MM_items1 {l : Int} (hl : i32 l) (h : RI Nt9 M a) : Ci G y_MM_items1 d [vr a, vi l] M (fun r M' => rQ Nt9 M a r M' ∧ r = itq Nt9.2.2 l) := by
  refine k_MM_items1 h.1 hl ⟨h.2.1.1.1, fun M2 e2 => ?_⟩
  obtain ⟨r2, F2, -⟩ := h.step ⟨by decide, by decide⟩ ⟨by decide, by decide, by decide⟩ e2
  have k9 := (r2.2.1.gp r2.2.1.g9).1
  refine ⟨fun _ => ⟨fun _ => k9, fun _ => ⟨fun _ => k9, fun _ _ => k9⟩⟩, fun v e => ⟨⟨?_, r2, F2⟩, ?_⟩⟩
  · rw [e]
    (repeat' split) <;> first | exact (r2.1 _ _).1 | exact ⟨by decide, by decide⟩
  · obtain ⟨-, -, -, -, -, x3, -, -, -, fl, -⟩ := r2
    unfold itq
    by_cases z : mI M2 a 11 = 0
    · rw [e, if_pos z, ← fl, if_pos z]
    · obtain ⟨_, _, _, _, _, _, _, -, -, -, -, -, -, q1, q2, q3, -⟩ := x3 z
      rw [e, if_neg z, q1, q2, q3, ← fl, if_neg z]
theorem r_MM_isState {l : Int} (hl : i32 l) (h : RI Nt9 M a) : Ci G y_MM_isState d [vr a, vi l] M (fun r M' => rQ Nt9 M a r M' ∧ (r ≠ 0 → 0 ≤ l ∧ l < mI M' a 29)) := by
  refine k_MM_isState h.1 hl ⟨h.2.1.1.1, fun M2 e2 v e => ?_⟩
  obtain ⟨r2, F2, -⟩ := h.step ⟨by decide, by decide⟩ ⟨by decide, by decide, by decide⟩ e2
  by_cases y : l < 0 ∨ mI M2 a 29 ≤ l
  · rw [if_pos y] at e
    exact ⟨⟨by rw [e]; exact ⟨by decide, by decide⟩, r2, F2⟩, fun z => absurd e z⟩
  · rw [if_neg y] at e
    exact ⟨⟨by rw [e]; exact ⟨by decide, by decide⟩, r2, F2⟩, fun _ => by omega⟩
end PUB
end
section
/-! The reference's public methods that read the tables and call the solver. -/
section PUC
variable {G : mG} {d a s n k w : Nat} {M M' M2 : mM} {S : Nat → Prop} {Nt9 : tP9}
theorem rQ.one {l : Int} (h : RI Nt9 M' a) (F : FX M a M') (hl : i32 l) : rQ Nt9 M a l M' := ⟨hl, h, F⟩
theorem RI.n5 (h : RI Nt9 M a) : 0 ≤ mI M a 29 ∧ mI M a 29 ≤ 512 := h.2.2.2.1
theorem r_MM_isCommand {l1 l2 : Int} (i1 : i32 l1) (i2 : i32 l2) (h : RI Nt9 M a) : Ci G y_MM_isCommand (d + 1) [vr a, vi l1, vi l2] M (fun r M' => rQ Nt9 M a r M' ∧ (r ≠ 0 → (0 ≤ l1 ∧ l1 < mI M' a 29) ∧ 0 ≤ l2 ∧ l2 < mI M' (a + 108) l1.toNat)) := by
  refine k_MM_isCommand h.1 i1 i2 ⟨h.2.1.1.1, (r_MM_isState i1 h).mono (fun x M1 q => ?_)⟩
  obtain ⟨⟨ix, r1, F1⟩, hx⟩ := q
  have b := r1.n5
  have A := r1.2.1.pl4
  rw [r1.2.1.pl3.2.2.2.1]
  refine ⟨ix, r1.1, fun y _ => ⟨r1.2.1.1.1, A.2.2.2.1, by rw [A.2.2.2.2]; have := hx y; omega⟩, fun v e => ?_⟩
  by_cases y : x = 0 ∨ l2 < 0 ∨ mI M1 (a + 108) l1.toNat ≤ l2
  · rw [if_pos y] at e
    exact ⟨⟨by rw [e]; exact ⟨by decide, by decide⟩, r1, F1⟩, fun z => absurd e z⟩
  · rw [if_neg y] at e
    exact ⟨⟨by rw [e]; exact ⟨by decide, by decide⟩, r1, F1⟩, fun _ => ⟨hx (by omega), by omega, by omega⟩⟩
/-- a command's place -/
theorem RI.cm {l1 l2 : Int} (h : RI Nt9 M a) (q1 : 0 ≤ l1 ∧ l1 < mI M a 29) (q2 : 0 ≤ l2) (q3 : l2 < mI M (a + 108) l1.toNat) : ∃ j : Nat, mI M (a + 107) l1.toNat + l2 = j ∧ (j : Int) < ln M (a + 109) ∧ ln M (a + 111) = ln M (a + 109) ∧ ln M (a + 113) = ln M (a + 109) ∧ 0 ≤ nt M (a + 111) j ∧ 0 ≤ nt M (a + 113) j ∧ nt M (a + 111) j + nt M (a + 113) j ≤ 4096 ∧ l2 < mny M (a + 117) l1.toNat := by
  obtain ⟨x1, x2, x3, x4⟩ := (h.2.2.2.2.2.2.1 (by omega)).2
  have y := x1 l1.toNat (by omega)
  refine ⟨(mI M (a + 107) l1.toNat + l2).toNat, by omega, by omega, x2, x3, ?_⟩
  have z := x4 (mI M (a + 107) l1.toNat + l2).toNat (by omega)
  exact ⟨z.1, z.2.1, z.2.2, by omega⟩
theorem r_MM_command {l1 l2 : Int} (i1 : i32 l1) (i2 : i32 l2) (h : RI Nt9 M a) : Ci G y_MM_command (d + 2) [vr a, vi l1, vi l2] M (rQ Nt9 M a) := by
  refine k_MM_command h.1 i1 i2 ⟨h.2.1.1.1, (r_MM_isCommand i1 i2 h).mono (fun x M1 q => ?_)⟩
  obtain ⟨⟨ix, r1, F1⟩, hx⟩ := q
  have b := r1.n5
  have w := r1.2.1
  refine ⟨ix, r1.1, fun _ => ⟨⟨by decide, by decide⟩, r1, F1⟩, fun y => ?_⟩
  obtain ⟨q1, q2, q3⟩ := hx y
  obtain ⟨j, e, j1, j2, j3, -⟩ := r1.cm q1 q2 q3
  have A := w.pl4
  rw [w.pl3.2.2.1, w.pl3.2.2.2.2.1, e]
  have hN := w.nu (p := a + 109) (nums_o (by decide))
  refine ⟨w.1.1, A.2.2.1.1, by rw [A.2.2.1.2]; omega, hN.1, (s_MN_at r1.1 hN j1).mono (fun z M2 q2 => ?_)⟩
  obtain ⟨e2, e3⟩ := q2
  subst e2
  have iz : i32 z := by rw [e3]; exact (r1.1 _ _).1
  exact ⟨iz, r1.1, iz, r1, F1⟩
theorem r_MM_character {l : Int} (hl : i32 l) (h : RI Nt9 M a) : Ci G y_MM_character d [vr a, vi l] M (rQ Nt9 M a) := by
  refine k_MM_character h.1 hl ⟨h.2.1.1.1, fun M2 e2 => ?_⟩
  obtain ⟨r2, F2, -⟩ := h.step ⟨by decide, by decide⟩ ⟨by decide, by decide, by decide⟩ e2
  have b := r2.2.2.2.2.2.2.2
  have B := r2.2.1.pl6
  rw [r2.2.1.pl5.2]
  refine ⟨fun y1 y2 => ⟨B.2.2.2.1, by rw [B.2.2.2.2]; omega⟩, fun v e => ⟨?_, r2, F2⟩⟩
  rw [e]
  split
  · exact ⟨by decide, by decide⟩
  · exact (r2.1 _ _).1
/-- the solver and its number of states -/
theorem RI.sv (h : RI Nt9 M a) : Sv M (a + 117) (mI M a 29).toNat := h.2.2.2.2.1
theorem r_MM_solve (h : RI Nt9 M a) : Ci G y_MM_solve (d + 11) [vr a] M (fun r M' => ∃ n1 : tP9, (i32 r ∧ RI n1 M' a ∧ FR M a M') ∧ ((Nt9.2.2.2.2.2.2.2.2.1 = [] ∧ n1 = Nt9 ∧ mI M' a 0 = 1) ∨ (Nt9.2.2.2.2.2.2.2.2.1 ≠ [] ∧ n1 = (Nt9.1, Nt9.2.1, kn9 Nt9.2.2 (if r = 0 then 1 else 0)) ∧ mI M' a 0 = 0 ∧ kdT Nt9.2.2.2.2.2.2.2.2.2 ∧ svA9 Nt9.2.2.2.2.2.2.2.2.2 r))) := by
  have l29 := h.xe.2.2.1
  obtain ⟨F, hF⟩ := fall_ex
  refine k_MM_solve h.1 ⟨h.2.1.1.1, fun v e M2 e2 => ?_⟩
  have iv : i32 v := by rw [e]; split <;> exact ⟨by decide, by decide⟩
  obtain ⟨r2, F2, f2⟩ := h.step iv ⟨by decide, by decide, by decide⟩ e2
  have z2 : mI M2 a 0 = v := by rw [f2, if_pos rfl]
  rw [r2.2.1.pl3.2.2.2.2.2.2.2.2]
  refine ⟨fun u => ⟨r2.sv.1.1, (s_MS_solve hF r2.1 r2.sv).mono (fun x M3 q => ?_)⟩, fun u => ⟨Nt9, ⟨⟨by decide, by decide⟩, r2, F2.1⟩, Or.inl ?_⟩⟩
  · obtain ⟨⟨o, f, S3, hx⟩, hv, hk⟩ := q
    obtain ⟨r3, F3, a3⟩ := r2.solv o f (fun x z => Or.inl z) S3 hk
    have ix : i32 x := i32s (by omega) (by omega)
    have ne : Nt9.2.2.2.2.2.2.2.2.1 ≠ [] := fun z => by
      rw [z2, e] at u
      rw [z] at l29
      rw [if_pos (by rw [l29]; rfl)] at u
      exact absurd u (by decide)
    obtain ⟨W, -, -, w3, w4⟩ := r2.xe.2.2.2.2 ne
    refine ⟨ix, o, _, ⟨ix, r3, F2.1.trans F3⟩, Or.inr ⟨ne, rfl, ?_, w4, hv _ w3 w4⟩⟩
    rw [a3, z2, e]
    refine if_neg (fun z => ne ?_)
    rw [l29] at z
    exact List.length_eq_zero_iff.mp (by omega)
  · have z0 : mI M a 29 = 0 := Classical.byContradiction (fun z => u (by rw [z2, e, if_neg z]; decide))
    rw [l29] at z0
    exact ⟨List.length_eq_zero_iff.mp (by omega), rfl, by rw [z2, e, if_pos (by rw [l29]; exact z0)]⟩
theorem r_MM_judge {l : Int} (hl : i32 l) (h : RI Nt9 M a) : Ci G y_MM_judge (d + 11) [vr a, vi l] M (rQ Nt9 M a) := by
  obtain ⟨F, hF⟩ := fall_ex
  refine k_MM_judge h.1 hl ⟨⟨fun _ => h.2.1.1.1, fun _ _ => h.2.1.1.1⟩, fun v e => ⟨h.2.1.1.1, fun M2 e2 => ?_⟩⟩
  have iv : i32 v := by rw [e]; (repeat' split) <;> exact ⟨by decide, by decide⟩
  obtain ⟨r2, F2, f2⟩ := h.step iv ⟨by decide, by decide, by decide⟩ e2
  rw [r2.2.1.pl3.2.2.2.2.2.2.2.2]
  refine ⟨fun q => ⟨r2.sv.1.1, (s_MS_judge hF ?_ r2.1 r2.sv).mono (fun x M3 q => ?_)⟩, fun _ => ⟨⟨by decide, by decide⟩, r2, F2⟩⟩
  · rw [f2, if_pos rfl, e] at q
    by_cases y1 : l = 1
    · exact Or.inl y1
    · by_cases y2 : l = 2
      · exact Or.inr y2
      · rw [if_neg y1, if_neg y2] at q
        omega
  · obtain ⟨⟨o, f, S3, hx⟩, hk⟩ := q
    obtain ⟨r3, F3, -⟩ := r2.sol o f (fun x z => Or.inl z) S3 hk
    have ix : i32 x := i32s (by omega) (by omega)
    exact ⟨ix, o, ix, r3, F2.trans F3⟩
theorem r_MM_within {l : Int} (hl : i32 l) (h : RI Nt9 M a) : Ci G y_MM_within (d + 8) [vr a, vi l] M (fun r M' => rQ Nt9 M a r M' ∧ ((¬ (0 ≤ l ∧ l ≤ 32) ∧ mI M' a 0 = 1) ∨ ((0 ≤ l ∧ l ≤ 32) ∧ Nt9.2.2.2.2.2.2.2.2.1 = [] ∧ mI M' a 0 = 2) ∨ ((0 ≤ l ∧ l ≤ 32) ∧ Nt9.2.2.2.2.2.2.2.2.1 ≠ [] ∧ mI M' a 0 = 0 ∧ anA9 Nt9.2.2.2.2.2.2.2.2.2 l.toNat r))) := by
  have l29 := h.xe.2.2.1
  refine k_MM_within h.1 hl ⟨fun _ _ => h.2.1.1.1, fun v e => ⟨h.2.1.1.1, fun M2 e2 => ?_⟩⟩
  have iv : i32 v := by rw [e]; (repeat' split) <;> exact ⟨by decide, by decide⟩
  obtain ⟨r2, F2, f2⟩ := h.step iv ⟨by decide, by decide, by decide⟩ e2
  have z2 : mI M2 a 0 = v := by rw [f2, if_pos rfl]
  rw [r2.2.1.pl3.2.2.2.2.2.2.2.2]
  refine ⟨fun q => ?_, fun q => ⟨⟨⟨by decide, by decide⟩, r2, F2⟩, ?_⟩⟩
  rotate_left
  · rw [z2]
    rw [z2] at q
    by_cases y1 : l < 0
    · rw [if_pos y1] at e
      exact Or.inl ⟨fun z => by omega, e⟩
    · by_cases y2 : l ≤ 32
      · by_cases y3 : mI M a 29 = 0
        · rw [if_neg y1, if_pos y2, if_pos y3] at e
          rw [l29] at y3
          exact Or.inr (Or.inl ⟨⟨by omega, y2⟩, List.length_eq_zero_iff.mp (by omega), e⟩)
        · rw [if_neg y1, if_pos y2, if_neg y3] at e
          omega
      · rw [if_neg y1, if_neg y2] at e
        exact Or.inl ⟨fun z => y2 z.2, e⟩
  have lb : 0 ≤ l ∧ l ≤ 32 := by
    rw [f2, if_pos rfl, e] at q
    by_cases y1 : l < 0
    · rw [if_pos y1] at q
      omega
    · by_cases y2 : l ≤ 32
      · omega
      · rw [if_neg y1, if_neg y2] at q
        omega
  have y3 : mI M a 29 ≠ 0 := fun y3 => by
    rw [z2, e, if_neg (by omega), if_pos lb.2, if_pos y3] at q
    exact absurd q (by decide)
  have v0 : v = 0 := by rw [e, if_neg (by omega), if_pos lb.2, if_neg y3]
  have ne : Nt9.2.2.2.2.2.2.2.2.1 ≠ [] := fun z => by
    rw [z] at l29
    exact y3 l29
  refine ⟨r2.sv.1.1, (s_MS_within lb.1 lb.2 r2.1 r2.sv).mono (fun x M3 q => ?_)⟩
  obtain ⟨W, -, -, w3, w4⟩ := r2.xe.2.2.2.2 ne
  obtain ⟨⟨o, f, S3, hx⟩, hk, hw⟩ := q
  obtain ⟨r3, F3, a3⟩ := r2.sol o f (fun x z => Or.inl z) S3 hk
  have ix : i32 x := i32s (by omega) (by omega)
  exact ⟨ix, o, ⟨ix, r3, F2.trans F3⟩, Or.inr (Or.inr ⟨lb, ne, by rw [a3, z2, v0], hw _ w3⟩)⟩
end PUC
end
section
/-! The reference's public methods: adopt, print, compare, billionths, choice, rank, next, check. -/
section PUD
variable {G : mG} {d a s n k w : Nat} {M M' M2 : mM} {S : Nat → Prop} {Nt9 : tP9}
theorem s_MS_billionths2 (hO : mOk M) (h : Sv M s n) (hk : k < n) (hw : w < 3) (hh : mI M (s + 30) w ≠ 0) : Ci G y_MS_billionths (d + 4) [vr s, vi k, vi w] M (fun r M' => i32 r ∧ mOk M' ∧ FI (vK s) M M' ∧ Sv M' s n) := by
  have hn5 := h.n5
  obtain ⟨a1, a2⟩ := h.frac hk hw hh
  have al := a1.low
  obtain ⟨V, g, c, e, t, W, -⟩ := id h
  have hp : 0 < wv M (frc s k w + 3) := a1.1.2.2.2.2
  have hb : wv M (frc s k w + 1) * 1000000000 / wv M (frc s k w + 3) < 2147483648 := by
    refine Int.lt_of_le_of_lt (Int.ediv_le_of_le_mul hp (b := 1000000000) ?_) (by omega)
    have := Int.mul_le_mul_of_nonneg_right al.1 (show (0 : Int) ≤ 1000000000 by omega)
    rw [Int.mul_comm 1000000000]
    exact this
  refine k_MS_billionths hO ⟨by omega, by omega⟩ ⟨by omega, by omega⟩ ?_
  rw [V.r11, V.n29, V.r0, a2]
  refine ⟨V.k0, V.k29, by omega, W.1.1.1, (s_MU_billionths (d := d) hO W.1 a1.1 (by unfold suO frc; omega) (by omega) (by omega) hb).mono (fun u M1 h1 => ?_)⟩
  obtain ⟨o1, f1, Z1, hu⟩ := h1
  have h0 : 0 ≤ u := by rw [hu]; exact Int.ediv_nonneg (Int.mul_nonneg a1.1.2.1.nonneg (by omega)) (by omega)
  exact ⟨⟨by omega, by omega⟩, o1, ⟨by omega, by omega⟩, o1, f1.mono (fun y q => by omega), h.out f1 (fun y q => by omega) (W.out f1 Z1 (fun y q => by omega))⟩
theorem s_MS_choiceOf2 (hO : mOk M) (h : Sv M s n) (hk : k < n) : Ci G y_MS_choiceOf d [vr s, vi k] M (fun r M' => M' = M ∧ i32 r) := by
  have hn5 := h.n5
  obtain ⟨V, -⟩ := id h
  refine k_MS_choiceOf hO ⟨by omega, by omega⟩ ?_
  rw [V.r15, V.n33]
  exact ⟨V.k0, V.k33, by omega, rfl, (hO _ _).1⟩
theorem s_MS_rankOf2 (hO : mOk M) (h : Sv M s n) (hk : k < n) : Ci G y_MS_rankOf d [vr s, vi k] M (fun r M' => M' = M ∧ i32 r) := by
  have hn5 := h.n5
  obtain ⟨V, -⟩ := id h
  refine k_MS_rankOf hO ⟨by omega, by omega⟩ ?_
  rw [V.r16, V.n34]
  exact ⟨V.k0, V.k34, by omega, rfl, (hO _ _).1⟩
theorem r_MM_adopt (h : RI Nt9 M a) : Cv G y_MM_adopt (d + 2) [vr a] M (fun M' => (RI Nt9 M' a ∧ FX M a M') ∧ mI M' a 0 = if Nt9.2.2.2.2.2.2.2.1.2.2 = 0 then 1 else 0) := by
  refine k_MM_adopt h.1 ?_
  rw [h.2.1.pl3.2.2.2.2.2.2.2.2]
  refine ⟨h.2.1.1.1, h.sv.1.1, (s_MS_hasValues h.1 h.sv).mono (fun x M1 q => ?_)⟩
  obtain ⟨e1, hx, ex⟩ := q
  subst e1
  refine ⟨i32s (by omega) (by omega), h.1, fun v e => ⟨h.2.1.1.1, fun M2 e2 => ?_⟩⟩
  have iv : i32 v := by rw [e]; split <;> exact ⟨by decide, by decide⟩
  obtain ⟨r2, F2, f2⟩ := h.step iv ⟨by decide, by decide, by decide⟩ e2
  rw [r2.2.1.pl3.2.2.2.2.2.2.2.2]
  have kne := h.xe.2.1.2
  have v2 : mI M2 a 0 = if Nt9.2.2.2.2.2.2.2.1.2.2 = 0 then 1 else 0 := by rw [f2, if_pos rfl, e, ex, kne]
  refine ⟨fun q => ?_, fun _ => ⟨⟨r2, F2⟩, v2⟩⟩
  have x0 : x ≠ 0 := fun z => by
    rw [f2, if_pos rfl, e, if_pos z] at q
    omega
  have e30 : mI M2 (a + 117 + 30) 0 = 1 := by
    rw [e2, mI_UI, if_neg (fun z => by omega), ← ex]
    omega
  refine ⟨r2.sv.1.1, (s_MS_adopt r2.1 r2.sv e30).mono (fun M3 q => ?_)⟩
  obtain ⟨o, f, S3⟩ := q
  obtain ⟨r3, F3, a3⟩ := r2.sol o (fi_vk f).1 (fun x z => Or.inl z) S3 (fi_vk f).2
  exact ⟨o, ⟨r3, F2.trans F3⟩, by rw [a3]; exact v2⟩
theorem r_MM_check (h : RI Nt9 M a) : Ci G y_MM_check (d + 1) [vr a] M (rQ Nt9 M a) := by
  refine k_MM_check h.1 ⟨h.2.1.1.1, fun M2 e2 => ?_⟩
  obtain ⟨r2, F2, -⟩ := h.step ⟨by decide, by decide⟩ ⟨by decide, by decide, by decide⟩ e2
  rw [r2.2.1.pl3.2.2.2.2.2.2.2.2]
  refine ⟨r2.sv.1.1, (s_MS_hasValues r2.1 r2.sv).mono (fun x M1 q => ?_)⟩
  obtain ⟨e1, hx, ex⟩ := q
  subst e1
  refine ⟨i32s (by omega) (by omega), r2.1, fun v e => ⟨?_, r2, F2⟩⟩
  rw [e]
  split <;> exact ⟨by decide, by decide⟩
theorem r_MM_billionths {l1 l2 : Int} (i1 : i32 l1) (i2 : i32 l2) (h : RI Nt9 M a) : Ci G y_MM_billionths (d + 5) [vr a, vi l1, vi l2] M (rQ Nt9 M a) := by
  refine k_MM_billionths h.1 i1 i2 ⟨h.2.1.1.1, fun M2 e2 => ?_⟩
  obtain ⟨r2, F2, -⟩ := h.step ⟨by decide, by decide⟩ ⟨by decide, by decide, by decide⟩ e2
  rw [r2.2.1.pl3.2.2.2.2.2.2.2.2]
  refine ⟨r2.sv.1.1, (s_MS_isThere i1 i2 r2.1 r2.sv).mono (fun x M1 q => ?_)⟩
  obtain ⟨e1, hx, ex⟩ := q
  subst e1
  rw [r2.2.1.pl3.2.2.2.2.2.2.2.2]
  refine ⟨i32s (by omega) (by omega), r2.1, fun _ => ⟨⟨by decide, by decide⟩, r2, F2⟩, fun y => ⟨r2.2.1.1.1, r2.sv.1.1, ?_⟩⟩
  obtain ⟨y1, y2, y3, y4, y5⟩ := ex.1 y
  clear ex
  have t := s_MS_billionths2 (G := G) (d := d) (k := l1.toNat) (w := l2.toNat) r2.1 r2.sv (by omega) (by omega) y5
  rw [Int.toNat_of_nonneg y1, Int.toNat_of_nonneg y3] at t
  refine t.mono (fun z M3 q => ?_)
  obtain ⟨iz, o, f, S3⟩ := q
  obtain ⟨r3, F3, -⟩ := r2.sol o (fi_vk f).1 (fun x z => Or.inl z) S3 (fi_vk f).2
  exact ⟨iz, o, iz, r3, F2.trans F3⟩
theorem r_MM_compare {l1 l2 l3 l4 : Int} (i1 : i32 l1) (i2 : i32 l2) (i3 : i32 l3) (i4 : i32 l4) (h : RI Nt9 M a) : Ci G y_MM_compare (d + 4) [vr a, vi l1, vi l2, vi l3, vi l4] M (rQ Nt9 M a) := by
  refine k_MM_compare h.1 i1 i2 i3 i4 ⟨h.2.1.1.1, fun M2 e2 => ?_⟩
  obtain ⟨r2, F2, -⟩ := h.step ⟨by decide, by decide⟩ ⟨by decide, by decide, by decide⟩ e2
  rw [r2.2.1.pl3.2.2.2.2.2.2.2.2]
  refine ⟨r2.sv.1.1, (s_MS_isThere i1 i2 r2.1 r2.sv).mono (fun x M1 q => ?_)⟩
  obtain ⟨e1, hx, ex⟩ := q
  subst e1
  rw [r2.2.1.pl3.2.2.2.2.2.2.2.2]
  refine ⟨i32s (by omega) (by omega), r2.1, fun _ => ⟨⟨by decide, by decide⟩, r2, F2⟩, fun y => ⟨r2.2.1.1.1, r2.sv.1.1, (s_MS_isThere i3 i4 r2.1 r2.sv).mono (fun x' M1 q => ?_)⟩⟩
  obtain ⟨e1, hx', ex'⟩ := q
  subst e1
  rw [r2.2.1.pl3.2.2.2.2.2.2.2.2]
  refine ⟨i32s (by omega) (by omega), r2.1, fun _ => ⟨⟨by decide, by decide⟩, r2, F2⟩, fun y' => ⟨r2.2.1.1.1, r2.sv.1.1, ?_⟩⟩
  obtain ⟨y1, y2, y3, y4, y5⟩ := ex.1 y
  obtain ⟨z1, z2, z3, z4, z5⟩ := ex'.1 y'
  clear ex ex'
  have t := s_MS_compare (G := G) (d := d) (k := l1.toNat) (w := l2.toNat) (j := l3.toNat) (w' := l4.toNat) r2.1 r2.sv (by omega) (by omega) y5 (by omega) (by omega) z5
  rw [Int.toNat_of_nonneg y1, Int.toNat_of_nonneg y3, Int.toNat_of_nonneg z1, Int.toNat_of_nonneg z3] at t
  refine t.mono (fun z M3 q => ?_)
  obtain ⟨o, f, S3, b1, b2⟩ := q
  obtain ⟨r3, F3, -⟩ := r2.sol o (fi_vk f).1 (fun x z => Or.inl z) S3 (fi_vk f).2
  have iz : i32 z := i32s (by omega) (by omega)
  exact ⟨iz, o, iz, r3, F2.trans F3⟩
theorem RI0.prn {v : Int} (h : RI0 Nt9 M a) (h0 : 0 ≤ v) (h1 : v ≤ 900) (e : M' = mUI M a 48 v) : RI0 Nt9 M' a ∧ FX M a M' := by
  obtain ⟨hO, w, ht, hx⟩ := h
  have hg := w.g9
  obtain ⟨m, f⟩ := mv_fld (v := v) (i32s (by omega) (by omega)) hO w e
  have no : ∀ q : Nat, False → q ∈ nums a := fun _ z => z.elim
  have tp := w.tape
  have aR := m.rfl_a w no
  obtain ⟨x1, x2, x3, x4, x5⟩ := hx
  have cI : ∀ x, x ≠ a → mI M' x = mI M x := fun x hx' => by rw [e]; funext j; rw [mI_UI, if_neg (fun z => hx' z.1)]
  refine ⟨⟨m.1, m.2.1, ⟨by rw [aR]; exact ht.1.sm (m.lst tp.1 (fun z => z)), by rw [aR, (m.lst tp.2.1 (fun z => z)).1]; exact ht.2⟩, ?_⟩, FR.mv m no (fun x z => by omega), ⟨⟨by rw [f, if_neg (by decide)], by rw [f, if_neg (by decide)], by rw [f, if_neg (by decide)]⟩, ⟨cI _ (by omega), cI _ (by omega), cI _ (by omega), cI _ (by omega), cI _ (by omega)⟩, ⟨by rw [e]; rfl, by rw [e]; rfl⟩, (m.lst (nums_o (by decide)) (fun z => z)).sl, (m.lst (nums_o (by decide)) (fun z => z)).sl, (m.lst (nums_o (by decide)) (fun z => z)).sl, (m.lst (nums_o (by decide)) (fun z => z)).sl, by rw [cI _ (by omega)], fun i p q => cI _ (by omega)⟩, by rw [f, if_neg (by decide)], by rw [cI _ (by omega)]⟩
  unfold RX
  rw [aR, f 29, if_neg (by decide), f 11, if_neg (by decide), f 48, if_pos rfl]
  refine ⟨x1, x2.ag (ag_mv w m no (fun x z => by omega)), fun q => gd_mv (x3 q) w hg m no (fun _ z => z.elim) (fun x z => by omega), fun q => ⟨(x4 q).1, ?_⟩, h0, h1, x5.2.2⟩
  obtain ⟨y1, y2, y3, y4⟩ := (x4 q).2
  have s9 := m.lst (q := a + 109) (nums_o (by decide)) (fun z => z)
  have s11 := m.lst (q := a + 111) (nums_o (by decide)) (fun z => z)
  have s13 := m.lst (q := a + 113) (nums_o (by decide)) (fun z => z)
  unfold XL mny
  rw [f 29, if_neg (by decide), s9.1, s11.1, s13.1, cI (a + 107) (by omega), cI (a + 108) (by omega), cI (a + 117 + 23) (by omega)]
  refine ⟨y1, y2, y3, fun i hi => ?_⟩
  rw [s11.2.1, s13.2.1]
  exact y4 i hi
theorem RI.prn {v : Int} (h : RI Nt9 M a) (h0 : 0 ≤ v) (h1 : v ≤ 900) (e : M' = mUI M a 48 v) : RI Nt9 M' a ∧ FX M a M' := by
  obtain ⟨a1, a2⟩ := h.r0.prn h0 h1 e
  exact ⟨a1.ri (h.xe.fx a2), a2⟩
theorem r_MM_print {l1 l2 : Int} (i1 : i32 l1) (i2 : i32 l2) (h : RI Nt9 M a) : Ci G y_MM_print (d + 5) [vr a, vi l1, vi l2] M (rQ Nt9 M a) := by
  refine k_MM_print h.1 i1 i2 ⟨h.2.1.1.1, fun M2 e2 => ?_⟩
  obtain ⟨r2, F2, -⟩ := h.step ⟨by decide, by decide⟩ ⟨by decide, by decide, by decide⟩ e2
  rw [r2.2.1.pl3.2.2.2.2.2.2.2.2]
  refine ⟨r2.sv.1.1, (s_MS_isThere i1 i2 r2.1 r2.sv).mono (fun x M1 q => ?_)⟩
  obtain ⟨e1, hx, ex⟩ := q
  subst e1
  rw [r2.2.1.pl3.2.2.2.2.2.2.2.2, r2.2.1.pl5.2]
  refine ⟨i32s (by omega) (by omega), r2.1, fun _ => ⟨⟨by decide, by decide⟩, r2, F2⟩, fun y => ⟨r2.2.1.1.1, r2.sv.1.1, ?_⟩⟩
  obtain ⟨y1, y2, y3, y4, y5⟩ := ex.1 y
  clear ex
  have B := r2.2.1.pl6.2.2.2
  have t := s_MS_print (G := G) (d := d) (k := l1.toNat) (w := l2.toNat) (o := a + 21191) r2.1 r2.sv (by omega) (by omega) y5 B.1 (by omega) (by omega)
  rw [Int.toNat_of_nonneg y1, Int.toNat_of_nonneg y3] at t
  refine t.mono (fun z M3 q => ?_)
  obtain ⟨o, f, S3, b0, b1⟩ := q
  obtain ⟨r3, F3, -⟩ := r2.sol o f (fun x z => by
    have z' : x = a + 117 + 12 ∨ x = a + 117 + 13 ∨ x = a + 117 + 67 ∨ x = a + 21191 := z
    by_cases u : x = a + 21191
    · exact Or.inr u
    · refine Or.inl ?_
      show a + 117 ≤ x ∧ x ≤ a + 117 + 21067 ∧ (x < a + 117 + 22 ∨ a + 117 + 28 < x)
      omega) S3 (by
    rw [f.2.2.2.2.2.2 (a + 117 + 30) (fun z => by
      have z' : a + 117 + 30 = a + 117 + 12 ∨ a + 117 + 30 = a + 117 + 13 ∨ a + 117 + 30 = a + 117 + 67 ∨ a + 117 + 30 = a + 21191 := z
      omega)])
  refine ⟨i32s (by omega) (by omega), o, r3.2.1.1.1, fun M4 e4 => ?_⟩
  obtain ⟨r4, F4⟩ := r3.prn b0 (by omega) e4
  exact ⟨(r4.1 _ _).1, r4, F2.trans (F3.trans F4)⟩
theorem r_MM_choice {l : Int} (hl : i32 l) (h : RI Nt9 M a) : Ci G y_MM_choice (d + 1) [vr a, vi l] M (rQ Nt9 M a) := by
  refine k_MM_choice h.1 hl ⟨h.2.1.1.1, (r_MM_isState hl h).mono (fun x M1 q => ?_)⟩
  obtain ⟨⟨ix, r1, F1⟩, hx⟩ := q
  rw [r1.2.1.pl3.2.2.2.2.2.2.2.2]
  refine ⟨ix, r1.1, fun _ => ⟨⟨by decide, by decide⟩, r1, F1⟩, fun y => ⟨r1.2.1.1.1, r1.sv.1.1, (s_MS_hasValues r1.1 r1.sv).mono (fun u M2 q => ?_)⟩⟩
  obtain ⟨e1, hu, -⟩ := q
  subst e1
  rw [r1.2.1.pl3.2.2.2.2.2.2.2.2]
  have b := hx y
  have t := s_MS_choiceOf2 (G := G) (d := d) (k := l.toNat) r1.1 r1.sv (by omega)
  rw [Int.toNat_of_nonneg b.1] at t
  refine ⟨i32s (by omega) (by omega), r1.1, fun _ => ⟨⟨by decide, by decide⟩, r1, F1⟩, fun _ => ⟨r1.2.1.1.1, r1.sv.1.1, t.mono (fun z M3 q => ?_)⟩⟩
  obtain ⟨e3, iz⟩ := q
  subst e3
  exact ⟨iz, r1.1, iz, r1, F1⟩
theorem r_MM_rank {l : Int} (hl : i32 l) (h : RI Nt9 M a) : Ci G y_MM_rank (d + 1) [vr a, vi l] M (rQ Nt9 M a) := by
  refine k_MM_rank h.1 hl ⟨h.2.1.1.1, (r_MM_isState hl h).mono (fun x M1 q => ?_)⟩
  obtain ⟨⟨ix, r1, F1⟩, hx⟩ := q
  rw [r1.2.1.pl3.2.2.2.2.2.2.2.2]
  refine ⟨ix, r1.1, fun _ => ⟨⟨by decide, by decide⟩, r1, F1⟩, fun y => ⟨r1.2.1.1.1, r1.sv.1.1, (s_MS_hasValues r1.1 r1.sv).mono (fun u M2 q => ?_)⟩⟩
  obtain ⟨e1, hu, -⟩ := q
  subst e1
  rw [r1.2.1.pl3.2.2.2.2.2.2.2.2]
  have b := hx y
  have t := s_MS_rankOf2 (G := G) (d := d) (k := l.toNat) r1.1 r1.sv (by omega)
  rw [Int.toNat_of_nonneg b.1] at t
  refine ⟨i32s (by omega) (by omega), r1.1, fun _ => ⟨⟨by decide, by decide⟩, r1, F1⟩, fun _ => ⟨r1.2.1.1.1, r1.sv.1.1, t.mono (fun z M3 q => ?_)⟩⟩
  obtain ⟨e3, iz⟩ := q
  subst e3
  exact ⟨iz, r1.1, iz, r1, F1⟩
theorem r_MM_next {l1 l2 : Int} (i1 : i32 l1) (i2 : i32 l2) (h : RI Nt9 M a) : Ci G y_MM_next (d + 2) [vr a, vi l1, vi l2] M (rQ Nt9 M a) := by
  refine k_MM_next h.1 i1 i2 ⟨h.2.1.1.1, (r_MM_isState i1 h).mono (fun x M1 q => ?_)⟩
  obtain ⟨⟨ix, r1, F1⟩, hx⟩ := q
  rw [r1.2.1.pl3.2.2.2.2.2.2.2.2]
  refine ⟨ix, r1.1, fun _ => ⟨⟨by decide, by decide⟩, r1, F1⟩, fun y => ⟨r1.2.1.1.1, r1.sv.1.1, ?_⟩⟩
  have b := hx (fun z => y (Or.inl z))
  have b2 : 0 ≤ l2 := Int.not_lt.mp (fun z => y (Or.inr z))
  have t := s_MS_nextOf (G := G) (d := d) (k := l1.toNat) (r := l2) b2 i2.2 r1.1 r1.sv (by omega)
  rw [Int.toNat_of_nonneg b.1] at t
  refine t.mono (fun z M3 q => ?_)
  obtain ⟨e3, hz⟩ := q
  subst e3
  have iz : i32 z := by
    rcases hz with ⟨-, z1⟩ | ⟨-, t', -, z1, -⟩
    · rw [z1]; exact i1
    · rw [z1]; exact (r1.1 _ _).1
  exact ⟨iz, r1.1, iz, r1, F1⟩
end PUD
end
section
/-! The reference's compile and explore, with what was explored. -/
section PUE
variable {G : mG} {d a : Nat} {M M' : mM} {Nt9 : tP9}
/-- the latest fault is at p -/
def plc (i : tI9) (p : Int) : tI9 := (i.1, i.2.1, i.2.2.1, i.2.2.2.1, i.2.2.2.2.1, (p, i.2.2.2.2.2.1.2), i.2.2.2.2.2.2)
/-- what exploring leaves -/
def exp9 (i : tI9) : tI9 := (i.1, i.2.1, i.2.2.1, i.2.2.2.1, i.2.2.2.2.1, exG i.2.2.2.2.1)
theorem RI0.e9 {l : Int} {c : Nat → Int} {i : tI9} {e : tE9} (h : RI0 (l, c, i) M a) : RI0 (l, c, i.1, i.2.1, i.2.2.1, i.2.2.2.1, i.2.2.2.2.1, e) M a := by
  obtain ⟨h1, h2, h3, h4, h5, h6, h7, h8⟩ := h
  exact ⟨h1, h2, h3, h4, h5, h6, h7, h8⟩
theorem r_MM_compile (hWK : WKx G kwx) (h : RI Nt9 M a) : Ci G y_MM_compile (d + 12) [vr a] M (fun r M' => ∃ i8 : tI9, ((i32 r ∧ RI (z9 i8) M' a ∧ FR M a M') ∧ cmR Nt9.2.1 Nt9.1.toNat a r (mI M' a 12) (i8.2.1, i8.2.2.1, i8.2.2.2.1, i8.2.2.2.2.1)) ∧ ((r ≠ 0 ∧ i8 = plc Nt9.2.2 (mI M' a 12)) ∨ (r = 0 ∧ i8.1 = 1 ∧ i8.2.2.2.2.2 = ((-1, Nt9.2.2.2.2.2.2.2.1.2.1, 0), [], []) ∧ mI M' a 12 = -1))) := by
  refine (x_MM_compile hWK h.r0).mono (fun r M' q => ?_)
  obtain ⟨i8, ⟨⟨q1, q2, q3⟩, q4⟩, q5⟩ := q
  obtain ⟨x1, x2, x3, x4, x5⟩ := h.xe
  rcases q5 with ⟨z, e8, k, k9⟩ | ⟨z, ⟨e81, e82⟩, k29, k30, k31⟩
  · subst e8
    refine ⟨plc Nt9.2.2 (mI M' a 12), ⟨⟨q1, (RI0.e9 (e := ((mI M' a 12, Nt9.2.2.2.2.2.2.2.1.2), Nt9.2.2.2.2.2.2.2.2)) q2).ri ⟨rfl, ⟨by rw [k.1.2.1]; exact x2.1, k9.trans x2.2⟩, by rw [k.1.1]; exact x3, x4, fun u => ?_⟩, q3⟩, q4⟩, Or.inl ⟨z, rfl⟩⟩
    obtain ⟨W, w1, w2, w3, w4⟩ := x5 u
    exact ⟨W, w1, w2.xe k, w3.xe k, w4⟩
  · have p12 : mI M' a 12 = -1 := by
      obtain ⟨Mw, N, -, -, -, y⟩ := q4
      rcases y with ⟨y, -⟩ | ⟨-, -, sF, -, y⟩
      · rw [y] at z
        exact absurd z (by decide)
      · rcases y with ⟨y1, y2, -⟩ | ⟨-, -, y3, -⟩
        · exact absurd (y2.symm.trans z) y1
        · exact y3
    refine ⟨i8, ⟨⟨q1, q2.ri ?_, q3⟩, q4⟩, Or.inr ⟨z, e81, e82, p12⟩⟩
    show XE i8 M' a
    unfold XE
    rw [e82]
    exact ⟨p12, ⟨by rw [k30]; exact x2.1, k31⟩, k29, fun _ => rfl, fun u => absurd rfl u⟩
theorem xU.xe (h : xU M M' a) (w : Wd M a) : xeF M M' a ∧ mI M' a 12 = mI M a 12 ∧ mI M' (a + 117 + 30) 0 = mI M (a + 117 + 30) 0 := by
  obtain ⟨h1, h2, h3, h4⟩ := h
  have s : ∀ q, q ∈ nums a → sl M M' q := fun q hq => by
    have n1 := nums_in hq
    have na : mR M q 0 ≠ a := by
      rcases (w.arr hq).2 with y | y <;> omega
    refine ⟨by unfold ln; rw [h3 q (by omega)], fun j => ?_⟩
    unfold nt
    rw [h1, h3 _ na]
  exact ⟨⟨⟨h4 29 (by decide), h4 30 (by decide), h4 40 (by decide)⟩, ⟨h3 _ (by omega), h3 _ (by omega), h3 _ (by omega), h3 _ (by omega), h3 _ (by omega)⟩, by rw [h2]; exact ⟨rfl, rfl⟩, s _ (nums_o (by decide)), s _ (nums_o (by decide)), s _ (nums_o (by decide)), s _ (nums_o (by decide)), by rw [h3 _ (by omega)], fun i p q => h3 _ (by omega)⟩, h4 12 (by decide), by rw [h3 _ (by omega)]⟩
theorem r_MM_explore (h : RI Nt9 M a) : Ci G y_MM_explore (d + 10) [vr a] M (fun r M' => ∃ n1 : tP9, (i32 r ∧ RI n1 M' a ∧ FR M a M') ∧ ((Nt9.2.2.1 = 0 ∧ n1 = Nt9 ∧ mI M' a 0 = 1) ∨ (Nt9.2.2.1 ≠ 0 ∧ n1 = (Nt9.1, Nt9.2.1, exp9 Nt9.2.2) ∧ r = Nt9.2.2.2.2.2.2.1.1.1 ∧ mI M' a 0 = 0))) := by
  refine (x_MM_expl (d := d) h.r0).mono (fun r M' q => ?_)
  obtain ⟨⟨q1, q2, q3⟩, q4⟩ := q
  rcases q4 with ⟨y1, y2, y3⟩ | ⟨y1, ⟨W, w1, w2⟩, y3⟩
  · obtain ⟨k1, k2, k3⟩ := y3.xe h.2.1
    exact ⟨Nt9, ⟨q1, q2.ri (h.xe.xe k1 k2 k3), q3⟩, Or.inl ⟨y1, rfl, y2⟩⟩
  · obtain ⟨e1, e2⟩ := w2.xe (i9 := exp9 Nt9.2.2) w1 rfl
    exact ⟨(Nt9.1, Nt9.2.1, exp9 Nt9.2.2), ⟨q1, (RI0.e9 (l := Nt9.1) (c := Nt9.2.1) (i := Nt9.2.2) (e := exG Nt9.2.2.2.2.2.2.1) q2).ri e1, q3⟩, Or.inr ⟨y1, rfl, e2, y3⟩⟩
end PUE
end
section
/-! The reference answers the questions about the states as the tables say. -/
section RAS
variable {G : mG} {d a : Nat} {M M' : mM} {Nt9 : tP9} {i9 : tI9}
theorem XE.st (h : XE i9 M a) (l : Int) : stA9 i9.2.2.2.2.2.2.2 l = if 0 ≤ l ∧ l < mI M a 29 then some (stR M a l.toNat) else none := by
  obtain ⟨-, -, h3, h4, h5⟩ := h
  unfold stA9
  by_cases y : l < 0
  · rw [if_pos y, if_neg (by omega)]
  rw [if_neg y]
  by_cases z : i9.2.2.2.2.2.2.1 = []
  · rw [h4 z, if_neg (by rw [h3, z]; show ¬ (0 ≤ l ∧ l < ((0 : Nat) : Int)); omega)]
    all_goals rfl
  · obtain ⟨W, -, ⟨L, w, B, -, -, -, -, -, -, -, -, hT⟩, -⟩ := h5 z
    rw [← hT]
    unfold xtR
    rw [rget]
    by_cases u : 0 ≤ l ∧ l < mI M a 29
    · rw [if_pos u, if_pos (by omega)]
    · rw [if_neg u, if_neg (by omega)]
/-- the tables of a state that is there -/
theorem XE.xf (h : XE i9 M a) {l : Int} (hl : 0 ≤ l ∧ l < mI M a 29) : ∃ W : Nat, (W : Int) = i9.2.1 ∧ XF M a W i9.2.2.2.2.2.2.1 i9.2.2.2.2.2.2.2 := by
  obtain ⟨-, -, h3, -, h5⟩ := h
  have ne : i9.2.2.2.2.2.2.1 ≠ [] := fun z => by
    rw [z] at h3
    have : mI M a 29 = ((0 : Nat) : Int) := h3
    omega
  obtain ⟨W, w1, w2, -⟩ := h5 ne
  exact ⟨W, w1, w2⟩
theorem e_MM_isState {l : Int} (hl : i32 l) (h : RI Nt9 M a) : Ci G y_MM_isState d [vr a, vi l] M (fun r M' => rQ Nt9 M a r M' ∧ (r ≠ 0 ↔ (0 ≤ l ∧ l < mI M' a 29))) := by
  refine k_MM_isState h.1 hl ⟨h.2.1.1.1, fun M2 e2 v e => ?_⟩
  obtain ⟨r2, F2, -⟩ := h.step ⟨by decide, by decide⟩ ⟨by decide, by decide, by decide⟩ e2
  by_cases y : l < 0 ∨ mI M2 a 29 ≤ l
  · rw [if_pos y] at e
    exact ⟨⟨by rw [e]; exact ⟨by decide, by decide⟩, r2, F2⟩, fun z => absurd e z, fun z => by omega⟩
  · rw [if_neg y] at e
    exact ⟨⟨by rw [e]; exact ⟨by decide, by decide⟩, r2, F2⟩, fun _ => by omega, fun _ => by rw [e]; decide⟩
theorem e_MM_kind {l : Int} (hl : i32 l) (h : RI Nt9 M a) : Ci G y_MM_kind (d + 1) [vr a, vi l] M (fun r M' => rQ Nt9 M a r M' ∧ r = kdA9 Nt9.2.2.2.2.2.2.2.2.2 l) := by
  refine k_MM_kind h.1 hl ⟨h.2.1.1.1, (e_MM_isState hl h).mono (fun x M1 q => ?_)⟩
  obtain ⟨⟨ix, r1, F1⟩, hx⟩ := q
  have b := r1.n5
  have A := r1.2.1.pl4
  rw [r1.2.1.pl3.2.1]
  refine ⟨ix, r1.1, fun y => ⟨r1.2.1.1.1, A.2.1.1, by rw [A.2.1.2]; have := hx.mp y; omega⟩, fun v e => ⟨⟨?_, r1, F1⟩, ?_⟩⟩
  · rw [e]
    split
    · exact ⟨by decide, by decide⟩
    · exact (r1.1 _ _).1
  · unfold kdA9
    rw [e, r1.xe.st]
    by_cases y : x = 0
    · rw [if_pos y, if_neg (fun z => (hx.mpr z) y)]
      all_goals rfl
    · rw [if_neg y, if_pos (hx.mp y)]
      all_goals rfl
theorem e_MM_commands {l : Int} (hl : i32 l) (h : RI Nt9 M a) : Ci G y_MM_commands (d + 1) [vr a, vi l] M (fun r M' => rQ Nt9 M a r M' ∧ r = cnA9 Nt9.2.2.2.2.2.2.2.2.2 l) := by
  refine k_MM_commands h.1 hl ⟨h.2.1.1.1, (e_MM_isState hl h).mono (fun x M1 q => ?_)⟩
  obtain ⟨⟨ix, r1, F1⟩, hx⟩ := q
  have b := r1.n5
  have A := r1.2.1.pl4
  rw [r1.2.1.pl3.2.2.2.1]
  refine ⟨ix, r1.1, fun y => ⟨r1.2.1.1.1, A.2.2.2.1, by rw [A.2.2.2.2]; have := hx.mp y; omega⟩, fun v e => ⟨⟨?_, r1, F1⟩, ?_⟩⟩
  · rw [e]
    split
    · exact ⟨by decide, by decide⟩
    · exact (r1.1 _ _).1
  · unfold cnA9
    rw [e, r1.xe.st]
    by_cases y : x = 0
    · rw [if_pos y, if_neg (fun z => (hx.mpr z) y)]
      all_goals rfl
    · have z := hx.mp y
      rw [if_neg y, if_pos z]
      have y1 := ((r1.2.2.2.2.2.2.1 (by omega)).2.1 l.toNat (by omega)).2.1
      show mI M1 (a + 108) l.toNat = (((cmL M1 a (mI M1 (a + 107) l.toNat).toNat (mI M1 (a + 108) l.toNat).toNat).length : Nat) : Int)
      unfold cmL
      rw [List.length_map, List.length_range]
      omega
/-- a command: where it stands -/
def cpR (M : mM) (a : Nat) (l1 l2 : Int) : Prop := (0 ≤ l1 ∧ l1 < mI M a 29) ∧ 0 ≤ l2 ∧ l2 < mI M (a + 108) l1.toNat
theorem e_MM_isCommand {l1 l2 : Int} (i1 : i32 l1) (i2 : i32 l2) (h : RI Nt9 M a) : Ci G y_MM_isCommand (d + 1) [vr a, vi l1, vi l2] M (fun r M' => rQ Nt9 M a r M' ∧ (r ≠ 0 ↔ cpR M' a l1 l2)) := by
  refine k_MM_isCommand h.1 i1 i2 ⟨h.2.1.1.1, (e_MM_isState i1 h).mono (fun x M1 q => ?_)⟩
  obtain ⟨⟨ix, r1, F1⟩, hx⟩ := q
  have b := r1.n5
  have A := r1.2.1.pl4
  rw [r1.2.1.pl3.2.2.2.1]
  refine ⟨ix, r1.1, fun y _ => ⟨r1.2.1.1.1, A.2.2.2.1, by rw [A.2.2.2.2]; have := hx.mp y; omega⟩, fun v e => ?_⟩
  by_cases y : x = 0 ∨ l2 < 0 ∨ mI M1 (a + 108) l1.toNat ≤ l2
  · rw [if_pos y] at e
    exact ⟨⟨by rw [e]; exact ⟨by decide, by decide⟩, r1, F1⟩, fun z => absurd e z, fun z => by
      rcases y with y | y | y
      · exact absurd y (hx.mpr z.1)
      · exact absurd z.2.1 (by omega)
      · exact absurd z.2.2 (by omega)⟩
  · rw [if_neg y] at e
    exact ⟨⟨by rw [e]; exact ⟨by decide, by decide⟩, r1, F1⟩, fun _ => ⟨hx.mp (by omega), by omega, by omega⟩, fun _ => by rw [e]; decide⟩
theorem XE.cm1 (h : XE i9 M a) {l1 l2 : Int} (n : ¬ cpR M a l1 l2) : cmA9 i9.2.2.2.2.2.2.2 l1 l2 = none := by
  unfold cmA9
  rw [h.st]
  by_cases y : 0 ≤ l1 ∧ l1 < mI M a 29
  · rw [if_pos y]
    show (if l2 < 0 then none else (cmL M a (mI M (a + 107) l1.toNat).toNat (mI M (a + 108) l1.toNat).toNat)[l2.toNat]?) = _
    by_cases z : l2 < 0
    · rw [if_pos z]
    · rw [if_neg z]
      unfold cmL
      rw [rget, if_neg (fun u => n ⟨y, by omega, by omega⟩)]
  · rw [if_neg y]
    all_goals rfl
theorem XE.cm2 (h : XE i9 M a) {l1 l2 : Int} (c : cpR M a l1 l2) : cmA9 i9.2.2.2.2.2.2.2 l1 l2 = some (cmQ M a ((mI M (a + 107) l1.toNat).toNat + l2.toNat)) := by
  obtain ⟨y, z, u⟩ := c
  unfold cmA9
  rw [h.st, if_pos y]
  show (if l2 < 0 then none else (cmL M a (mI M (a + 107) l1.toNat).toNat (mI M (a + 108) l1.toNat).toNat)[l2.toNat]?) = _
  rw [if_neg (by omega)]
  unfold cmL
  rw [rget, if_pos (by omega)]
theorem e_MM_branches {l1 l2 : Int} (i1 : i32 l1) (i2 : i32 l2) (h : RI Nt9 M a) : Ci G y_MM_branches (d + 2) [vr a, vi l1, vi l2] M (fun r M' => rQ Nt9 M a r M' ∧ r = bnA9 Nt9.2.2.2.2.2.2.2.2.2 l1 l2) := by
  refine k_MM_branches h.1 i1 i2 ⟨h.2.1.1.1, (e_MM_isCommand i1 i2 h).mono (fun x M1 q => ?_)⟩
  obtain ⟨⟨ix, r1, F1⟩, hx⟩ := q
  have b := r1.n5
  have w := r1.2.1
  refine ⟨ix, r1.1, fun u => ⟨⟨⟨by decide, by decide⟩, r1, F1⟩, ?_⟩, fun y => ?_⟩
  · unfold bnA9
    rw [r1.xe.cm1 (fun z => (hx.mpr z) u)]
    all_goals rfl
  have hc := hx.mp y
  have cm := r1.xe.cm2 hc
  obtain ⟨q1, q2, q3⟩ := hc
  obtain ⟨j, e, j1, j2, j3, -, j5, -⟩ := r1.cm q1 q2 q3
  have y1 := ((r1.2.2.2.2.2.2.1 (by omega)).2.1 l1.toNat (by omega)).1
  have ej : (mI M1 (a + 107) l1.toNat).toNat + l2.toNat = j := by omega
  rw [ej] at cm
  have A := w.pl4
  rw [w.pl3.2.2.1, w.pl3.2.2.2.2.2.2.1, e]
  have hN := w.nu (p := a + 113) (nums_o (by decide))
  refine ⟨w.1.1, A.2.2.1.1, by rw [A.2.2.1.2]; omega, hN.1, (s_MN_at r1.1 hN (by omega)).mono (fun z M2 q2 => ?_)⟩
  obtain ⟨e2, e3⟩ := q2
  subst e2
  have iz : i32 z := by rw [e3]; exact (r1.1 _ _).1
  refine ⟨iz, r1.1, ⟨iz, r1, F1⟩, ?_⟩
  unfold bnA9
  rw [cm, e3]
  show nt M2 (a + 113) j = (((brR M2 a (nt M2 (a + 111) j).toNat (nt M2 (a + 115) j) (nt M2 (a + 113) j).toNat).length : Nat) : Int)
  unfold brR
  rw [List.length_map, List.length_range]
  omega
theorem e_MM_branch1 {l1 l2 l3 l4 : Int} (i1 : i32 l1) (i2 : i32 l2) (i3 : i32 l3) (i4 : i32 l4) (h : RI Nt9 M a) : Ci G y_MM_branch1 (d + 2) [vr a, vi l1, vi l2, vi l3, vi l4] M (fun r M' => (RI Nt9 M' a ∧ FX M a M') ∧ r = brA9 Nt9.2.2.2.2.2.2.2.2.2 l1 l2 l3 l4) := by
  refine k_MM_branch1 h.1 i1 i2 i3 i4 ⟨h.2.1.1.1, (e_MM_isCommand i1 i2 h).mono (fun x M1 q => ?_)⟩
  obtain ⟨⟨ix, r1, F1⟩, hx⟩ := q
  have b := r1.n5
  have w := r1.2.1
  refine ⟨ix, r1.1, fun u => ⟨⟨r1, F1⟩, ?_⟩, fun y => ?_⟩
  · unfold brA9
    by_cases hc : cpR M1 a l1 l2
    · rw [r1.xe.cm2 hc]
      have u3 : l3 < 0 := by
        rcases u with u | u
        · exact absurd u (hx.mpr hc)
        · exact u
      show -1 = ((bqA9 _ l3).map _).getD (-1)
      unfold bqA9
      rw [if_pos u3]
      all_goals rfl
    · rw [r1.xe.cm1 hc]
      all_goals rfl
  have hc := hx.mp (fun z => y (Or.inl z))
  have cm := r1.xe.cm2 hc
  obtain ⟨q1, q2, q3⟩ := hc
  obtain ⟨j, e, j1, j2, j3, j4, j5, j6, -⟩ := r1.cm q1 q2 q3
  have y1 := ((r1.2.2.2.2.2.2.1 (by omega)).2.1 l1.toNat (by omega)).1
  have ej : (mI M1 (a + 107) l1.toNat).toNat + l2.toNat = j := by omega
  rw [ej] at cm
  have y3 : 0 ≤ l3 := Int.not_lt.mp (fun z => y (Or.inr z))
  have A := w.pl4
  rw [w.pl3.2.2.1, w.pl3.2.2.2.2.2.2.1, e]
  have hN := w.nu (p := a + 113) (nums_o (by decide))
  have hN1 := w.nu (p := a + 111) (nums_o (by decide))
  refine ⟨w.1.1, A.2.2.1.1, by rw [A.2.2.1.2]; omega, hN.1, (s_MN_at r1.1 hN (by omega)).mono (fun z M2 q2 => ?_)⟩
  obtain ⟨e2, e3⟩ := q2
  subst e2
  have iz : i32 z := by rw [e3]; exact (r1.1 _ _).1
  have bq : bqA9 (cmQ M2 a j) l3 = if l3 < z then some ((mI M2 (a + 21185) ((nt M2 (a + 111) j).toNat + l3.toNat)).toNat, mL M2 (a + 21186) ((nt M2 (a + 111) j).toNat + l3.toNat) * (nt M2 (a + 115) j / mL M2 (a + 21187) ((nt M2 (a + 111) j).toNat + l3.toNat))) else none := by
    unfold bqA9
    rw [if_neg (by omega)]
    show (brR M2 a (nt M2 (a + 111) j).toNat (nt M2 (a + 115) j) (nt M2 (a + 113) j).toNat)[l3.toNat]? = _
    unfold brR
    rw [rget, e3]
    by_cases u : l3 < nt M2 (a + 113) j
    · rw [if_pos (by omega), if_pos u]
    · rw [if_neg (by omega), if_neg u]
  refine ⟨iz, r1.1, fun u => ⟨⟨r1, F1⟩, ?_⟩, fun u => ?_⟩
  · unfold brA9
    rw [cm]
    show -1 = ((bqA9 (cmQ M2 a j) l3).map (b1A9 (nt M2 (a + 115) j) l4)).getD (-1)
    rw [bq]
    by_cases v : l3 < z
    · rw [if_pos v]
      show -1 = b1A9 _ l4 _
      unfold b1A9
      rw [if_neg (by omega), if_neg (by omega), if_neg (by omega)]
    · rw [if_neg v]
      all_goals rfl
  have uz : l3 < z := Int.not_le.mp (fun t => u (Or.inl t))
  rw [if_pos uz] at bq
  rw [w.pl3.2.2.1, w.pl3.2.2.2.2.2.1, e]
  refine ⟨w.1.1, A.2.2.1.1, by rw [A.2.2.1.2]; omega, hN1.1, (s_MN_at r1.1 hN1 (by omega)).mono (fun t M3 q3 => ?_)⟩
  obtain ⟨e4, e5⟩ := q3
  subst e4
  have it : i32 t := by rw [e5]; exact (r1.1 _ _).1
  have B := w.pl6
  have C := w.pl5
  have bt : (0 : Int) ≤ t + l3 ∧ t + l3 < ((4096 : Nat) : Int) := by omega
  rw [C.1.1, C.1.2.1, C.1.2.2, B.1.2, B.2.1.2, B.2.2.1.2]
  refine ⟨it, r1.1, ⟨fun _ => ⟨w.1.1, B.1.1, bt⟩, fun _ => ⟨fun _ => ⟨w.1.1, B.2.1.1, bt⟩, fun _ => ⟨w.1.1, B.2.2.1.1, bt⟩⟩⟩, fun v ev => ⟨⟨r1, F1⟩, ?_⟩⟩
  obtain ⟨W, -, L, wn, Bn, -, -, hWy, ⟨hL, -⟩, ⟨hB0, hBL⟩, hok, hWc, -⟩ := r1.xe.xf q1
  have jL : j < L := by rw [hL] at j1; omega
  have ok := hok j jL
  have mono : ∀ m k, k + m ≤ L → Bn k ≤ Bn (k + m) := fun m => by
    induction m with
    | zero => exact fun k _ => Nat.le_refl _
    | succ m ih => exact fun k hk => Nat.le_trans (ih k (by omega)) (Nat.le_of_lt (hok (k + m) (by omega)).1.1)
  have bL : Bn (j + 1) ≤ wn := by
    have := mono (L - (j + 1)) (j + 1) (by omega)
    rw [show j + 1 + (L - (j + 1)) = L by omega, hBL] at this
    exact this
  obtain ⟨⟨o1, o2⟩, ⟨o3, o4⟩, ⟨o5, o6⟩, o7, -⟩ := ok
  have ei : (t + l3).toNat = (nt M3 (a + 111) j).toNat + l3.toNat := by omega
  have eB : (nt M3 (a + 111) j).toNat = Bn j := by omega
  have lt : l3.toNat < Bn (j + 1) - Bn j := by omega
  have Wyj := hWy (Bn j + l3.toNat) (by omega)
  have Wcj := hWc (Bn j + l3.toNat) (by omega)
  have dv := o7 (Bn j + l3.toNat) (by omega) (by omega)
  rw [ei, eB] at ev
  rw [eB] at bq
  unfold brA9
  rw [cm]
  show v = ((bqA9 (cmQ M3 a j) l3).map (b1A9 (nt M3 (a + 115) j) l4)).getD (-1)
  rw [bq]
  show v = b1A9 (nt M3 (a + 115) j) l4 _
  unfold b1A9
  have lw := low9 Wyj.2.1.1 Wyj.2.2.1 (show 0 < nt M3 (a + 115) j by omega) Wcj dv
  rw [ev]
  by_cases u0 : l4 = 0
  · rw [if_pos u0, if_pos u0]
    show _ = (((mI M3 (a + 21185) (Bn j + l3.toNat)).toNat : Nat) : Int)
    have := Wyj.1.1
    omega
  · rw [if_neg u0, if_neg u0]
    by_cases u1 : l4 = 1
    · rw [if_pos u1, if_pos u1]
      exact lw.1.symm
    · rw [if_neg u1, if_neg u1, if_pos (by omega)]
      exact lw.2.symm
theorem e_MM_variable {l1 l2 : Int} (i1 : i32 l1) (i2 : i32 l2) (h : RI Nt9 M a) : Ci G y_MM_variable d [vr a, vi l1, vi l2] M (fun r M' => rQ Nt9 M a r M' ∧ ((¬ ((0 ≤ l1 ∧ l1 < ((Nt9.2.2.2.2.2.2.2.2.1.length : Nat) : Int)) ∧ (0 ≤ l2 ∧ l2 < Nt9.2.2.2.1)) ∧ mI M' a 0 = 1) ∨ (((0 ≤ l1 ∧ l1 < ((Nt9.2.2.2.2.2.2.2.2.1.length : Nat) : Int)) ∧ (0 ≤ l2 ∧ l2 < Nt9.2.2.2.1)) ∧ mI M' a 0 = 0 ∧ r = vaA9 Nt9.2.2.2.2.2.2.2.2.1 l1 l2))) := by
  have k9 := (h.2.1.gp h.2.1.g9).1
  refine k_MM_variable h.1 i1 i2 ⟨fun _ => ⟨h.2.1.1.1, fun _ _ => k9⟩, fun v e => ⟨h.2.1.1.1, fun M2 e2 => ?_⟩⟩
  have iv : i32 v := by rw [e]; split <;> exact ⟨by decide, by decide⟩
  obtain ⟨r2, F2, f2⟩ := h.step iv ⟨by decide, by decide, by decide⟩ e2
  have n29 := h.xe.2.2.1
  have gw : mI M a 11 ≠ 0 → mI M (mR M a 9) 12 = Nt9.2.2.2.1 ∧ Nt9.2.2.2.1 ≤ 12 := fun kn => by
    obtain ⟨T, R, W, C, Z, E, tg, g1, g2, g3, g4, g5, g6, q1, -⟩ := h.2.2.2.2.2.1 kn
    have bW := g5.1
    have eW := g3.2.1
    exact ⟨q1, by rw [← q1]; omega⟩
  refine ⟨fun q => ?_, fun v18 e18 => ⟨⟨?_, r2, F2⟩, ?_⟩⟩
  · have b := h.2.2.2.1
    rw [f2, if_pos rfl] at q
    by_cases y : l1 < 0 ∨ mI M a 29 ≤ l1 ∨ l2 < 0 ∨ ¬ l2 < mI M (mR M a 9) 12
    · rw [if_pos y] at e
      omega
    · have kn : mI M a 11 ≠ 0 := (h.2.2.2.2.2.2.1 (by omega)).1
      have := gw kn
      rw [r2.2.1.pl3.1, r2.2.1.pl4.1.1, r2.2.1.pl4.1.2]
      exact ⟨rfl, by omega, by omega⟩
  · rw [e18]
    split
    · exact (r2.1 _ _).1
    · exact ⟨by decide, by decide⟩
  · have v0 : mI M2 a 0 = v := by rw [f2, if_pos rfl]
    rw [v0] at e18 ⊢
    by_cases y : l1 < 0 ∨ mI M a 29 ≤ l1 ∨ l2 < 0 ∨ ¬ l2 < mI M (mR M a 9) 12
    · rw [if_pos y] at e
      refine Or.inl ⟨fun z => ?_, e⟩
      have kn : mI M a 11 ≠ 0 := (h.2.2.2.2.2.2.1 (by omega)).1
      have := gw kn
      omega
    · rw [if_neg y] at e
      have kn : mI M a 11 ≠ 0 := (h.2.2.2.2.2.2.1 (by omega)).1
      have gg := gw kn
      have rg : (0 ≤ l1 ∧ l1 < ((Nt9.2.2.2.2.2.2.2.2.1.length : Nat) : Int)) ∧ (0 ≤ l2 ∧ l2 < Nt9.2.2.2.1) := ⟨⟨by omega, by omega⟩, by omega, by omega⟩
      refine Or.inr ⟨rg, e, ?_⟩
      rw [if_pos (by omega), r2.2.1.pl3.1] at e18
      have n2 : mI M2 a 29 = mI M a 29 := by rw [f2, if_neg (by decide)]
      obtain ⟨W, hW, L, wn, Bn, -, -, -, -, -, -, -, hS, -⟩ := r2.xe.xf (l := l1) (by rw [n2]; omega)
      unfold vaA9
      rw [← hS]
      unfold SmR
      rw [rget, if_pos (by omega)]
      show v18 = ((lsR M2 a W l1.toNat)[l2.toNat]?).getD 0
      unfold lsR
      rw [rget, if_pos (by omega), e18]
      show _ = mI M2 (a + 105) (12 * l1.toNat + l2.toNat)
      rw [show (12 * l1 + l2).toNat = 12 * l1.toNat + l2.toNat by omega]
end RAS
end
