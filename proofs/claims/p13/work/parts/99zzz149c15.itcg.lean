/-! The game that a text tells hangs on its own words alone: pure. -/
theorem tw_cg {α : Type} {p q : α → Bool} : ∀ (l : List α), (∀ x, x ∈ l → p x = q x) → l.takeWhile p = l.takeWhile q
  | [], _ => rfl
  | a :: t, h => by
    rw [List.takeWhile_cons, List.takeWhile_cons, h a List.mem_cons_self, tw_cg t (fun x hx => h x (List.mem_cons_of_mem _ hx))]
section XCC
variable {w w' pl pl' nq nq' : Nat → Int} {sm sm' : Nat → Nat → Prop} {N i j k e q : Nat} {nms : List nm9} {s : st9} {g : gm9}
theorem vix_cg (ag : AgW w w' pl pl' nq nq' sm sm' N) (nm : NmW w N nms) (hk : k < N) (h1 : w k = 1) : vix9 sm nms k = vix9 sm' nms k := by
  unfold vix9
  refine congrArg vcn (tw_cg nms (fun e he => ?_))
  have eq : sm e.1 k = sm' e.1 k := propext (ag.2 e.1 k (nm e he).1 hk (nm e he).2 h1)
  show (!@decide (sm e.1 k) (Classical.propDecidable _)) = (!@decide (sm' e.1 k) (Classical.propDecidable _))
  rw [eq]
theorem sel_cg (ag : AgW w w' pl pl' nq nq' sm sm' N) (nm : NmW w N nms) : ∀ (f0 k q : Nat), Se w f0 k q → q < N → ∀ (f : Nat), sel9 w sm N nms f k = sel9 w' sm' N nms f k ∧ ∀ x, x ∈ sel9 w sm N nms f k → Eo w 6 x.2.1 x.2.2.1 ∧ x.2.2.1 ≤ N ∧ x.2.2.2 < N := by
  intro f0
  induction f0 with
  | zero => intro k q h; exact h.elim
  | succ f0 ih =>
    intro k q h hq f
    have sg := h.sg.1
    obtain ⟨h0, h1, h2, h3, c, eo, h5, h6⟩ := h
    have lt := eo.pr.1
    have cq : c + 1 ≤ q := by
      rcases h6 with ⟨y, -⟩ | ⟨-, y⟩
      · omega
      · have := y.sg.1
        omega
    cases f with
    | zero => exact ⟨rfl, fun x hx => absurd hx (by simp [sel9])⟩
    | succ f =>
      have c1 : cpq w (k + 4) N = c := cpq_at eo h5 (by omega)
      have c2 : cpq w' (k + 4) N = c := cpq_at (ag.eo eo (by omega)) (by rw [← (ag.1 c (by omega)).1]; exact h5) (by omega)
      have vx := vix_cg (k := k + 1) ag nm (by omega) h1
      rw [sel9, sel9, c1, c2, vx, ← (ag.1 (c + 1) (by omega)).1]
      by_cases w29 : w (c + 1) = 29
      · rw [if_pos w29, if_pos w29]
        have y := (h6.resolve_left (fun u => u.2 w29)).2
        obtain ⟨i1, i2⟩ := ih (c + 2) q y hq f
        refine ⟨by rw [i1], fun x hx => ?_⟩
        rcases List.mem_cons.mp hx with u | u
        · rw [u]
          exact ⟨eo, by show c ≤ N; omega, by show k < N; omega⟩
        · exact i2 x u
      · rw [if_neg w29, if_neg w29]
        refine ⟨rfl, fun x hx => ?_⟩
        rw [List.mem_singleton.mp hx]
        exact ⟨eo, by show c ≤ N; omega, by show k < N; omega⟩
theorem brs_cg (ag : AgW w w' pl pl' nq nq' sm sm' N) (nm : NmW w N nms) (he : e < N) : ∀ (f0 p : Nat), Br w f0 p e → 1 ≤ p → ∀ (f b : Nat), (brf w pl sm N nms e f p b).1 = 0 → brs9 w pl sm N nms e f p = brs9 w' pl' sm' N nms e f p ∧ ∀ x, x ∈ brs9 w pl sm N nms e f p → (Eo w 6 x.2.1.1 x.2.1.2 ∧ x.2.1.2 < N) ∧ ∀ q, q ∈ x.2.2 → Eo w 6 q.2.1 q.2.2.1 ∧ q.2.2.1 ≤ N ∧ q.2.2.2 < N := by
  intro f0
  induction f0 with
  | zero => intro p h; exact h.elim
  | succ f0 ih =>
    intro p h hp f b h0
    have sg := h.sg.1
    obtain ⟨q, s, eo5, w33, ss, h4⟩ := h
    have eo := eo5.one (show 5 ≤ 6 by omega)
    have lt := eo.pr.1
    have sgs := ss.sg.1
    have se : s ≤ e := by
      rcases h4 with ⟨y, -⟩ | ⟨-, y⟩
      · omega
      · have := y.sg.1
        omega
    cases f with
    | zero => exact ⟨rfl, fun x hx => absurd hx (by simp [brs9])⟩
    | succ f =>
      have c1 : clq w (p - 1) N = q := clq_eo (by rw [show p - 1 + 1 = p by omega]; exact eo) w33 (by omega)
      have c2 : clq w' (p - 1) N = q := clq_eo (by rw [show p - 1 + 1 = p by omega]; exact ag.eo eo (by omega)) (by rw [← (ag.1 q (by omega)).1]; exact w33) (by omega)
      have nl : ¬ e ≤ p := by omega
      have nxt : ∀ b, (brf w pl sm N nms e f (s + 1) b).1 = 0 → brs9 w pl sm N nms e f (s + 1) = brs9 w' pl' sm' N nms e f (s + 1) ∧ ∀ x, x ∈ brs9 w pl sm N nms e f (s + 1) → (Eo w 6 x.2.1.1 x.2.1.2 ∧ x.2.1.2 < N) ∧ ∀ q, q ∈ x.2.2 → Eo w 6 q.2.1 q.2.2.1 ∧ q.2.2.1 ≤ N ∧ q.2.2.2 < N := fun b hb => by
        rcases h4 with ⟨y, -⟩ | ⟨-, y⟩
        · rw [brs_e (by omega), brs_e (by omega)]
          exact ⟨rfl, fun x hx => absurd hx (by simp)⟩
        · exact ih (s + 1) y (by omega) f b hb
      rw [brf, if_neg nl] at h0
      by_cases b8 : b = 8
      · rw [if_pos b8] at h0
        exact absurd h0 (by simp)
      rw [if_neg b8, c1] at h0
      by_cases r0 : (rf9 w pl sm nms 0 0 p q).1 ≠ 0
      · rw [if_pos r0] at h0
        exact absurd h0 r0
      rw [if_neg r0] at h0
      rw [brs9, if_neg nl, brs9, if_neg nl, c1, c2, ← (ag.1 (q + 1) (by omega)).1, ← (ag.1 p (by omega)).2.1]
      rcases ss with ⟨w10, es⟩ | ⟨w10, f1, hse⟩
      · rw [if_pos w10] at h0
        rw [if_pos w10, if_pos w10]
        have e3 : q + 3 = s + 1 := by omega
        rw [e3] at h0 ⊢
        obtain ⟨n1, n2⟩ := nxt (b + 1) h0
        refine ⟨by rw [n1], fun x hx => ?_⟩
        rcases List.mem_cons.mp hx with u | u
        · rw [u]
          exact ⟨⟨eo, by show q < N; omega⟩, fun y hy => absurd hy (by simp)⟩
        · exact n2 x u
      · rw [if_neg w10] at h0
        rw [if_neg w10, if_neg w10]
        have s1 := sef_cg ag nm f1 (q + 1) s hse (by omega) N []
        by_cases z : (sef w pl sm N nms N (q + 1) []).1.1 ≠ 0
        · rw [if_pos z] at h0
          exact absurd h0 z
        rw [if_neg z] at h0
        have s2 := sef_at (pl := pl) (sm := sm) (nms := nms) f1 (q + 1) s hse (by omega) N [] (by omega) (Decidable.not_not.mp z)
        rw [s2] at h0
        rw [← s1, s2]
        obtain ⟨n1, n2⟩ := nxt (b + 1) h0
        obtain ⟨l1, l2⟩ := sel_cg ag nm f1 (q + 1) s hse (by omega) N
        refine ⟨by rw [n1, l1], fun x hx => ?_⟩
        rcases List.mem_cons.mp hx with u | u
        · rw [u]
          exact ⟨⟨eo, by show q < N; omega⟩, l2⟩
        · exact n2 x u
theorem var_cg (ag : AgW w w' pl pl' nq nq' sm sm' N) (nm : NmW w N nms) (he : e < N) (vs : Vs w (k + 3) i) (hi : (w i ≠ 9 ∧ i = e) ∨ (w i = 9 ∧ Eo w 6 (i + 1) e)) : var9 w pl nq sm N nms k e = var9 w' pl' nq' sm' N nms k e := by
  have ie : i ≤ e := by
    rcases hi with ⟨-, y⟩ | ⟨-, y⟩
    · omega
    · have := y.pr.1
      omega
  have ki := vs.sg.1
  have wk := (ag.1 (k + 3) (by omega)).1
  have wi := (ag.1 i (by omega)).1
  have ini : (if w (k + 3) = 5 then k + 4 else nxq w 9 (e - (k + 3)) (k + 3)) = i ∧ (if w' (k + 3) = 5 then k + 4 else nxq w' 9 (e - (k + 3)) (k + 3)) = i := by
    rcases vs with ⟨w5, ei⟩ | ⟨w5, j, eo0, w16, eo1⟩
    · rw [if_pos w5, if_pos (by rw [← wk]; exact w5)]
      omega
    · have a0 := eo0.pr.1
      have a1 := eo1.pr.1
      have no9 : ∀ t, k + 3 ≤ t → t < i → w t ≠ 9 := fun t t1 t2 => by
        by_cases c1 : t < j
        · exact eo0.no9 (Or.inl rfl) t1 c1
        · by_cases c2 : t = j
          · rw [c2, w16]; decide
          · exact eo1.no9 (Or.inl rfl) (by omega) t2
      have no9' : ∀ t, k + 3 ≤ t → t < i → w' t ≠ 9 := fun t t1 t2 => by
        rw [← (ag.1 t (by omega)).1]
        exact no9 t t1 t2
      rw [if_neg w5, if_neg (by rw [← wk]; exact w5)]
      rcases hi with ⟨-, ei⟩ | ⟨w9, eo2⟩
      · rw [nxq_no (fun t t1 t2 => no9 t t1 (by omega)), nxq_no (fun t t1 t2 => no9' t t1 (by omega))]
        omega
      · have := eo2.pr.1
        exact ag.nx (by omega) (by omega) (by omega) w9 no9
  have r2 : w i = 9 → vlq w (cv9 w nq sm nms) pl 0 0 (i + 1) e = vlq w' (cv9 w' nq' sm' nms) pl' 0 0 (i + 1) e := fun w9 => by
    have eo := (hi.resolve_left (fun u => u.1 w9)).2
    exact vq_cg ag nm eo (by omega)
  have r01 : w (k + 3) ≠ 5 → ∃ j, (nxq w 16 N (k + 3) = j ∧ nxq w' 16 N (k + 3) = j) ∧ vlq w (cv9 w nq sm nms) pl 0 0 (k + 3) j = vlq w' (cv9 w' nq' sm' nms) pl' 0 0 (k + 3) j ∧ vlq w (cv9 w nq sm nms) pl 0 0 (j + 1) i = vlq w' (cv9 w' nq' sm' nms) pl' 0 0 (j + 1) i := fun w5 => by
    obtain ⟨-, j, eo0, w16, eo1⟩ := vs.resolve_left (fun u => w5 u.1)
    have a0 := eo0.pr.1
    have a1 := eo1.pr.1
    exact ⟨j, ag.nx (by omega) (by omega) (by omega) w16 (fun t t1 t2 => eo0.no9 (Or.inr (Or.inl rfl)) t1 t2), vq_cg ag nm eo0 (by omega), vq_cg ag nm eo1 (by omega)⟩
  unfold var9
  simp only []
  rw [ini.1, ini.2, ← wk, ← wi]
  by_cases w5 : w (k + 3) = 5
  · simp only [if_pos w5]
    by_cases w9 : w i = 9
    · simp only [if_pos w9]
      rw [r2 w9]
    · simp only [if_neg w9]
  · obtain ⟨j, ⟨j1, j2⟩, j3, j4⟩ := r01 w5
    simp only [if_neg w5]
    rw [j1, j2, j3, j4]
    by_cases w9 : w i = 9
    · simp only [if_pos w9]
      rw [r2 w9]
    · simp only [if_neg w9]
theorem ite_cg (ag : AgW w w' pl pl' nq nq' sm sm' N) (nm : NmW w N s.1) (hit : It w k e) (eN : e < N) (n1 : nxq w 34 N k = e) (n2 : nxq w' 34 N k = e) : ite9 w pl nq sm N 60 k s = ite9 w' pl' nq' sm' N 60 k s := by
  have kN : k < N := by
    have := hit.2.1
    omega
  have wk := (ag.1 k kN).1
  unfold ite9
  simp only [n1, n2]
  rw [← wk]
  rcases hit.2.2 with ⟨h0, h1, h2, eo⟩ | ⟨h0, h1, h2, i, vs, hi⟩ | ⟨h0, j, f1, eo, w17, br⟩ | ⟨h0, eo⟩
  · rw [if_pos h0, if_pos h0, itr_cg ag nm (by omega) h1 eo]
  · rw [if_neg (show ¬ (w k = 3 ∨ w k = 6) by omega), if_neg (show ¬ (w k = 3 ∨ w k = 6) by omega), if_pos h0, if_pos h0, itv_cg ag nm (by omega) h1 vs hi]
  · rw [if_neg (show ¬ (w k = 3 ∨ w k = 6) by omega), if_neg (show ¬ (w k = 3 ∨ w k = 6) by omega), if_neg (show ¬ (w k = 4) by omega), if_neg (show ¬ (w k = 4) by omega), if_neg (show ¬ (w k = 11) by omega), if_neg (show ¬ (w k = 11) by omega), itc_cg ag nm (by omega) eo w17 br]
  · rw [if_neg (show ¬ (w k = 3 ∨ w k = 6) by omega), if_neg (show ¬ (w k = 3 ∨ w k = 6) by omega), if_neg (show ¬ (w k = 4) by omega), if_neg (show ¬ (w k = 4) by omega), if_pos h0, if_pos h0, itt_cg ag nm (by omega) eo]
theorem itc_0 (h : (itc w pl sm N 60 k e s).2.2.1 = 0) (hj : nxq w 17 N (k + 1) = j) : (brf w pl sm N s.1 e N (j + 1) 0).1 = 0 := by
  unfold itc at h
  simp only [hj] at h
  by_cases c1 : s.2.1.2.2.1 = 60
  · rw [if_pos c1] at h
    exact absurd h (by simp)
  rw [if_neg c1] at h
  by_cases c2 : (fst9 (rf9 w pl sm s.1 0 1 (k + 1) j) (brf w pl sm N s.1 e N (j + 1) 0)).1 ≠ 0
  · rw [if_pos c2] at h
    exact absurd h c2
  exact (fst9_1.mp (Decidable.not_not.mp c2)).2
theorem igm_cg (ag : AgW w w' pl pl' nq nq' sm sm' N) (nm : NmW w N s.1) (hit : It w k e) (eN : e < N) (n1 : nxq w 34 N k = e) (n2 : nxq w' 34 N k = e) (z : (ite9 w pl nq sm N 60 k s).2.2.1 = 0) (go : GmO w N g) : igm9 w pl nq sm N s.1 k g = igm9 w' pl' nq' sm' N s.1 k g ∧ GmO w N (igm9 w pl nq sm N s.1 k g) := by
  have kN : k < N := by
    have := hit.2.1
    omega
  have wk := (ag.1 k kN).1
  unfold ite9 at z
  simp only [n1] at z
  unfold igm9
  rw [← wk, n1, n2]
  rcases hit.2.2 with ⟨h0, h1, h2, eo⟩ | ⟨h0, h1, h2, i, vs, hi⟩ | ⟨h0, j, f1, eo, w17, br⟩ | ⟨h0, eo⟩
  · rw [if_pos h0, if_pos h0]
    exact ⟨rfl, go⟩
  · rw [if_neg (show ¬ (w k = 3 ∨ w k = 6) by omega), if_neg (show ¬ (w k = 3 ∨ w k = 6) by omega), if_pos h0, if_pos h0, var_cg ag nm eN vs hi]
    exact ⟨rfl, go.1, go.2⟩
  · have h36 : ¬ (w k = 3 ∨ w k = 6) := by omega
    have h4 : ¬ w k = 4 := by omega
    have h11 : ¬ w k = 11 := by omega
    rw [if_neg h36, if_neg h4, if_neg h11] at z
    rw [if_neg h36, if_neg h36, if_neg h4, if_neg h4, if_neg h11, if_neg h11]
    have lt := eo.pr.1
    have je := br.sg.1
    obtain ⟨a1, a2⟩ := ag.nx (x := 17) (f := N) (k := k + 1) (e := j) (by omega) (by omega) (by omega) w17 (fun t t1 t2 => eo.no9 (Or.inr (Or.inr rfl)) t1 t2)
    obtain ⟨b1, b2⟩ := brs_cg ag nm eN f1 (j + 1) br (by omega) N 0 (itc_0 z a1)
    have ec : cmd9 w pl sm N s.1 k e = cmd9 w' pl' sm' N s.1 k e := by
      unfold cmd9
      rw [a1, a2, b1, ← wk, (ag.1 k kN).2.1]
    refine ⟨by rw [ec], go.1, fun cm hc => ?_⟩
    rcases List.mem_append.mp hc with u | u
    · exact go.2 cm u
    · rw [List.mem_singleton.mp u]
      unfold cmd9
      rw [a1]
      exact ⟨⟨eo, by show j < N; omega⟩, b2⟩
  · have h36 : ¬ (w k = 3 ∨ w k = 6) := by omega
    have h4 : ¬ w k = 4 := by omega
    rw [if_neg h36, if_neg h36, if_neg h4, if_neg h4, if_pos h0, if_pos h0]
    refine ⟨rfl, fun tg ht => ?_, go.2⟩
    have : (k + 1, e) = tg := Option.some.inj ht
    rw [← this]
    exact ⟨eo, eN⟩
theorem igs_cg (ag : AgW w w' pl pl' nq nq' sm sm' N) : ∀ (f f' k : Nat) (s : st9) (g : gm9), Ac w N f [50] k → NmW w N s.1 → GmO w N g → igs9 w pl nq sm N 60 f' k s g = igs9 w' pl' nq' sm' N 60 f' k s g ∧ GmO w N (igs9 w pl nq sm N 60 f' k s g) := by
  intro f
  induction f using Nat.strongRecOn with
  | ind f ih =>
    intro f' k s g hac nm go
    cases f' with
    | zero => exact ⟨rfl, go⟩
    | succ f' =>
      rw [igs9, igs9]
      by_cases f0 : s.2.2.1 = 0
      · rw [if_neg (show ¬ s.2.2.1 ≠ 0 from fun u => u f0), if_neg (show ¬ s.2.2.1 ≠ 0 from fun u => u f0)]
        rcases ac_item hac with ⟨c0, c1⟩ | ⟨c0, e, g', hg, hit, hac'⟩
        · rw [if_pos c0, if_pos (show w' k = 0 by rw [← (ag.1 k (by omega)).1]; exact c0)]
          exact ⟨rfl, go⟩
        · have eN := ac_le hac'
          have sg := hit.sg
          have kN : k < N := by
            have := hit.2.1
            omega
          obtain ⟨n1, n2⟩ := ag.nx (x := 34) (f := N) (k := k) (e := e) sg.1 (by omega) (by omega) hit.1 sg.2.2.2
          have wk := (ag.1 k kN).1
          have es := ite_cg ag nm hit (by omega) n1 n2
          have nm' : NmW w N (ite9 w pl nq sm N 60 k s).1 := ite_nm nm (by have := hit.2.1; omega) (fun u => by
            rcases hit.2.2 with ⟨h0, h1, -⟩ | ⟨h0, h1, -⟩ | ⟨h0, -⟩ | ⟨h0, -⟩
            · exact h1
            · exact h1
            · omega
            · omega)
          rw [if_neg c0, if_neg (show ¬ w' k = 0 by rw [← wk]; exact c0), n1, n2, ← es]
          by_cases z : (ite9 w pl nq sm N 60 k s).2.2.1 ≠ 0
          · rw [if_pos z, if_pos z]
            exact ih g' hg f' (e + 1) _ g hac' nm' go
          · obtain ⟨m1, m2⟩ := igm_cg (g := g) ag nm hit (by omega) n1 n2 (Decidable.not_not.mp z) go
            rw [if_neg z, if_neg z, ← m1]
            exact ih g' hg f' (e + 1) _ _ hac' nm' m2
      · rw [if_pos f0, if_pos f0]
        exact ⟨rfl, go⟩
theorem NmF.add (h : NmF w N nms) {y : nm9} (h1 : y.1 < N ∧ w y.1 = 1) (h2 : y.2.1 ≠ 1 → y.2.1 ≠ 3 → Eo w 6 (y.1 + 2) (nxq w 34 N y.1) ∧ nxq w 34 N y.1 < N) : NmF w N (nms ++ [y]) := fun e he => by
  rcases List.mem_append.mp he with u | u
  · exact h e u
  · rw [List.mem_singleton.mp u]
    exact ⟨h1, h2⟩
theorem ite_nmf (nf : NmF w N s.1) (it : It w k e) (nx : nxq w 34 N k = e) (he : e < N) : NmF w N (ite9 w pl nq sm N 60 k s).1 := by
  have lt := it.2.1
  have nx1 : nxq w 34 N (k + 1) = e := nxq_at (by omega) (by omega) it.1 (fun m m1 m2 => it.sg.2.2.2 m (by omega) m2)
  unfold ite9
  simp only [nx]
  rcases it.2.2 with ⟨h0, h1, h2, eo⟩ | ⟨h0, h1, h2, i, vs, hi⟩ | ⟨h0, j, f1, eo, w17, br⟩ | ⟨h0, eo⟩
  · have ad : ∀ y : Nat × Int × vrs, NmF w N (s.1 ++ [(k + 1, y)]) := fun y => nf.add ⟨by show k + 1 < N; omega, h1⟩ (fun _ _ => by
      show Eo w 6 (k + 1 + 2) (nxq w 34 N (k + 1)) ∧ nxq w 34 N (k + 1) < N
      rw [nx1]
      exact ⟨eo, he⟩)
    rw [if_pos h0]
    unfold itr
    simp only []
    repeat' split
    all_goals first | exact nf | exact ad _
  · have ad : ∀ y : Int × vrs, NmF w N (s.1 ++ [(k + 1, 3, y)]) := fun y => nf.add ⟨by show k + 1 < N; omega, h1⟩ (fun _ u => absurd rfl u)
    rw [if_neg (show ¬ (w k = 3 ∨ w k = 6) by omega), if_pos h0]
    unfold itv
    simp only []
    repeat' split
    all_goals first | exact nf | exact ad _
  · rw [if_neg (show ¬ (w k = 3 ∨ w k = 6) by omega), if_neg (show ¬ (w k = 4) by omega), if_neg (show ¬ (w k = 11) by omega)]
    unfold itc
    simp only []
    repeat' split
    all_goals exact nf
  · rw [if_neg (show ¬ (w k = 3 ∨ w k = 6) by omega), if_neg (show ¬ (w k = 4) by omega), if_pos h0]
    unfold itt
    simp only []
    repeat' split
    all_goals exact nf
theorem its_nmf : ∀ (f f' k : Nat) (s : st9), Ac w N f [50] k → NmF w N s.1 → NmF w N (its9 w pl nq sm N 60 f' k s).1 := by
  intro f
  induction f using Nat.strongRecOn with
  | ind f ih =>
    intro f' k s hac nf
    cases f' with
    | zero => exact nf
    | succ f' =>
      rw [its9]
      by_cases f0 : s.2.2.1 = 0
      · rw [if_neg (show ¬ s.2.2.1 ≠ 0 from fun u => u f0)]
        rcases ac_item hac with ⟨c0, c1⟩ | ⟨c0, e, g, hg, hit, hac'⟩
        · rw [if_pos c0]
          split
          · exact nf
          · exact nf
        · have eN := ac_le hac'
          have lt := hit.2.1
          have nx : nxq w 34 N k = e := nxq_at (by omega) (by omega) hit.1 (fun m m1 m2 => hit.sg.2.2.2 m m1 m2)
          rw [if_neg c0, nx]
          exact ih g hg f' (e + 1) _ hac' (ite_nmf nf hit nx (by omega))
      · rw [if_pos f0]
        exact nf
/-- two readings of the same words: exploring comes to the same -/
theorem xpg_same {f : Nat} (ag : AgW w w' pl pl' nq nq' sm sm' N) (hac : Ac w N f [50] 0) (hg : (igs9 w pl nq sm N 60 N 0 ([], (0, 0, 0, 0), (0, 0)) ([], none, [])).2.1 ≠ none) : XpG (w, pl, nq, sm, N, (its9 w pl nq sm N 60 N 0 ([], (0, 0, 0, 0), (0, 0))).1, igs9 w pl nq sm N 60 N 0 ([], (0, 0, 0, 0), (0, 0)) ([], none, [])) = XpG (w', pl', nq', sm', N, (its9 w pl nq sm N 60 N 0 ([], (0, 0, 0, 0), (0, 0))).1, igs9 w' pl' nq' sm' N 60 N 0 ([], (0, 0, 0, 0), (0, 0)) ([], none, [])) := by
  have nf := its_nmf (pl := pl) (nq := nq) (sm := sm) f N 0 ([], (0, 0, 0, 0), (0, 0)) hac (fun e he => absurd he (by simp))
  obtain ⟨g1, g2⟩ := igs_cg ag f N 0 ([], (0, 0, 0, 0), (0, 0)) ([], none, []) hac (fun e he => absurd he (by simp)) ⟨fun tg h => absurd h (by simp), fun cm h => absurd h (by simp)⟩
  rw [← g1]
  exact xpg_cg ag nf g2 hg
end XCC
