section
/-! What a text means hangs on its own words alone: items. -/
theorem fd_cg {α : Type} {p q : α → Bool} : ∀ (l : List α), (∀ x, x ∈ l → p x = q x) → l.find? p = l.find? q
  | [], _ => rfl
  | a :: t, h => by
    rw [List.find?_cons, List.find?_cons, h a (by simp), fd_cg t (fun x hx => h x (by simp [hx]))]
/-- two readings of the same N words -/
def AgW (w w' pl pl' nq nq' : Nat → Int) (sm sm' : Nat → Nat → Prop) (N : Nat) : Prop := (∀ j, j < N → w j = w' j ∧ pl j = pl' j ∧ (w j = 2 → nq j = nq' j)) ∧ ∀ x v, x < N → v < N → w x = 1 → w v = 1 → (sm x v ↔ sm' x v)
/-- the names stand among the words -/
def NmW (w : Nat → Int) (N : Nat) (nms : List nm9) : Prop := ∀ e, e ∈ nms → e.1 < N ∧ w e.1 = 1
section CGC
variable {w w' pl pl' nq nq' : Nat → Int} {sm sm' : Nat → Nat → Prop} {N i j k e q : Nat} {nms : List nm9} {s : st9} {co tr : Int}
theorem fnd_cg (ag : AgW w w' pl pl' nq nq' sm sm' N) (nm : NmW w N nms) (hk : k < N) (h1 : w k = 1) : fnd9 sm nms k = fnd9 sm' nms k := by
  unfold fnd9
  refine fd_cg nms (fun e he => ?_)
  have eq : sm e.1 k = sm' e.1 k := propext (ag.2 e.1 k (nm e he).1 hk (nm e he).2 h1)
  rw [eq]
theorem e9_cg (ag : AgW w w' pl pl' nq nq' sm sm' N) (nm : NmW w N nms) (hk : k < N) (h1 : w k = 1) : E9 sm nms co k = E9 sm' nms co k := by
  unfold E9
  rw [fnd_cg ag nm hk h1]
theorem cv9_cg (ag : AgW w w' pl pl' nq nq' sm sm' N) (nm : NmW w N nms) (hk : k < N) : cv9 w nq sm nms k = cv9 w' nq' sm' nms k := by
  unfold cv9
  rw [← (ag.1 k hk).1]
  by_cases c1 : w k = 1
  · rw [if_pos c1, if_pos c1, fnd_cg ag nm hk c1]
  · rw [if_neg c1, if_neg c1]
    by_cases c2 : w k = 2
    · rw [if_pos c2, if_pos c2, (ag.1 k hk).2.2 c2]
    · rw [if_neg c2, if_neg c2]
theorem rlC_of (ag : AgW w w' pl pl' nq nq' sm sm' N) (nm : NmW w N nms) (hj : j ≤ N) : rlC w w' (E9 sm nms co) (E9 sm' nms co) pl pl' (cv9 w nq sm nms) (cv9 w' nq' sm' nms) i j := fun k k1 k2 => ⟨(ag.1 k (by omega)).1, (ag.1 k (by omega)).2.1, fun h => e9_cg ag nm (by omega) h, fun _ => cv9_cg ag nm (by omega)⟩
theorem AgW.eo {c : Nat} (ag : AgW w w' pl pl' nq nq' sm sm' N) (eo : Eo w c i j) (hj : j ≤ N) : Eo w' c i j := eo.cg (fun k _ k2 => (ag.1 k (by omega)).1)
theorem rf_cg (ag : AgW w w' pl pl' nq nq' sm sm' N) (nm : NmW w N nms) (eo : Eo w 6 i j) (hj : j ≤ N) : rf9 w pl sm nms co tr i j = rf9 w' pl' sm' nms co tr i j := by
  obtain ⟨a, b, -⟩ := rl_cg0 eo (rlC_of (co := co) (i := i) ag nm hj)
  have lt := eo.pr.1
  unfold rf9
  rw [a, b, (ag.1 i (by omega)).2.1]
theorem vq_cg (ag : AgW w w' pl pl' nq nq' sm sm' N) (nm : NmW w N nms) (eo : Eo w 6 i j) (hj : j ≤ N) : vlq w (cv9 w nq sm nms) pl 0 0 i j = vlq w' (cv9 w' nq' sm' nms) pl' 0 0 i j := (rl_cg0 eo (rlC_of (co := 0) (i := i) ag nm hj)).2.2
theorem AgW.nx {x : Int} {f : Nat} (ag : AgW w w' pl pl' nq nq' sm sm' N) (h1 : k ≤ e) (h2 : e ≤ k + f) (he : e < N) (h3 : w e = x) (h4 : ∀ j, k ≤ j → j < e → w j ≠ x) : nxq w x f k = e ∧ nxq w' x f k = e := ⟨nxq_at h1 h2 h3 h4, nxq_at h1 h2 (by rw [← (ag.1 e he).1]; exact h3) (fun j a b => by rw [← (ag.1 j (by omega)).1]; exact h4 j a b)⟩
theorem sef_cg (ag : AgW w w' pl pl' nq nq' sm sm' N) (nm : NmW w N nms) : ∀ (f0 k q : Nat), Se w f0 k q → q < N → ∀ (f : Nat) (seen : List Nat), sef w pl sm N nms f k seen = sef w' pl' sm' N nms f k seen := by
  intro f0
  induction f0 with
  | zero => intro k q h; exact h.elim
  | succ f0 ih =>
    intro k q h hq f seen
    have sg := h.sg.1
    obtain ⟨h0, h1, h2, h3, c, eo, h5, h6⟩ := h
    have lt := eo.pr.1
    have cq : c + 1 ≤ q := by
      rcases h6 with ⟨y, -⟩ | ⟨-, y⟩
      · omega
      · have := y.sg.1
        omega
    cases f with
    | zero => rfl
    | succ f =>
      have fe := fnd_cg (k := k + 1) ag nm (by omega) h1
      have c1 : cpq w (k + 4) N = c := cpq_at eo h5 (by omega)
      have c2 : cpq w' (k + 4) N = c := cpq_at (ag.eo eo (by omega)) (by rw [← (ag.1 c (by omega)).1]; exact h5) (by omega)
      cases hf : fnd9 sm nms (k + 1) with
      | none =>
        rw [sefc_none hf, sefc_none (by rw [← fe]; exact hf), (ag.1 (k + 1) (by omega)).2.1]
      | some e =>
        rw [sefc_some hf, sefc_some (sm := sm') (pl := pl') (W := w') (by rw [← fe]; exact hf), c1, c2, (ag.1 (k + 1) (by omega)).2.1, rf_cg ag nm eo (by omega), ← (ag.1 (c + 1) (by omega)).1]
        by_cases w29 : w (c + 1) = 29
        · rw [if_pos w29, if_pos w29]
          have y := (h6.resolve_left (fun u => u.2 w29)).2
          rw [ih (c + 2) q y hq f (e.1 :: seen)]
        · rw [if_neg w29, if_neg w29]
theorem sef_at : ∀ (f0 k q : Nat), Se w f0 k q → q < N → ∀ (f : Nat) (seen : List Nat), q ≤ k + f → (sef w pl sm N nms f k seen).1.1 = 0 → (sef w pl sm N nms f k seen).2 = q := by
  intro f0
  induction f0 with
  | zero => intro k q h; exact h.elim
  | succ f0 ih =>
    intro k q h hq f seen hf
    obtain ⟨h0, h1, h2, h3, c, eo, h5, h6⟩ := h
    have lt := eo.pr.1
    have cq : c + 1 ≤ q := by
      rcases h6 with ⟨y, -⟩ | ⟨-, y⟩
      · omega
      · have := y.sg.1
        omega
    obtain ⟨f, rfl⟩ : ∃ f1, f = f1 + 1 := ⟨f - 1, by omega⟩
    have c1 : cpq w (k + 4) N = c := cpq_at eo h5 (by omega)
    cases hf9 : fnd9 sm nms (k + 1) with
    | none =>
      rw [sefc_none hf9]
      exact fun u => absurd u (by simp)
    | some e =>
      rw [sefc_some hf9, c1]
      by_cases e3 : e.2.1 = 3
      · rw [if_neg (fun u => u e3)]
        by_cases m : e.1 ∈ seen
        · rw [if_pos m]
          exact fun u => absurd u (by simp)
        · rw [if_neg m]
          by_cases r0 : (rf9 w pl sm nms 0 e.2.2.1 (k + 4) c).1 = 0
          · rw [if_neg (fun u => u r0)]
            by_cases w29 : w (c + 1) = 29
            · rw [if_pos w29]
              have y := (h6.resolve_left (fun u => u.2 w29)).2
              exact ih (c + 2) q y hq f (e.1 :: seen) (by omega)
            · rw [if_neg w29]
              have y := (h6.resolve_right (fun u => w29 u.1)).1
              exact fun _ => y.symm
          · rw [if_pos r0]
            exact fun u => absurd u r0
      · rw [if_pos e3]
        exact fun u => absurd u (by simp)
theorem brf_cg (ag : AgW w w' pl pl' nq nq' sm sm' N) (nm : NmW w N nms) (he : e < N) : ∀ (f0 p : Nat), Br w f0 p e → 1 ≤ p → ∀ (f b : Nat), brf w pl sm N nms e f p b = brf w' pl' sm' N nms e f p b := by
  intro f0
  induction f0 with
  | zero => intro p h; exact h.elim
  | succ f0 ih =>
    intro p h hp f b
    have sg := h.sg.1
    obtain ⟨q, s, eo5, w33, ss, h4⟩ := h
    have eo := eo5.one (show 5 ≤ 6 by omega)
    have lt := eo.pr.1
    have sgs := ss.sg.1
    have se : s ≤ e := by
      rcases h4 with ⟨y, -⟩ | ⟨-, y⟩
      · omega
      · have := y.sg.1
        omega
    cases f with
    | zero => rfl
    | succ f =>
      have c1 : clq w (p - 1) N = q := clq_eo (by rw [show p - 1 + 1 = p by omega]; exact eo) w33 (by omega)
      have c2 : clq w' (p - 1) N = q := clq_eo (by rw [show p - 1 + 1 = p by omega]; exact ag.eo eo (by omega)) (by rw [← (ag.1 q (by omega)).1]; exact w33) (by omega)
      have nxt : ∀ b, brf w pl sm N nms e f (s + 1) b = brf w' pl' sm' N nms e f (s + 1) b := fun b => by
        rcases h4 with ⟨y, -⟩ | ⟨-, y⟩
        · rw [brfc_e (by omega), brfc_e (by omega)]
        · exact ih (s + 1) y (by omega) f b
      rw [brf, brf, c1, c2, (ag.1 p (by omega)).2.1, rf_cg ag nm eo (by omega), ← (ag.1 (q + 1) (by omega)).1]
      rcases ss with ⟨w10, es⟩ | ⟨w10, f1, hse⟩
      · rw [if_pos w10, if_pos w10]
        have e3 : q + 3 = s + 1 := by omega
        rw [e3, nxt]
      · rw [if_neg w10, if_neg w10]
        have s1 := sef_cg ag nm f1 (q + 1) s hse (by omega) N []
        have s2 : (sef w pl sm N nms N (q + 1) []).1.1 = 0 → (sef w pl sm N nms N (q + 1) []).2 = s := sef_at f1 (q + 1) s hse (by omega) N [] (by omega)
        rw [s1] at s2
        rw [s1]
        by_cases z : (sef w' pl' sm' N nms N (q + 1) []).1.1 = 0
        · rw [s2 z, nxt]
        · rw [if_pos z, if_pos z]
theorem itr_cg (ag : AgW w w' pl pl' nq nq' sm sm' N) (nm : NmW w N s.1) (he : e < N) (h1 : w (k + 1) = 1) (eo : Eo w 6 (k + 3) e) : itr w pl nq sm k e s = itr w' pl' nq' sm' k e s := by
  have lt := eo.pr.1
  have a := fun co => rl_cg0 eo (rlC_of (co := co) (i := k + 3) ag nm (Nat.le_of_lt he))
  unfold itr
  simp only []
  rw [← (ag.1 k (by omega)).1, ← (ag.1 k (by omega)).2.1, ← (ag.1 (k + 1) (by omega)).2.1, fnd_cg (k := k + 1) ag nm (by omega) h1, (a _).1, (a _).2.1, (a 0).2.2]
theorem itt_cg (ag : AgW w w' pl pl' nq nq' sm sm' N) (nm : NmW w N s.1) (he : e < N) (eo : Eo w 6 (k + 1) e) : itt w pl sm k e s = itt w' pl' sm' k e s := by
  have lt := eo.pr.1
  unfold itt
  simp only []
  rw [rf_cg ag nm eo (by omega), (ag.1 k (by omega)).2.1]
theorem itv_cg (ag : AgW w w' pl pl' nq nq' sm sm' N) (nm : NmW w N s.1) (he : e < N) (h1 : w (k + 1) = 1) (vs : Vs w (k + 3) i) (hi : (w i ≠ 9 ∧ i = e) ∨ (w i = 9 ∧ Eo w 6 (i + 1) e)) : itv w pl nq sm N k e s = itv w' pl' nq' sm' N k e s := by
  have ie : i ≤ e := by
    rcases hi with ⟨-, y⟩ | ⟨-, y⟩
    · omega
    · have := y.pr.1
      omega
  have ki := vs.sg.1
  have wk := (ag.1 (k + 3) (by omega)).1
  have wi := (ag.1 i (by omega)).1
  have ini : (if w (k + 3) = 5 then k + 4 else nxq w 9 (e - (k + 3)) (k + 3)) = i ∧ (if w' (k + 3) = 5 then k + 4 else nxq w' 9 (e - (k + 3)) (k + 3)) = i := by
    rcases vs with ⟨w5, ei⟩ | ⟨w5, j, eo0, w16, eo1⟩
    · rw [if_pos w5, if_pos (by rw [← wk]; exact w5)]
      omega
    · have a0 := eo0.pr.1
      have a1 := eo1.pr.1
      have no9 : ∀ t, k + 3 ≤ t → t < i → w t ≠ 9 := fun t t1 t2 => by
        by_cases c1 : t < j
        · exact eo0.no9 (Or.inl rfl) t1 c1
        · by_cases c2 : t = j
          · rw [c2, w16]; decide
          · exact eo1.no9 (Or.inl rfl) (by omega) t2
      have no9' : ∀ t, k + 3 ≤ t → t < i → w' t ≠ 9 := fun t t1 t2 => by
        rw [← (ag.1 t (by omega)).1]
        exact no9 t t1 t2
      rw [if_neg w5, if_neg (by rw [← wk]; exact w5)]
      rcases hi with ⟨-, ei⟩ | ⟨w9, eo2⟩
      · rw [nxq_no (fun t t1 t2 => no9 t t1 (by omega)), nxq_no (fun t t1 t2 => no9' t t1 (by omega))]
        omega
      · have := eo2.pr.1
        exact ag.nx (by omega) (by omega) (by omega) w9 no9
  have e1 : ∀ (W P Q : Nat → Int) (S : Nat → Nat → Prop), (if W (k + 3) = 5 then k + 4 else nxq W 9 (e - (k + 3)) (k + 3)) = i → itv W P Q S N k e s = if s.2.1.1 = 12 then (s.1, s.2.1, (5, P k)) else if fnd9 S s.1 (k + 1) ≠ none then (s.1, s.2.1, (2, P (k + 1))) else if (vf9 W P S s.1 k e (nxq W 16 N (k + 3)) i).1 ≠ 0 then (s.1, s.2.1, vf9 W P S s.1 k e (nxq W 16 N (k + 3)) i) else if (vw9 W P Q S s.1 k e (nxq W 16 N (k + 3)) i).1 ≠ 0 then (s.1, s.2.1, vw9 W P Q S s.1 k e (nxq W 16 N (k + 3)) i) else (s.1 ++ [(k + 1, 3, (if W (k + 3) = 5 then 1 else 0), (0, 0, 1))], (s.2.1.1 + 1, s.2.1.2), (0, 0)) := fun W P Q S h => by
    rw [← h]
    rfl
  have r2 : w i = 9 → ∀ co tr, rf9 w pl sm s.1 co tr (i + 1) e = rf9 w' pl' sm' s.1 co tr (i + 1) e ∧ vlq w (cv9 w nq sm s.1) pl 0 0 (i + 1) e = vlq w' (cv9 w' nq' sm' s.1) pl' 0 0 (i + 1) e ∧ pl (i + 1) = pl' (i + 1) := fun w9 co tr => by
    have eo := (hi.resolve_left (fun u => u.1 w9)).2
    have lt := eo.pr.1
    exact ⟨rf_cg ag nm eo (by omega), vq_cg ag nm eo (by omega), (ag.1 (i + 1) (by omega)).2.1⟩
  have r01 : w (k + 3) ≠ 5 → ∃ j, (nxq w 16 N (k + 3) = j ∧ nxq w' 16 N (k + 3) = j) ∧ (∀ co tr, rf9 w pl sm s.1 co tr (k + 3) j = rf9 w' pl' sm' s.1 co tr (k + 3) j ∧ rf9 w pl sm s.1 co tr (j + 1) i = rf9 w' pl' sm' s.1 co tr (j + 1) i) ∧ (vlq w (cv9 w nq sm s.1) pl 0 0 (k + 3) j = vlq w' (cv9 w' nq' sm' s.1) pl' 0 0 (k + 3) j ∧ vlq w (cv9 w nq sm s.1) pl 0 0 (j + 1) i = vlq w' (cv9 w' nq' sm' s.1) pl' 0 0 (j + 1) i) ∧ pl (j + 1) = pl' (j + 1) := fun w5 => by
    obtain ⟨-, j, eo0, w16, eo1⟩ := vs.resolve_left (fun u => w5 u.1)
    have a0 := eo0.pr.1
    have a1 := eo1.pr.1
    exact ⟨j, ag.nx (by omega) (by omega) (by omega) w16 (fun t t1 t2 => eo0.no9 (Or.inr (Or.inl rfl)) t1 t2), fun co tr => ⟨rf_cg ag nm eo0 (by omega), rf_cg ag nm eo1 (by omega)⟩, ⟨vq_cg ag nm eo0 (by omega), vq_cg ag nm eo1 (by omega)⟩, (ag.1 (j + 1) (by omega)).2.1⟩
  have ef : vf9 w pl sm s.1 k e (nxq w 16 N (k + 3)) i = vf9 w' pl' sm' s.1 k e (nxq w' 16 N (k + 3)) i := by
    unfold vf9
    rw [← wk, ← wi]
    by_cases w5 : w (k + 3) = 5
    · rw [if_pos w5, if_pos w5, if_pos w5]
      by_cases w9 : w i = 9
      · rw [if_pos w9, if_pos w9, (r2 w9 1 1).1]
      · rw [if_neg w9, if_neg w9]
    · obtain ⟨j, ⟨j1, j2⟩, j3, -, -⟩ := r01 w5
      rw [if_neg w5, if_neg w5, if_neg w5, j1, j2, (j3 1 0).1, (j3 1 0).2]
      by_cases w9 : w i = 9
      · rw [if_pos w9, if_pos w9, (r2 w9 1 0).1]
      · rw [if_neg w9, if_neg w9]
  have ew : vw9 w pl nq sm s.1 k e (nxq w 16 N (k + 3)) i = vw9 w' pl' nq' sm' s.1 k e (nxq w' 16 N (k + 3)) i := by
    unfold vw9
    simp only []
    rw [← wk, ← wi]
    by_cases w5 : w (k + 3) = 5
    · rw [if_pos w5, if_pos w5, if_pos w5, if_pos w5]
      by_cases w9 : w i = 9
      · rw [if_pos w9, if_pos w9, (r2 w9 0 0).2.1, (r2 w9 0 0).2.2]
      · rw [if_neg w9, if_neg w9]
    · obtain ⟨j, ⟨j1, j2⟩, -, ⟨j3, j4⟩, j5⟩ := r01 w5
      rw [if_neg w5, if_neg w5, if_neg w5, if_neg w5, j1, j2, j3, j4, j5, (ag.1 (k + 3) (by omega)).2.1]
      by_cases w9 : w i = 9
      · rw [if_pos w9, if_pos w9, (r2 w9 0 0).2.1, (r2 w9 0 0).2.2]
      · rw [if_neg w9, if_neg w9]
  rw [e1 w pl nq sm ini.1, e1 w' pl' nq' sm' ini.2, ef, ew, ← wk, fnd_cg (k := k + 1) ag nm (by omega) h1, (ag.1 k (by omega)).2.1, (ag.1 (k + 1) (by omega)).2.1]
theorem itc_cg (ag : AgW w w' pl pl' nq nq' sm sm' N) (nm : NmW w N s.1) (he : e < N) (eo : Eo w 6 (k + 1) j) (w17 : w j = 17) {f0 : Nat} (br : Br w f0 (j + 1) e) : itc w pl sm N 60 k e s = itc w' pl' sm' N 60 k e s := by
  have lt := eo.pr.1
  have je := br.sg.1
  obtain ⟨n1, n2⟩ := ag.nx (x := 17) (f := N) (k := k + 1) (e := j) (by omega) (by omega) (by omega) w17 (fun t t1 t2 => eo.no9 (Or.inr (Or.inr rfl)) t1 t2)
  have b := brf_cg ag nm he f0 (j + 1) br (by omega)
  unfold itc
  simp only [n1, n2]
  rw [rf_cg ag nm eo (by omega), b, (ag.1 k (by omega)).2.1]
theorem ite_nm (nm : NmW w N s.1) (hk : k + 1 < N) (h1 : w k = 3 ∨ w k = 6 ∨ w k = 4 → w (k + 1) = 1) : NmW w N (ite9 w pl nq sm N 60 k s).1 := by
  have add : ∀ x, (w k = 3 ∨ w k = 6 ∨ w k = 4) → NmW w N (s.1 ++ [(k + 1, x)]) := fun x h e he => by
    rcases List.mem_append.mp he with u | u
    · exact nm e u
    · rw [List.mem_singleton.mp u]
      exact ⟨hk, h1 h⟩
  unfold ite9
  simp only []
  by_cases c1 : w k = 3 ∨ w k = 6
  · rw [if_pos c1]
    unfold itr
    simp only []
    repeat' split
    all_goals first | exact nm | exact add _ (by omega)
  · rw [if_neg c1]
    by_cases c2 : w k = 4
    · rw [if_pos c2]
      unfold itv
      simp only []
      repeat' split
      all_goals first | exact nm | exact add _ (by omega)
    · rw [if_neg c2]
      by_cases c3 : w k = 11
      · rw [if_pos c3]
        unfold itt
        simp only []
        repeat' split
        all_goals exact nm
      · rw [if_neg c3]
        unfold itc
        simp only []
        repeat' split
        all_goals exact nm
theorem its_cg (ag : AgW w w' pl pl' nq nq' sm sm' N) : ∀ (f f' k : Nat) (s : st9), N ≤ k + f' → Ac w N f [50] k → NmW w N s.1 → its9 w pl nq sm N 60 f' k s = its9 w' pl' nq' sm' N 60 f' k s := by
  intro f
  induction f using Nat.strongRecOn with
  | ind f ih =>
    intro f' k s hf' hac nm
    cases f' with
    | zero => rfl
    | succ f' =>
      rw [its9, its9]
      by_cases f0 : s.2.2.1 = 0
      · rw [if_neg (show ¬ s.2.2.1 ≠ 0 from fun u => u f0), if_neg (show ¬ s.2.2.1 ≠ 0 from fun u => u f0)]
        rcases ac_item hac with ⟨c0, c1⟩ | ⟨c0, e, g, hg, hit, hac'⟩
        · rw [if_pos c0, if_pos (show w' k = 0 by rw [← (ag.1 k (by omega)).1]; exact c0), (ag.1 k (by omega)).2.1]
        · have eN := ac_le hac'
          have sg := hit.sg
          have kN : k < N := by
            have := hit.2.1
            omega
          obtain ⟨n1, n2⟩ := ag.nx (x := 34) (f := N) (k := k) (e := e) sg.1 (by omega) (by omega) hit.1 sg.2.2.2
          have wk := (ag.1 k kN).1
          rw [if_neg c0, if_neg (by rw [← wk]; exact c0), n1, n2]
          have es : ite9 w pl nq sm N 60 k s = ite9 w' pl' nq' sm' N 60 k s := by
            unfold ite9
            simp only [n1, n2]
            rw [← wk]
            rcases hit.2.2 with ⟨h0, h1, h2, eo⟩ | ⟨h0, h1, h2, i, vs, hi⟩ | ⟨h0, j, f1, eo, w17, br⟩ | ⟨h0, eo⟩
            · rw [if_pos h0, if_pos h0, itr_cg ag nm (by omega) h1 eo]
            · rw [if_neg (show ¬ (w k = 3 ∨ w k = 6) by omega), if_neg (show ¬ (w k = 3 ∨ w k = 6) by omega), if_pos h0, if_pos h0, itv_cg ag nm (by omega) h1 vs hi]
            · rw [if_neg (show ¬ (w k = 3 ∨ w k = 6) by omega), if_neg (show ¬ (w k = 3 ∨ w k = 6) by omega), if_neg (show ¬ (w k = 4) by omega), if_neg (show ¬ (w k = 4) by omega), if_neg (show ¬ (w k = 11) by omega), if_neg (show ¬ (w k = 11) by omega), itc_cg ag nm (by omega) eo w17 br]
            · rw [if_neg (show ¬ (w k = 3 ∨ w k = 6) by omega), if_neg (show ¬ (w k = 3 ∨ w k = 6) by omega), if_neg (show ¬ (w k = 4) by omega), if_neg (show ¬ (w k = 4) by omega), if_pos h0, if_pos h0, itt_cg ag nm (by omega) eo]
          have nm' : NmW w N (ite9 w pl nq sm N 60 k s).1 := ite_nm nm (by have := hit.2.1; omega) (fun u => by
            rcases hit.2.2 with ⟨h0, h1, -⟩ | ⟨h0, h1, -⟩ | ⟨h0, -⟩ | ⟨h0, -⟩
            · exact h1
            · exact h1
            · omega
            · omega)
          rw [← es]
          exact ih g hg f' (e + 1) _ (by have := hit.2.1; omega) hac' nm'
      · rw [if_pos f0, if_pos f0]
end CGC
end
section
/-! The words of a text, pure, and the class's words. -/
theorem ite_P9 {P : Int → Prop} {c : Prop} {_ : Decidable c} {a b : Int} (ha : P a) (hb : P b) : P (if c then a else b) := by
  split
  · exact ha
  · exact hb
theorem kwq_r (l : List Int) : 1 ≤ kwq l ∧ kwq l ≤ 15 ∧ kwq l ≠ 2 := by
  unfold kwq
  repeat' (first | decide | refine ite_P9 (P := fun v : Int => 1 ≤ v ∧ v ≤ 15 ∧ v ≠ 2) ?_ ?_)
theorem sgk_r (x y : Int) : 16 ≤ sgk x y ∧ sgk x y ≤ 39 := by
  unfold sgk
  repeat' (first | decide | refine ite_P9 (P := fun v : Int => 16 ≤ v ∧ v ≤ 39) ?_ ?_)
section CWD
variable {c : Nat → Int} {N n p w T A B D C : Nat} {M : mM}
theorem wkq_L (h : isL (c p)) : wkq (kwx c) c N p = if 40 < weq c N p - p then 39 else kwx c p (weq c N p) := by
  unfold wkq
  rw [if_pos h]
theorem wkq_D (h : ¬ isL (c p)) (h2 : isDq (c p)) : wkq (kwx c) c N p = if 9 < weq c N p - p then 39 else 2 := by
  unfold wkq
  rw [if_neg h, if_pos h2]
theorem wkq_S (h : ¬ isL (c p)) (h2 : ¬ isDq (c p)) : wkq (kwx c) c N p = sgk (c p) (lq c N (p + 1)) := by
  unfold wkq
  rw [if_neg h, if_neg h2]
theorem wk_1 (h : wkq (kwx c) c N p = 1) : isL (c p) := Classical.byContradiction (fun hL => by
  by_cases hD : isDq (c p)
  · rw [wkq_D hL hD] at h
    split at h <;> exact absurd h (by first | decide | simp)
  · rw [wkq_S hL hD] at h
    have := sgk_r (c p) (lq c N (p + 1))
    omega)
theorem wk_2 (h : wkq (kwx c) c N p = 2) : isDq (c p) := Classical.byContradiction (fun hD => by
  by_cases hL : isL (c p)
  · rw [wkq_L hL] at h
    split at h
    · exact absurd h (by first | decide | simp)
    · exact (kwq_r _).2.2 h
  · rw [wkq_S hL hD] at h
    have := sgk_r (c p) (lq c N (p + 1))
    omega)
theorem wk_b : 0 ≤ wkq (kwx c) c N p ∧ wkq (kwx c) c N p ≤ 39 := by
  by_cases hL : isL (c p)
  · rw [wkq_L hL]
    split
    · decide
    · have := kwq_r (wlq c p (weq c N p))
      show 0 ≤ kwq (wlq c p (weq c N p)) ∧ kwq (wlq c p (weq c N p)) ≤ 39
      omega
  · by_cases hD : isDq (c p)
    · rw [wkq_D hL hD]
      split <;> decide
    · rw [wkq_S hL hD]
      have := sgk_r (c p) (lq c N (p + 1))
      omega
/-- places, numbers, and which words are spelt alike -/
noncomputable def pl0 (c : Nat → Int) (N n j : Nat) : Int := if j < n then (pwq c N j : Int) else N
noncomputable def nq0 (c : Nat → Int) (N j : Nat) : Int := numq c (pwq c N j) (weq c N (pwq c N j) - pwq c N j)
def sm0 (c : Nat → Int) (N x v : Nat) : Prop := (weq c N (pwq c N x) : Int) - pwq c N x = (weq c N (pwq c N v) : Int) - pwq c N v ∧ ∀ i : Nat, (i : Int) < (weq c N (pwq c N v) : Int) - pwq c N v → c (pwq c N x + i) = c (pwq c N v + i)
theorem cwq_l {j : Nat} (h : j < n) : cwq kwx c N n j = wkq (kwx c) c N (pwq c N j) := if_pos h
/-! The words hang on the text's N characters alone. -/
section WCG
variable {c' : Nat → Int} {i f : Nat} {b : Bool}
theorem skq_cg : ∀ (f : Nat) (b : Bool) (i : Nat), (∀ j, i ≤ j → j < i + f → c j = c' j) → skq c f b i = skq c' f b i
  | 0, _, _, _ => rfl
  | f + 1, b, i, h => by
    have e := h i (Nat.le_refl _) (by omega)
    have r1 := skq_cg f true (i + 1) (fun j a b => h j (by omega) (by omega))
    have r2 := skq_cg f false (i + 1) (fun j a b => h j (by omega) (by omega))
    by_cases h1 : c i = 35 ∨ (b = true ∧ c i ≠ 10)
    · rw [skq_rem h1, skq_rem (by rw [← e]; exact h1), r1]
    · by_cases h2 : blq (c i)
      · rw [skq_bl h1 h2, skq_bl (by rw [← e]; exact h1) (by rw [← e]; exact h2), r2]
      · rw [skq_end h1 h2, skq_end (by rw [← e]; exact h1) (by rw [← e]; exact h2)]
theorem enq_cg {P : Int → Prop} : ∀ (f i : Nat), (∀ j, i ≤ j → j < i + f → c j = c' j) → enq P c f i = enq P c' f i
  | 0, _, _ => rfl
  | f + 1, i, h => by
    have e := h i (Nat.le_refl _) (by omega)
    by_cases h1 : P (c i)
    · rw [enq_y h1, enq_y (by rw [← e]; exact h1), enq_cg f (i + 1) (fun j a b => h j (by omega) (by omega))]
    · rw [enq_n h1, enq_n (by rw [← e]; exact h1)]
theorem weq_cg (h : ∀ j, j < N → c j = c' j) (hp : p < N) : weq c N p = weq c' N p := by
  have l : lq c N (p + 1) = lq c' N (p + 1) := by
    unfold lq
    by_cases y : p + 1 < N
    · rw [if_pos y, if_pos y, h _ y]
    · rw [if_neg y, if_neg y]
  unfold weq
  rw [h p hp, l, enq_cg (N - p) p (fun j _ b => h j (by omega)), enq_cg (N - p) p (fun j _ b => h j (by omega))]
theorem wlq_cg (h : ∀ j, j < N → c j = c' j) {e : Nat} (he : e ≤ N) : wlq c p e = wlq c' p e := by
  unfold wlq
  refine List.map_congr_left (fun j hj => ?_)
  have := List.mem_range.mp hj
  exact h _ (by omega)
theorem wkq_cg (h : ∀ j, j < N → c j = c' j) (hp : p < N) : wkq (kwx c) c N p = wkq (kwx c') c' N p := by
  have l : lq c N (p + 1) = lq c' N (p + 1) := by
    unfold lq
    by_cases y : p + 1 < N
    · rw [if_pos y, if_pos y, h _ y]
    · rw [if_neg y, if_neg y]
  have e := weq_cg h hp
  have b := (weq_b (c := c) hp).2
  unfold wkq kwx
  rw [h p hp, l, ← e, wlq_cg h b]
theorem pwq_cg (h : ∀ j, j < N → c j = c' j) : ∀ j, (∀ i, i < j → pwq c N i < N) → pwq c N j = pwq c' N j
  | 0, _ => by
    show skp c N 0 = skp c' N 0
    exact skq_cg _ _ _ (fun j _ b => h j (by omega))
  | j + 1, hj => by
    have ih := pwq_cg h j (fun i hi => hj i (by omega))
    have lt := hj j (by omega)
    show skp c N (weq c N (pwq c N j)) = skp c' N (weq c' N (pwq c' N j))
    rw [← ih, ← weq_cg h lt]
    have b := (weq_b (c := c) lt).2
    exact skq_cg _ _ _ (fun j _ b => h j (by omega))
theorem numq_cg (h : ∀ j, j < N → c j = c' j) : ∀ l, p + l ≤ N → numq c p l = numq c' p l
  | 0, _ => rfl
  | l + 1, hl => by
    show 10 * numq c p l + (c (p + l) - 48) = 10 * numq c' p l + (c' (p + l) - 48)
    rw [numq_cg h l (by omega), h (p + l) (by omega)]
theorem spx_cg (h : ∀ j, j < N → c j = c' j) (s : spx kwx c N M A B D n) : spx kwx c' N M A B D n := by
  obtain ⟨s1, s2, s3⟩ := s
  have pj : ∀ j, j ≤ n → pwq c N j = pwq c' N j := fun j hj => pwq_cg h j (fun i hi => (s1 i (by omega)).1)
  have kj : ∀ j, j < n → wkq (kwx c) c N (pwq c N j) = wkq (kwx c') c' N (pwq c' N j) := fun j hj => by
    rw [← pj j (by omega)]
    exact wkq_cg h (s1 j hj).1
  refine ⟨fun i hi => ?_, fun i hi => by rw [← kj i (by omega)]; exact s2 i hi, ?_⟩
  · obtain ⟨lt, k1, k2, k3, k4⟩ := s1 i hi
    have wb := weq_b (c := c) lt
    have e := weq_cg h lt
    have k5 := kj i hi
    rw [pj i (by omega)] at lt k1 k2 k3 k4 wb e k5
    refine ⟨lt, ?_, k2, fun u => ?_, fun u v => ?_⟩
    · rw [k1, k5]
    · rw [← e]
      exact k3 (by rw [h _ lt]; exact u)
    · rw [← e, ← numq_cg h _ (by omega)]
      exact k4 (by rw [h _ lt]; exact u) (by rw [k5]; exact v)
  · rcases s3 with ⟨a1, a2⟩ | ⟨a1, a2⟩
    · exact Or.inl ⟨by rw [← pj n (Nat.le_refl _)]; exact a1, fun i hi => by rw [← kj i hi]; exact a2 i hi⟩
    · exact Or.inr ⟨a1, by rw [← kj (n - 1) (by omega)]; exact a2⟩
end WCG
theorem wt_of (hT : ∀ j, j < N → mI M T j = c j) (h : spx kwx c N M A B D n) (wf : Wf M w T A B D N C n) : WTq M T A B D n (cwq kwx c N n) (pl0 c N n) (nq0 c N) (sm0 c N) := by
  obtain ⟨-, -, -, wd, hA, hB⟩ := wf
  refine ⟨fun j hj => ⟨?_, wd_sort h hA j hj, ?_⟩, fun v hv h2 => ?_, fun v x hv hx h1 h2 => ?_⟩
  · by_cases y : j < n
    · rw [cwq_l y]
      exact wk_b
    · unfold cwq
      rw [if_neg y]
      decide
  · unfold pl0
    by_cases y : j < n
    · rw [if_pos y]
      exact (h.1 j y).2.2.1
    · rw [if_neg y, show j = n by omega]
      exact hB
  · rw [cwq_l hv] at h2
    obtain ⟨-, k1, k2, k3, k4⟩ := h.1 v hv
    have s3 : mI M A v = 3 := by rw [k1, h2]; rfl
    obtain ⟨b1, b2⟩ := (wd v hv).2.2.2 s3
    have e : mI M D v = nq0 c N v := k4 (wk_2 h2) (by rw [h2]; decide)
    refine ⟨e, ?_⟩
    rw [← e]
    exact ⟨b1, b2⟩
  · rw [cwq_l hv] at h1
    rw [cwq_l hx] at h2
    obtain ⟨pv, -, v2, v3, -⟩ := h.1 v hv
    obtain ⟨px, -, x2, x3, -⟩ := h.1 x hx
    have bv := (weq_b (c := c) pv).2
    have bx := (weq_b (c := c) px).2
    unfold sm0 swq
    rw [v2, x2, v3 (wk_1 h1), x3 (wk_1 h2), Int.toNat_natCast, Int.toNat_natCast]
    refine ⟨fun u => ⟨u.1, fun i hi => ?_⟩, fun u => ⟨u.1, fun i hi => ?_⟩⟩
    · have u1 := u.1
      rw [hT _ (by omega), hT _ (by omega)]
      exact u.2 i hi
    · have u1 := u.1
      rw [← hT _ (by omega), ← hT _ (by omega)]
      exact u.2 i hi
end CWD
end
