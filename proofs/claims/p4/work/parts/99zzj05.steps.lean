/-! The class's reader: more steps over its piles. -/
section OS9
variable {w E pl O P O' P' : Nat → Int} {ec : Nat → Int × Int} {i0 s : Nat} {f0 : Int × Int} {gs t : List gqq} {od mq kn : List Int} {ft : Int × Int} {L a m x c : Nat} {o : Int}
theorem lsq_le (o : Int) : lsq o ≤ 6 := by unfold lsq; (repeat' split) <;> omega
/-- behind an operand comes a sign -/
theorem OPq.sbin (h : OPq w E pl O P ec i0 s f0 c gs od mq kn ft L a) (ho : 19 ≤ o ∧ o ≤ 29) (hw : w a = o - 1) (hc : c ≤ lsq o) : GSq w E pl O P ec i0 s f0 ((o, a, a + 1) :: gs) (-1 :: od) (0 :: mq) kn ft L := by
  obtain ⟨kn', ft', e', h1, h2, h3, h4, h5⟩ := h
  exact ⟨-1, od, 0, mq, kn', ft', e', rfl, rfl, Nat.le_of_lt h5.lt, Or.inr (Or.inl ⟨ho, hw, rfl, h2.le hc (lsq_le o), rfl, rfl, h3, h4, h5⟩), h1⟩
theorem OPq.sjmp (h : OPq w E pl O P ec i0 s f0 c gs od mq kn ft L a) (ho : o = 30 ∨ o = 31) (hw : w a = o - 1) (hc : c ≤ lsq o) (hO : ∀ t, t < L → O' t = O t ∧ P' t = P t) (hL : O' L = o) : GSq w E pl O' P' ec i0 s f0 ((o, a, a + 1) :: gs) ((L : Int) :: od) (0 :: mq) kn ft (L + 1) := by
  obtain ⟨kn', ft', e', h1, h2, h3, h4, h5⟩ := h
  have l := h5.lt
  exact ⟨L, od, 0, mq, kn', ft', e', rfl, rfl, by omega, Or.inr (Or.inr (Or.inl ⟨ho, hw, rfl, h2.le hc (lsq_le o), rfl, h3, h4, L, rfl, rfl, hL, h5.cg (fun u _ v => hO u v)⟩)), h1.cg (fun u v => hO u (by omega))⟩
theorem OPq.sask (h : OPq w E pl O P ec i0 s f0 c gs od mq kn ft L a) (hw : w a = 32) (hc : c ≤ 5) (hO : ∀ t, t < L → O' t = O t ∧ P' t = P t) (hL : O' L = 33) : ∃ last kn', kn = last :: kn' ∧ (last = 0 ∨ last = 1) ∧ GSq w E pl O' P' ec i0 s f0 ((33, a, a + 1) :: gs) ((L : Int) :: od) ((if last = 1 then 0 else 1) :: mq) kn' ft (L + 1) := by
  obtain ⟨kn', ft', e', h1, h2, h3, h4, h5⟩ := h
  have l := h5.lt
  exact ⟨_, kn', h3, kd_01, L, od, _, mq, kn', ft', e', rfl, rfl, by omega, Or.inr (Or.inr (Or.inr (Or.inl ⟨rfl, hw, rfl, h2.le hc (by omega), rfl, rfl, h4, L, rfl, rfl, hL, h5.cg (fun u _ v => hO u v)⟩))), h1.cg (fun u v => hO u (by omega))⟩
/-- the ':' of a '?' -/
theorem OPq.colon (h : OPq w E pl O P ec i0 s f0 c ((33, m, x) :: t) od mq kn ft L a) (hw : w a = 33) (hc : c ≤ 6) : ∃ (d : Nat) (od' : List Int) (k : Int) (mq' : List Int) (last : Int) (kn' : List Int), od = (d : Int) :: od' ∧ mq = k :: mq' ∧ kn = last :: kn' ∧ ((last = 0 ∨ last = 1) ∧ (k = 0 ∨ k = 1)) ∧ d < L ∧ ∀ O' P' : Nat → Int, (∀ t, t < L → O' t = O t) → (∀ t, t < L → t ≠ d → P' t = P t) → O' L = 42 → P' d = (L : Int) + 1 → GSq w E pl O' P' ec i0 s f0 ((42, m, a + 1) :: t) ((L : Int) :: od') ((k + if last = 1 then 4 else 0) :: mq') kn' ft (L + 1) := by
  obtain ⟨kn', ft', e', ⟨d, od', k, mq', kn1, ft1, e1, g1, g2, g3, g4, g5⟩, h2, h3, h4, h5⟩ := h
  have h2 : Eo w c x a := h2
  have h3 : kn = kdq w E 0 x a :: kn' := h3
  have h4 : ft = fst9 ft' (fl w E pl 0 x a) := h4
  have h5 : Cd w ec pl O P 0 0 0 x a e' L := h5
  have g4 : Gop w E pl O P ec 33 m x (xs9 i0 t) d k kn1 kn' ft1 ft' e1 e' := g4
  rcases g4 with ⟨q1, -⟩ | ⟨q1, -⟩ | ⟨q1, -⟩ | ⟨q1, q2, q3, q4, q6, q7, q8, d9, r1, r2, r3, q9⟩ | ⟨q1, -⟩ | ⟨q1, -⟩
  · omega
  · omega
  · omega
  · subst q3 q7 q8 r1 r2
    have l5 := h5.lt
    have l9 := q9.lt
    have hj := h2.pr.1
    refine ⟨d9, od', k, mq', _, kn', g1, g2, h3, ⟨kd_01, by rw [q6]; split <;> omega⟩, by omega, fun O' P' hO hP hL hd => ?_⟩
    refine ⟨L, od', _, mq', kn', ft1, e1, rfl, rfl, by omega, Or.inr (Or.inr (Or.inr (Or.inr (Or.inl ⟨rfl, q2, q4, by show m + 1 < a + 1; omega, h2.le hc (by omega), hw, by rw [q6]; rfl, rfl, ?_, d9, L, rfl, rfl, by rw [hO d9 (by omega)]; exact r3, hd, hL, q9.cg (fun u _ v => ⟨hO u (by omega), hP u (by omega) (by omega)⟩), h5.cg (fun u v1 v => ⟨hO u v, hP u v (by omega)⟩)⟩)))), g5.cg (fun u v => ⟨hO u (by omega), hP u (by omega) (by omega)⟩)⟩
    exact h4
  · omega
  · omega
/-- a part of a list is over -/
theorem OPq.part (h : OPq w E pl O P ec i0 s f0 c ((o, m, x) :: t) od mq kn ft L a) (ho : o = 15 ∨ o = 16) (hc : c ≤ 6) : ∃ (od' : List Int) (k : Int) (mq' : List Int) (last : Int) (kn' : List Int), od = -1 :: od' ∧ mq = k :: mq' ∧ kn = last :: kn' ∧ ((last = 0 ∨ last = 1) ∧ (k = 0 ∨ k = 2 ∨ k = 3)) ∧ w m = o - 1 ∧ w (m + 1) = 36 ∧ m = xs9 i0 t ∧ m + 2 < a ∧ Eo w 7 (m + 2) a ∧ kdq w E 1 (m + 2) a = (if k = 3 ∨ last = 1 then 1 else 0) ∧ ∃ ft1 e1, ft = fst9 ft1 (fl w E pl 1 (m + 2) a) ∧ e1 < L ∧ (∀ O' P' : Nat → Int, (∀ t, t < L → O' t = O t ∧ P' t = P t) → GSq w E pl O' P' ec i0 s f0 t od' mq' kn' ft1 e1) ∧ ∀ O' P' : Nat → Int, (∀ t, t < L → O' t = O t ∧ P' t = P t) → (k = 0 → Cd w ec pl O' P' 1 o (pl m) (m + 2) a e1 L) ∧ (k ≠ 0 → O' L = o → P' L = pl m → Cd w ec pl O' P' 1 o (pl m) (m + 2) a e1 (L + 1)) := by
  obtain ⟨kn', ft', e', ⟨d, od', k, mq', kn1, ft1, e1, g1, g2, g3, g4, g5⟩, h2, h3, h4, h5⟩ := h
  have h2 : Eo w c x a := h2
  have h3 : kn = kdq w E 0 x a :: kn' := h3
  have h4 : ft = fst9 ft' (fl w E pl 0 x a) := h4
  have h5 : Cd w ec pl O P 0 0 0 x a e' L := h5
  have g4 : Gop w E pl O P ec o m x (xs9 i0 t) d k kn1 kn' ft1 ft' e1 e' := g4
  have h6 : Eo w 6 x a := h2.le hc (by omega)
  have l5 := h5.lt
  have hj := h6.pr.1
  have k3 := kd_01 (w := w) (E := E) (c := 0) (i := x) (j := a)
  rcases g4 with ⟨q1, -⟩ | ⟨q1, -⟩ | ⟨q1, -⟩ | ⟨q1, -⟩ | ⟨q1, -⟩ | ⟨q1, q2, q3, q4, q5, q6, q7⟩
  · omega
  · omega
  · omega
  · omega
  · omega
  · subst q5 q6
    rcases q7 with ⟨r1, r2, r3, r4⟩ | ⟨r1, r2, r3, r4, r5, r6⟩
    · subst r1 r2 r3 r4
      have l0 := lcq_eo h6 (by omega)
      refine ⟨od', 0, mq', _, kn', g1, g2, h3, ⟨k3, Or.inl rfl⟩, q2, q3, q4, hj, h6.one (by omega), ?_, ft', e', ?_, l5, fun O' P' hO => g5.cg (fun u v => hO u (by omega)), fun O' P' hO => ⟨fun _ => (Cd_l1 hj l0).mpr (h5.cg (fun u _ v => hO u v)), fun q => absurd rfl q⟩⟩
      · rw [kd_l1 hj l0]
        rcases k3 with k3 | k3 <;> rw [k3] <;> decide
      · rw [fl_l1 hj l0]; exact h4
    · have ex1 : x - 1 + 1 = x := by omega
      have h6' : Eo w 6 (x - 1 + 1) a := by rw [ex1]; exact h6
      have l0 := lcq_7 r2 r3 h6'
      have k1 := kd_01 (w := w) (E := E) (c := 1) (i := m + 2) (j := x - 1)
      have l6 := r6.lt
      have hm := r2.pr.1
      refine ⟨od', k, mq', _, kn', g1, g2, h3, ⟨k3, by omega⟩, q2, q3, q4, by omega, eo7 r3 r2 h6', ?_, ft1, e1, ?_, by omega, fun O' P' hO => g5.cg (fun u v => hO u (by omega)), fun O' P' hO => ⟨fun q => by omega, fun _ hL hP => (Cd_ln (m := x - 1) (by omega) l0 (by omega)).mpr ⟨e', L, r6.cg (fun u _ v => hO u (by omega)), by rw [ex1]; exact h5.cg (fun u _ v => hO u v), rfl, hL, hP⟩⟩⟩
      · rw [kd_ln (m := x - 1) (by omega) l0 (by omega), ex1, r4]
        rcases k1 with k1 | k1 <;> rcases k3 with k3 | k3 <;> rw [k1, k3] <;> decide
      · rw [fl_ln (m := x - 1) (by omega) l0 (by omega), ex1, h4, r5, fst9_a]
theorem OPq.comma (h : OPq w E pl O P ec i0 s f0 c ((o, m, x) :: t) od mq kn ft L a) (ho : o = 15 ∨ o = 16) (hc : c ≤ 6) (hw : w a = 35) : ∃ (od' : List Int) (k : Int) (mq' : List Int) (last : Int) (kn' : List Int), od = -1 :: od' ∧ mq = k :: mq' ∧ kn = last :: kn' ∧ ((last = 0 ∨ last = 1) ∧ (k = 0 ∨ k = 2 ∨ k = 3)) ∧ ∀ (O' P' : Nat → Int) (L' : Nat), (∀ t, t < L → O' t = O t ∧ P' t = P t) → (k = 0 → L' = L) → (k ≠ 0 → L' = L + 1 ∧ O' L = o ∧ P' L = pl m) → GSq w E pl O' P' ec i0 s f0 ((o, m, a + 1) :: t) (-1 :: od') ((if k = 3 ∨ last = 1 then 3 else 2) :: mq') kn' ft L' := by
  obtain ⟨od', k, mq', last, kn', h1, h2, h3, h4, h5, h6, h7, h8, h9, h10, ft1, e1, h11, h12, h13, h14⟩ := h.part ho hc
  refine ⟨od', k, mq', last, kn', h1, h2, h3, h4, fun O' P' L' hO hL0 hL1 => ?_⟩
  have cd : Cd w ec pl O' P' 1 o (pl m) (m + 2) a e1 L' := by
    by_cases z : k = 0
    · rw [hL0 z]; exact (h14 O' P' hO).1 z
    · obtain ⟨a1, a2, a3⟩ := hL1 z
      rw [a1]; exact (h14 O' P' hO).2 z a2 a3
  refine ⟨-1, od', _, mq', kn', ft1, e1, rfl, rfl, Nat.le_of_lt cd.lt, Or.inr (Or.inr (Or.inr (Or.inr (Or.inr ⟨ho, h5, h6, h7, rfl, rfl, Or.inr ⟨by show m + 2 < a + 1; omega, h9, hw, ?_, h11, cd⟩⟩)))), h13 O' P' hO⟩
  show (if k = 3 ∨ last = 1 then (3 : Int) else 2) = 2 + kdq w E 1 (m + 2) a
  rw [h10]
  by_cases z : k = 3 ∨ last = 1
  · rw [if_pos z, if_pos z]; rfl
  · rw [if_neg z, if_neg z]; rfl
theorem OPq.clos (h : OPq w E pl O P ec i0 s f0 c ((o, m, x) :: t) od mq kn ft L a) (ho : o = 15 ∨ o = 16) (hc : c ≤ 6) (hw : w a = 37) : ∃ (od' : List Int) (k : Int) (mq' : List Int) (last : Int) (kn' : List Int), od = -1 :: od' ∧ mq = k :: mq' ∧ kn = last :: kn' ∧ ((last = 0 ∨ last = 1) ∧ (k = 0 ∨ k = 2 ∨ k = 3)) ∧ ∀ (O' P' : Nat → Int) (L' : Nat), (∀ t, t < L → O' t = O t ∧ P' t = P t) → (k = 0 → L' = L) → (k ≠ 0 → L' = L + 1 ∧ O' L = o ∧ P' L = pl m) → OPq w E pl O' P' ec i0 s f0 0 t od' mq' (0 :: kn') (fst9 ft (kft (¬ (k = 3 ∨ last = 1)) (pl m))) L' (a + 1) := by
  obtain ⟨od', k, mq', last, kn', h1, h2, h3, h4, h5, h6, h7, h8, h9, h10, ft1, e1, h11, h12, h13, h14⟩ := h.part ho hc
  refine ⟨od', k, mq', last, kn', h1, h2, h3, h4, fun O' P' L' hO hL0 hL1 => ?_⟩
  have cd : Cd w ec pl O' P' 1 o (pl m) (m + 2) a e1 L' := by
    by_cases z : k = 0
    · rw [hL0 z]; exact (h14 O' P' hO).1 z
    · obtain ⟨a1, a2, a3⟩ := hL1 z
      rw [a1]; exact (h14 O' P' hO).2 z a2 a3
  have h15 : w m = 14 ∨ w m = 15 := by omega
  have eo : Eo w 0 m (a + 1) := eo0_lst h15 h6 hw h9
  have hlo := lo_none eo.pr
  refine ⟨kn', ft1, e1, h13 O' P' hO, by rw [← h7]; exact eo, by rw [← h7, kd_num hlo (by omega) (by omega)], ?_, ?_⟩
  · rw [← h7, fl_lst hlo (by omega) h15, show a + 1 - 1 = a by omega, h11, fst9_a]
    refine congrArg (fun z => fst9 ft1 (fst9 _ z)) (kft_iff ?_)
    rw [h10]
    by_cases z : k = 3 ∨ last = 1
    · rw [if_pos z]
      exact ⟨fun q => absurd z q, fun q => absurd q (by decide)⟩
    · rw [if_neg z]
      exact ⟨fun _ => rfl, fun _ => z⟩
  · rw [← h7]
    refine (Cd_lst hlo (by omega) h15).mpr ?_
    rw [show a + 1 - 1 = a by omega, h5, show o - 1 + 1 = o by omega]
    exact cd
theorem OPq.cpar (h : OPq w E pl O P ec i0 s f0 c ((37, m, x) :: t) od mq kn ft L a) (hc : c ≤ 6) (hw : w a = 37) : ∃ (od' mq' : List Int), od = -1 :: od' ∧ mq = 0 :: mq' ∧ OPq w E pl O P ec i0 s f0 0 t od' mq' kn ft L (a + 1) := by
  obtain ⟨kn', ft', e', ⟨d, od', k, mq', kn1, ft1, e1, g1, g2, g3, g4, g5⟩, h2, h3, h4, h5⟩ := h
  have h2 : Eo w c x a := h2
  have h3 : kn = kdq w E 0 x a :: kn' := h3
  have h4 : ft = fst9 ft' (fl w E pl 0 x a) := h4
  have h5 : Cd w ec pl O P 0 0 0 x a e' L := h5
  have g4 : Gop w E pl O P ec 37 m x (xs9 i0 t) d k kn1 kn' ft1 ft' e1 e' := g4
  rcases g4 with ⟨q1, q2, q3, q4, q5, q6, q7, q8⟩ | ⟨q1, -⟩ | ⟨q1, -⟩ | ⟨q1, -⟩ | ⟨q1, -⟩ | ⟨q1, -⟩
  · subst q4 q5 q6 q7 q8
    have hx : x = m + 1 := by omega
    subst hx
    have hw36 : w m = 36 := by omega
    have eo : Eo w 0 m (a + 1) := eo0_par hw36 hw (h2.le hc (by omega))
    have hlo := lo_none eo.pr
    refine ⟨od', mq', g1, g2, kn', ft', e', g5, by rw [← q2]; exact eo, ?_, ?_, ?_⟩
    · rw [← q2, kd_par hlo (by have := h2.pr.1; omega) hw36]; exact h3
    · rw [← q2, fl_par hlo (by have := h2.pr.1; omega) hw36]; exact h4
    · rw [← q2]
      exact (Cd_par hlo (by have := h2.pr.1; omega) hw36).mpr h5
  · omega
  · omega
  · omega
  · omega
  · omega
/-- the rule is over: one operand is left -/
theorem OPq.done (h : OPq w E pl O P ec i0 s f0 c [] od mq kn ft L a) : Eo w c i0 a ∧ kn = [kdq w E 0 i0 a] ∧ ft = fst9 f0 (fl w E pl 0 i0 a) ∧ Cd w ec pl O P 0 0 0 i0 a s L := by
  obtain ⟨kn', ft', e', ⟨-, -, g3, g4, g5⟩, h2, h3, h4, h5⟩ := h
  subst g3 g4 g5
  exact ⟨h2, h3, h4, h5⟩
end OS9
