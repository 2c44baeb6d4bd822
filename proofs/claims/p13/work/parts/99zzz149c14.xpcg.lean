/-! What exploring a text comes to hangs on its own words alone: pure. -/
section XCA
variable {ev ev' : List Int → Nat → Nat → vrs} {stp stp' : List Int → List (Nat × Nat × Nat × Nat) → (Int × Int) × List Int} {sg : List Int}
theorem chq_cg : ∀ (l : List br9), (∀ b, b ∈ l → ev sg b.2.1.1 b.2.1.2 = ev' sg b.2.1.1 b.2.1.2) → chq9 ev sg l = chq9 ev' sg l
  | [], _ => rfl
  | b :: r, h => by
    have hb := h b List.mem_cons_self
    have ih := chq_cg r (fun x hx => h x (List.mem_cons_of_mem _ hx))
    unfold chq9
    rw [hb, ih]
theorem flq_cg {pc m : Int} {nb : Nat} : ∀ (l : List (br9 × (Int × Int))), (∀ x, x ∈ l → stp sg x.1.2.2 = stp' sg x.1.2.2) → ∀ S B, flq9 stp sg pc m nb l S B = flq9 stp' sg pc m nb l S B
  | [], _ => fun _ _ => rfl
  | x :: r, h => fun S B => by
    have hx := h x List.mem_cons_self
    have ih := flq_cg (pc := pc) (m := m) (nb := nb) r (fun y hy => h y (List.mem_cons_of_mem _ hy))
    simp only [flq9, hx, ih]
theorem tcq_cg {nb c : Nat} {cm : cm9} {s : sl9} (hg : ev sg cm.2.2.1.1 cm.2.2.1.2 = ev' sg cm.2.2.1.1 cm.2.2.1.2) (hb : ∀ b, b ∈ cm.2.2.2 → ev sg b.2.1.1 b.2.1.2 = ev' sg b.2.1.1 b.2.1.2 ∧ stp sg b.2.2 = stp' sg b.2.2) : tcq9 ev stp sg nb c cm s = tcq9 ev' stp' sg nb c cm s := by
  have hch := chq_cg (ev := ev) (ev' := ev') (sg := sg) cm.2.2.2 (fun b hx => (hb b hx).1)
  have hf : ∀ (pc m : Int) (n9 : Nat) (l : List (Int × Int)) S B, flq9 stp sg pc m n9 (cm.2.2.2.zip l) S B = flq9 stp' sg pc m n9 (cm.2.2.2.zip l) S B := fun pc m n9 l S B => flq_cg _ (fun x hx => (hb x.1 (List.of_mem_zip hx).1).2) S B
  unfold tcq9
  rw [hg, hch]
  simp only [hf]
theorem tsq_cg {nb : Nat} : ∀ (l : List cm9), (∀ cm, cm ∈ l → ev sg cm.2.2.1.1 cm.2.2.1.2 = ev' sg cm.2.2.1.1 cm.2.2.1.2 ∧ ∀ b, b ∈ cm.2.2.2 → ev sg b.2.1.1 b.2.1.2 = ev' sg b.2.1.1 b.2.1.2 ∧ stp sg b.2.2 = stp' sg b.2.2) → ∀ (c : Nat) (s : sl9), tsq9 ev stp sg nb l c s = tsq9 ev' stp' sg nb l c s
  | [], _ => fun _ _ => rfl
  | cm :: r, h => fun c s => by
    have h1 := h cm List.mem_cons_self
    have ih := tsq_cg (nb := nb) r (fun y hy => h y (List.mem_cons_of_mem _ hy))
    show (if s.1.1 ≠ 0 then s else tsq9 ev stp sg nb r (c + 1) (tcq9 ev stp sg nb c cm s)) = (if s.1.1 ≠ 0 then s else tsq9 ev' stp' sg nb r (c + 1) (tcq9 ev' stp' sg nb c cm s))
    rw [tcq_cg h1.1 h1.2, ih]
theorem ssq_cg {nb : Nat} {tg : Nat × Nat} {cms : List cm9} {S : List (List Int)} (ht : ev sg tg.1 tg.2 = ev' sg tg.1 tg.2) (h : ∀ cm, cm ∈ cms → ev sg cm.2.2.1.1 cm.2.2.1.2 = ev' sg cm.2.2.1.1 cm.2.2.1.2 ∧ ∀ b, b ∈ cm.2.2.2 → ev sg b.2.1.1 b.2.1.2 = ev' sg b.2.1.1 b.2.1.2 ∧ stp sg b.2.2 = stp' sg b.2.2) : ssq9 ev stp tg cms sg nb S = ssq9 ev' stp' tg cms sg nb S := by
  unfold ssq9
  rw [ht, tsq_cg cms h]
theorem exq_cg {tg : Nat × Nat} {cms : List cm9} (ht : ∀ sg, ev sg tg.1 tg.2 = ev' sg tg.1 tg.2) (h : ∀ cm, cm ∈ cms → (∀ sg, ev sg cm.2.2.1.1 cm.2.2.1.2 = ev' sg cm.2.2.1.1 cm.2.2.1.2) ∧ ∀ b, b ∈ cm.2.2.2 → (∀ sg, ev sg b.2.1.1 b.2.1.2 = ev' sg b.2.1.1 b.2.1.2) ∧ ∀ sg, stp sg b.2.2 = stp' sg b.2.2) : ∀ (f k : Nat) (S : List (List Int)) (T : xt9), exq9 ev stp tg cms f k S T = exq9 ev' stp' tg cms f k S T := by
  have hs : ∀ (sg : List Int) (nb : Nat) (S : List (List Int)), ssq9 ev stp tg cms sg nb S = ssq9 ev' stp' tg cms sg nb S := fun sg nb S => ssq_cg (ht sg) (fun cm hc => ⟨(h cm hc).1 sg, fun b hb => ⟨((h cm hc).2 b hb).1 sg, ((h cm hc).2 b hb).2 sg⟩⟩)
  intro f
  induction f with
  | zero => intro k S T; rfl
  | succ f ih =>
    intro k S T
    simp only [exq9, hs, ih]
theorem xpl_cg {tg : Nat × Nat} {cms : List cm9} {s0 : List Int} (ht : ∀ sg, ev sg tg.1 tg.2 = ev' sg tg.1 tg.2) (h : ∀ cm, cm ∈ cms → (∀ sg, ev sg cm.2.2.1.1 cm.2.2.1.2 = ev' sg cm.2.2.1.1 cm.2.2.1.2) ∧ ∀ b, b ∈ cm.2.2.2 → (∀ sg, ev sg b.2.1.1 b.2.1.2 = ev' sg b.2.1.1 b.2.1.2) ∧ ∀ sg, stp sg b.2.2 = stp' sg b.2.2) : xpl9 ev stp tg cms s0 = xpl9 ev' stp' tg cms s0 := exq_cg ht h _ _ _ _
end XCA
section XCB
variable {w w' pl pl' nq nq' lo lo' hi hi' : Nat → Int} {sm sm' : Nat → Nat → Prop} {N i j k V : Nat} {nms : List nm9} {sg : List Int} {cv cv' : Nat → vrs} {sf : Nat → Int}
theorem nxq_ge {x : Int} : ∀ (f k : Nat), k ≤ nxq w x f k
  | 0, k => Nat.le_refl k
  | f + 1, k => by
    unfold nxq
    by_cases c : w k = x
    · rw [if_pos c]; exact Nat.le_refl k
    · rw [if_neg c]
      exact Nat.le_trans (Nat.le_succ k) (nxq_ge f (k + 1))
theorem nxq_ag (hw : ∀ j, j < N → w j = w' j) {x : Int} : ∀ (f k e : Nat), nxq w x f k = e → e < N → nxq w' x f k = e
  | 0, k, e, h, _ => h
  | f + 1, k, e, h, he => by
    unfold nxq at h ⊢
    by_cases c : w k = x
    · rw [if_pos c] at h
      rw [if_pos (by rw [← hw k (by omega)]; exact c)]
      exact h
    · rw [if_neg c] at h
      have := nxq_ge (w := w) (x := x) f (k + 1)
      rw [if_neg (by rw [← hw k (by omega)]; exact c)]
      exact nxq_ag hw f (k + 1) e h he
/-- the formulas' words stand among the words -/
def NmF (w : Nat → Int) (N : Nat) (l : List nm9) : Prop := ∀ e, e ∈ l → (e.1 < N ∧ w e.1 = 1) ∧ (e.2.1 ≠ 1 → e.2.1 ≠ 3 → Eo w 6 (e.1 + 2) (nxq w 34 N e.1) ∧ nxq w 34 N e.1 < N)
theorem rl_v (ag : AgW w w' pl pl' nq nq' sm sm' N) (eo : Eo w 6 i j) (hj : j ≤ N) (hc : ∀ k, k < N → cv k = cv' k) : vlq w cv pl 0 0 i j = vlq w' cv' pl' 0 0 i j := (rl_cg0 (E := fun _ => 0) (E' := fun _ => 0) eo (fun k _ k2 => ⟨(ag.1 k (by omega)).1, (ag.1 k (by omega)).2.1, fun _ => rfl, fun _ => hc k (by omega)⟩)).2.2
theorem cvs_cg (ag : AgW w w' pl pl' nq nq' sm sm' N) : ∀ (l : List nm9), NmF w N l → ∀ k, k < N → cvs w pl nq sm N sf l k = cvs w' pl' nq' sm' N sf l k
  | [], _, k, hk => by
    obtain ⟨a1, -, a3⟩ := ag.1 k hk
    show (if w k = 2 then ((0, nq k, 1) : vrs) else if w k = 12 then (0, 1, 1) else (0, 0, 1)) = (if w' k = 2 then ((0, nq' k, 1) : vrs) else if w' k = 12 then (0, 1, 1) else (0, 0, 1))
    rw [← a1]
    by_cases h2 : w k = 2
    · rw [if_pos h2, if_pos h2, a3 h2]
    · rw [if_neg h2, if_neg h2]
  | e :: r, h, k, hk => by
    have ih := cvs_cg ag r (fun x hx => h x (List.mem_cons_of_mem _ hx))
    obtain ⟨⟨e1, e2⟩, e3⟩ := h e List.mem_cons_self
    have a1 := (ag.1 k hk).1
    have hc : (w k = 1 ∧ sm e.1 k ∧ ∀ e', e' ∈ r → ¬ sm e'.1 k) ↔ (w' k = 1 ∧ sm' e.1 k ∧ ∀ e', e' ∈ r → ¬ sm' e'.1 k) := by
      rw [← a1]
      refine ⟨fun u => ⟨u.1, (ag.2 e.1 k e1 hk e2 u.1).mp u.2.1, fun e' he' y => u.2.2 e' he' ?_⟩, fun u => ⟨u.1, (ag.2 e.1 k e1 hk e2 u.1).mpr u.2.1, fun e' he' y => u.2.2 e' he' ?_⟩⟩
      · obtain ⟨⟨y1, y2⟩, -⟩ := h e' (List.mem_cons_of_mem _ he')
        exact (ag.2 e'.1 k y1 hk y2 u.1).mpr y
      · obtain ⟨⟨y1, y2⟩, -⟩ := h e' (List.mem_cons_of_mem _ he')
        exact (ag.2 e'.1 k y1 hk y2 u.1).mp y
    by_cases c : w k = 1 ∧ sm e.1 k ∧ ∀ e', e' ∈ r → ¬ sm e'.1 k
    · rw [cvs, if_pos c, cvs, if_pos (hc.mp c)]
      by_cases y1 : e.2.1 = 1
      · rw [if_pos y1, if_pos y1]
      rw [if_neg y1, if_neg y1]
      by_cases y3 : e.2.1 = 3
      · rw [if_pos y3, if_pos y3]
      rw [if_neg y3, if_neg y3]
      obtain ⟨z1, z2⟩ := e3 y1 y3
      rw [nxq_ag (fun j hj => (ag.1 j hj).1) N e.1 _ rfl z2]
      exact rl_v ag z1 (Nat.le_of_lt z2) (fun k hk => ih k hk)
    · rw [cvs, if_neg c, cvs, if_neg (fun u => c (hc.mpr u))]
      exact ih k hk
theorem cvr_cg (ag : AgW w w' pl pl' nq nq' sm sm' N) (nf : NmF w N nms) : ∀ k, k < N → cvs w pl nq sm N sf nms.reverse k = cvs w' pl' nq' sm' N sf nms.reverse k := cvs_cg ag _ (fun e he => nf e (List.mem_reverse.mp he))
theorem evq_cg (ag : AgW w w' pl pl' nq nq' sm sm' N) (nf : NmF w N nms) (eo : Eo w 6 i j) (hj : j ≤ N) : evq w pl nq sm N nms sg i j = evq w' pl' nq' sm' N nms sg i j := rl_v ag eo hj (cvr_cg ag nf)
theorem stq_ag (ag : AgW w w' pl pl' nq nq' sm sm' N) (hc : ∀ k, k < N → cv k = cv' k) : ∀ (l : List (Nat × Nat × Nat × Nat)), (∀ q, q ∈ l → (Eo w 6 q.2.1 q.2.2.1 ∧ q.2.2.1 ≤ N ∧ q.2.2.2 < N) ∧ lo q.1 = lo' q.1 ∧ hi q.1 = hi' q.1) → ∀ nx, stq9 w cv pl lo hi l nx = stq9 w' cv' pl' lo' hi' l nx
  | [], _ => fun _ => rfl
  | q :: r, h => fun nx => by
    obtain ⟨⟨a1, a2, a3⟩, a4, a5⟩ := h q List.mem_cons_self
    have ih := stq_ag ag hc r (fun x hx => h x (List.mem_cons_of_mem _ hx))
    rw [stq9, stq9, rl_v ag a1 a2 hc, a4, a5, (ag.1 q.2.2.2 a3).2.1, ih]
/-- other bounds, the same where sets look at them -/
theorem stq_lo : ∀ (l : List (Nat × Nat × Nat × Nat)), (∀ q, q ∈ l → lo q.1 = lo' q.1 ∧ hi q.1 = hi' q.1) → ∀ nx, stq9 w cv pl lo hi l nx = stq9 w cv pl lo' hi' l nx
  | [], _ => fun _ => rfl
  | q :: r, h => fun nx => by
    obtain ⟨a4, a5⟩ := h q List.mem_cons_self
    have ih := stq_lo r (fun x hx => h x (List.mem_cons_of_mem _ hx))
    rw [stq9, stq9, a4, a5, ih]
theorem stpq_lo {l : List (Nat × Nat × Nat × Nat)} (h : ∀ q, q ∈ l → lo q.1 = lo' q.1 ∧ hi q.1 = hi' q.1) : stpq w pl nq sm N nms V lo hi sg l = stpq w pl nq sm N nms V lo' hi' sg l := by
  unfold stpq
  rw [stq_lo l h]
theorem stpq_cg (ag : AgW w w' pl pl' nq nq' sm sm' N) (nf : NmF w N nms) {l : List (Nat × Nat × Nat × Nat)} (h : ∀ q, q ∈ l → Eo w 6 q.2.1 q.2.2.1 ∧ q.2.2.1 ≤ N ∧ q.2.2.2 < N) : stpq w pl nq sm N nms V lo hi sg l = stpq w' pl' nq' sm' N nms V lo hi sg l := by
  unfold stpq
  rw [stq_ag ag (cvr_cg ag nf) l (fun q hq => ⟨h q hq, rfl, rfl⟩)]
/-- the game's words stand among the words -/
def GmO (w : Nat → Int) (N : Nat) (g : gm9) : Prop := (∀ tg, g.2.1 = some tg → Eo w 6 tg.1 tg.2 ∧ tg.2 < N) ∧ ∀ cm, cm ∈ g.2.2 → (Eo w 6 cm.2.2.1.1 cm.2.2.1.2 ∧ cm.2.2.1.2 < N) ∧ ∀ b, b ∈ cm.2.2.2 → (Eo w 6 b.2.1.1 b.2.1.2 ∧ b.2.1.2 < N) ∧ ∀ q, q ∈ b.2.2 → Eo w 6 q.2.1 q.2.2.1 ∧ q.2.2.1 ≤ N ∧ q.2.2.2 < N
theorem xpg_cg {g : gm9} (ag : AgW w w' pl pl' nq nq' sm sm' N) (nf : NmF w N nms) (go : GmO w N g) (hg : g.2.1 ≠ none) : XpG (w, pl, nq, sm, N, nms, g) = XpG (w', pl', nq', sm', N, nms, g) := by
  unfold XpG
  refine xpl_cg (fun sg => ?_) (fun cm hc => ⟨fun sg => ?_, fun b hb => ⟨fun sg => ?_, fun sg => ?_⟩⟩)
  · show evq w pl nq sm N nms sg (g.2.1.getD (0, 0)).1 (g.2.1.getD (0, 0)).2 = evq w' pl' nq' sm' N nms sg (g.2.1.getD (0, 0)).1 (g.2.1.getD (0, 0)).2
    cases e : g.2.1 with
    | none => exact absurd e hg
    | some tg =>
      obtain ⟨a, b⟩ := go.1 tg e
      exact evq_cg ag nf a (Nat.le_of_lt b)
  · obtain ⟨⟨a, b⟩, -⟩ := go.2 cm hc
    exact evq_cg ag nf a (Nat.le_of_lt b)
  · obtain ⟨⟨a, b'⟩, -⟩ := (go.2 cm hc).2 b hb
    exact evq_cg ag nf a (Nat.le_of_lt b')
  · exact stpq_cg ag nf ((go.2 cm hc).2 b hb).2
end XCB
