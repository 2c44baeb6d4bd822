section
/-! The reference: the jobs of a node's parts. -/
def flat (n : Int) : List (Nat × Nat) → List Int
  | [] => []
  | (i, j) :: rs => (j : Int) :: (i : Int) :: n :: flat n rs
def rsum : List (Nat × Nat) → Nat
  | [] => 0
  | (i, j) :: rs => (j - i) + rsum rs
theorem flat_len {n : Int} : ∀ rs, (flat n rs).length = 3 * rs.length
  | [] => rfl
  | (i, j) :: rs => by show (flat n rs).length + 1 + 1 + 1 = 3 * (rs.length + 1); rw [flat_len rs]; omega
section RN
variable {G : mG} {d a N g T : Nat} {M M2 M3 : mM} {root : Int} {Q : Int → mM → Prop}
theorem Lk.mono {T T' f x l : Nat} (h : Lk M2 g T f x l) (hT : T ≤ T') (hn : ∀ n, n < T → np M3 g n = np M2 g n) : Lk M3 g T' f x l := by
  induction f generalizing x with
  | zero => exact h.elim
  | succ f ih =>
    obtain ⟨h0, h⟩ := h
    refine ⟨by omega, ?_⟩
    rw [hn x h0]
    rcases h with h | ⟨y, h1, h2⟩
    · exact Or.inl h
    · exact Or.inr ⟨y, h1, ih h2⟩
theorem chn.mono {T T' : Nat} {p : Int} (h : chn M2 g T p) (hp : p < T) (hT : T ≤ T') (hf : ∀ n, n < T → fp M3 g n = fp M2 g n ∧ np M3 g n = np M2 g n) : chn M3 g T' p := fun p0 => by
  rw [(hf p.toNat (by omega)).1]
  rcases h p0 with q | ⟨f, c, l, q1, q2⟩
  · exact Or.inl q
  · exact Or.inr ⟨f, c, l, q1, q2.mono hT (fun n hn => (hf n hn).2)⟩
theorem JE.pre {M1 : mM} {T : Nat} {p : Int} (h : JE M2 M3 g T p) (hp : p < T) (s : ∀ n, n < T → so M2 g n = so M1 g n ∧ va M2 g n = va M1 g n ∧ fp M2 g n = fp M1 g n ∧ np M2 g n = np M1 g n) : JE M1 M3 g T p := by
  refine ⟨fun n hn => ⟨(h.1 n hn).1.trans (s n hn).1, (h.1 n hn).2.trans (s n hn).2.1⟩, ?_⟩
  rcases h.2 with ⟨q1, q2⟩ | ⟨q0, q1, q2, q3⟩ | ⟨q0, f, c, l, q1, q2, q3, q4⟩
  · exact Or.inl ⟨q1, fun n hn => ⟨(q2 n hn).1.trans (s n hn).2.2.1, (q2 n hn).2.trans (s n hn).2.2.2⟩⟩
  · exact Or.inr (Or.inl ⟨q0, by rw [← (s p.toNat (by omega)).2.2.1]; exact q1, fun n hn => by rw [q2 n hn, (s n hn).2.2.1], fun n hn => (q3 n hn).trans (s n hn).2.2.2⟩)
  · exact Or.inr (Or.inr ⟨q0, f, c, l, by rw [← (s p.toNat (by omega)).2.2.1]; exact q1, q2.mono (Nat.le_refl _) (fun n hn => (s n hn).2.2.2.symm), fun n hn => (q3 n hn).trans (s n hn).2.2.1, fun n hn => by rw [q4 n hn, (s n hn).2.2.2]⟩)
theorem JE.post {M4 : mM} {T : Nat} {p : Int} (h : JE M2 M3 g T p) (s : ∀ n, n < T → so M4 g n = so M3 g n ∧ va M4 g n = va M3 g n ∧ fp M4 g n = fp M3 g n ∧ np M4 g n = np M3 g n) : JE M2 M4 g T p := by
  refine ⟨fun n hn => ⟨(s n hn).1.trans (h.1 n hn).1, (s n hn).2.1.trans (h.1 n hn).2⟩, ?_⟩
  rcases h.2 with ⟨q1, q2⟩ | ⟨q0, q1, q2, q3⟩ | ⟨q0, f, c, l, q1, q2, q3, q4⟩
  · exact Or.inl ⟨q1, fun n hn => ⟨(s n hn).2.2.1.trans (q2 n hn).1, (s n hn).2.2.2.trans (q2 n hn).2⟩⟩
  · exact Or.inr (Or.inl ⟨q0, q1, fun n hn => (s n hn).2.2.1.trans (q2 n hn), fun n hn => (s n hn).2.2.2.trans (q3 n hn)⟩)
  · exact Or.inr (Or.inr ⟨q0, f, c, l, q1, q2, fun n hn => (s n hn).2.2.1.trans (q3 n hn), fun n hn => (s n hn).2.2.2.trans (q4 n hn)⟩)
/-- a job is done: its tree stands, joined to its parent -/
def RunP (G : mG) (d : Nat) (M : mM) (a g N : Nat) (root : Int) (Q : Int → mM → Prop) (L : Nat) : Prop := ∀ i j, j - i ≤ L → Eo (wk M a) 6 i j → j < N → ∀ (M2 : mM) (T : Nat) (p : Int) (st : List Int), TI M a g N T ((j : Int) :: (i : Int) :: p :: st) M2 → -1 ≤ p → p < T → chn M2 g T p → T + (j - i) ≤ 32760 → st.length + 3 * (j - i) ≤ 49900 → (∀ (M3 : mM) (T' : Nat), TI M a g N T' st M3 → T < T' → T' ≤ T + (j - i) → JE M2 M3 g T p → To (nmw (wk M a) N) M3 g 0 T T' → np M3 g T = -1 → h_MM_tree_26 G (d + 5) a root M3 Q) → h_MM_tree_26 G (d + 5) a root M2 Q
theorem ch_run {L : Nat} {n : Nat} {st : List Int} (hr : RunP G d M a g N root Q L) : ∀ (rs : List (Nat × Nat)) (M2 : mM) (T : Nat), rs ≠ [] → (∀ i j, (i, j) ∈ rs → j - i ≤ L ∧ Eo (wk M a) 6 i j ∧ j < N) → TI M a g N T (flat n rs ++ st) M2 → n < T → chn M2 g T n → T + rsum rs ≤ 32760 → st.length + 3 * rsum rs ≤ 49900 → (∀ (M3 : mM) (T' : Nat), TI M a g N T' st M3 → T < T' → T' ≤ T + rsum rs → JE M2 M3 g T n → To (nmw (wk M a) N) M3 g rs.length T T' → h_MM_tree_26 G (d + 5) a root M3 Q) → h_MM_tree_26 G (d + 5) a root M2 Q
  | [], _, _, h, _, _, _, _, _, _, _ => absurd rfl h
  | [(i, j)], M2, T, _, hm, ht, hn, hc, hb, hl, hQ => by
    obtain ⟨a1, a2, a3⟩ := hm i j (List.mem_singleton.2 rfl)
    have e : rsum [(i, j)] = j - i := by show (j - i) + 0 = _; omega
    rw [e] at hb hl hQ
    exact hr i j a1 a2 a3 M2 T n st ht (by omega) (by omega) hc (by omega) (by omega) (fun M3 T' t3 h1 h2 je to nt => hQ M3 T' t3 h1 h2 je (to.one nt))
  | (i, j) :: r2 :: rs, M2, T, _, hm, ht, hn, hc, hb, hl, hQ => by
    obtain ⟨a1, a2, a3⟩ := hm i j (List.mem_cons_self ..)
    have pij := a2.pr.1
    have e : rsum ((i, j) :: r2 :: rs) = (j - i) + rsum (r2 :: rs) := rfl
    rw [e] at hb hl hQ
    have hrs : (r2 :: rs).length ≤ rsum (r2 :: rs) := by
      have : ∀ l : List (Nat × Nat), (∀ i j, (i, j) ∈ l → Eo (wk M a) 6 i j) → l.length ≤ rsum l := by
        intro l
        induction l with
        | nil => intro _; exact Nat.le_refl _
        | cons x l ih =>
          intro h
          have k := ih (fun i j q => h i j (List.mem_cons_of_mem _ q))
          have := (h x.1 x.2 (List.mem_cons_self ..)).pr.1
          show l.length + 1 ≤ (x.2 - x.1) + rsum l
          omega
      exact this _ (fun i j q => (hm i j (List.mem_cons_of_mem _ q)).2.1)
    have hfl := flat_len (n := (n : Int)) (r2 :: rs)
    refine hr i j a1 a2 a3 M2 T n (flat n (r2 :: rs) ++ st) ht (by omega) (by omega) hc (by omega) (by rw [List.length_append, hfl]; omega) (fun M3 T3 t3 h1 h2 je to nt => ?_)
    have hchain := je.chain (T' := T3) (by omega) (by omega) h1 nt
    refine ch_run hr (r2 :: rs) M3 T3 (by simp) (fun i j q => hm i j (List.mem_cons_of_mem _ q)) t3 (by omega) (fun _ => by
      obtain ⟨f, c, k1, k2⟩ := hchain
      exact Or.inr ⟨f, c, T, k1, k2⟩) (by omega) (by omega) (fun M4 T4 t4 g1 g2 je2 to2 => ?_)
    obtain ⟨j1, j2, j3, j4⟩ := je.next je2 (by omega) (by omega) h1 nt
    refine hQ M4 T4 t4 (by omega) (by omega) j1 ?_
    have to' : To (nmw (wk M a) N) M4 g 0 T T3 := to.fr (fun k k1 k2 => j3 k k2) (fun k k1 k2 => j4 k k2 (by omega)) (fun z => absurd rfl z)
    exact To.cons (by show 1 ≤ rs.length + 1; omega) to' j2 to2
/-- a job is taken -/
theorem TI.tk {st : List Int} {x y : Int} (h : TI M a g N T (x :: st) M2) (t : tkQ M2 (a + 91) y M3) : TI M a g N T st M3 ∧ y = x ∧ sameT M2 M3 g := by
  have w := h.2.1.1.1
  have hg := h.2.2.2.2.2
  have m := mv_take w n91 t
  obtain ⟨k1, k2, k3⟩ := h.wx m (fun q hq => Or.inr hq)
  obtain ⟨s1, s2⟩ := h.2.2.2.2.1.take t
  have sm : ∀ q, tL g q → sameN M2 M3 q := fun q hq => m.lst (tL_in hg hq) (fun z => by rw [z] at hq; exact (tL_no hg w).2.2.2.2 hq)
  refine ⟨⟨k1, k2, k3, fun q hq => by rw [(sm q hq).1]; exact h.2.2.2.1 q hq, s1, hg⟩, s2, fun n => ⟨(sm _ (by omega)).2.1 n, (sm _ (by omega)).2.1 n, (sm _ (by omega)).2.1 n, (sm _ (by omega)).2.1 n⟩⟩
/-- a new node, not yet joined -/
theorem TI.nd {st : List Int} (h : TI M a g N T st M2) (m : Mv (tL g) (fun _ => False) M2 a M3) (hn : nd M3 g (T + 1)) : TI M a g N (T + 1) st M3 := by
  have w := h.2.1.1.1
  have hg := h.2.2.2.2.2
  obtain ⟨k1, k2, k3⟩ := h.wx m (fun q hq => Or.inl hq)
  exact ⟨k1, k2, k3, hn, h.2.2.2.2.1.same (m.lst n91 (fun z => (tL_no hg w).2.2.2.2 z)), hg⟩
/-- joined -/
theorem nj {st : List Int} {p : Int} {M6 M7 : mM} (hp : p < T) (hc : chn M2 g T p) (ho : ∀ n, n < T → so M6 g n = so M2 g n ∧ va M6 g n = va M2 g n ∧ fp M6 g n = fp M2 g n ∧ np M6 g n = np M2 g n) (hf : fp M6 g T = -1) (hn : np M6 g T = -1) (j : jnQ M6 g (T + 1) p T M7) : JE M2 M7 g T p ∧ fp M7 g T = -1 ∧ np M7 g T = -1 ∧ so M7 g T = so M6 g T ∧ va M7 g T = va M6 g T := by
  obtain ⟨j1, j2⟩ := j
  rcases j2 with ⟨q1, q2⟩ | ⟨q0, q1, q2, q3⟩ | ⟨q0, f, c, l, q1, q2, q3, q4⟩
  · refine ⟨⟨fun n hn => ⟨(j1 n).1.trans (ho n hn).1, (j1 n).2.trans (ho n hn).2.1⟩, Or.inl ⟨q1, fun n hn => ⟨(q2 n).1.trans (ho n hn).2.2.1, (q2 n).2.trans (ho n hn).2.2.2⟩⟩⟩, by rw [(q2 T).1]; exact hf, by rw [(q2 T).2]; exact hn, (j1 T).1, (j1 T).2⟩
  · refine ⟨⟨fun n hn => ⟨(j1 n).1.trans (ho n hn).1, (j1 n).2.trans (ho n hn).2.1⟩, Or.inr (Or.inl ⟨q0, by rw [← (ho p.toNat (by omega)).2.2.1]; exact q1, fun n hn => by rw [q2 n, (ho n hn).2.2.1], fun n hn => (q3 n).trans (ho n hn).2.2.2⟩)⟩, by rw [q2 T, if_neg (by omega)]; exact hf, by rw [q3 T]; exact hn, (j1 T).1, (j1 T).2⟩
  · -- the chain was there before the node
    have hcc := hc q0
    rw [← (ho p.toNat (by omega)).2.2.1, q1] at hcc
    obtain ⟨f0, c0, l0, k1, k2⟩ : ∃ f c' l : Nat, (c : Int) = c' ∧ Lk M2 g T f c' l := by
      rcases hcc with z | z
      · omega
      · exact z
    have ec : c0 = c := by omega
    subst ec
    have k3 : Lk M6 g (T + 1) f0 c0 l0 := k2.mono (by omega) (fun n hn => (ho n hn).2.2.2)
    have el := Lk.det q2 k3
    subst el
    have hlT := k2.lt
    refine ⟨⟨fun n hn => ⟨(j1 n).1.trans (ho n hn).1, (j1 n).2.trans (ho n hn).2.1⟩, Or.inr (Or.inr ⟨q0, f0, c0, l, by rw [← (ho p.toNat (by omega)).2.2.1]; exact q1, k2, fun n hn => (q3 n).trans (ho n hn).2.2.1, fun n hn => by rw [q4 n, (ho n hn).2.2.2]⟩)⟩, by rw [q3 T]; exact hf, by rw [q4 T, if_neg (by omega)]; exact hn, (j1 T).1, (j1 T).2⟩
/-- a node with its parts -/
theorem nd_fin {M7 M8 M9 : mM} {p : Int} {k T9 : Nat} (hpT : p < T) (je : JE M2 M7 g T p) (s78 : sameT M7 M8 g) (hf7 : fp M7 g T = -1) (hn7 : np M7 g T = -1) (je9 : JE M8 M9 g (T + 1) (T : Int)) (hk : 1 ≤ k) (ha : ari (so M7 g T) k) (to : To (nmw (wk M a) N) M9 g k (T + 1) T9) : JE M2 M9 g T p ∧ To (nmw (wk M a) N) M9 g 0 T T9 ∧ np M9 g T = -1 := by
  have c2 : fp M9 g T = ((T + 1 : Nat) : Int) ∧ (∀ n, n < T → fp M9 g n = fp M8 g n) ∧ ∀ n, n < T + 1 → np M9 g n = np M8 g n := by
    rcases je9.2 with ⟨q, -⟩ | ⟨q0, q1, q2, q3⟩ | ⟨q0, f, c, l, q1, q2, q3, q4⟩
    · omega
    · refine ⟨by rw [q2 T (by omega), if_pos (by omega)], fun n hn => by rw [q2 n (by omega), if_neg (by omega)], q3⟩
    · exfalso
      rw [Int.toNat_natCast, (s78 T).2.2.1, hf7] at q1
      omega
  refine ⟨je.post (fun n hn => ⟨(je9.1 n (by omega)).1.trans (s78 n).1, (je9.1 n (by omega)).2.trans (s78 n).2.1, (c2.2.1 n hn).trans (s78 n).2.2.1, (c2.2.2 n (by omega)).trans (s78 n).2.2.2⟩), To.node hk ?_ c2.1 to, ?_⟩
  · rw [(je9.1 T (by omega)).1, (s78 T).1]
    exact ha
  · rw [c2.2.2 T (by omega), (s78 T).2.2.2]
    exact hn7
end RN
end
section
/-! The reference: tree. -/
theorem JL.rs {w : Nat → Int} {p : Int} : ∀ {f i j : Nat} {s : List Int}, JL w p f i j s → ∃ rs, s = flat p rs ∧ rs ≠ [] ∧ (∀ i' j', (i', j') ∈ rs → Eo w 6 i' j' ∧ j' ≤ j ∧ j' - i' ≤ j - i) ∧ rsum rs ≤ j - i
  | 0, _, _, _, h => h.elim
  | f + 1, i, j, s, h => by
    rcases h with ⟨h1, h2⟩ | ⟨m, s2, h1, h2, h3, h4⟩
    · refine ⟨[(i, j)], h1, by simp, fun i' j' q => ?_, by show (j - i) + 0 ≤ _; omega⟩
      have q' := List.mem_singleton.1 q
      obtain ⟨q1, q2⟩ := Prod.mk.inj q'
      subst q1 q2
      exact ⟨h2, Nat.le_refl _, Nat.le_refl _⟩
    · obtain ⟨rs, k1, k2, k3, k4⟩ := JL.rs h4
      have p2 := h2.pr.1
      have hne : m + 1 < j := by
        cases rs with
        | nil => exact absurd rfl k2
        | cons x rs =>
          have a := k3 x.1 x.2 (List.mem_cons_self ..)
          have := a.1.pr.1
          have := a.2
          omega
      refine ⟨(i, m) :: rs, by rw [h3, k1]; rfl, by simp, fun i' j' q => ?_, by show (m - i) + rsum rs ≤ j - i; omega⟩
      rcases List.mem_cons.1 q with z | z
      · obtain ⟨q1, q2⟩ := Prod.mk.inj z
        subst q1 q2
        exact ⟨h2, by omega, by omega⟩
      · have a := k3 i' j' z
        exact ⟨a.1, a.2.1, by have := a.2.2; omega⟩
section MK
variable {G : mG} {d a N g : Nat} {M : mM} {root : Int} {Q : Int → mM → Prop}
theorem tr_run (hw : Wd M a) (hroot : i32 root) : ∀ L, RunP G d M a g N root Q L := by
  intro L
  induction L with
  | zero =>
    intro i j hl he
    have := he.pr.1
    omega
  | succ L ih =>
    intro i j hl he hjN M2 T p st t2 hp1 hpT hc hb hlen hQ
    have hij := he.pr.1
    have hg := t2.2.2.2.2.2
    have hN := t2.2.1.1.2.2
    have r18 : ∀ {T : Nat} (s : List Int) (M4 : mM), TI M a g N T s M4 → mR M4 a 18 = a + 91 ∧ mK M4 a = 14 ∧ mK M4 (a + 91) = 15 ∧ mOk M4 ∧ Nu M4 (a + 91) := fun s M4 h4 => by
      have w := h4.2.1.1.1
      exact ⟨w.1.2.2.2.2.1.2.2.2.1, w.1.1, (w.nu n91).1, h4.1.1, w.nu n91⟩
    have q2 := r18 _ _ t2
    have l2 : mI M2 (a + 91) 1 = (((j : Int) :: (i : Int) :: p :: st).length : Int) := t2.2.2.2.2.1.1
    simp only [List.length_cons] at l2
    have hp32 : i32 p := i32s (by omega) (by omega)
    refine k_MM_tree_26 q2.2.2.2.1 hroot ?_
    rw [q2.1]
    refine ⟨q2.2.1, q2.2.2.1, fun z => by omega, fun _ => (s_MN_take q2.2.2.2.1 q2.2.2.2.2 (by unfold ln; omega)).mono (fun y1 M3 k3 => ?_)⟩
    obtain ⟨t3, e3, s3⟩ := t2.tk k3
    subst e3
    have q3 := r18 _ _ t3
    have l3 : mI M3 (a + 91) 1 = (((i : Int) :: p :: st).length : Int) := t3.2.2.2.2.1.1
    simp only [List.length_cons] at l3
    rw [q3.1]
    refine ⟨i32s (by omega) (by omega), q3.2.2.2.1, q3.2.1, q3.2.2.1, (s_MN_take q3.2.2.2.1 q3.2.2.2.2 (by unfold ln; omega)).mono (fun y2 M4 k4 => ?_)⟩
    obtain ⟨t4, e4, s4⟩ := t3.tk k4
    subst e4
    have q4 := r18 _ _ t4
    have l4 : mI M4 (a + 91) 1 = ((p :: st).length : Int) := t4.2.2.2.2.1.1
    simp only [List.length_cons] at l4
    rw [q4.1]
    refine ⟨i32s (by omega) (by omega), q4.2.2.2.1, q4.2.1, q4.2.2.1, (s_MN_take q4.2.2.2.1 q4.2.2.2.2 (by unfold ln; omega)).mono (fun y3 M5 k5 => ?_)⟩
    obtain ⟨t5, e5, s5⟩ := t4.tk k5
    subst e5
    have q5 := r18 _ _ t5
    have s25 : sameT M2 M5 g := (s3.trans s4).trans s5
    have hc5 : chn M5 g T y3 := hc.mono hpT (Nat.le_refl _) (fun n _ => ⟨(s25 n).2.2.1, (s25 n).2.2.2⟩)
    refine ⟨hp32, q5.2.2.2.1, q5.2.1, ?_⟩
    -- words, in whatever state
    have wkx : ∀ {T : Nat} (s : List Int) (M4 : mM), TI M a g N T s M4 → Wn M4 a N ∧ mOk M4 ∧ wk M4 a = wk M a ∧ mK M4 a = 14 := fun s M4 h4 => ⟨h4.2.1.1, h4.1.1, h4.wk hw, h4.2.1.1.1.1.1⟩
    have w5 := wkx _ _ t5
    -- a node is made and joined
    have mk : ∀ (s : Int) (wd fr : Nat) (R : Int → mM → Prop), i32 s → wd < N → fr < N → (∀ M7, TI M a g N (T + 1) st M7 → JE M2 M7 g T y3 → fp M7 g T = -1 → np M7 g T = -1 → so M7 g T = s → va M7 g T = 0 → R (T : Int) M7) → Ci G y_MM_node (d + 4) [vr a, vi s, vi wd, vi fr] M5 (fun x M6 => i32 x ∧ mOk M6 ∧ (mK M6 a = 14 ∧ Cv G y_MM_join (d + 4) [vr a, vi y3, vi x] M6 (fun M7 => mOk M7 ∧ R x M7))) := fun s wd fr R hs hwd hfr hR => by
      refine (s_MM_node (d := d + 2) hs w5.2.1 t5.2.1 hwd hfr hg t5.2.2.1 t5.2.2.2.1 (by omega)).mono (fun x M6 h6 => ?_)
      obtain ⟨m6, ex6, n6, o6, a1, a2, a3, a4⟩ := h6
      subst ex6
      have t6 := t5.nd m6 n6
      have hc6 : chn M6 g (T + 1) y3 := hc5.mono hpT (by omega) (fun n hn => ⟨(o6 n hn).2.2.1, (o6 n hn).2.2.2⟩)
      refine ⟨i32s (by omega) (by omega), m6.1, (wkx _ _ t6).2.2.2, (s_MM_join (d := d + 3) (x := T) t6 (by omega) hp32 (by omega) (by omega) hc6).mono (fun M7 h7 => ?_)⟩
      obtain ⟨t7, j7⟩ := h7
      obtain ⟨b1, b2, b3, b4, b5⟩ := nj (st := st) hpT hc5 o6 a3 a4 j7
      exact ⟨t7.1.1, hR M7 t7 (b1.pre hpT (fun n _ => s25 n)) b2 b3 (by rw [b4]; exact a1) (by rw [b5]; exact a2)⟩
    -- the parts of the new node
    have kids : ∀ (rs : List (Nat × Nat)) (M7 M8 : mM), rs ≠ [] → (∀ i' j', (i', j') ∈ rs → j' - i' ≤ L ∧ Eo (wk M a) 6 i' j' ∧ j' < N) → rsum rs + 1 ≤ j - i → TI M a g N (T + 1) st M7 → JE M2 M7 g T y3 → fp M7 g T = -1 → np M7 g T = -1 → ari (so M7 g T) rs.length → TI M a g N (T + 1) (flat (T : Int) rs ++ st) M8 → sameT M7 M8 g → h_MM_tree_26 G (d + 5) a root M8 Q := fun rs M7 M8 hne hrs hsum t7 je f7 n7 ha t8 s8 => by
      refine ch_run (n := T) (st := st) ih rs M8 (T + 1) hne hrs t8 (by omega) (fun _ => Or.inl (by rw [Int.toNat_natCast, (s8 T).2.2.1]; exact f7)) (by omega) (by omega) (fun M9 T9 t9 h1 h2 je9 to9 => ?_)
      obtain ⟨b1, b2, b3⟩ := nd_fin (a := a) (N := N) hpT je s8 f7 n7 je9 (by cases rs with | nil => exact absurd rfl hne | cons x rs => show 1 ≤ rs.length + 1; omega) ha (T9 := T9) (M := M) to9
      exact hQ M9 T9 t9 (by omega) (by omega) b1 b2 b3
    have single : ∀ {i1 j1 : Nat}, ∀ i' j', (i', j') ∈ [(i1, j1)] → i' = i1 ∧ j' = j1 := fun i' j' q => Prod.mk.inj (List.mem_singleton.1 q)
    refine k_MM_part w5.2.1 hp32 (i32s (by omega) (by omega)) (i32s (by omega) (by omega)) ⟨w5.2.2.2, (s_MM_loosest (d := d) w5.2.1 w5.1 hij (by omega)).mono (fun x M6 h6 => ?_)⟩
    obtain ⟨e6, hx⟩ := h6
    subst e6
    rw [w5.2.2.1] at hx
    rcases he.sp with ⟨m, q, hlo, hm, hq, e1, e2, e3⟩ | ⟨m, hlo, hm, e1, e2⟩ | ⟨hlo, h36, h37, e1⟩ | ⟨hlo, h25, e1⟩ | ⟨hlo, hj1, hlf⟩ | ⟨hlo, h14, h36, h37, e7⟩
    · -- a question
      have p1 := e1.pr.1
      have p2 := e2.pr
      have p3 := e3.pr.1
      have ex : x = (m : Int) := by rw [hx]; exact hlo
      subst ex
      have hmN : m < N := by have := p2.1; omega
      refine ⟨i32s (by omega) (by omega), w5.2.1, fun z => by omega, fun _ => ⟨w5.2.2.2, (s_MM_word1 (d := d + 3) w5.2.1 w5.1 hmN).mono (fun y0 M0 h0 => ?_)⟩⟩
      obtain ⟨e0, hy0⟩ := h0
      subst e0
      rw [w5.2.2.1] at hy0
      have hy32 : i32 y0 := by rw [hy0, ← w5.2.2.1]; exact wk32 w5.2.1
      refine ⟨hy32, w5.2.1, w5.2.2.2, mk y0 m i _ hy32 hmN (by omega) (fun M7 t7 je f7 n7 so7 _ => ⟨(wkx _ _ t7).2.2.2, ?_⟩)⟩
      · have w7 := wkx _ _ t7
        rw [hy0] at so7
        refine (s_MM_word1 (d := d + 3) w7.2.1 w7.1 hmN).mono (fun y M8 h8 => ?_)
        obtain ⟨e8, hy⟩ := h8
        subst e8
        rw [w7.2.2.1, hm] at hy
        refine ⟨i32s (by omega) (by omega), w7.2.1, fun _ => ⟨w7.2.2.2, (s_MM_colonOf (d := d + 2) (q := q) w7.2.1 w7.1 (by have := p2.1; omega) (by omega) (by omega) (by rw [w7.2.2.1]; exact p2.2.2.2.2.1) (by rw [w7.2.2.1]; exact hq)).mono (fun z M9 h9 => ?_)⟩, fun z => absurd hy z⟩
        obtain ⟨e9, hz⟩ := h9
        subst e9 hz
        refine ⟨i32s (by omega) (by omega), w7.2.1, w7.2.2.2, (s_MM_job (d := d + 3) t7 (by omega) (i32s (by omega) (by omega)) (i32s (by omega) (by omega)) (i32s (by omega) (by omega))).mono (fun Ma ha => ?_)⟩
        obtain ⟨ta, sa⟩ := ha
        refine ⟨ta.1.1, (wkx _ _ ta).2.2.2, (s_MM_job (d := d + 3) ta (by simp only [List.length_cons]; omega) (i32s (by omega) (by omega)) (i32s (by omega) (by omega)) (i32s (by omega) (by omega))).mono (fun Mb hb' => ?_)⟩
        obtain ⟨tb, sb⟩ := hb'
        refine ⟨tb.1.1, (wkx _ _ tb).2.2.2, (s_MM_job (d := d + 3) tb (by simp only [List.length_cons]; omega) (i32s (by omega) (by omega)) (i32s (by omega) (by omega)) (i32s (by omega) (by omega))).mono (fun Mc hc' => ?_)⟩
        obtain ⟨tc, sc⟩ := hc'
        refine ⟨tc.1.1, tc.1.1, kids [(i, m), (m + 1, q), (q + 1, j)] M9 Mc (by simp) (fun i' j' z => ?_) (by show (m - i) + ((q - (m + 1)) + ((j - (q + 1)) + 0)) + 1 ≤ j - i; have := p2.1; omega) t7 je f7 n7 (by rw [so7, hm]; exact Or.inr (Or.inr (Or.inl ⟨rfl, rfl⟩))) tc ((sameT.trans sa sb).trans sc)⟩
        have hp2 := p2.1
        rcases List.mem_cons.1 z with z | z
        · obtain ⟨z1, z2⟩ := Prod.mk.inj z
          subst z1 z2
          exact ⟨by omega, e1.six (by omega), by omega⟩
        · rcases List.mem_cons.1 z with z | z
          · obtain ⟨z1, z2⟩ := Prod.mk.inj z
            subst z1 z2
            exact ⟨by omega, e2, by omega⟩
          · obtain ⟨z1, z2⟩ := single i' j' z
            subst z1 z2
            exact ⟨by omega, e3, by omega⟩
    · -- an operator of two parts
      have p1 := e1.pr.1
      have p2 := e2.pr.1
      have ex : x = (m : Int) := by rw [hx]; exact hlo
      subst ex
      have hmN : m < N := by omega
      refine ⟨i32s (by omega) (by omega), w5.2.1, fun z => by omega, fun _ => ⟨w5.2.2.2, (s_MM_word1 (d := d + 3) w5.2.1 w5.1 hmN).mono (fun y0 M0 h0 => ?_)⟩⟩
      obtain ⟨e0, hy0⟩ := h0
      subst e0
      rw [w5.2.2.1] at hy0
      have hy32 : i32 y0 := by rw [hy0, ← w5.2.2.1]; exact wk32 w5.2.1
      refine ⟨hy32, w5.2.1, w5.2.2.2, mk y0 m i _ hy32 hmN (by omega) (fun M7 t7 je f7 n7 so7 _ => ⟨(wkx _ _ t7).2.2.2, ?_⟩)⟩
      · have w7 := wkx _ _ t7
        rw [hy0] at so7
        refine (s_MM_word1 (d := d + 3) w7.2.1 w7.1 hmN).mono (fun y M8 h8 => ?_)
        obtain ⟨e8, hy⟩ := h8
        subst e8
        rw [w7.2.2.1] at hy
        refine ⟨by rw [hy, ← w7.2.2.1]; exact wk32 w7.2.1, w7.2.1, fun z => by omega, fun _ => ⟨w7.2.2.2, (s_MM_job (d := d + 3) t7 (by omega) (i32s (by omega) (by omega)) (i32s (by omega) (by omega)) (i32s (by omega) (by omega))).mono (fun Ma ha => ?_)⟩⟩
        obtain ⟨ta, sa⟩ := ha
        refine ⟨ta.1.1, (wkx _ _ ta).2.2.2, (s_MM_job (d := d + 3) ta (by simp only [List.length_cons]; omega) (i32s (by omega) (by omega)) (i32s (by omega) (by omega)) (i32s (by omega) (by omega))).mono (fun Mb hb' => ?_)⟩
        obtain ⟨tb, sb⟩ := hb'
        refine ⟨tb.1.1, tb.1.1, kids [(i, m), (m + 1, j)] M8 Mb (by simp) (fun i' j' z => ?_) (by show (m - i) + ((j - (m + 1)) + 0) + 1 ≤ j - i; omega) t7 je f7 n7 (by rw [so7]; exact Or.inr (Or.inl ⟨by omega, rfl⟩)) tb (sameT.trans sa sb)⟩
        rcases List.mem_cons.1 z with z | z
        · obtain ⟨z1, z2⟩ := Prod.mk.inj z
          subst z1 z2
          exact ⟨by omega, e1, by omega⟩
        · obtain ⟨z1, z2⟩ := single i' j' z
          subst z1 z2
          exact ⟨by omega, e2, by omega⟩
    · -- parentheses
      have p1 := e1.pr.1
      have ex : x = -1 := by rw [hx]; exact hlo
      subst ex
      refine ⟨i32s (by omega) (by omega), w5.2.1, fun _ => ⟨w5.2.2.2, (s_MM_word1 (d := d + 3) w5.2.1 w5.1 (by omega)).mono (fun y M7 h7 => ?_)⟩, fun z => by omega⟩
      obtain ⟨e7, hy⟩ := h7
      subst e7
      rw [w5.2.2.1, h36] at hy
      refine ⟨i32s (by omega) (by omega), w5.2.1, fun _ => ⟨w5.2.2.2, ?_⟩, fun z => absurd hy z⟩
      rw [show (i : Int) + 1 = ((i + 1 : Nat) : Int) by omega, show (j : Int) - 1 = ((j - 1 : Nat) : Int) by omega]
      refine (s_MM_job (d := d + 3) t5 (by omega) hp32 (i32s (by omega) (by omega)) (i32s (by omega) (by omega))).mono (fun Ma ha => ?_)
      obtain ⟨ta, sa⟩ := ha
      have s2a : sameT M2 Ma g := s25.trans sa
      exact ⟨ta.1.1, ta.1.1, ih (i + 1) (j - 1) (by omega) e1 (by omega) Ma T y3 st ta hp1 hpT (hc.mono hpT (Nat.le_refl _) (fun n _ => ⟨(s2a n).2.2.1, (s2a n).2.2.2⟩)) (by omega) (by omega) (fun M9 T9 t9 b1 b2 je to nn => hQ M9 T9 t9 b1 (by omega) (je.pre hpT (fun n _ => s2a n)) to nn)⟩
    · -- a sign before
      have p1 := e1.pr.1
      have ex : x = -1 := by rw [hx]; exact hlo
      subst ex
      refine ⟨i32s (by omega) (by omega), w5.2.1, fun _ => ⟨w5.2.2.2, (s_MM_word1 (d := d + 3) w5.2.1 w5.1 (by omega)).mono (fun y M7 h7 => ?_)⟩, fun z => by omega⟩
      obtain ⟨e7, hy⟩ := h7
      subst e7
      rw [w5.2.2.1] at hy
      refine ⟨i32s (by omega) (by omega), w5.2.1, fun z => by omega, fun _ v hv => ⟨w5.2.2.2, mk v i i _ (by split at hv <;> exact i32s (by omega) (by omega)) (by omega) (by omega) (fun M8 t8 je8 f8 n8 so8 _ => ⟨fun _ => ⟨(wkx _ _ t8).2.2.2, ?_⟩, fun z => by omega⟩)⟩⟩
      rw [show (i : Int) + 1 = ((i + 1 : Nat) : Int) by omega]
      refine (s_MM_job (d := d + 3) t8 (by omega) (i32s (by omega) (by omega)) (i32s (by omega) (by omega)) (i32s (by omega) (by omega))).mono (fun Ma ha => ?_)
      obtain ⟨ta, sa⟩ := ha
      refine ⟨ta.1.1, k_MM_part_267 ta.1.1 ⟨ta.1.1, kids [(i + 1, j)] M8 Ma (by simp) (fun i' j' z => ?_) (by show (j - (i + 1)) + 0 + 1 ≤ j - i; omega) t8 je8 f8 n8 (by rw [so8]; exact Or.inl ⟨by split at hv <;> omega, rfl⟩) ta sa⟩⟩
      obtain ⟨z1, z2⟩ := single i' j' z
      subst z1 z2
      exact ⟨by omega, e1, by omega⟩
    · -- a leaf
      have ex : x = -1 := by rw [hx]; exact hlo
      subst ex
      refine ⟨i32s (by omega) (by omega), w5.2.1, fun _ => ⟨w5.2.2.2, (s_MM_word1 (d := d + 3) w5.2.1 w5.1 (by omega)).mono (fun y M7 h7 => ?_)⟩, fun z => by omega⟩
      obtain ⟨e7, hy⟩ := h7
      subst e7
      rw [w5.2.2.1] at hy
      -- a leaf's value is written
      have leaf : ∀ (M8 M9 : mM) (v : Int), TI M a g N (T + 1) st M8 → JE M2 M8 g T y3 → fp M8 g T = -1 → np M8 g T = -1 → so M8 g T = y → i32 v → M9 = mUI M8 (mR M8 (g + 7) 0) T v → (y = 2 → 0 ≤ v ∧ v < 1000000000) → (y = 1 → 0 ≤ v ∧ v < N ∧ wk M a v.toNat = 1) → h_MM_part_267 G (d + 4) M9 (fun M28 => mOk M28 ∧ h_MM_tree_26 G (d + 5) a root M28 Q) := fun M8 M9 v t8 je8 f8 n8 so8 hv e9 h2 h1 => by
        have w8 := t8.2.1.1.1
        have g7 : tL g (g + 7) := by omega
        obtain ⟨m9, k1, k2, k3⟩ := mv_el hv t8.1.1 w8 (tL_in hg g7) e9
        obtain ⟨u1, u2, u3⟩ := t8.wx m9 (fun r hr => Or.inl (by rw [hr]; exact g7))
        have sm : ∀ r, r ∈ nums a → r ≠ g + 7 → sameN M8 M9 r := fun r hr hne => m9.lst hr hne
        have t9 : TI M a g N (T + 1) st M9 := ⟨u1, u2, u3, fun r hr => by
          by_cases z : r = g + 7
          · rw [z, k1]; exact t8.2.2.2.1 _ g7
          · rw [(sm r (tL_in hg hr) z).1]; exact t8.2.2.2.1 r hr, t8.2.2.2.2.1.same (sm _ n91 (fun z => by rw [← z] at g7; exact (tL_no hg w8).2.2.2.2 g7)), hg⟩
        have s1 : ∀ n, so M9 g n = so M8 g n := fun n => (sm _ (tL_in hg (by omega)) (by omega)).2.1 n
        have s9 : ∀ n, fp M9 g n = fp M8 g n := fun n => (sm _ (tL_in hg (by omega)) (by omega)).2.1 n
        have s11 : ∀ n, np M9 g n = np M8 g n := fun n => (sm _ (tL_in hg (by omega)) (by omega)).2.1 n
        have s7 : ∀ n, va M9 g n = if n = T then v else va M8 g n := k2
        refine k_MM_part_267 u1.1 ⟨u1.1, hQ M9 (T + 1) t9 (by omega) (by omega) (je8.post (fun n hn => ⟨s1 n, by rw [s7 n, if_neg (by omega)], s9 n, s11 n⟩)) (To.leaf (by rw [s9]; exact f8) (by rw [s1, so8]; omega) (fun z => ?_) (fun z => ?_)) (by rw [s11]; exact n8)⟩
        · rw [s1, so8] at z
          rw [s7 T, if_pos rfl]
          exact h2 z
        · rw [s1, so8] at z
          rw [s7 T, if_pos rfl]
          exact h1 z
      refine ⟨i32s (by omega) (by omega), w5.2.1, fun z => by omega, fun _ v hv => ⟨w5.2.2.2, ?_⟩⟩
      rw [if_neg (by omega)] at hv
      subst hv
      refine mk v i i _ (i32s (by omega) (by omega)) (by omega) (by omega) (fun M8 t8 je8 f8 n8 so8 va8 => ⟨fun z => by omega, fun _ => ?_⟩)
      have w8 := wkx _ _ t8
      have wd8 := t8.2.1.1.1
      have gp := wd8.gp hg
      have u7 := wd8.nu (tL_in (q := g + 7) hg (by omega))
      have l7 := t8.2.2.2.1 (g + 7) (by omega)
      have c7 : ((T + 1 : Nat) : Int) ≤ cp M8 (g + 7) := by rw [← l7]; exact u7.2.2.2.1.2
      have r3 : mR M8 g 3 = g + 7 := gp.2.1.2.2.2.1
      rw [t8.2.2.1, r3]
      refine ⟨fun z2 => ⟨w8.2.2.2, gp.1, u7.1, (s_MM_numberOf (d := d + 2) w8.2.1 t8.2.1 (by omega) (by rw [w8.2.2.1, ← hy]; exact z2)).mono (fun z M9 h9 => ?_)⟩, fun z2 => ⟨fun z1 => ⟨w8.2.2.2, gp.1, u7.1, u7.2.1, ⟨by omega, by have : mN M8 (mR M8 (g + 7) 0) = cp M8 (g + 7) := rfl; omega⟩, fun M9 e9 => ?_⟩, fun z1 => ⟨fun z => by omega, fun _ => ?_⟩⟩⟩
      · obtain ⟨e9, z0, z1⟩ := h9
        subst e9
        refine ⟨⟨by omega, by omega⟩, w8.2.1, u7.2.1, ⟨by omega, by have : mN M9 (mR M9 (g + 7) 0) = cp M9 (g + 7) := rfl; omega⟩, fun Ma ea => ?_⟩
        rw [Int.toNat_natCast] at ea
        exact leaf M9 Ma z t8 je8 f8 n8 so8 ⟨by omega, by omega⟩ ea (fun _ => ⟨z0, z1⟩) (fun q => by omega)
      · rw [Int.toNat_natCast] at e9
        exact leaf M8 M9 i t8 je8 f8 n8 so8 (i32s (by omega) (by omega)) e9 (fun q => absurd q z2) (fun _ => ⟨by omega, by omega, by rw [Int.toNat_natCast, ← hy]; exact z1⟩)
      · exact k_MM_part_267 w8.2.1 ⟨w8.2.1, hQ M8 (T + 1) t8 (by omega) (by omega) je8 (To.leaf f8 (by rw [so8]; omega) (fun z => by rw [so8] at z; exact absurd z z2) (fun z => by rw [so8] at z; exact absurd z z1)) n8⟩
    · -- a list
      have p7 := e7.pr.1
      have ex : x = -1 := by rw [hx]; exact hlo
      subst ex
      refine ⟨i32s (by omega) (by omega), w5.2.1, fun _ => ⟨w5.2.2.2, (s_MM_word1 (d := d + 3) w5.2.1 w5.1 (by omega)).mono (fun y M7 h7 => ?_)⟩, fun z => by omega⟩
      obtain ⟨e9, hy⟩ := h7
      subst e9
      rw [w5.2.2.1] at hy
      refine ⟨i32s (by omega) (by omega), w5.2.1, fun z => by omega, fun _ v hv => ⟨w5.2.2.2, ?_⟩⟩
      rw [if_neg (by omega)] at hv
      subst hv
      refine mk v i i _ (i32s (by omega) (by omega)) (by omega) (by omega) (fun M8 t8 je8 f8 n8 so8 _ => ⟨fun z => by omega, fun _ => ⟨fun z => by omega, fun _ => ⟨fun z => by omega, fun _ => ⟨fun _ => ⟨(wkx _ _ t8).2.2.2, ?_⟩, fun z => by omega⟩⟩⟩⟩)
      rw [show (i : Int) + 2 = ((i + 2 : Nat) : Int) by omega, show (j : Int) - 1 = ((j - 1 : Nat) : Int) by omega]
      refine (s_MM_list (d := d + 2) hw t8 (i32s (by omega) (by omega)) (by omega) (by omega) (by omega) e7).mono (fun Ma ha => ?_)
      obtain ⟨s, f, ta, sa, jl, -⟩ := ha
      obtain ⟨rs, k1, k2, k3, k4⟩ := JL.rs jl
      subst k1
      exact ⟨ta.1.1, k_MM_part_267 ta.1.1 ⟨ta.1.1, kids rs M8 Ma k2 (fun i' j' z => ⟨by have := (k3 i' j' z).2.2; omega, (k3 i' j' z).1, by have := (k3 i' j' z).2.1; omega⟩) (by omega) t8 je8 f8 n8 (by rw [so8]; exact Or.inr (Or.inr (Or.inr (by omega)))) ta sa⟩⟩
end MK
end
section
/-! The reference: tree, the whole. -/
section TQ
variable {G : mG} {d a N g T i j : Nat} {M : mM}
/-- a tree more -/
def trQ (M : mM) (a g N T i j : Nat) (r : Int) (M' : mM) : Prop := Mv (trP a g) (fun _ => False) M a M' ∧ r = T ∧ ∃ T', nd M' g T' ∧ T < T' ∧ T' ≤ T + (j - i) ∧ To (nmw (wk M a) N) M' g 0 T T' ∧ np M' g T = -1 ∧ ∀ n, n < T → so M' g n = so M g n ∧ va M' g n = va M g n ∧ fp M' g n = fp M g n ∧ np M' g n = np M g n
theorem s_MM_tree (hO : mOk M) (h : Wx M a N) (hg : g = a + 13 ∨ g = a + 49) (hd : mR M a 10 = g) (hn : nd M g T) (he : Eo (wk M a) 6 i j) (hj : j < N) (hT : T + (j - i) ≤ 32000) : Ci G y_MM_tree (d + 6) [vr a, vi i, vi j] M (trQ M a g N T i j) := by
  have w := h.1.1
  have hN := h.1.2.2
  have hij := he.pr.1
  have r18 : mR M a 18 = a + 91 := w.1.2.2.2.2.1.2.2.2.1
  refine k_MM_tree hO (i32s (by omega) (by omega)) (i32s (by omega) (by omega)) ?_
  rw [r18]
  refine ⟨w.1.1, (w.nu n91).1, fun M1 e1 => ?_⟩
  obtain ⟨m1, l1, -⟩ := mv_set hO w n91 (v := 0) (by omega) (w.nu n91).2.2.2.1.1 e1
  have w1 := m1.2.1
  have no := tL_no hg w
  have rt : mR M a 2 ≠ a + 91 := by rcases w.1.2.1 with y | y <;> rw [y.2] <;> omega
  have x1 : Wx M1 a N := h.mv m1 (fun q hq => by rw [hq]; exact n91) (by omega) (by omega) (by omega) rt
  have d1 : mR M1 a 10 = g := by rw [m1.rfl_a w (fun q hq => by rw [hq]; exact n91)]; exact hd
  have sm : ∀ q, tL g q → sameN M M1 q := fun q hq => m1.lst (tL_in hg hq) (fun z => by rw [z] at hq; exact no.2.2.2.2 hq)
  have n1 : nd M1 g T := fun q hq => by rw [(sm q hq).1]; exact hn q hq
  have gp := w1.gp hg
  have t1 : TI M a g N T [] M1 := ⟨m1.mono (fun q hq => Or.inr hq) (fun x hx => hx) (trP_lt hg w), x1, d1, n1, ⟨l1, fun i hi => by simp at hi⟩, hg⟩
  have s1 : sameT M M1 g := fun n => ⟨(sm _ (by omega)).2.1 n, (sm _ (by omega)).2.1 n, (sm _ (by omega)).2.1 n, (sm _ (by omega)).2.1 n⟩
  have lT : mI M1 (g + 1) 1 = T := n1 (g + 1) (by omega)
  rw [d1, gp.2.1.1, lT]
  refine ⟨gp.1, (w1.nu (tL_in hg (by omega))).1, (s_MM_job (d := d + 4) t1 (by simp) (i32s (by omega) (by omega)) (i32s (by omega) (by omega)) (i32s (by omega) (by omega))).mono (fun M2 h2 => ?_)⟩
  obtain ⟨t2, s2⟩ := h2
  refine ⟨t2.1.1, tr_run (d := d) w (i32s (by omega) (by omega)) (j - i) i j (Nat.le_refl _) he hj M2 T (-1) [] t2 (by omega) (by omega) (fun z => by omega) (by omega) (by simp; omega) (fun M3 T' t3 h1 h2 je to nn => ?_)⟩
  have w3 := t3.2.1.1.1
  have r3 : mR M3 a 18 = a + 91 := w3.1.2.2.2.2.1.2.2.2.1
  have l3 : mI M3 (a + 91) 1 = 0 := t3.2.2.2.2.1.1
  refine k_MM_tree_26 t3.1.1 (i32s (by omega) (by omega)) ?_
  rw [r3, l3]
  refine ⟨w3.1.1, (w3.nu n91).1, fun _ => ⟨t3.1, rfl, T', t3.2.2.2.1, h1, h2, to, nn, fun n hnT => ?_⟩, fun z => by omega⟩
  have s12 := sameT.trans s1 s2
  rcases je.2 with ⟨-, q⟩ | ⟨q, -⟩ | ⟨q, -⟩
  · exact ⟨(je.1 n hnT).1.trans (s12 n).1, (je.1 n hnT).2.trans (s12 n).2.1, (q n hnT).1.trans (s12 n).2.2.1, (q n hnT).2.trans (s12 n).2.2.2⟩
  · omega
  · omega
end TQ
end
section
/-! The reference: turning a pile, looking a name up. -/
section LU
variable {G : mG} {d a N g T K : Nat} {M M2 : mM}
theorem n93 : a + 93 ∈ nums a := nums_o (by decide)
theorem n95 : a + 95 ∈ nums a := nums_o (by decide)
theorem s_MM_turn {L k : Nat} (hO : mOk M) (h : Wd M a) (hl : ln M (a + 95) = (L + 2 * k : Nat)) (hb : L + 2 * k ≤ 200000) (hk : 1 ≤ k) : Cv G y_MM_turn (d + 1) [vr a, vi L] M (fun M' => Mv (fun x => x = a + 95) (fun _ => False) M a M' ∧ ln M' (a + 95) = ln M (a + 95) ∧ (∀ j, j < k → nt M' (a + 95) (L + 2 * j) = nt M (a + 95) (L + 2 * (k - 1 - j))) ∧ ∀ i, (∀ j, j < k → i ≠ L + 2 * j) → nt M' (a + 95) i = nt M (a + 95) i) := by
  have r20 : ∀ (M3 : mM), Wd M3 a → mR M3 a 20 = a + 95 := fun M3 w => w.1.2.2.2.2.1.2.2.2.2.2.1
  have l0 : mI M (a + 95) 1 = (L + 2 * k : Nat) := hl
  refine k_MM_turn hO ⟨by omega, by omega⟩ ?_
  rw [r20 M h, l0]
  refine ⟨h.1.1, (h.nu n95).1, ?_⟩
  -- t pairs have been turned
  suffices H : ∀ (c t : Nat) (M3 : mM), c + t = k → Mv (fun x => x = a + 95) (fun _ => False) M a M3 → ln M3 (a + 95) = ln M (a + 95) → 2 * t ≤ k → (∀ j, j < k → nt M3 (a + 95) (L + 2 * j) = if j < t ∨ k - 1 - j < t then nt M (a + 95) (L + 2 * (k - 1 - j)) else nt M (a + 95) (L + 2 * j)) → (∀ i, (∀ j, j < k → i ≠ L + 2 * j) → nt M3 (a + 95) i = nt M (a + 95) i) → h_MM_turn_12 G d a (L + 2 * t : Nat) ((L + 2 * k : Nat) - 2 - 2 * (t : Int)) M3 (fun M' => Mv (fun x => x = a + 95) (fun _ => False) M a M' ∧ ln M' (a + 95) = ln M (a + 95) ∧ (∀ j, j < k → nt M' (a + 95) (L + 2 * j) = nt M (a + 95) (L + 2 * (k - 1 - j))) ∧ ∀ i, (∀ j, j < k → i ≠ L + 2 * j) → nt M' (a + 95) i = nt M (a + 95) i) by
    have := H k 0 M (by omega) (Mv.refl hO h (fun q hq => by rw [hq]; exact h.lt n95)) rfl (by omega) (fun j hj => by rw [if_neg (by omega)]) (fun i _ => rfl)
    rw [show L + 2 * 0 = L by omega, show ((L + 2 * k : Nat) : Int) - 2 - 2 * ((0 : Nat) : Int) = ((L + 2 * k : Nat) : Int) - 2 by omega] at this
    exact this
  intro c
  induction c with
  | zero => intro t M3 hc _ _ h2; omega
  | succ c ih =>
    intro t M3 hc m3 l3 ht h3 o3
    have w3 := m3.2.1
    have u3 := w3.nu (p := a + 95) n95
    have c3 : ((L + 2 * k : Nat) : Int) ≤ cp M3 (a + 95) := by rw [← hl, ← l3]; exact u3.2.2.2.1.2
    have ecp : mN M3 (mR M3 (a + 95) 0) = cp M3 (a + 95) := rfl
    refine k_MM_turn_12 m3.1 ⟨by omega, by omega⟩ ⟨by omega, by omega⟩ ⟨fun q => ⟨m3, l3, fun j hj => ?_, o3⟩, fun q => ?_⟩
    · rw [h3 j hj]
      by_cases z : j < t ∨ k - 1 - j < t
      · rw [if_pos z]
      · rw [if_neg z, show k - 1 - j = j by omega]
    · rw [r20 M3 w3]
      refine ⟨w3.1.1, u3.1, (s_MN_at m3.1 u3 (by omega)).mono (fun x M4 h4 => ?_)⟩
      obtain ⟨e4, hx⟩ := h4
      subst e4
      rw [r20 M4 w3, show ((L + 2 * k : Nat) : Int) - 2 - 2 * (t : Int) = ((L + 2 * (k - 1 - t) : Nat) : Int) by omega]
      refine ⟨by rw [hx]; exact (m3.1 _ _).1, m3.1, w3.1.1, u3.1, (s_MN_at m3.1 u3 (by omega)).mono (fun y M5 h5 => ?_)⟩
      obtain ⟨e5, hy⟩ := h5
      subst e5
      have hx32 : i32 x := by rw [hx]; exact (m3.1 _ _).1
      have hy32 : i32 y := by rw [hy]; exact (m3.1 _ _).1
      refine ⟨hy32, m3.1, u3.2.1, by omega, fun M6 e6 => ?_⟩
      rw [Int.toNat_natCast] at e6
      obtain ⟨m6, l6, k6, -⟩ := mv_el hy32 m3.1 w3 n95 e6
      have w6 := m6.2.1
      have u6 := w6.nu (p := a + 95) n95
      have c6 : ((L + 2 * k : Nat) : Int) ≤ cp M6 (a + 95) := by rw [← hl, ← l3, ← l6]; exact u6.2.2.2.1.2
      have ecp6 : mN M6 (mR M6 (a + 95) 0) = cp M6 (a + 95) := rfl
      rw [r20 M6 w6]
      refine ⟨w6.1.1, u6.1, u6.2.1, by omega, fun M7 e7 => ?_⟩
      rw [Int.toNat_natCast] at e7
      obtain ⟨m7, l7, k7, -⟩ := mv_el hx32 m6.1 w6 n95 e7
      have nx := ih (t + 1) M7 (by omega) ((m3.trans m6).trans m7) (by rw [l7, l6, l3]) (by omega) (fun j hj => ?_) (fun i hi => ?_)
      · rw [show ((L + 2 * (t + 1) : Nat) : Int) = ((L + 2 * t : Nat) : Int) + 2 by omega, show ((L + 2 * k : Nat) : Int) - 2 - 2 * ((t + 1 : Nat) : Int) = ((L + 2 * (k - 1 - t) : Nat) : Int) - 2 by omega] at nx
        exact nx
      · rw [k7, k6]
        by_cases z1 : j = k - 1 - t
        · rw [if_pos (by omega), hx, h3 t (by omega), if_neg (by omega), if_pos (by omega), z1, show k - 1 - (k - 1 - t) = t by omega]
        · rw [if_neg (by omega)]
          by_cases z2 : j = t
          · rw [if_pos (by omega), hy, h3 (k - 1 - t) (by omega), if_neg (by omega), if_pos (by omega), z2]
          · rw [if_neg (by omega), h3 j hj]
            by_cases z3 : j < t ∨ k - 1 - j < t
            · rw [if_pos z3, if_pos (by omega)]
            · rw [if_neg z3, if_neg (by omega)]
      · rw [k7, k6, if_neg (hi (k - 1 - t) (by omega)), if_neg (hi t (by omega))]
        exact o3 i hi
end LU
end
section
/-! The reference: looking a name up. -/
section LK2
variable {G : mG} {d a N g T K : Nat} {M M2 : mM}
abbrev lkP (a g : Nat) : Nat → Prop := fun x => x = a + 93 ∨ x = a + 95 ∨ x = g + 7
theorem lkP_in {q : Nat} (hg : g = a + 13 ∨ g = a + 49) (h : lkP a g q) : q ∈ nums a := by
  rcases h with h | h | h
  · rw [h]; exact n93
  · rw [h]; exact n95
  · exact tL_in hg (by omega)
/-- a cell that belongs to no list -/
abbrev frO (o : Nat) : Prop := o < 21192 ∧ o ∉ nuO ∧ ∀ q, q ∈ nuO → o ≠ q + 1
theorem offx {o : Nat} (h : frO o) : a + o < a + 21192 ∧ a + o ∉ nums a ∧ (∀ q, q ∈ nums a → a + o ≠ q + 1) := by
  refine ⟨by have := h.1; omega, fun z => ?_, fun q z e => ?_⟩
  · obtain ⟨o', z1, z2⟩ := nums_off.1 z
    have : o' = o := by omega
    rw [this] at z1
    exact h.2.1 z1
  · obtain ⟨o', z1, z2⟩ := nums_off.1 z
    exact h.2.2 o' z1 (by omega)
theorem goffx {i : Nat} (hg : g = a + 13 ∨ g = a + 49) (h1 : frO (13 + i)) (h2 : frO (49 + i)) : g + i < a + 21192 ∧ g + i ∉ nums a ∧ (∀ q, q ∈ nums a → g + i ≠ q + 1) := by
  rcases hg with z | z
  · rw [z, Nat.add_assoc]
    exact offx h1
  · rw [z, Nat.add_assoc]
    exact offx h2
theorem Mv.cell {P S : Nat → Prop} {M3 : mM} {x : Nat} (m : Mv P S M2 a M3) (w : Wd M2 a) (hin : ∀ q, P q → q ∈ nums a) (hx : x < a + 21192) (h1 : x ∉ nums a) (h2 : ∀ q, q ∈ nums a → x ≠ q + 1) (hS : ¬ S x) : mI M3 x = mI M2 x := by
  have hz := w.2.2.2
  exact (m.2.2.2.1.2.2.2.1 x (by omega) (fun z => h1 (hin x z)) (fun q hq z => by
    rcases (w.arr (hin q hq)).2 with y | y
    · exact h2 q (hin q hq) (z.trans y)
    · omega) hS).1
theorem Mv.cellL {P S : Nat → Prop} {M3 : mM} {x : Nat} (m : Mv P S M2 a M3) (w : Wd M2 a) (hin : ∀ q, P q → q ∈ nums a) (hx : x < a + 21192 ∧ x ∉ nums a ∧ (∀ q, q ∈ nums a → x ≠ q + 1)) (hS : ¬ S x) : mI M3 x = mI M2 x ∧ mL M3 x = mL M2 x := by
  have hz := w.2.2.2
  exact m.2.2.2.1.2.2.2.1 x (by omega) (fun z => hx.2.1 (hin x z)) (fun q hq z => by
    rcases (w.arr (hin q hq)).2 with y | y
    · exact hx.2.2 q (hin q hq) (z.trans y)
    · omega) hS
/-- the draft while its trees are looked at -/
def Lc (M : mM) (a g N T K : Nat) : Prop := mOk M ∧ Wx M a N ∧ Nm M a g N K ∧ nd M g T ∧ mR M a 10 = g ∧ (g = a + 13 ∨ g = a + 49) ∧ (0 ≤ mI M g 6 ∧ mI M g 6 ≤ 60 ∧ 0 ≤ mI M g 12 ∧ mI M g 12 ≤ 12) ∧ T ≤ 30000
/-- nothing but values of names, truths and looks has changed -/
def LO (M : mM) (a g N T K : Nat) (M2 : mM) : Prop := Mv (lkP a g) (fun x => x = a) M a M2 ∧ Lc M2 a g N T K ∧ (∀ i, i ≠ 16 → i ≠ 17 → mI M2 a i = mI M a i) ∧ (∀ n, so M2 g n = so M g n ∧ fp M2 g n = fp M g n ∧ np M2 g n = np M g n) ∧ mI M2 g = mI M g
theorem lkP_no (hg : g = a + 13 ∨ g = a + 49) (h : Wd M a) : ¬ lkP a g (a + 5) ∧ ¬ lkP a g (a + 7) ∧ ¬ lkP a g (a + 9) ∧ ¬ lkP a g (mR M a 2) ∧ ¬ lkP a g (a + 85) ∧ ¬ lkP a g (a + 87) ∧ ¬ lkP a g (a + 89) := by
  have h1 := h.1.2.1
  refine ⟨by omega, by omega, by omega, ?_, by omega, by omega, by omega⟩
  rcases h1 with w | w <;> rw [w.2] <;> omega
/-- a step that changes only those -/
theorem Lc.step {P S : Nat → Prop} {M3 : mM} (h : Lc M2 a g N T K) (m : Mv P S M2 a M3) (hP : ∀ q, P q → lkP a g q) (hS : ∀ x, S x → x = a) (h7 : ln M3 (g + 7) = ln M2 (g + 7)) : Lc M3 a g N T K ∧ (∀ n, so M3 g n = so M2 g n ∧ fp M3 g n = fp M2 g n ∧ np M3 g n = np M2 g n) ∧ mI M3 g = mI M2 g ∧ Mv (lkP a g) (fun x => x = a) M2 a M3 := by
  obtain ⟨hO, hx, hn, hd, h10, hg, hb, hT⟩ := h
  have w := hx.1.1
  have hz := w.2.2.2
  have no := lkP_no hg w
  have hin : ∀ q, P q → q ∈ nums a := fun q hq => lkP_in hg (hP q hq)
  have keep : ∀ q, q ∈ nums a → ¬ lkP a g q → sameN M2 M3 q := fun q hq hne => m.lst hq (fun z => hne (hP q z))
  have gfree : g ∉ nums a := fun z => by
    obtain ⟨o, z1, z2⟩ := nums_off.1 z
    rcases hg with y | y
    · have : o = 13 := by omega
      rw [this] at z1; exact absurd z1 (by decide)
    · have : o = 49 := by omega
      rw [this] at z1; exact absurd z1 (by decide)
  have gI : mI M3 g = mI M2 g := (m.2.2.2.1.2.2.2.1 g (by omega) (fun z => gfree (hin g z)) (fun q hq z => by
    rcases (w.arr (hin q hq)).2 with y | y
    · have : g = q + 1 := by omega
      have q' := hP q hq
      omega
    · omega) (fun z => by have := hS g z; omega)).1
  have o13 := goffx (i := 13) hg (by decide) (by decide)
  have c13 : mI M3 (g + 13) = mI M2 (g + 13) := m.cell w hin o13.1 o13.2.1 o13.2.2 (fun z => by have := hS _ z; omega)
  have k1 := keep (g + 1) (tL_in hg (by omega)) (by omega)
  have k9 := keep (g + 9) (tL_in hg (by omega)) (by omega)
  have k11 := keep (g + 11) (tL_in hg (by omega)) (by omega)
  have k85 := keep _ (n85 (a := a)) no.2.2.2.2.1
  have k87 := keep _ (n87 (a := a)) no.2.2.2.2.2.1
  have k89 := keep _ (n89 (a := a)) no.2.2.2.2.2.2
  refine ⟨⟨m.1, hx.mv m hin (fun z => no.1 (hP _ z)) (fun z => no.2.1 (hP _ z)) (fun z => no.2.2.1 (hP _ z)) (fun z => no.2.2.2.1 (hP _ z)), ?_, fun q hq => ?_, by rw [m.rfl_a w hin]; exact h10, hg, by rw [gI]; exact hb, hT⟩, fun n => ⟨k1.2.1 n, k9.2.1 n, k11.2.1 n⟩, gI, m.mono hP hS (fun q hq => w.lt (lkP_in hg hq))⟩
  · obtain ⟨n1, n2, n3, n4, n5'⟩ := hn
    refine ⟨by rw [k85.1]; exact n1, by rw [k87.1]; exact n2, by rw [k89.1]; exact n3, n4, fun k hk => ?_⟩
    rw [k85.2.1, k87.2.1, k89.2.1, gI, c13]
    exact n5' k hk
  · by_cases z : q = g + 7
    · rw [z, h7]; exact hd _ (by omega)
    · rw [(keep q (tL_in hg hq) (by omega)).1]; exact hd q hq
theorem LO.step {P S : Nat → Prop} {M3 : mM} (h : LO M a g N T K M2) (m : Mv P S M2 a M3) (hP : ∀ q, P q → lkP a g q) (hS : ∀ x, S x → x = a) (h7 : ln M3 (g + 7) = ln M2 (g + 7)) (hf : ∀ i, i ≠ 16 → i ≠ 17 → mI M3 a i = mI M2 a i) : LO M a g N T K M3 := by
  obtain ⟨k1, k2, k3, k4⟩ := h.2.1.step m hP hS h7
  exact ⟨h.1.trans k4, k1, fun i a1 a2 => (hf i a1 a2).trans (h.2.2.1 i a1 a2), fun n => ⟨(k2 n).1.trans (h.2.2.2.1 n).1, (k2 n).2.1.trans (h.2.2.2.1 n).2.1, (k2 n).2.2.trans (h.2.2.2.1 n).2.2⟩, k3.trans h.2.2.2.2⟩
/-- a name as it is known: a rule, or 100 and a variable -/
def nmr (co : Int) (M : mM) (g : Nat) (v : Int) : Prop := (0 ≤ v ∧ v < mI M g 6 ∧ v < 60 ∧ (co ≠ 0 → mI M (g + 13) v.toNat = 0)) ∨ (co = 0 ∧ 100 ≤ v ∧ v < 100 + mI M g 12 ∧ v < 112)
theorem goff {x : Nat} (hg : g = a + 13 ∨ g = a + 49) (hx : x = g + 14 ∨ x = g + 18) : x < a + 21192 ∧ x ∉ nums a ∧ (∀ q, q ∈ nums a → x ≠ q + 1) ∧ x ≠ a := by
  refine ⟨by omega, fun z => ?_, fun q z e => ?_, by omega⟩
  · obtain ⟨o, z1, z2⟩ := nums_off.1 z
    have : o = 27 ∨ o = 31 ∨ o = 63 ∨ o = 67 := by omega
    rcases this with y | y | y | y <;> rw [y] at z1 <;> exact absurd z1 (by decide)
  · obtain ⟨o, z1, z2⟩ := nums_off.1 z
    have : o = 26 ∨ o = 30 ∨ o = 62 ∨ o = 66 := by omega
    rcases this with y | y | y | y <;> rw [y] at z1 <;> exact absurd z1 (by decide)
/-- the type of a name: 1 a truth, 0 a number -/
def tn (M : mM) (g : Nat) (v : Int) : Int := if (if 100 ≤ v then mI M (g + 18) (v - 100).toNat else mI M (g + 14) v.toNat) = 0 then 0 else 1
theorem LO.fm (w : Wd M a) (h : LO M a g N T K M2) : mI M2 (g + 13) = mI M (g + 13) := by
  have hg := h.2.1.2.2.2.2.2.1
  have o13 := goffx (i := 13) hg (by decide) (by decide)
  exact h.1.cell w (fun q hq => lkP_in hg hq) o13.1 o13.2.1 o13.2.2 (by omega)
theorem LO.tn (w : Wd M a) (h : LO M a g N T K M2) : mI M2 (g + 14) = mI M (g + 14) ∧ mI M2 (g + 18) = mI M (g + 18) := by
  have hg := h.2.1.2.2.2.2.2.1
  have a1 := goff (x := g + 14) hg (Or.inl rfl)
  have a2 := goff (x := g + 18) hg (Or.inr rfl)
  exact ⟨h.1.cell w (fun q hq => lkP_in hg hq) a1.1 a1.2.1 a1.2.2.1 a1.2.2.2, h.1.cell w (fun q hq => lkP_in hg hq) a2.1 a2.2.1 a2.2.2.1 a2.2.2.2⟩
/-- looking up ends -/
def luQ (co : Int) (M M2 : mM) (a g N T K n : Nat) (r : Int) (M3 : mM) : Prop := LO M a g N T K M3 ∧ (r = 0 ∨ r = 1) ∧ sameN M2 M3 (a + 93) ∧ sameN M2 M3 (a + 95) ∧ ((mI M3 a 16 = 2 ∧ ∀ k, va M3 g k = va M2 g k) ∨ (mI M3 a 16 = mI M2 a 16 ∧ (nmr co M g (va M3 g n) ∧ r = tn M g (va M3 g n)) ∧ ∀ k, k ≠ n → va M3 g k = va M2 g k))
theorem s_MM_lookUp {n : Nat} {co : Int} (hco : i32 co) (hw0 : Wd M a) (h : LO M a g N T K M2) (hn : n < T) (hv : 0 ≤ va M2 g n ∧ va M2 g n < N) : Ci G y_MM_lookUp (d + 4) [vr a, vi n, vi co] M2 (luQ co M M2 a g N T K n) := by
  obtain ⟨hO, hx, hnm, hd, h10, hg, hb, hT⟩ := id h.2.1
  have w := hx.1.1
  have gp := w.gp hg
  obtain ⟨n1, n2, n3, n4, n5'⟩ := id hnm
  have r3 : mR M2 g 3 = g + 7 := gp.2.1.2.2.2.1
  have r1 : mR M2 g 1 = g + 3 := gp.2.1.2.1
  have r14 : mR M2 a 14 = a + 87 := w.1.2.2.2.2.1.2.1
  have r15 : mR M2 a 15 = a + 89 := w.1.2.2.2.2.1.2.2.1
  have u7 := w.nu (tL_in (a := a) (q := g + 7) hg (by omega))
  have u3 := w.nu (tL_in (a := a) (q := g + 3) hg (by omega))
  have l7 := hd (g + 7) (by omega)
  have l3 := hd (g + 3) (by omega)
  have c7 : (T : Int) ≤ cp M2 (g + 7) := by rw [← l7]; exact u7.2.2.2.1.2
  have gI := h.2.2.2.2
  -- a list is read
  have rd : ∀ {p k : Nat} {Q : Int → mM → Prop}, p ∈ nums a → (k : Int) < ln M2 p → (∀ z, z = nt M2 p k → i32 z → Q z M2) → Ci G y_MN_at (d + 3) [vr p, vi k] M2 Q := fun hp hk hQ => by
    refine (s_MN_at hO (w.nu hp) hk).mono (fun z M1 e1 => ?_)
    obtain ⟨e1, hz⟩ := e1
    subst e1
    exact hQ z hz (by rw [hz]; exact (hO _ _).1)
  -- the fault is told
  have flt : ∀ (y : Int), i32 y → Cv G y_MM_stop (d + 3) [vr a, vi 2, vi y] M2 (fun M4 => mOk M4 ∧ luQ co M M2 a g N T K n 0 M4) := fun y hy => by
    refine (s_MM_stop (i32s (by omega) (by omega)) hy hO w).mono (fun M4 h4 => ?_)
    obtain ⟨m4, f1, f2, f3⟩ := h4
    have s7 := m4.lst (tL_in (a := a) (q := g + 7) hg (by omega)) (fun z => z)
    exact ⟨m4.1, h.step m4 (fun q hq => hq.elim) (fun x hx => hx) s7.1 f3, Or.inl rfl, m4.lst n93 (fun z => z), m4.lst n95 (fun z => z), Or.inl ⟨f1, fun k => s7.2.1 k⟩⟩
  refine k_MM_lookUp hO (i32s (by omega) (by omega)) hco ?_
  rw [h10, r3]
  refine ⟨w.1.1, gp.1, u7.1, rd (tL_in hg (by omega)) (by omega) (fun x1 e1 i1 => ⟨i1, hO, w.1.1, ?_⟩)⟩
  have e1' : x1 = va M2 g n := e1
  rw [show x1 = ((x1.toNat : Nat) : Int) by omega]
  refine (s_MM_find (d := d) hO hx hnm (by omega)).mono (fun k M3 h3 => ?_)
  obtain ⟨e3, k0, k1⟩ := h3
  subst e3
  have fault : Ci G y_MN_at (d + 3) [vr (g + 3), vi n] M3 (fun x18 M17 => i32 x18 ∧ mOk M17 ∧ (mK M17 a = 14 ∧ Cv G y_MM_stop (d + 3) [vr a, vi 2, vi x18] M17 (fun M21 => mOk M21 ∧ luQ co M M3 a g N T K n 0 M21))) := rd (tL_in hg (by omega)) (by omega) (fun y ey iy => ⟨iy, hO, w.1.1, flt y iy⟩)
  -- the name's place among the known ones
  have good : ∀ (kk : Nat) (x : Int), kk < K → x = nt M3 (a + 89) kk → i32 x → (co ≠ 0 → nt M3 (a + 87) kk = 1) → (mK M3 g = 16 ∧ mK M3 (g + 7) = 15 ∧ mK M3 (a + 87) = 15 ∧ Ci G y_MN_at (d + 3) [vr (a + 87), vi kk] M3 (fun x36 M35 => i32 x36 ∧ mOk M35 ∧ (∀ v39 : Int, v39 = (if (x36 = 3) then 100 + x else x) → mK M35 (mR M3 (g + 7) 0) = 30 ∧ ((0 : Int) ≤ n ∧ (n : Int) < (mN M35 (mR M3 (g + 7) 0) : Int)) ∧ i32 v39 ∧ ∀ M45, M45 = mUI M35 (mR M3 (g + 7) 0) (Int.toNat n) v39 → mK M45 a = 14 ∧ mK M45 (mR M45 a 14) = 15 ∧ Ci G y_MN_at (d + 3) [vr (mR M45 a 14), vi kk] M45 (fun x50 M49 => i32 x50 ∧ mOk M49 ∧ ((((x50 = 3) → (mK M49 a = 14 ∧ mK M49 (mR M49 a 10) = 16 ∧ mK M49 (mR M49 (mR M49 a 10) 13) = 31 ∧ ((0 : Int) ≤ x ∧ x < (mN M49 (mR M49 (mR M49 a 10) 13) : Int)))) ∧ (¬ (x50 = 3) → (mK M49 a = 14 ∧ mK M49 (mR M49 a 10) = 16 ∧ mK M49 (mR M49 (mR M49 a 10) 8) = 31 ∧ ((0 : Int) ≤ x ∧ x < (mN M49 (mR M49 (mR M49 a 10) 8) : Int))))) ∧ ∀ v61 : Int, v61 = (if (x50 = 3) then mI M49 (mR M49 (mR M49 a 10) 13) (Int.toNat x) else mI M49 (mR M49 (mR M49 a 10) 8) (Int.toNat x)) → i32 v61 ∧ ∀ v66 : Int, v66 = (if (v61 = 0) then 0 else 1) → luQ co M M3 a g N T K n v66 M49))))) := fun kk x hkk ex ix hc1 => by
    obtain ⟨-, hk, hk1⟩ := n5' kk hkk
    rw [← ex] at hk hk1
    refine ⟨gp.1, u7.1, (w.nu n87).1, rd n87 (by omega) (fun s es is => ⟨is, hO, fun v hv => ⟨u7.2.1, ⟨by omega, by have : mN M3 (mR M3 (g + 7) 0) = cp M3 (g + 7) := rfl; omega⟩, i32s (by split at hv <;> omega) (by split at hv <;> omega), fun M4 e4 => ?_⟩⟩)⟩
    rw [← es] at hk hc1 hk1
    rw [Int.toNat_natCast] at e4
    obtain ⟨m4, l4, k4, -⟩ := mv_el (v := v) (i32s (by split at hv <;> omega) (by split at hv <;> omega)) hO w (tL_in (a := a) (q := g + 7) hg (by omega)) e4
    have w4 := m4.2.1
    have f4 := (m4.fld w (fun q hq => by rw [hq]; exact tL_in hg (by omega)) (fun hq => hq)).1
    have L4 : LO M a g N T K M4 := h.step m4 (fun q hq => Or.inr (Or.inr hq)) (fun x hx => hx.elim) l4 (fun i _ _ => by rw [f4])
    have s87 := m4.lst (n87 (a := a)) (by omega)
    have gp4 := w4.gp hg
    have d4 : mR M4 a 10 = g := L4.2.1.2.2.2.2.1
    have r144 : mR M4 a 14 = a + 87 := w4.1.2.2.2.2.1.2.1
    rw [r144]
    refine ⟨w4.1.1, (w4.nu n87).1, (s_MN_at m4.1 (w4.nu n87) (by rw [s87.1]; omega)).mono (fun s' M5 e5 => ?_)⟩
    obtain ⟨e5, hs'⟩ := e5
    subst e5
    rw [s87.2.1, ← es] at hs'
    subst hs'
    rw [d4, gp4.2.2.1.1, gp4.2.1.2.2.2.2.2.2.2.1, gp4.2.2.2.2.1.1.2, gp4.2.2.2.1.2.1.2]
    refine ⟨is, m4.1, ⟨fun q => ⟨w4.1.1, gp4.1, gp4.2.2.2.2.1.1.1, by omega⟩, fun q => ⟨w4.1.1, gp4.1, gp4.2.2.2.1.2.1.1, by omega⟩⟩, fun u hu => ⟨by rw [hu]; split <;> exact (m4.1 _ _).1, fun z hz => ⟨L4, by split at hz <;> omega, m4.lst n93 (by omega), m4.lst n95 (by omega), Or.inr ⟨by rw [f4], ?_, fun k hk => by show nt M5 (g + 7) k = _; rw [k4 k, if_neg hk]⟩⟩⟩⟩
    show nmr co M g (nt M5 (g + 7) n) ∧ z = tn M g (nt M5 (g + 7) n)
    rw [k4 n, if_pos rfl]
    refine ⟨?_, ?_⟩
    · unfold nmr
      rw [← gI]
      have f13 := h.fm hw0
      rw [← f13]
      by_cases c3 : s' = 3
      · rw [if_pos c3] at hv
        refine Or.inr ⟨?_, by omega, by omega, by omega⟩
        by_cases z0 : co = 0
        · exact z0
        · have := hc1 z0
          omega
      · rw [if_neg c3] at hv
        refine Or.inl ⟨by omega, by omega, by omega, fun z0 => ?_⟩
        rw [hv]
        exact hk1 (hc1 z0)
    · obtain ⟨y1, y2⟩ := L4.tn hw0
      rw [hz, hu, y1, y2]
      unfold tn
      by_cases c3 : s' = 3
      · rw [if_pos c3] at hv
        rw [if_pos c3, hv, if_pos (show (100 : Int) ≤ 100 + x by omega), show (100 + x - 100).toNat = x.toNat by omega]
      · rw [if_neg c3] at hv
        rw [if_neg c3, hv, if_neg (show ¬ (100 : Int) ≤ x by omega)]
  refine ⟨i32s (by omega) (by omega), hO, fun q => ?_, fun q => ⟨fun q2 => ?_, fun q2 => ?_⟩⟩
  · rw [h10, r1]
    exact ⟨w.1.1, gp.1, u3.1, fault⟩
  · rw [r15, show k = ((k.toNat : Nat) : Int) by omega]
    refine ⟨w.1.1, (w.nu n89).1, rd n89 (by omega) (fun x ex ix => ⟨ix, hO, w.1.1, ?_⟩)⟩
    rw [h10, r3, r14]
    exact good k.toNat x (by omega) ex ix (fun z => absurd q2 z)
  · rw [r14, show k = ((k.toNat : Nat) : Int) by omega]
    refine ⟨w.1.1, (w.nu n87).1, rd n87 (by omega) (fun s es is => ⟨is, hO, fun q3 => ?_, fun q3 => ?_⟩)⟩
    · rw [r15]
      refine ⟨w.1.1, (w.nu n89).1, rd n89 (by omega) (fun x ex ix => ⟨ix, hO, w.1.1, ?_⟩)⟩
      rw [h10, r3, r14]
      exact good k.toNat x (by omega) ex ix (fun _ => es.symm.trans q3)
    · rw [h10, r1]
      exact ⟨w.1.1, gp.1, u3.1, fault⟩
end LK2
end
section
/-! The reference: looking at a node. -/
section LA
variable {G : mG} {d a N g T K n L : Nat} {M M2 M4 : mM}
/-- the type of a node, from its parts' types: 1 a truth, 0 a number -/
def tyr (s : Int) (k : Nat) (u : Nat → Int) (t : Int) : Prop := if s = 29 ∨ s = 30 ∨ s = 31 then (∀ j, j < k → u j = 1) ∧ t = 1 else if s = 18 ∨ s = 23 then u 0 = u 1 ∧ t = 1 else if s = 32 then u 0 = 1 ∧ u 1 = t ∧ u 2 = t else (∀ j, j < k → u j = 0) ∧ t = if 19 ≤ s ∧ s ≤ 22 then 1 else 0
def tyn (w : Int → Int) (s v : Int) (k : Nat) (u : Nat → Int) (t : Int) : Prop := if s = 1 then t = w v else if s = 2 then t = 0 else if s = 12 ∨ s = 13 then t = 1 else tyr s k u t
/-- what becomes of the names -/
def laE (co : Int) (M M2 : mM) (a g n k : Nat) (u : Nat → Int) (t : Int) (M3 : mM) : Prop := mI M3 a 16 ≠ 0 ∨ (mI M3 a 16 = mI M2 a 16 ∧ (so M2 g n = 1 → nmr co M g (va M3 g n)) ∧ (∀ k, (k ≠ n ∨ so M2 g n ≠ 1) → va M3 g k = va M2 g k) ∧ tyn (tn M g) (so M2 g n) (va M3 g n) k u t)
/-- a node has been looked at -/
def laQ (co : Int) (M M2 : mM) (a g N T K n L k : Nat) (u : Nat → Int) (M5 : mM) : Prop := LO M a g N T K M5 ∧ sameN M2 M5 (a + 95) ∧ ln M5 (a + 93) = (L + 1 : Nat) ∧ (∀ j, j < L → nt M5 (a + 93) j = nt M2 (a + 93) j) ∧ (nt M5 (a + 93) L = 0 ∨ nt M5 (a + 93) L = 1) ∧ laE co M M2 a g n k u (nt M5 (a + 93) L) M5
theorem la386 {co : Int} {k : Nat} {u : Nat → Int} {x : Int} (hx : x = 0 ∨ x = 1) (h : LO M a g N T K M4) (s93 : sameN M2 M4 (a + 93)) (s95 : sameN M2 M4 (a + 95)) (e : laE co M M2 a g n k u x M4) (hL : ln M2 (a + 93) = (L + k : Nat)) (hb : L + k ≤ 65000) : h_MM_lookAt_386 G d a L x M4 (laQ co M M2 a g N T K n L k u) := by
  obtain ⟨hO, hw, -, -, -, hg, -, -⟩ := id h.2.1
  have w := hw.1.1
  have r19 : ∀ {M3 : mM}, Wd M3 a → mR M3 a 19 = a + 93 := fun w => w.1.2.2.2.2.1.2.2.2.2.1
  refine k_MM_lookAt_386 hO (i32s (by omega) (by omega)) (i32s (by omega) (by omega)) ?_
  rw [r19 w]
  refine ⟨w.1.1, (w.nu n93).1, fun M5 e5 => ?_⟩
  obtain ⟨m5, l5, t5, -⟩ := mv_set hO w n93 (v := (L : Int)) (by omega) (by rw [s93.1, hL]; omega) e5
  have w5 := m5.2.1
  have g7 : g + 7 ∈ nums a := tL_in hg (by omega)
  have f5 := (m5.fld w (fun q hq => by rw [hq]; exact n93) (fun hq => hq)).1
  have L5 : LO M a g N T K M5 := h.step m5 (fun q hq => Or.inl hq) (fun x hx => hx.elim) (m5.lst g7 (by omega)).1 (fun i _ _ => by rw [f5])
  rw [r19 w5]
  refine ⟨(w5.nu n93).1, (s_MN_addB (B := 65536) (i32s (by omega) (by omega)) m5.1 (w5.nu n93) (by rw [l5]; omega) (by decide)).mono (fun M6 t6 => ?_)⟩
  have m6 := mv_addB w5 n93 (Or.inr (Or.inl rfl)) t6
  have f6 := (m6.fld w5 (fun q hq => by rw [hq]; exact n93) (fun hq => hq)).1
  have L6 : LO M a g N T K M6 := L5.step m6 (fun q hq => Or.inl hq) (fun x hx => hx.elim) (m6.lst g7 (by omega)).1 (fun i _ _ => by rw [f6])
  obtain ⟨-, -, -, t1, t2, t3, -⟩ := t6
  rw [l5] at t1 t2 t3
  rw [Int.toNat_natCast] at t3
  have v6 : ∀ k, va M6 g k = va M4 g k := fun k => ((m6.lst g7 (by omega)).2.1 k).trans ((m5.lst g7 (by omega)).2.1 k)
  refine ⟨m6.1, L6, ?_, by rw [t1]; omega, fun j hj => by rw [t2 j (by omega), t5, s93.2.1], by rw [t3]; exact hx, ?_⟩
  · exact sameN.trans s95 (sameN.trans (m5.lst n95 (by omega)) (m6.lst n95 (by omega)))
  · unfold laE at e ⊢
    rw [f6, f5, t3]
    simp only [v6]
    exact e
/-- how many parts a node has, as the program counts them -/
def pks (nm : Int → Prop) (M : mM) (g T n k : Nat) : Prop := (k = 0 ∧ fp M g n = -1 ∧ (so M g n = 1 ∨ so M g n = 2 ∨ so M g n = 12 ∨ so M g n = 13)) ∨ (1 ≤ k ∧ k ≤ 30000 ∧ ari (so M g n) k ∧ fp M g n = ((n + 1 : Nat) : Int) ∧ ∃ f e : Nat, e ≤ T ∧ Tn nm M g f k (n + 1) e)
theorem s_MM_parts {nm : Int → Prop} {k : Nat} (h : LO M a g N T K M2) (hn : n < T) (hk : pks nm M2 g T n k) : Ci G y_MM_parts (d + 1) [vr a, vi n] M2 (fun r M' => M' = M2 ∧ r = k) := by
  obtain ⟨hO, hw, -, hd, h10, hg, -, hT⟩ := id h.2.1
  have w := hw.1.1
  have gp := w.gp hg
  have r4 : mR M2 g 4 = g + 9 := gp.2.1.2.2.2.2.1
  have u9 := w.nu (tL_in (a := a) (q := g + 9) hg (by omega))
  have l9 := hd (g + 9) (by omega)
  refine k_MM_parts hO (i32s (by omega) (by omega)) ?_
  rw [h10, r4]
  refine ⟨w.1.1, gp.1, u9.1, (s_MN_at hO u9 (by omega)).mono (fun z M1 e1 => ?_)⟩
  obtain ⟨e1, hz⟩ := e1
  subst e1
  refine ⟨by rw [hz]; exact (hO _ _).1, hO, ?_⟩
  rcases hk with ⟨k0, k1, -⟩ | ⟨k0, k1, k2, k3, f, e, k4, k5⟩
  · have : z = -1 := hz.trans k1
    rw [this]
    exact k_MM_parts_14 hO ⟨by omega, by omega⟩ (i32s (by omega) (by omega)) ⟨fun _ => ⟨rfl, by omega⟩, fun q => by omega⟩
  · have : z = ((n + 1 : Nat) : Int) := hz.trans k3
    rw [this]
    have := s_pt14 (G := G) (d := d) hO w hg h10 hd (by omega) k f (n + 1) e 0 k0 k5 k4 (by omega) (by omega)
    rw [show (0 : Int) + (k : Int) = (k : Int) by omega] at this
    exact this
end LA
end
section
/-! The reference: looking at a node, to the end. -/
section LB
variable {G : mG} {d a N g T K n L : Nat} {M M2 : mM}
/-- a sum -/
def su (u : Nat → Int) : Nat → Int
  | 0 => 0
  | j + 1 => su u j + u j
theorem su_b {u : Nat → Int} : ∀ {k : Nat}, (∀ j, j < k → u j = 0 ∨ u j = 1) → 0 ≤ su u k ∧ su u k ≤ k ∧ (su u k = k → ∀ j, j < k → u j = 1) ∧ (su u k = 0 → ∀ j, j < k → u j = 0)
  | 0, _ => ⟨by rw [su]; omega, by rw [su]; omega, fun _ j hj => by omega, fun _ j hj => by omega⟩
  | k + 1, h => by
    obtain ⟨a1, a2, a3, a4⟩ := su_b (k := k) (fun j hj => h j (by omega))
    have := h k (by omega)
    rw [su]
    refine ⟨by omega, by omega, fun e j hj => ?_, fun e j hj => ?_⟩
    · by_cases z : j = k
      · rw [z]; omega
      · exact a3 (by omega) j (by omega)
    · by_cases z : j = k
      · rw [z]; omega
      · exact a4 (by omega) j (by omega)
theorem s_MM_lookAt {nm : Int → Prop} {k : Nat} {u : Nat → Int} {co : Int} (hco : i32 co) (hw0 : Wd M a) (h : LO M a g N T K M2) (hn : n < T) (hk : pks nm M2 g T n k) (hv : so M2 g n = 1 → 0 ≤ va M2 g n ∧ va M2 g n < N) (hL : ln M2 (a + 93) = (L + k : Nat)) (hb : L + k ≤ 65000) (hu : ∀ j, j < k → nt M2 (a + 93) (L + j) = u j) (h01 : ∀ j, j < k → u j = 0 ∨ u j = 1) : Cv G y_MM_lookAt (d + 5) [vr a, vi n, vi co] M2 (fun M5 => mOk M5 ∧ laQ co M M2 a g N T K n L k u M5) := by
  refine Cv.mono (Q := laQ co M M2 a g N T K n L k u) ?_ (fun M5 h5 => ⟨h5.1.2.1.1, h5⟩)
  obtain ⟨hO, hx, -, hd, h10, hg, -, hT⟩ := id h.2.1
  have w := hx.1.1
  have gp := w.gp hg
  have r0 : mR M2 g 0 = g + 1 := gp.2.1.1
  have r1 : mR M2 g 1 = g + 3 := gp.2.1.2.1
  have r19 : mR M2 a 19 = a + 93 := w.1.2.2.2.2.1.2.2.2.2.1
  have u1 := w.nu (tL_in (a := a) (q := g + 1) hg (by omega))
  have u3 := w.nu (tL_in (a := a) (q := g + 3) hg (by omega))
  have l1 := hd (g + 1) (by omega)
  have l3 := hd (g + 3) (by omega)
  have l93 : mI M2 (a + 93) 1 = (L + k : Nat) := hL
  have rd : ∀ {p j : Nat} {Q : Int → mM → Prop}, p ∈ nums a → (j : Int) < ln M2 p → (∀ z, z = nt M2 p j → i32 z → Q z M2) → Ci G y_MN_at (d + 4) [vr p, vi j] M2 Q := fun hp hk hQ => by
    refine (s_MN_at hO (w.nu hp) hk).mono (fun z M1 e1 => ?_)
    obtain ⟨e1, hz⟩ := e1
    subst e1
    exact hQ z hz (by rw [hz]; exact (hO _ _).1)
  have ok : ∀ (x : Int), (x = 0 ∨ x = 1) → so M2 g n ≠ 1 → tyn (tn M g) (so M2 g n) (va M2 g n) k u x → h_MM_lookAt_386 G (d + 4) a L x M2 (laQ co M M2 a g N T K n L k u) := fun x hx hs ht => la386 hx h sameN.refl sameN.refl (Or.inr ⟨rfl, fun z => absurd z hs, fun _ _ => rfl, ht⟩) hL hb
  have flt : ∀ (p x : Int), i32 p → (x = 0 ∨ x = 1) → Cv G y_MM_stop (d + 4) [vr a, vi 3, vi p] M2 (fun M4 => mOk M4 ∧ h_MM_lookAt_386 G (d + 4) a L x M4 (laQ co M M2 a g N T K n L k u)) := fun p x hp hx => by
    refine (s_MM_stop (i32s (by omega) (by omega)) hp hO w).mono (fun M4 h4 => ?_)
    obtain ⟨m4, f1, f2, f3⟩ := h4
    have s7 := m4.lst (tL_in (a := a) (q := g + 7) hg (by omega)) (fun z => z)
    exact ⟨m4.1, la386 hx (h.step m4 (fun q hq => hq.elim) (fun x hx => hx) s7.1 f3) (m4.lst n93 (fun z => z)) (m4.lst n95 (fun z => z)) (Or.inl (by rw [f1]; decide)) hL hb⟩
  refine k_MM_lookAt hO (i32s (by omega) (by omega)) hco ?_
  rw [h10, r0]
  refine ⟨w.1.1, gp.1, u1.1, rd (tL_in hg (by omega)) (by omega) (fun s es is => ⟨is, hO, w.1.1, ?_⟩)⟩
  rw [h10, r1]
  refine ⟨gp.1, u3.1, rd (tL_in hg (by omega)) (by omega) (fun p ep ip => ⟨ip, hO, w.1.1, (s_MM_parts (d := d + 3) h hn hk).mono (fun r M3 e3 => ?_)⟩)⟩
  obtain ⟨e3, hr⟩ := e3
  subst e3
  subst hr
  have es' : s = so M3 g n := es
  rw [← es'] at hv ok
  have hkb : k ≤ 30000 := by rcases hk with q | q <;> omega
  rw [r19, l93, show ((L + k : Nat) : Int) - (k : Int) = (L : Int) by omega]
  refine ⟨i32s (by omega) (by omega), hO, w.1.1, (w.nu n93).1, ?_⟩
  suffices H : ∀ (c j : Nat), c + j = k → h_MM_lookAt_51 G (d + 4) a n co s p k L (su u j) (L + j : Nat) M3 (laQ co M M3 a g N T K n L k u) by
    have := H k 0 (by omega)
    rw [show L + 0 = L by omega] at this
    exact this
  intro c
  induction c with
  | succ c ih =>
    intro j hj
    have sb := su_b (k := j) (fun i hi => h01 i (by omega))
    refine k_MM_lookAt_51 hO (i32s (by omega) (by omega)) hco is ip (i32s (by omega) (by omega)) (i32s (by omega) (by omega)) (i32s (by omega) (by omega)) ⟨by omega, by omega⟩ ?_
    rw [r19, l93]
    refine ⟨w.1.1, (w.nu n93).1, fun q => by omega, fun _ => rd n93 (by rw [hL]; omega) (fun z hz iz => ⟨iz, hO, ?_⟩)⟩
    rw [hu j (by omega)] at hz
    have := ih (j + 1) (by omega)
    rw [show ((L + (j + 1) : Nat) : Int) = ((L + j : Nat) : Int) + 1 by omega, su, ← hz] at this
    exact this
  | zero =>
    intro j hj
    have hjk : j = k := by omega
    subst hjk
    obtain ⟨sb1, sb2, sb3, sb4⟩ := su_b (k := j) h01
    have ny : ∀ {t : Int}, s ≠ 1 → s ≠ 2 → ¬ (s = 12 ∨ s = 13) → tyr s j u t → tyn (tn M g) s (va M3 g n) j u t := fun y1 y2 y3 y4 => by
      unfold tyn
      rw [if_neg y1, if_neg y2, if_neg y3]
      exact y4
    have hk2 : s = 18 ∨ s = 23 → j = 2 := fun y => by
      rcases hk with ⟨-, -, z⟩ | ⟨-, -, z, -⟩
      · omega
      · unfold ari at z; omega
    refine k_MM_lookAt_51 hO (i32s (by omega) (by omega)) hco is ip (i32s (by omega) (by omega)) (i32s (by omega) (by omega)) (i32s (by omega) (by omega)) ⟨by omega, by omega⟩ ?_
    rw [r19, l93]
    refine ⟨w.1.1, (w.nu n93).1, fun _ => ⟨fun q1 => ?_, fun q1 => ⟨fun q2 => ⟨fun z => absurd z (by decide), fun _ => ok 0 (Or.inl rfl) q1 (by unfold tyn; rw [if_neg q1, if_pos q2])⟩, fun q2 => ⟨fun q3 => ⟨fun z => absurd z (by decide), fun _ => ok 1 (Or.inr rfl) q1 (by unfold tyn; rw [if_neg q1, if_neg q2, if_pos q3])⟩, fun q3 => ⟨fun q4 v hv => ⟨fun _ => flt p 1 ip (Or.inr rfl), fun z => ok 1 (Or.inr rfl) q1 (ny q1 q2 q3 ?_)⟩, fun q4 => ⟨fun q5 v hv => ⟨fun _ => flt p 1 ip (Or.inr rfl), fun z => ok 1 (Or.inr rfl) q1 (ny q1 q2 q3 ?_)⟩, fun q5 => ⟨fun q6 => ?_, fun q6 v hv => k_MM_isComparison hO is (fun v7 h7 => ⟨i32s (by split at h7 <;> omega) (by split at h7 <;> omega), hO, fun x hx => ⟨fun _ => ⟨w.1.1, flt p x ip (by split at hx <;> omega)⟩, fun z => ok x (by split at hx <;> omega) q1 (ny q1 q2 q3 ?_)⟩⟩)⟩⟩⟩⟩⟩⟩, fun q => absurd (Int.le_refl _) q⟩
    · refine (s_MM_lookUp (d := d) hco hw0 h hn (hv q1)).mono (fun x M4 h4 => ?_)
      obtain ⟨h4, x01, t93, t95, t⟩ := h4
      refine ⟨i32s (by omega) (by omega), h4.2.1.1, fun z => absurd z (by decide), fun _ => la386 x01 h4 t93 t95 ?_ hL hb⟩
      rcases t with ⟨t, -⟩ | ⟨t1, ⟨t2, t4⟩, t3⟩
      · exact Or.inl (by rw [t]; decide)
      · refine Or.inr ⟨t1, fun _ => t2, fun i hi => t3 i (by rcases hi with z | z; exact z; exact absurd (es'.symm.trans q1) z), ?_⟩
        unfold tyn
        rw [← es', if_pos q1]
        exact t4
    · have j2 := hk2 q4
      have sm1 : su u j ≠ 1 := fun y => by rw [if_pos y] at hv; exact z hv
      subst j2
      have u0 := h01 0 (by omega)
      have u1 := h01 1 (by omega)
      have : su u 2 = 0 + u 0 + u 1 := rfl
      unfold tyr
      rw [if_neg (by omega), if_pos q4]
      exact ⟨by omega, rfl⟩
    · unfold tyr
      rw [if_pos q5]
      refine ⟨sb3 ?_, rfl⟩
      by_cases y : su u j = (j : Int)
      · exact y
      · rw [if_neg y] at hv; exact absurd hv z
    · have k3 : j = 3 := by
        rcases hk with ⟨-, -, z⟩ | ⟨-, -, z, -⟩
        · omega
        · unfold ari at z; omega
      subst k3
      have g334 : ∀ (b : Int), (b = 0 ∨ b = 1) → (b = 1 → u 0 = 1 ∧ u 1 = u 2) → h_MM_lookAt_334 G (d + 4) a p L b M3 (laQ co M M3 a g N T K n L 3 u) := fun b hb2 hb3 => by
        refine k_MM_lookAt_334 hO ip (i32s (by omega) (by omega)) (i32s (by omega) (by omega)) ?_
        rw [r19]
        refine ⟨w.1.1, (w.nu n93).1, (s_MN_last hO (w.nu n93) (by rw [hL]; omega)).mono (fun z M1 e1 => ?_)⟩
        obtain ⟨e1, hz⟩ := e1
        subst e1
        have z01 := h01 2 (by omega)
        rw [hL, show (((L + 3 : Nat) : Int) - 1).toNat = L + 2 by omega, hu 2 (by omega)] at hz
        rw [← hz] at z01
        refine ⟨i32s (by omega) (by omega), hO, fun _ => ⟨w.1.1, flt p z ip z01⟩, fun y => ok z z01 q1 (ny q1 q2 q3 ?_)⟩
        obtain ⟨y1, y2⟩ := hb3 (by omega)
        unfold tyr
        rw [if_neg q5, if_neg q4, if_pos q6]
        exact ⟨y1, y2.trans hz.symm, hz.symm⟩
      refine rd n93 (by rw [hL]; omega) (fun z hz iz => ⟨iz, hO, fun c1 => ?_, fun _ => g334 0 (Or.inl rfl) (fun y => by omega)⟩)
      have hz0 : z = u 0 := hz.trans (hu 0 (by omega))
      rw [r19]
      refine ⟨w.1.1, (w.nu n93).1, ?_⟩
      rw [show (L : Int) + 1 = ((L + 1 : Nat) : Int) by omega]
      refine rd n93 (by rw [hL]; omega) (fun z2 hz2 iz2 => ⟨iz2, hO, w.1.1, ?_⟩)
      rw [hu 1 (by omega)] at hz2
      rw [r19]
      refine ⟨(w.nu n93).1, ?_⟩
      rw [show (L : Int) + 2 = ((L + 2 : Nat) : Int) by omega]
      exact rd n93 (by rw [hL]; omega) (fun z3 hz3 iz3 => ⟨iz3, hO, fun y => g334 1 (Or.inr rfl) (fun _ => by rw [hu 2 (by omega)] at hz3; omega), fun _ => g334 0 (Or.inl rfl) (fun y => by omega)⟩)
    · unfold tyr
      rw [if_neg q5, if_neg q4, if_neg q6]
      refine ⟨sb4 ?_, ?_⟩
      · by_cases y : su u j = 0
        · exact y
        · rw [if_neg y] at hv; exact absurd hv z
      · rw [hx, h7]
        by_cases y : 19 ≤ s ∧ s ≤ 22
        · rw [if_pos y, if_pos (show s = 23 ∨ s = 18 ∨ s = 21 ∨ s = 19 ∨ s = 22 ∨ s = 20 by omega)]; rfl
        · rw [if_neg y, if_neg (show ¬ (s = 23 ∨ s = 18 ∨ s = 21 ∨ s = 19 ∨ s = 22 ∨ s = 20) by omega)]; rfl
end LB
end
section
/-! The reference: the pile of nodes to look at. -/
section LP
variable {G : mG} {d a N g T K : Nat} {M M2 M3 M4 : mM} {nm : Int → Prop}
/-- only the pile of looks has changed -/
def kp (M : mM) (a g N T K : Nat) (M3 M4 : mM) : Prop := LO M a g N T K M4 ∧ mI M4 a 16 = mI M3 a 16 ∧ (∀ k, va M4 g k = va M3 g k) ∧ sameN M3 M4 (a + 93)
theorem kp.refl (h : LO M a g N T K M3) : kp M a g N T K M3 M3 := ⟨h, rfl, fun _ => rfl, sameN.refl⟩
theorem kp.trans {M5 : mM} (h : kp M a g N T K M3 M4) (k : kp M a g N T K M4 M5) : kp M a g N T K M3 M5 :=
  ⟨k.1, k.2.1.trans h.2.1, fun n => (k.2.2.1 n).trans (h.2.2.1 n), h.2.2.2.trans k.2.2.2⟩
theorem kp.mk {S : Nat → Prop} (h : LO M a g N T K M3) (m : Mv (fun x => x = a + 95) S M3 a M4) (hS : ∀ x, ¬ S x) : kp M a g N T K M3 M4 := by
  obtain ⟨hO, hw, -, -, -, hg, -, -⟩ := id h.2.1
  have w := hw.1.1
  have f := (m.fld w (fun q hq => by rw [hq]; exact n95) (hS a)).1
  have s7 := m.lst (tL_in (a := a) (q := g + 7) hg (by omega)) (by omega)
  exact ⟨h.step m (fun q hq => Or.inr (Or.inl hq)) (fun x hx => (hS x hx).elim) s7.1 (fun i _ _ => by rw [f]), by rw [f], s7.2.1, m.lst n93 (by omega)⟩
theorem Tn.lo {f md n e : Nat} (h : Tn nm M3 g f md n e) (h3 : LO M a g N T K M3) (h4 : LO M a g N T K M4) (hv : ∀ k, n ≤ k → k < e → va M4 g k = va M3 g k) : Tn nm M4 g f md n e := by
  have s : ∀ k, so M4 g k = so M3 g k ∧ fp M4 g k = fp M3 g k ∧ np M4 g k = np M3 g k := fun k => by
    have a1 := h3.2.2.2.1 k
    have a2 := h4.2.2.2.1 k
    exact ⟨a2.1.trans a1.1.symm, a2.2.1.trans a1.2.1.symm, a2.2.2.trans a1.2.2.symm⟩
  exact h.fr (fun k b1 b2 => ⟨(s k).1, hv k b1 b2, (s k).2.1⟩) (fun k _ _ => (s k).2.2) (fun _ => (s n).2.2)
theorem s_lk_push {X : Nat} {v : Int} (hv : i32 v) (h : LO M a g N T K M3) (hl : ln M3 (a + 95) = (X : Int)) (hX : X ≤ 65000) : Cv G y_MN_add d [vr (a + 95), vi v] M3 (fun M4 => mOk M4 ∧ kp M a g N T K M3 M4 ∧ ln M4 (a + 95) = (X + 1 : Nat) ∧ (∀ j, j < X → nt M4 (a + 95) j = nt M3 (a + 95) j) ∧ nt M4 (a + 95) X = v) := by
  obtain ⟨hO, hw, -⟩ := id h.2.1
  have w := hw.1.1
  refine (s_MN_addB (B := 65536) hv hO (w.nu n95) (by omega) (by decide)).mono (fun M4 t => ?_)
  have m := mv_addB w n95 (Or.inr (Or.inr (Or.inl rfl))) t
  obtain ⟨-, -, -, t1, t2, t3, -⟩ := t
  rw [hl] at t1 t2 t3
  rw [Int.toNat_natCast] at t3
  exact ⟨m.1, kp.mk h m (fun _ z => z), by rw [t1]; omega, fun j hj => t2 j (by omega), t3⟩
theorem s_lk_pop {X : Nat} (h : LO M a g N T K M3) (hl : ln M3 (a + 95) = (X + 1 : Nat)) : Ci G y_MN_take d [vr (a + 95)] M3 (fun x M4 => i32 x ∧ mOk M4 ∧ kp M a g N T K M3 M4 ∧ ln M4 (a + 95) = (X : Int) ∧ (∀ j, nt M4 (a + 95) j = nt M3 (a + 95) j) ∧ x = nt M3 (a + 95) X) := by
  obtain ⟨hO, hw, -⟩ := id h.2.1
  have w := hw.1.1
  refine (s_MN_take hO (w.nu n95) (by omega)).mono (fun x M4 t => ?_)
  have m := mv_take w n95 t
  obtain ⟨-, -, -, t1, t2, t3⟩ := t
  rw [hl] at t1 t3
  rw [show (((X + 1 : Nat) : Int) - 1).toNat = X by omega] at t3
  exact ⟨by rw [t3]; exact (hO _ _).1, m.1, kp.mk h m (fun _ z => z), by rw [t1]; omega, t2, t3⟩
/-- the brothers from n on -/
def ci (M : mM) (g n : Nat) : Nat → Int
  | 0 => n
  | j + 1 => np M g (ci M g n j).toNat
theorem ci_succ {n m : Nat} (h : np M g n = (m : Int)) : ∀ j, ci M g n (j + 1) = ci M g m j
  | 0 => h
  | j + 1 => by
    have := ci_succ h j
    rw [ci, this, ci]
theorem Tn.ge : ∀ {f md n e : Nat}, Tn nm M g f md n e → n + md ≤ e := by
  intro f
  induction f with
  | zero => intro md n e h; exact h.elim
  | succ f ih =>
    intro md n e h
    have hl := h.lt
    rw [Tn] at h
    by_cases c0 : md = 0
    · omega
    · rw [if_neg c0] at h
      by_cases c1 : md = 1
      · omega
      · rw [if_neg c1] at h
        obtain ⟨m, -, h2, h3⟩ := h
        have := h2.lt
        have := ih h3
        omega
/-- pushing the parts -/
theorem s_look126 {co : Int} {Q : Int → mM → Prop} {X : Nat} (hco : i32 co) (hX : X ≤ 65000) : ∀ (k f c e Y : Nat) (M3 : mM), 1 ≤ k → Tn nm M3 g f k c e → e ≤ T → LO M a g N T K M3 → ln M3 (a + 95) = (Y : Int) → Y + 2 * k ≤ 65000 → (∀ M4, kp M a g N T K M3 M4 → ln M4 (a + 95) = (Y + 2 * k : Nat) → (∀ j, j < Y → nt M4 (a + 95) j = nt M3 (a + 95) j) → (∀ j, j < k → nt M4 (a + 95) (Y + 2 * j) = ci M g c j ∧ nt M4 (a + 95) (Y + 2 * j + 1) = 0) → h_MM_look_126 G d a co (-1) X M4 Q) → h_MM_look_126 G d a co c X M3 Q := by
  intro k
  induction k with
  | zero => intro f c e Y M3 hk; omega
  | succ k ih =>
    intro f c e Y M3 hk ht he h3 l3 hY hQ
    obtain ⟨hO, hw, -, -, h10, hg, -, hT⟩ := id h3.2.1
    have w := hw.1.1
    have hlt := ht.lt
    have r20 : ∀ {M3 : mM}, Wd M3 a → mR M3 a 20 = a + 95 := fun w => w.1.2.2.2.2.1.2.2.2.2.2.1
    refine k_MM_look_126 hO hco (i32s (by omega) (by omega)) (i32s (by omega) (by omega)) ⟨fun q => by omega, fun _ => ?_⟩
    rw [r20 w]
    refine ⟨w.1.1, (w.nu n95).1, (s_lk_push (i32s (by omega) (by omega)) h3 l3 (by omega)).mono (fun M4 h4 => ?_)⟩
    obtain ⟨o4, k4, l4, e4, v4⟩ := h4
    have w4 := k4.1.2.1.2.1.1.1
    rw [r20 w4]
    refine ⟨o4, w4.1.1, (w4.nu n95).1, (s_lk_push (i32s (by omega) (by omega)) k4.1 l4 (by omega)).mono (fun M5 h5 => ?_)⟩
    obtain ⟨o5, k5, l5, e5, v5⟩ := h5
    obtain ⟨-, hw5, -, hd5, h105, -, -, -⟩ := id k5.1.2.1
    have w5 := hw5.1.1
    have gp := w5.gp hg
    have r5 : mR M5 g 5 = g + 11 := gp.2.1.2.2.2.2.2.1
    have u11 := w5.nu (tL_in (a := a) (q := g + 11) hg (by omega))
    have l11 := hd5 (g + 11) (by omega)
    rw [h105, r5]
    refine ⟨o5, w5.1.1, gp.1, u11.1, (s_MN_at o5 u11 (by omega)).mono (fun z M6 e6 => ?_)⟩
    obtain ⟨e6, hz⟩ := e6
    subst e6
    refine ⟨by rw [hz]; exact (o5 _ _).1, o5, ?_⟩
    have kk := k4.trans k5
    have ht6 : Tn nm M6 g f (k + 1) c e := ht.lo h3 kk.1 (fun j _ _ => kk.2.2.1 j)
    have hnp : np M6 g c = np M g c := (kk.1.2.2.2.1 c).2.2
    have base : ∀ j, j < Y → nt M6 (a + 95) j = nt M3 (a + 95) j := fun j hj => (e5 j (by omega)).trans (e4 j hj)
    have b0 : nt M6 (a + 95) Y = (c : Int) := (e5 Y (by omega)).trans v4
    cases f with
    | zero => exact ht6.elim
    | succ f =>
      rw [Tn, if_neg (by omega)] at ht6
      by_cases k0 : k + 1 = 1
      · rw [if_pos k0] at ht6
        have : z = -1 := hz.trans ht6.1
        rw [this]
        refine hQ M6 kk (by rw [l5]; omega) base (fun j hj => ?_)
        have : j = 0 := by omega
        subst this
        exact ⟨b0, v5⟩
      · rw [if_neg k0] at ht6
        obtain ⟨m, q1, q2, q3⟩ := ht6
        have hzm : z = (m : Int) := hz.trans q1
        rw [hzm]
        refine ih f m e (Y + 2) M6 (by omega) q3 he kk.1 (by rw [l5]) (by omega) (fun M7 k7 l7 e7 v7 => ?_)
        refine hQ M7 (kk.trans k7) (by rw [l7]; omega) (fun j hj => (e7 j (by omega)).trans (base j hj)) (fun j hj => ?_)
        cases j with
        | zero => exact ⟨(e7 Y (by omega)).trans b0, (e7 (Y + 1) (by omega)).trans v5⟩
        | succ j =>
          have := v7 j (by omega)
          rw [ci_succ (hnp.symm.trans q1), show Y + 2 * (j + 1) = Y + 2 + 2 * j by omega]
          exact this
end LP
end
