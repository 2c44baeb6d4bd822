/-! The reference's tree, exactly. -/
section RNX
variable {G : mG} {d a N g T : Nat} {M M2 M3 : mM} {root : Int} {Q : Int → mM → Prop}
/-- what a leaf's node holds -/
def nvq (M : mM) (a k : Nat) : Int := if wk M a k = 1 then (k : Int) else if wk M a k = 2 then numq (nt M (mR M a 2)) (nt M (a + 7) k).toNat (nt M (a + 9) k - nt M (a + 7) k).toNat else 0
abbrev Tm (M M3 : mM) (a g c : Nat) (x : Int) (i j n e : Nat) : Prop := Td (wk M a) (nt M (a + 7)) (nvq M a) (so M3 g) (pm M3 g) (va M3 g) (fp M3 g) (np M3 g) c x i j n e
abbrev Tmb (M M3 : mM) (a g : Nat) (x : Int) (rs : List (Nat × Nat)) (n e : Nat) : Prop := Tbq (wk M a) (nt M (a + 7)) (nvq M a) (so M3 g) (pm M3 g) (va M3 g) (fp M3 g) (np M3 g) x rs n e
/-- lists that a tree leaves alone -/
theorem TI.oth {st : List Int} {q : Nat} (h : TI M a g N T st M2) (hq : q ∈ nums a) (hn : ¬ trP a g q) : sameN M M2 q := h.1.lst hq hn
theorem TI.n79 {st : List Int} (h : TI M a g N T st M2) (hw : Wd M a) : (∀ k, nt M2 (a + 7) k = nt M (a + 7) k) ∧ (∀ k, nt M2 (a + 9) k = nt M (a + 9) k) ∧ (∀ k, nt M2 (mR M2 a 2) k = nt M (mR M a 2) k) := by
  have hg := h.2.2.2.2.2
  have no := tL_no hg hw
  have r := h.1.rfl_a hw (fun q hq => trP_in hg hq)
  refine ⟨fun k => (h.oth n7 (fun q => ?_)).2.1 k, fun k => (h.oth n9 (fun q => ?_)).2.1 k, fun k => ?_⟩
  · rcases q with q | q
    · exact no.2.1 q
    · omega
  · rcases q with q | q
    · exact no.2.2.1 q
    · omega
  · rw [r]
    refine (h.oth hw.tape.2.1 (fun q => ?_)).2.1 k
    rcases q with q | q
    · exact no.2.2.2.1 q
    · rcases hw.1.2.1 with y | y <;> rw [y.2] at q <;> omega
theorem TI.nv {st : List Int} {k : Nat} (h : TI M a g N T st M2) (hw : Wd M a) : nvq M2 a k = nvq M a k := by
  obtain ⟨k1, k2, k3⟩ := h.n79 hw
  unfold nvq
  rw [h.wk hw, k1, k2, show nt M2 (mR M2 a 2) = nt M (mR M a 2) from funext k3]
/-- a job is done: its tree stands, joined to its parent -/
def RunX (G : mG) (d : Nat) (M : mM) (a g N : Nat) (root : Int) (Q : Int → mM → Prop) (L : Nat) : Prop := ∀ i j, j - i ≤ L → Eo (wk M a) 6 i j → j < N → ∀ (M2 : mM) (T : Nat) (p : Int) (st : List Int), TI M a g N T ((j : Int) :: (i : Int) :: p :: st) M2 → -1 ≤ p → p < T → chn M2 g T p → T + (j - i) ≤ 32760 → st.length + 3 * (j - i) ≤ 49900 → (∀ (M3 : mM) (T' : Nat), TI M a g N T' st M3 → T < T' → T' ≤ T + (j - i) → JE M2 M3 g T p → To (nmw (wk M a) N) M3 g 0 T T' → np M3 g T = -1 → (Tm M M3 a g 0 0 i j T T' ∧ ∀ n, n < T → pm M3 g n = pm M2 g n) → h_MM_tree_26 G (d + 5) a root M3 Q) → h_MM_tree_26 G (d + 5) a root M2 Q
theorem ch_runx {L : Nat} {n : Nat} {st : List Int} (hr : RunX G d M a g N root Q L) : ∀ (rs : List (Nat × Nat)) (M2 : mM) (T : Nat), rs ≠ [] → (∀ i j, (i, j) ∈ rs → j - i ≤ L ∧ Eo (wk M a) 6 i j ∧ j < N) → TI M a g N T (flat n rs ++ st) M2 → n < T → chn M2 g T n → T + rsum rs ≤ 32760 → st.length + 3 * rsum rs ≤ 49900 → (∀ (M3 : mM) (T' : Nat), TI M a g N T' st M3 → T < T' → T' ≤ T + rsum rs → JE M2 M3 g T n → To (nmw (wk M a) N) M3 g rs.length T T' → (Tmb M M3 a g (-1) rs T T' ∧ ∀ n, n < T → pm M3 g n = pm M2 g n) → h_MM_tree_26 G (d + 5) a root M3 Q) → h_MM_tree_26 G (d + 5) a root M2 Q
  | [], _, _, h, _, _, _, _, _, _, _ => absurd rfl h
  | [(i, j)], M2, T, _, hm, ht, hn, hc, hb, hl, hQ => by
    obtain ⟨a1, a2, a3⟩ := hm i j (List.mem_singleton.2 rfl)
    have e : rsum [(i, j)] = j - i := by show (j - i) + 0 = _; omega
    rw [e] at hb hl hQ
    exact hr i j a1 a2 a3 M2 T n st ht (by omega) (by omega) hc (by omega) (by omega) (fun M3 T' t3 h1 h2 je to nt tm => hQ M3 T' t3 h1 h2 je (to.one nt) ⟨⟨tm.1, nt⟩, tm.2⟩)
  | (i, j) :: r2 :: rs, M2, T, _, hm, ht, hn, hc, hb, hl, hQ => by
    obtain ⟨a1, a2, a3⟩ := hm i j (List.mem_cons_self ..)
    have pij := a2.pr.1
    have e : rsum ((i, j) :: r2 :: rs) = (j - i) + rsum (r2 :: rs) := rfl
    rw [e] at hb hl hQ
    have hrs : (r2 :: rs).length ≤ rsum (r2 :: rs) := by
      have : ∀ l : List (Nat × Nat), (∀ i j, (i, j) ∈ l → Eo (wk M a) 6 i j) → l.length ≤ rsum l := by
        intro l
        induction l with
        | nil => intro _; exact Nat.le_refl _
        | cons x l ih =>
          intro h
          have k := ih (fun i j q => h i j (List.mem_cons_of_mem _ q))
          have := (h x.1 x.2 (List.mem_cons_self ..)).pr.1
          show l.length + 1 ≤ (x.2 - x.1) + rsum l
          omega
      exact this _ (fun i j q => (hm i j (List.mem_cons_of_mem _ q)).2.1)
    have hfl := flat_len (n := (n : Int)) (r2 :: rs)
    refine hr i j a1 a2 a3 M2 T n (flat n (r2 :: rs) ++ st) ht (by omega) (by omega) hc (by omega) (by rw [List.length_append, hfl]; omega) (fun M3 T3 t3 h1 h2 je to nt tm => ?_)
    have hchain := je.chain (T' := T3) (by omega) (by omega) h1 nt
    refine ch_runx hr (r2 :: rs) M3 T3 (by simp) (fun i j q => hm i j (List.mem_cons_of_mem _ q)) t3 (by omega) (fun _ => by
      obtain ⟨f, c, k1, k2⟩ := hchain
      exact Or.inr ⟨f, c, T, k1, k2⟩) (by omega) (by omega) (fun M4 T4 t4 g1 g2 je2 to2 tm2 => ?_)
    obtain ⟨j1, j2, j3, j4⟩ := je.next je2 (by omega) (by omega) h1 nt
    refine hQ M4 T4 t4 (by omega) (by omega) j1 ?_ ⟨Exists.intro T3 ⟨tm.1.cg (Or.inl ⟨rfl, a2⟩) (fun k u v => ⟨(j3 k v).1, tm2.2 k v, (j3 k v).2.1, (j3 k v).2.2⟩) (fun k u v => j4 k v (by omega)) (fun u => absurd u (by decide)), j2, tm2.1⟩, fun n hn => (tm2.2 n (by omega)).trans (tm.2 n hn)⟩
    have to' : To (nmw (wk M a) N) M4 g 0 T T3 := to.fr (fun k k1 k2 => j3 k k2) (fun k k1 k2 => j4 k k2 (by omega)) (fun z => absurd rfl z)
    exact To.cons (by show 1 ≤ rs.length + 1; omega) to' j2 to2
/-- a job is taken -/
theorem TI.tkx {st : List Int} {x y : Int} (h : TI M a g N T (x :: st) M2) (t : tkQ M2 (a + 91) y M3) : TI M a g N T st M3 ∧ y = x ∧ sameX M2 M3 g := by
  have w := h.2.1.1.1
  have hg := h.2.2.2.2.2
  have m := mv_take w n91 t
  obtain ⟨k1, k2, k3⟩ := h.wx m (fun q hq => Or.inr hq)
  obtain ⟨s1, s2⟩ := h.2.2.2.2.1.take t
  have sm : ∀ q, tL g q → sameN M2 M3 q := fun q hq => m.lst (tL_in hg hq) (fun z => by rw [z] at hq; exact (tL_no hg w).2.2.2.2 hq)
  refine ⟨⟨k1, k2, k3, fun q hq => by rw [(sm q hq).1]; exact h.2.2.2.1 q hq, s1, hg⟩, s2, fun n => ⟨(sm _ (by omega)).2.1 n, (sm _ (by omega)).2.1 n, (sm _ (by omega)).2.1 n, (sm _ (by omega)).2.1 n⟩, fun n => (sm _ (by omega)).2.1 n⟩
/-- a node that has its parts -/
theorem nd_fx {M7 M8 M9 : mM} (s78 : sameT M7 M8 g) (hf7 : fp M7 g T = -1) (je9 : JE M8 M9 g (T + 1) (T : Int)) : fp M9 g T = ((T + 1 : Nat) : Int) ∧ so M9 g T = so M7 g T := by
  refine ⟨?_, by rw [(je9.1 T (by omega)).1, (s78 T).1]⟩
  rcases je9.2 with ⟨q, -⟩ | ⟨q0, q1, q2, q3⟩ | ⟨q0, f, c, l, q1, q2, q3, q4⟩
  · omega
  · rw [q2 T (by omega), if_pos (by omega)]
  · exfalso
    rw [Int.toNat_natCast, (s78 T).2.2.1, hf7] at q1
    omega
end RNX
section MKX
variable {G : mG} {d a N g : Nat} {M : mM} {root : Int} {Q : Int → mM → Prop}
theorem tr_runx (hw : Wd M a) (hroot : i32 root) : ∀ L, RunX G d M a g N root Q L := by
  intro L
  induction L with
  | zero =>
    intro i j hl he
    have := he.pr.1
    omega
  | succ L ih =>
    intro i j hl he hjN M2 T p st t2 hp1 hpT hc hb hlen hQ
    have hij := he.pr.1
    have hl1 : j ≤ L + 1 + i := by omega
    have hb1 : T + j ≤ 32760 + i := by omega
    have hn1 : st.length + 3 * j ≤ 49900 + 3 * i := by omega
    clear hl hb hlen
    have hg := t2.2.2.2.2.2
    have hN := t2.2.1.1.2.2
    have r18 : ∀ {T : Nat} (s : List Int) (M4 : mM), TI M a g N T s M4 → mR M4 a 18 = a + 91 ∧ mK M4 a = 14 ∧ mK M4 (a + 91) = 15 ∧ mOk M4 ∧ Nu M4 (a + 91) := fun s M4 h4 => by
      have w := h4.2.1.1.1
      exact ⟨w.1.2.2.2.2.1.2.2.2.1, w.1.1, (w.nu n91).1, h4.1.1, w.nu n91⟩
    have q2 := r18 _ _ t2
    have l2 : mI M2 (a + 91) 1 = (((j : Int) :: (i : Int) :: p :: st).length : Int) := t2.2.2.2.2.1.1
    simp only [List.length_cons] at l2
    have hp32 : i32 p := i32s (by omega) (by omega)
    refine k_MM_tree_26 q2.2.2.2.1 hroot ?_
    rw [q2.1]
    refine ⟨q2.2.1, q2.2.2.1, fun z => by omega, fun _ => (s_MN_take q2.2.2.2.1 q2.2.2.2.2 (by unfold ln; omega)).mono (fun y1 M3 k3 => ?_)⟩
    obtain ⟨t3, e3, s3⟩ := t2.tkx k3
    subst e3
    have q3 := r18 _ _ t3
    have l3 : mI M3 (a + 91) 1 = (((i : Int) :: p :: st).length : Int) := t3.2.2.2.2.1.1
    simp only [List.length_cons] at l3
    rw [q3.1]
    refine ⟨i32s (by omega) (by omega), q3.2.2.2.1, q3.2.1, q3.2.2.1, (s_MN_take q3.2.2.2.1 q3.2.2.2.2 (by unfold ln; omega)).mono (fun y2 M4 k4 => ?_)⟩
    obtain ⟨t4, e4, s4⟩ := t3.tkx k4
    subst e4
    have q4 := r18 _ _ t4
    have l4 : mI M4 (a + 91) 1 = ((p :: st).length : Int) := t4.2.2.2.2.1.1
    simp only [List.length_cons] at l4
    rw [q4.1]
    refine ⟨i32s (by omega) (by omega), q4.2.2.2.1, q4.2.1, q4.2.2.1, (s_MN_take q4.2.2.2.1 q4.2.2.2.2 (by unfold ln; omega)).mono (fun y3 M5 k5 => ?_)⟩
    obtain ⟨t5, e5, s5⟩ := t4.tkx k5
    subst e5
    have q5 := r18 _ _ t5
    have x25 : sameX M2 M5 g := (s3.trans s4).trans s5
    have s25 : sameT M2 M5 g := x25.1
    have hc5 : chn M5 g T y3 := hc.mono hpT (Nat.le_refl _) (fun n _ => ⟨(s25 n).2.2.1, (s25 n).2.2.2⟩)
    refine ⟨hp32, q5.2.2.2.1, q5.2.1, ?_⟩
    -- words, in whatever state
    have wkx : ∀ {T : Nat} (s : List Int) (M4 : mM), TI M a g N T s M4 → Wn M4 a N ∧ mOk M4 ∧ wk M4 a = wk M a ∧ mK M4 a = 14 := fun s M4 h4 => ⟨h4.2.1.1, h4.1.1, h4.wk hw, h4.2.1.1.1.1.1⟩
    have w5 := wkx _ _ t5
    -- a node is made and joined
    have mk : ∀ (s : Int) (wd fr : Nat) (R : Int → mM → Prop), i32 s → wd < N → fr < N → (∀ M7, TI M a g N (T + 1) st M7 → JE M2 M7 g T y3 → fp M7 g T = -1 → np M7 g T = -1 → so M7 g T = s → va M7 g T = 0 → (pm M7 g T = nt M (a + 7) wd ∧ ∀ n, n < T → pm M7 g n = pm M2 g n) → R (T : Int) M7) → Ci G y_MM_node (d + 4) [vr a, vi s, vi wd, vi fr] M5 (fun x M6 => i32 x ∧ mOk M6 ∧ (mK M6 a = 14 ∧ Cv G y_MM_join (d + 4) [vr a, vi y3, vi x] M6 (fun M7 => mOk M7 ∧ R x M7))) := fun s wd fr R hs hwd hfr hR => by
      refine (x_MM_node (d := d + 2) hs w5.2.1 t5.2.1 hwd hfr hg t5.2.2.1 t5.2.2.2.1 (by omega)).mono (fun x M6 h6 => ?_)
      obtain ⟨m6, ex6, n6, o6, a1, a2, a3, a4, a5, a6⟩ := h6
      subst ex6
      have t6 := t5.nd m6 n6
      have hc6 : chn M6 g (T + 1) y3 := hc5.mono hpT (by omega) (fun n hn => ⟨(o6 n hn).2.2.1, (o6 n hn).2.2.2⟩)
      refine ⟨i32s (by omega) (by omega), m6.1, (wkx _ _ t6).2.2.2, (x_MM_join (d := d + 3) (x := T) t6 (by omega) hp32 (by omega) (by omega) hc6).mono (fun M7 h7 => ?_)⟩
      obtain ⟨t7, j7⟩ := h7
      obtain ⟨b1, b2, b3, b4, b5⟩ := nj (st := st) hpT hc5 o6 a3 a4 j7.1
      exact ⟨t7.1.1, hR M7 t7 (b1.pre hpT (fun n _ => s25 n)) b2 b3 (by rw [b4]; exact a1) (by rw [b5]; exact a2) ⟨by rw [j7.2, a5, (t5.n79 hw).1], fun n hn => by rw [j7.2, a6 n hn, x25.2]⟩⟩
    -- the parts of the new node
    have kids : ∀ (rs : List (Nat × Nat)) (M7 M8 : mM), rs ≠ [] → (∀ i' j', (i', j') ∈ rs → j' - i' ≤ L ∧ Eo (wk M a) 6 i' j' ∧ j' < N) → rsum rs + 1 ≤ j - i → TI M a g N (T + 1) st M7 → JE M2 M7 g T y3 → fp M7 g T = -1 → np M7 g T = -1 → ari (so M7 g T) rs.length → TI M a g N (T + 1) (flat (T : Int) rs ++ st) M8 → sameX M7 M8 g → (∀ n, n < T → pm M7 g n = pm M2 g n) → (∀ (M9 : mM) (T9 : Nat), so M9 g T = so M7 g T → pm M9 g T = pm M7 g T → fp M9 g T = ((T + 1 : Nat) : Int) → Tmb M M9 a g (-1) rs (T + 1) T9 → Tm M M9 a g 0 0 i j T T9) → h_MM_tree_26 G (d + 5) a root M8 Q := fun rs M7 M8 hne hrs hsum t7 je f7 n7 ha t8 s8' p7 mkT => by
      have s8 := s8'.1
      refine ch_runx (n := T) (st := st) ih rs M8 (T + 1) hne hrs t8 (by omega) (fun _ => Or.inl (by rw [Int.toNat_natCast, (s8 T).2.2.1]; exact f7)) (by omega) (by omega) (fun M9 T9 t9 h1 h2 je9 to9 tm9 => ?_)
      obtain ⟨b1, b2, b3⟩ := nd_fin (a := a) (N := N) hpT je s8 f7 n7 je9 (by cases rs with | nil => exact absurd rfl hne | cons x rs => show 1 ≤ rs.length + 1; omega) ha (T9 := T9) (M := M) to9
      have fx := nd_fx s8 f7 je9
      have e9 : pm M9 g T = pm M7 g T := by rw [tm9.2 T (by omega), s8'.2]
      exact hQ M9 T9 t9 (by omega) (by omega) b1 b2 b3 ⟨mkT M9 T9 fx.2 e9 fx.1 tm9.1, fun n hn => by rw [tm9.2 n (by omega), s8'.2, p7 n hn]⟩
    have single : ∀ {i1 j1 : Nat}, ∀ i' j', (i', j') ∈ [(i1, j1)] → i' = i1 ∧ j' = j1 := fun i' j' q => Prod.mk.inj (List.mem_singleton.1 q)
    refine k_MM_part w5.2.1 hp32 (i32s (by omega) (by omega)) (i32s (by omega) (by omega)) ⟨w5.2.2.2, (s_MM_loosest (d := d) w5.2.1 w5.1 hij (by omega)).mono (fun x M6 h6 => ?_)⟩
    obtain ⟨e6, hx⟩ := h6
    subst e6
    rw [w5.2.2.1] at hx
    rcases he.sp with ⟨m, q, hlo, hm, hq, e1, e2, e3⟩ | ⟨m, hlo, hm, e1, e2⟩ | ⟨hlo, h36, h37, e1⟩ | ⟨hlo, h25, e1⟩ | ⟨hlo, hj1, hlf⟩ | ⟨hlo, h14, h36, h37, e7⟩
    · -- a question
      have p1 := e1.pr.1
      have p2 := e2.pr
      have p3 := e3.pr.1
      have ex : x = (m : Int) := by rw [hx]; exact hlo
      subst ex
      have hmN : m < N := by have := p2.1; omega
      refine ⟨i32s (by omega) (by omega), w5.2.1, fun z => by omega, fun _ => ⟨w5.2.2.2, (s_MM_word1 (d := d + 3) w5.2.1 w5.1 hmN).mono (fun y0 M0 h0 => ?_)⟩⟩
      obtain ⟨e0, hy0⟩ := h0
      subst e0
      rw [w5.2.2.1] at hy0
      have hy32 : i32 y0 := by rw [hy0, ← w5.2.2.1]; exact wk32 w5.2.1
      refine ⟨hy32, w5.2.1, w5.2.2.2, mk y0 m i _ hy32 hmN (by omega) (fun M7 t7 je f7 n7 so7 _ pm7 => ⟨(wkx _ _ t7).2.2.2, ?_⟩)⟩
      · have w7 := wkx _ _ t7
        rw [hy0] at so7
        refine (s_MM_word1 (d := d + 3) w7.2.1 w7.1 hmN).mono (fun y M8 h8 => ?_)
        obtain ⟨e8, hy⟩ := h8
        subst e8
        rw [w7.2.2.1, hm] at hy
        refine ⟨i32s (by omega) (by omega), w7.2.1, fun _ => ⟨w7.2.2.2, (s_MM_colonOf (d := d + 2) (q := q) w7.2.1 w7.1 (by have := p2.1; omega) (by omega) (by omega) (by rw [w7.2.2.1]; exact p2.2.2.2.2.1) (by rw [w7.2.2.1]; exact hq)).mono (fun z M9 h9 => ?_)⟩, fun z => absurd hy z⟩
        obtain ⟨e9, hz⟩ := h9
        subst e9 hz
        refine ⟨i32s (by omega) (by omega), w7.2.1, w7.2.2.2, (x_MM_job (d := d + 3) t7 (by omega) (i32s (by omega) (by omega)) (i32s (by omega) (by omega)) (i32s (by omega) (by omega))).mono (fun Ma ha => ?_)⟩
        obtain ⟨ta, sa⟩ := ha
        refine ⟨ta.1.1, (wkx _ _ ta).2.2.2, (x_MM_job (d := d + 3) ta (by simp only [List.length_cons]; omega) (i32s (by omega) (by omega)) (i32s (by omega) (by omega)) (i32s (by omega) (by omega))).mono (fun Mb hb' => ?_)⟩
        obtain ⟨tb, sb⟩ := hb'
        refine ⟨tb.1.1, (wkx _ _ tb).2.2.2, (x_MM_job (d := d + 3) tb (by simp only [List.length_cons]; omega) (i32s (by omega) (by omega)) (i32s (by omega) (by omega)) (i32s (by omega) (by omega))).mono (fun Mc hc' => ?_)⟩
        obtain ⟨tc, sc⟩ := hc'
        refine ⟨tc.1.1, tc.1.1, kids [(i, m), (m + 1, q), (q + 1, j)] M9 Mc (by simp) (fun i' j' z => ?_) (by show (m - i) + ((q - (m + 1)) + ((j - (q + 1)) + 0)) + 1 ≤ j - i; have := p2.1; omega) t7 je f7 n7 (by rw [so7, hm]; exact Or.inr (Or.inr (Or.inl ⟨rfl, rfl⟩))) tc ((sa.trans sb).trans sc) pm7.2 (fun Mx Tx u1 u2 u3 u4 => ?_)⟩
        rotate_left
        · obtain ⟨n1, v1, v2, n2, v3, v4, v5, v6⟩ := u4
          unfold Tm; rw [Td_ask hlo (by omega) (by have := p2.1; omega) hm (clq_eo e2 hq (by omega))]
          exact ⟨n1, n2, ⟨by rw [u1, so7], by rw [u2, pm7.1], u3⟩, v1, v2, v3, v4, v5, v6⟩
        have hp2 := p2.1
        rcases List.mem_cons.1 z with z | z
        · obtain ⟨z1, z2⟩ := Prod.mk.inj z
          subst z1 z2
          exact ⟨by omega, e1.six (by omega), by omega⟩
        · rcases List.mem_cons.1 z with z | z
          · obtain ⟨z1, z2⟩ := Prod.mk.inj z
            subst z1 z2
            exact ⟨by omega, e2, by omega⟩
          · obtain ⟨z1, z2⟩ := single i' j' z
            subst z1 z2
            exact ⟨by omega, e3, by omega⟩
    · -- an operator of two parts
      have p1 := e1.pr.1
      have p2 := e2.pr.1
      have ex : x = (m : Int) := by rw [hx]; exact hlo
      subst ex
      have hmN : m < N := by omega
      refine ⟨i32s (by omega) (by omega), w5.2.1, fun z => by omega, fun _ => ⟨w5.2.2.2, (s_MM_word1 (d := d + 3) w5.2.1 w5.1 hmN).mono (fun y0 M0 h0 => ?_)⟩⟩
      obtain ⟨e0, hy0⟩ := h0
      subst e0
      rw [w5.2.2.1] at hy0
      have hy32 : i32 y0 := by rw [hy0, ← w5.2.2.1]; exact wk32 w5.2.1
      refine ⟨hy32, w5.2.1, w5.2.2.2, mk y0 m i _ hy32 hmN (by omega) (fun M7 t7 je f7 n7 so7 _ pm7 => ⟨(wkx _ _ t7).2.2.2, ?_⟩)⟩
      · have w7 := wkx _ _ t7
        rw [hy0] at so7
        refine (s_MM_word1 (d := d + 3) w7.2.1 w7.1 hmN).mono (fun y M8 h8 => ?_)
        obtain ⟨e8, hy⟩ := h8
        subst e8
        rw [w7.2.2.1] at hy
        refine ⟨by rw [hy, ← w7.2.2.1]; exact wk32 w7.2.1, w7.2.1, fun z => by omega, fun _ => ⟨w7.2.2.2, (x_MM_job (d := d + 3) t7 (by omega) (i32s (by omega) (by omega)) (i32s (by omega) (by omega)) (i32s (by omega) (by omega))).mono (fun Ma ha => ?_)⟩⟩
        obtain ⟨ta, sa⟩ := ha
        refine ⟨ta.1.1, (wkx _ _ ta).2.2.2, (x_MM_job (d := d + 3) ta (by simp only [List.length_cons]; omega) (i32s (by omega) (by omega)) (i32s (by omega) (by omega)) (i32s (by omega) (by omega))).mono (fun Mb hb' => ?_)⟩
        obtain ⟨tb, sb⟩ := hb'
        refine ⟨tb.1.1, tb.1.1, kids [(i, m), (m + 1, j)] M8 Mb (by simp) (fun i' j' z => ?_) (by show (m - i) + ((j - (m + 1)) + 0) + 1 ≤ j - i; omega) t7 je f7 n7 (by rw [so7]; exact Or.inr (Or.inl ⟨by omega, rfl⟩)) tb (sa.trans sb) pm7.2 (fun Mx Tx u1 u2 u3 u4 => ?_)⟩
        rotate_left
        · obtain ⟨n1, v1, v2, v3, v4⟩ := u4
          unfold Tm; rw [Td_bin hlo (by omega) (by omega) (by omega)]
          exact ⟨n1, ⟨by rw [u1, so7], by rw [u2, pm7.1], u3⟩, v1, v2, v3, v4⟩
        rcases List.mem_cons.1 z with z | z
        · obtain ⟨z1, z2⟩ := Prod.mk.inj z
          subst z1 z2
          exact ⟨by omega, e1, by omega⟩
        · obtain ⟨z1, z2⟩ := single i' j' z
          subst z1 z2
          exact ⟨by omega, e2, by omega⟩
    · -- parentheses
      have p1 := e1.pr.1
      have ex : x = -1 := by rw [hx]; exact hlo
      subst ex
      refine ⟨i32s (by omega) (by omega), w5.2.1, fun _ => ⟨w5.2.2.2, (s_MM_word1 (d := d + 3) w5.2.1 w5.1 (by omega)).mono (fun y M7 h7 => ?_)⟩, fun z => by omega⟩
      obtain ⟨e7, hy⟩ := h7
      subst e7
      rw [w5.2.2.1, h36] at hy
      refine ⟨i32s (by omega) (by omega), w5.2.1, fun _ => ⟨w5.2.2.2, ?_⟩, fun z => absurd hy z⟩
      rw [show (i : Int) + 1 = ((i + 1 : Nat) : Int) by omega, show (j : Int) - 1 = ((j - 1 : Nat) : Int) by omega]
      refine (x_MM_job (d := d + 3) t5 (by omega) hp32 (i32s (by omega) (by omega)) (i32s (by omega) (by omega))).mono (fun Ma ha => ?_)
      obtain ⟨ta, sa⟩ := ha
      have s2a : sameT M2 Ma g := s25.trans sa.1
      exact ⟨ta.1.1, ta.1.1, ih (i + 1) (j - 1) (by omega) e1 (by omega) Ma T y3 st ta hp1 hpT (hc.mono hpT (Nat.le_refl _) (fun n _ => ⟨(s2a n).2.2.1, (s2a n).2.2.2⟩)) (by omega) (by omega) (fun M9 T9 t9 b1 b2 je to nn tm => hQ M9 T9 t9 b1 (by omega) (je.pre hpT (fun n _ => s2a n)) to nn ⟨by rw [Tm, Td_par hlo hij h36]; exact tm.1, fun n hn => by rw [tm.2 n hn, sa.2, x25.2]⟩)⟩
    · -- a sign before
      have p1 := e1.pr.1
      have ex : x = -1 := by rw [hx]; exact hlo
      subst ex
      refine ⟨i32s (by omega) (by omega), w5.2.1, fun _ => ⟨w5.2.2.2, (s_MM_word1 (d := d + 3) w5.2.1 w5.1 (by omega)).mono (fun y M7 h7 => ?_)⟩, fun z => by omega⟩
      obtain ⟨e7, hy⟩ := h7
      subst e7
      rw [w5.2.2.1] at hy
      refine ⟨i32s (by omega) (by omega), w5.2.1, fun z => by omega, fun _ v hv => ⟨w5.2.2.2, mk v i i _ (by split at hv <;> exact i32s (by omega) (by omega)) (by omega) (by omega) (fun M8 t8 je8 f8 n8 so8 _ pm8 => ⟨fun _ => ⟨(wkx _ _ t8).2.2.2, ?_⟩, fun z => by omega⟩)⟩⟩
      rw [show (i : Int) + 1 = ((i + 1 : Nat) : Int) by omega]
      refine (x_MM_job (d := d + 3) t8 (by omega) (i32s (by omega) (by omega)) (i32s (by omega) (by omega)) (i32s (by omega) (by omega))).mono (fun Ma ha => ?_)
      obtain ⟨ta, sa⟩ := ha
      refine ⟨ta.1.1, k_MM_part_267 ta.1.1 ⟨ta.1.1, kids [(i + 1, j)] M8 Ma (by simp) (fun i' j' z => ?_) (by show (j - (i + 1)) + 0 + 1 ≤ j - i; omega) t8 je8 f8 n8 (by rw [so8]; exact Or.inl ⟨by split at hv <;> omega, rfl⟩) ta sa pm8.2 (fun Mx Tx u1 u2 u3 u4 => ?_)⟩⟩
      rotate_left
      · unfold Tm; rw [Td_pre hlo hij h25]
        refine ⟨⟨?_, by rw [u2, pm8.1], u3⟩, u4.1, u4.2⟩
        rw [u1, so8, hv, hy]; rcases h25 with z9 | z9 <;> simp [z9]
      obtain ⟨z1, z2⟩ := single i' j' z
      subst z1 z2
      exact ⟨by omega, e1, by omega⟩
    · -- a leaf
      have ex : x = -1 := by rw [hx]; exact hlo
      subst ex
      refine ⟨i32s (by omega) (by omega), w5.2.1, fun _ => ⟨w5.2.2.2, (s_MM_word1 (d := d + 3) w5.2.1 w5.1 (by omega)).mono (fun y M7 h7 => ?_)⟩, fun z => by omega⟩
      obtain ⟨e7, hy⟩ := h7
      subst e7
      rw [w5.2.2.1] at hy
      -- a leaf's value is written
      have leaf : ∀ (M8 M9 : mM) (v : Int), TI M a g N (T + 1) st M8 → JE M2 M8 g T y3 → fp M8 g T = -1 → np M8 g T = -1 → so M8 g T = y → i32 v → M9 = mUI M8 (mR M8 (g + 7) 0) T v → (y = 2 → 0 ≤ v ∧ v < 1000000000) → (y = 1 → 0 ≤ v ∧ v < N ∧ wk M a v.toNat = 1) → (pm M8 g T = nt M (a + 7) i ∧ ∀ n, n < T → pm M8 g n = pm M2 g n) → v = nvq M a i → h_MM_part_267 G (d + 4) M9 (fun M28 => mOk M28 ∧ h_MM_tree_26 G (d + 5) a root M28 Q) := fun M8 M9 v t8 je8 f8 n8 so8 hv e9 h2 h1 pm8 ev => by
        have w8 := t8.2.1.1.1
        have g7 : tL g (g + 7) := tLk7 g
        obtain ⟨m9, k1, k2, k3⟩ := mv_el hv t8.1.1 w8 (tL_in hg g7) e9
        obtain ⟨u1, u2, u3⟩ := t8.wx m9 (fun r hr => Or.inl (by rw [hr]; exact g7))
        have sm : ∀ r, r ∈ nums a → r ≠ g + 7 → sameN M8 M9 r := fun r hr hne => m9.lst hr hne
        have t9 : TI M a g N (T + 1) st M9 := ⟨u1, u2, u3, fun r hr => by
          by_cases z : r = g + 7
          · rw [z, k1]; exact t8.2.2.2.1 _ g7
          · rw [(sm r (tL_in hg hr) z).1]; exact t8.2.2.2.1 r hr, t8.2.2.2.2.1.same (sm _ n91 (fun z => by rw [← z] at g7; exact (tL_no hg w8).2.2.2.2 g7)), hg⟩
        have s1 : ∀ n, so M9 g n = so M8 g n := fun n => (sm _ (tL_in hg (by omega)) (by omega)).2.1 n
        have s9 : ∀ n, fp M9 g n = fp M8 g n := fun n => (sm _ (tL_in hg (by omega)) (by omega)).2.1 n
        have s11 : ∀ n, np M9 g n = np M8 g n := fun n => (sm _ (tL_in hg (by omega)) (by omega)).2.1 n
        have s7 : ∀ n, va M9 g n = if n = T then v else va M8 g n := k2
        have s3' : ∀ n, pm M9 g n = pm M8 g n := fun n => (sm _ (tL_in hg (by omega)) (by omega)).2.1 n
        refine k_MM_part_267 u1.1 ⟨u1.1, hQ M9 (T + 1) t9 (by omega) (by omega) (je8.post (fun n hn => ⟨s1 n, by rw [s7 n, if_neg (by omega)], s9 n, s11 n⟩)) (To.leaf (by rw [s9]; exact f8) (by rw [s1, so8]; omega) (fun z => ?_) (fun z => ?_)) (by rw [s11]; exact n8) ⟨?_, fun n hn => by rw [s3' n, pm8.2 n hn]⟩⟩
        rotate_left 2
        · subst hj1
          rw [Tm, Td_leaf hlo (by omega) hlf]
          exact ⟨rfl, by rw [s1, so8, hy], by rw [s3', pm8.1], by rw [s9]; exact f8, by rw [s7 T, if_pos rfl]; exact ev⟩
        · rw [s1, so8] at z
          rw [s7 T, if_pos rfl]
          exact h2 z
        · rw [s1, so8] at z
          rw [s7 T, if_pos rfl]
          exact h1 z
      refine ⟨i32s (by omega) (by omega), w5.2.1, fun z => by omega, fun _ v hv => ⟨w5.2.2.2, ?_⟩⟩
      rw [if_neg (by omega)] at hv
      subst hv
      refine mk v i i _ (i32s (by omega) (by omega)) (by omega) (by omega) (fun M8 t8 je8 f8 n8 so8 va8 pm8 => ⟨fun z => by omega, fun _ => ?_⟩)
      have w8 := wkx _ _ t8
      have wd8 := t8.2.1.1.1
      have gp := wd8.gp hg
      have u7 := wd8.nu (tL_in (q := g + 7) hg (tLk7 g))
      have l7 := t8.2.2.2.1 (g + 7) (by first | exact tLk7 g | exact gLk7 g | omega)
      have c7 : ((T + 1 : Nat) : Int) ≤ cp M8 (g + 7) := by rw [← l7]; exact u7.2.2.2.1.2
      have r3 : mR M8 g 3 = g + 7 := gp.2.1.2.2.2.1
      rw [t8.2.2.1, r3]
      refine ⟨fun z2 => ⟨w8.2.2.2, gp.1, u7.1, (x_MM_numberOf (d := d + 2) w8.2.1 t8.2.1 (by omega) (by rw [w8.2.2.1, ← hy]; exact z2)).mono (fun z M9 h9 => ?_)⟩, fun z2 => ⟨fun z1 => ⟨w8.2.2.2, gp.1, u7.1, u7.2.1, ⟨by omega, by have : mN M8 (mR M8 (g + 7) 0) = cp M8 (g + 7) := rfl; omega⟩, fun M9 e9 => ?_⟩, fun z1 => ⟨fun z => by omega, fun _ => ?_⟩⟩⟩
      · obtain ⟨e9, ⟨z0, z1⟩, z9⟩ := h9
        subst e9
        refine ⟨⟨by omega, by omega⟩, w8.2.1, u7.2.1, ⟨by omega, by have : mN M9 (mR M9 (g + 7) 0) = cp M9 (g + 7) := rfl; omega⟩, fun Ma ea => ?_⟩
        rw [Int.toNat_natCast] at ea
        exact leaf M9 Ma z t8 je8 f8 n8 so8 ⟨by omega, by omega⟩ ea (fun _ => ⟨z0, z1⟩) (fun q => by omega) pm8 (by
          obtain ⟨g1, g2, g3⟩ := t8.n79 hw
          unfold nvq
          rw [if_neg (by omega), if_pos (by omega), z9, g1, g2, show nt M9 (mR M9 a 2) = nt M (mR M a 2) from funext g3])
      · rw [Int.toNat_natCast] at e9
        exact leaf M8 M9 i t8 je8 f8 n8 so8 (i32s (by omega) (by omega)) e9 (fun q => absurd q z2) (fun _ => ⟨by omega, by omega, by rw [Int.toNat_natCast, ← hy]; exact z1⟩) pm8 (by unfold nvq; rw [if_pos (by rw [← hy]; exact z1)])
      · exact k_MM_part_267 w8.2.1 ⟨w8.2.1, hQ M8 (T + 1) t8 (by omega) (by omega) je8 (To.leaf f8 (by rw [so8]; omega) (fun z => by rw [so8] at z; exact absurd z z2) (fun z => by rw [so8] at z; exact absurd z z1)) n8 ⟨by
          subst hj1
          rw [Tm, Td_leaf hlo (by omega) hlf]
          exact ⟨rfl, by rw [so8, hy], pm8.1, f8, by rw [va8]; unfold nvq; rw [if_neg (by omega), if_neg (by omega)]⟩, pm8.2⟩⟩
    · -- a list
      have p7 := e7.pr.1
      have ex : x = -1 := by rw [hx]; exact hlo
      subst ex
      refine ⟨i32s (by omega) (by omega), w5.2.1, fun _ => ⟨w5.2.2.2, (s_MM_word1 (d := d + 3) w5.2.1 w5.1 (by omega)).mono (fun y M7 h7 => ?_)⟩, fun z => by omega⟩
      obtain ⟨e9, hy⟩ := h7
      subst e9
      rw [w5.2.2.1] at hy
      refine ⟨i32s (by omega) (by omega), w5.2.1, fun z => by omega, fun _ v hv => ⟨w5.2.2.2, ?_⟩⟩
      rw [if_neg (by omega)] at hv
      subst hv
      refine mk v i i _ (i32s (by omega) (by omega)) (by omega) (by omega) (fun M8 t8 je8 f8 n8 so8 _ pm8 => ⟨fun z => by omega, fun _ => ⟨fun z => by omega, fun _ => ⟨fun z => by omega, fun _ => ⟨fun _ => ⟨(wkx _ _ t8).2.2.2, ?_⟩, fun z => by omega⟩⟩⟩⟩)
      rw [show (i : Int) + 2 = ((i + 2 : Nat) : Int) by omega, show (j : Int) - 1 = ((j - 1 : Nat) : Int) by omega]
      refine (x_MM_list (d := d + 2) hw t8 (i32s (by omega) (by omega)) (by omega) (by omega) (by omega) e7).mono (fun Ma ha => ?_)
      obtain ⟨rs, f, ta, sa, jl, k4⟩ := ha
      exact ⟨ta.1.1, k_MM_part_267 ta.1.1 ⟨ta.1.1, kids rs M8 Ma jl.ne (fun i' j' z => ⟨by have := (jl.all i' j' z).2.2; omega, (jl.all i' j' z).1, by have := (jl.all i' j' z).2.1; omega⟩) (by omega) t8 je8 f8 n8 (by rw [so8]; exact Or.inr (Or.inr (Or.inr (by omega)))) ta sa pm8.2 (fun Mx Tx u1 u2 u3 u4 => by
        rw [Tm, Td_lst hlo hij h14]
        exact ⟨⟨by rw [u1, so8, hy], by rw [u2, pm8.1], u3⟩, tb_td jl u4⟩)⟩⟩
end MKX
section TQX
variable {G : mG} {d a N g T i j : Nat} {M : mM}
/-- a tree more -/
def trX (M : mM) (a g N T i j : Nat) (r : Int) (M' : mM) : Prop := Mv (trP a g) (fun _ => False) M a M' ∧ r = T ∧ ∃ T', nd M' g T' ∧ T < T' ∧ T' ≤ T + (j - i) ∧ To (nmw (wk M a) N) M' g 0 T T' ∧ np M' g T = -1 ∧ (Tm M M' a g 0 0 i j T T' ∧ ∀ n, n < T → pm M' g n = pm M g n) ∧ ∀ n, n < T → so M' g n = so M g n ∧ va M' g n = va M g n ∧ fp M' g n = fp M g n ∧ np M' g n = np M g n
theorem x_MM_tree (hO : mOk M) (h : Wx M a N) (hg : g = a + 13 ∨ g = a + 49) (hd : mR M a 10 = g) (hn : nd M g T) (he : Eo (wk M a) 6 i j) (hj : j < N) (hT : T + (j - i) ≤ 32000) : Ci G y_MM_tree (d + 6) [vr a, vi i, vi j] M (trX M a g N T i j) := by
  have w := h.1.1
  have hN := h.1.2.2
  have hij := he.pr.1
  have r18 : mR M a 18 = a + 91 := w.1.2.2.2.2.1.2.2.2.1
  refine k_MM_tree hO (i32s (by omega) (by omega)) (i32s (by omega) (by omega)) ?_
  rw [r18]
  refine ⟨w.1.1, (w.nu n91).1, fun M1 e1 => ?_⟩
  obtain ⟨m1, l1, -⟩ := mv_set hO w n91 (v := 0) (by omega) (w.nu n91).2.2.2.1.1 e1
  have w1 := m1.2.1
  have no := tL_no hg w
  have rt : mR M a 2 ≠ a + 91 := by rcases w.1.2.1 with y | y <;> rw [y.2] <;> omega
  have x1 : Wx M1 a N := h.mv m1 (fun q hq => by rw [hq]; exact n91) (by omega) (by omega) (by omega) rt
  have d1 : mR M1 a 10 = g := by rw [m1.rfl_a w (fun q hq => by rw [hq]; exact n91)]; exact hd
  have sm : ∀ q, tL g q → sameN M M1 q := fun q hq => m1.lst (tL_in hg hq) (fun z => by rw [z] at hq; exact no.2.2.2.2 hq)
  have n1 : nd M1 g T := fun q hq => by rw [(sm q hq).1]; exact hn q hq
  have gp := w1.gp hg
  have t1 : TI M a g N T [] M1 := ⟨m1.mono (fun q hq => Or.inr hq) (fun x hx => hx) (trP_lt hg w), x1, d1, n1, ⟨l1, fun i hi => by simp at hi⟩, hg⟩
  have s1 : sameT M M1 g := fun n => ⟨(sm _ (by omega)).2.1 n, (sm _ (by omega)).2.1 n, (sm _ (by omega)).2.1 n, (sm _ (by omega)).2.1 n⟩
  have lT : mI M1 (g + 1) 1 = T := n1 (g + 1) (by omega)
  rw [d1, gp.2.1.1, lT]
  refine ⟨gp.1, (w1.nu (tL_in hg (by omega))).1, (x_MM_job (d := d + 4) t1 (by simp) (i32s (by omega) (by omega)) (i32s (by omega) (by omega)) (i32s (by omega) (by omega))).mono (fun M2 h2 => ?_)⟩
  obtain ⟨t2, s2⟩ := h2
  refine ⟨t2.1.1, tr_runx (d := d) w (i32s (by omega) (by omega)) (j - i) i j (Nat.le_refl _) he hj M2 T (-1) [] t2 (by omega) (by omega) (fun z => by omega) (by omega) (by simp; omega) (fun M3 T' t3 h1 h2 je to nn tm => ?_)⟩
  have w3 := t3.2.1.1.1
  have r3 : mR M3 a 18 = a + 91 := w3.1.2.2.2.2.1.2.2.2.1
  have l3 : mI M3 (a + 91) 1 = 0 := t3.2.2.2.2.1.1
  refine k_MM_tree_26 t3.1.1 (i32s (by omega) (by omega)) ?_
  rw [r3, l3]
  refine ⟨w3.1.1, (w3.nu n91).1, fun _ => ⟨t3.1, rfl, T', t3.2.2.2.1, h1, h2, to, nn, ⟨tm.1, fun n hn => by rw [tm.2 n hn, s2.2]; exact (sm (g + 3) (by first | exact tLk3 g | exact gLk3 g | omega)).2.1 n⟩, fun n hnT => ?_⟩, fun z => by omega⟩
  have s12 := sameT.trans s1 s2.1
  rcases je.2 with ⟨-, q⟩ | ⟨q, -⟩ | ⟨q, -⟩
  · exact ⟨(je.1 n hnT).1.trans (s12 n).1, (je.1 n hnT).2.trans (s12 n).2.1, (q n hnT).1.trans (s12 n).2.2.1, (q n hnT).2.trans (s12 n).2.2.2⟩
  · omega
  · omega
end TQX
