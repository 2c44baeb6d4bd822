/-! The reference: tree. -/
theorem JL.rs {w : Nat → Int} {p : Int} : ∀ {f i j : Nat} {s : List Int}, JL w p f i j s → ∃ rs, s = flat p rs ∧ rs ≠ [] ∧ (∀ i' j', (i', j') ∈ rs → Eo w 6 i' j' ∧ j' ≤ j ∧ j' - i' ≤ j - i) ∧ rsum rs ≤ j - i
  | 0, _, _, _, h => h.elim
  | f + 1, i, j, s, h => by
    rcases h with ⟨h1, h2⟩ | ⟨m, s2, h1, h2, h3, h4⟩
    · refine ⟨[(i, j)], h1, by simp, fun i' j' q => ?_, by show (j - i) + 0 ≤ _; omega⟩
      have q' := List.mem_singleton.1 q
      obtain ⟨q1, q2⟩ := Prod.mk.inj q'
      subst q1 q2
      exact ⟨h2, Nat.le_refl _, Nat.le_refl _⟩
    · obtain ⟨rs, k1, k2, k3, k4⟩ := JL.rs h4
      have p2 := h2.pr.1
      have hne : m + 1 < j := by
        cases rs with
        | nil => exact absurd rfl k2
        | cons x rs =>
          have a := k3 x.1 x.2 (List.mem_cons_self ..)
          have := a.1.pr.1
          have := a.2
          omega
      refine ⟨(i, m) :: rs, by rw [h3, k1]; rfl, by simp, fun i' j' q => ?_, by show (m - i) + rsum rs ≤ j - i; omega⟩
      rcases List.mem_cons.1 q with z | z
      · obtain ⟨q1, q2⟩ := Prod.mk.inj z
        subst q1 q2
        exact ⟨h2, by omega, by omega⟩
      · have a := k3 i' j' z
        exact ⟨a.1, a.2.1, by have := a.2.2; omega⟩
section MK
variable {G : mG} {d a N g : Nat} {M : mM} {root : Int} {Q : Int → mM → Prop}
theorem tr_run (hw : Wd M a) (hroot : i32 root) : ∀ L, RunP G d M a g N root Q L := by
  intro L
  induction L with
  | zero =>
    intro i j hl he
    have := he.pr.1
    omega
  | succ L ih =>
    intro i j hl he hjN M2 T p st t2 hp1 hpT hc hb hlen hQ
    have hij := he.pr.1
    have hg := t2.2.2.2.2.2
    have hN := t2.2.1.1.2.2
    have r18 : ∀ {T : Nat} (s : List Int) (M4 : mM), TI M a g N T s M4 → mR M4 a 18 = a + 91 ∧ mK M4 a = 14 ∧ mK M4 (a + 91) = 15 ∧ mOk M4 ∧ Nu M4 (a + 91) := fun s M4 h4 => by
      have w := h4.2.1.1.1
      exact ⟨w.1.2.2.2.2.1.2.2.2.1, w.1.1, (w.nu n91).1, h4.1.1, w.nu n91⟩
    have q2 := r18 _ _ t2
    have l2 : mI M2 (a + 91) 1 = (((j : Int) :: (i : Int) :: p :: st).length : Int) := t2.2.2.2.2.1.1
    simp only [List.length_cons] at l2
    have hp32 : i32 p := i32s (by omega) (by omega)
    refine k_MM_tree_26 q2.2.2.2.1 hroot ?_
    rw [q2.1]
    refine ⟨q2.2.1, q2.2.2.1, fun z => by omega, fun _ => (s_MN_take q2.2.2.2.1 q2.2.2.2.2 (by unfold ln; omega)).mono (fun y1 M3 k3 => ?_)⟩
    obtain ⟨t3, e3, s3⟩ := t2.tk k3
    subst e3
    have q3 := r18 _ _ t3
    have l3 : mI M3 (a + 91) 1 = (((i : Int) :: p :: st).length : Int) := t3.2.2.2.2.1.1
    simp only [List.length_cons] at l3
    rw [q3.1]
    refine ⟨i32s (by omega) (by omega), q3.2.2.2.1, q3.2.1, q3.2.2.1, (s_MN_take q3.2.2.2.1 q3.2.2.2.2 (by unfold ln; omega)).mono (fun y2 M4 k4 => ?_)⟩
    obtain ⟨t4, e4, s4⟩ := t3.tk k4
    subst e4
    have q4 := r18 _ _ t4
    have l4 : mI M4 (a + 91) 1 = ((p :: st).length : Int) := t4.2.2.2.2.1.1
    simp only [List.length_cons] at l4
    rw [q4.1]
    refine ⟨i32s (by omega) (by omega), q4.2.2.2.1, q4.2.1, q4.2.2.1, (s_MN_take q4.2.2.2.1 q4.2.2.2.2 (by unfold ln; omega)).mono (fun y3 M5 k5 => ?_)⟩
    obtain ⟨t5, e5, s5⟩ := t4.tk k5
    subst e5
    have q5 := r18 _ _ t5
    have s25 : sameT M2 M5 g := (s3.trans s4).trans s5
    have hc5 : chn M5 g T y3 := hc.mono hpT (Nat.le_refl _) (fun n _ => ⟨(s25 n).2.2.1, (s25 n).2.2.2⟩)
    refine ⟨hp32, q5.2.2.2.1, q5.2.1, ?_⟩
    -- words, in whatever state
    have wkx : ∀ {T : Nat} (s : List Int) (M4 : mM), TI M a g N T s M4 → Wn M4 a N ∧ mOk M4 ∧ wk M4 a = wk M a ∧ mK M4 a = 14 := fun s M4 h4 => ⟨h4.2.1.1, h4.1.1, h4.wk hw, h4.2.1.1.1.1.1⟩
    have w5 := wkx _ _ t5
    -- a node is made and joined
    have mk : ∀ (s : Int) (wd fr : Nat) (R : Int → mM → Prop), i32 s → wd < N → fr < N → (∀ M7, TI M a g N (T + 1) st M7 → JE M2 M7 g T y3 → fp M7 g T = -1 → np M7 g T = -1 → so M7 g T = s → va M7 g T = 0 → R (T : Int) M7) → Ci G y_MM_node (d + 4) [vr a, vi s, vi wd, vi fr] M5 (fun x M6 => i32 x ∧ mOk M6 ∧ (mK M6 a = 14 ∧ Cv G y_MM_join (d + 4) [vr a, vi y3, vi x] M6 (fun M7 => mOk M7 ∧ R x M7))) := fun s wd fr R hs hwd hfr hR => by
      refine (s_MM_node (d := d + 2) hs w5.2.1 t5.2.1 hwd hfr hg t5.2.2.1 t5.2.2.2.1 (by omega)).mono (fun x M6 h6 => ?_)
      obtain ⟨m6, ex6, n6, o6, a1, a2, a3, a4⟩ := h6
      subst ex6
      have t6 := t5.nd m6 n6
      have hc6 : chn M6 g (T + 1) y3 := hc5.mono hpT (by omega) (fun n hn => ⟨(o6 n hn).2.2.1, (o6 n hn).2.2.2⟩)
      refine ⟨i32s (by omega) (by omega), m6.1, (wkx _ _ t6).2.2.2, (s_MM_join (d := d + 3) (x := T) t6 (by omega) hp32 (by omega) (by omega) hc6).mono (fun M7 h7 => ?_)⟩
      obtain ⟨t7, j7⟩ := h7
      obtain ⟨b1, b2, b3, b4, b5⟩ := nj (st := st) hpT hc5 o6 a3 a4 j7
      exact ⟨t7.1.1, hR M7 t7 (b1.pre hpT (fun n _ => s25 n)) b2 b3 (by rw [b4]; exact a1) (by rw [b5]; exact a2)⟩
    -- the parts of the new node
    have kids : ∀ (rs : List (Nat × Nat)) (M7 M8 : mM), rs ≠ [] → (∀ i' j', (i', j') ∈ rs → j' - i' ≤ L ∧ Eo (wk M a) 6 i' j' ∧ j' < N) → rsum rs + 1 ≤ j - i → TI M a g N (T + 1) st M7 → JE M2 M7 g T y3 → fp M7 g T = -1 → np M7 g T = -1 → ari (so M7 g T) rs.length → TI M a g N (T + 1) (flat (T : Int) rs ++ st) M8 → sameT M7 M8 g → h_MM_tree_26 G (d + 5) a root M8 Q := fun rs M7 M8 hne hrs hsum t7 je f7 n7 ha t8 s8 => by
      refine ch_run (n := T) (st := st) ih rs M8 (T + 1) hne hrs t8 (by omega) (fun _ => Or.inl (by rw [Int.toNat_natCast, (s8 T).2.2.1]; exact f7)) (by omega) (by omega) (fun M9 T9 t9 h1 h2 je9 to9 => ?_)
      obtain ⟨b1, b2, b3⟩ := nd_fin (a := a) (N := N) hpT je s8 f7 n7 je9 (by cases rs with | nil => exact absurd rfl hne | cons x rs => show 1 ≤ rs.length + 1; omega) ha (T9 := T9) (M := M) to9
      exact hQ M9 T9 t9 (by omega) (by omega) b1 b2 b3
    have single : ∀ {i1 j1 : Nat}, ∀ i' j', (i', j') ∈ [(i1, j1)] → i' = i1 ∧ j' = j1 := fun i' j' q => Prod.mk.inj (List.mem_singleton.1 q)
    refine k_MM_part w5.2.1 hp32 (i32s (by omega) (by omega)) (i32s (by omega) (by omega)) ⟨w5.2.2.2, (s_MM_loosest (d := d) w5.2.1 w5.1 hij (by omega)).mono (fun x M6 h6 => ?_)⟩
    obtain ⟨e6, hx⟩ := h6
    subst e6
    rw [w5.2.2.1] at hx
    rcases he.sp with ⟨m, q, hlo, hm, hq, e1, e2, e3⟩ | ⟨m, hlo, hm, e1, e2⟩ | ⟨hlo, h36, h37, e1⟩ | ⟨hlo, h25, e1⟩ | ⟨hlo, hj1, hlf⟩ | ⟨hlo, h14, h36, h37, e7⟩
    · -- a question
      have p1 := e1.pr.1
      have p2 := e2.pr
      have p3 := e3.pr.1
      have ex : x = (m : Int) := by rw [hx]; exact hlo
      subst ex
      have hmN : m < N := by have := p2.1; omega
      refine ⟨i32s (by omega) (by omega), w5.2.1, fun z => by omega, fun _ => ⟨w5.2.2.2, (s_MM_word1 (d := d + 3) w5.2.1 w5.1 hmN).mono (fun y0 M0 h0 => ?_)⟩⟩
      obtain ⟨e0, hy0⟩ := h0
      subst e0
      rw [w5.2.2.1] at hy0
      have hy32 : i32 y0 := by rw [hy0, ← w5.2.2.1]; exact wk32 w5.2.1
      refine ⟨hy32, w5.2.1, w5.2.2.2, mk y0 m i _ hy32 hmN (by omega) (fun M7 t7 je f7 n7 so7 _ => ⟨(wkx _ _ t7).2.2.2, ?_⟩)⟩
      · have w7 := wkx _ _ t7
        rw [hy0] at so7
        refine (s_MM_word1 (d := d + 3) w7.2.1 w7.1 hmN).mono (fun y M8 h8 => ?_)
        obtain ⟨e8, hy⟩ := h8
        subst e8
        rw [w7.2.2.1, hm] at hy
        refine ⟨i32s (by omega) (by omega), w7.2.1, fun _ => ⟨w7.2.2.2, (s_MM_colonOf (d := d + 2) (q := q) w7.2.1 w7.1 (by have := p2.1; omega) (by omega) (by omega) (by rw [w7.2.2.1]; exact p2.2.2.2.2.1) (by rw [w7.2.2.1]; exact hq)).mono (fun z M9 h9 => ?_)⟩, fun z => absurd hy z⟩
        obtain ⟨e9, hz⟩ := h9
        subst e9 hz
        refine ⟨i32s (by omega) (by omega), w7.2.1, w7.2.2.2, (s_MM_job (d := d + 3) t7 (by omega) (i32s (by omega) (by omega)) (i32s (by omega) (by omega)) (i32s (by omega) (by omega))).mono (fun Ma ha => ?_)⟩
        obtain ⟨ta, sa⟩ := ha
        refine ⟨ta.1.1, (wkx _ _ ta).2.2.2, (s_MM_job (d := d + 3) ta (by simp only [List.length_cons]; omega) (i32s (by omega) (by omega)) (i32s (by omega) (by omega)) (i32s (by omega) (by omega))).mono (fun Mb hb' => ?_)⟩
        obtain ⟨tb, sb⟩ := hb'
        refine ⟨tb.1.1, (wkx _ _ tb).2.2.2, (s_MM_job (d := d + 3) tb (by simp only [List.length_cons]; omega) (i32s (by omega) (by omega)) (i32s (by omega) (by omega)) (i32s (by omega) (by omega))).mono (fun Mc hc' => ?_)⟩
        obtain ⟨tc, sc⟩ := hc'
        refine ⟨tc.1.1, tc.1.1, kids [(i, m), (m + 1, q), (q + 1, j)] M9 Mc (by simp) (fun i' j' z => ?_) (by show (m - i) + ((q - (m + 1)) + ((j - (q + 1)) + 0)) + 1 ≤ j - i; have := p2.1; omega) t7 je f7 n7 (by rw [so7, hm]; exact Or.inr (Or.inr (Or.inl ⟨rfl, rfl⟩))) tc ((sameT.trans sa sb).trans sc)⟩
        have hp2 := p2.1
        rcases List.mem_cons.1 z with z | z
        · obtain ⟨z1, z2⟩ := Prod.mk.inj z
          subst z1 z2
          exact ⟨by omega, e1.six (by omega), by omega⟩
        · rcases List.mem_cons.1 z with z | z
          · obtain ⟨z1, z2⟩ := Prod.mk.inj z
            subst z1 z2
            exact ⟨by omega, e2, by omega⟩
          · obtain ⟨z1, z2⟩ := single i' j' z
            subst z1 z2
            exact ⟨by omega, e3, by omega⟩
    · -- an operator of two parts
      have p1 := e1.pr.1
      have p2 := e2.pr.1
      have ex : x = (m : Int) := by rw [hx]; exact hlo
      subst ex
      have hmN : m < N := by omega
      refine ⟨i32s (by omega) (by omega), w5.2.1, fun z => by omega, fun _ => ⟨w5.2.2.2, (s_MM_word1 (d := d + 3) w5.2.1 w5.1 hmN).mono (fun y0 M0 h0 => ?_)⟩⟩
      obtain ⟨e0, hy0⟩ := h0
      subst e0
      rw [w5.2.2.1] at hy0
      have hy32 : i32 y0 := by rw [hy0, ← w5.2.2.1]; exact wk32 w5.2.1
      refine ⟨hy32, w5.2.1, w5.2.2.2, mk y0 m i _ hy32 hmN (by omega) (fun M7 t7 je f7 n7 so7 _ => ⟨(wkx _ _ t7).2.2.2, ?_⟩)⟩
      · have w7 := wkx _ _ t7
        rw [hy0] at so7
        refine (s_MM_word1 (d := d + 3) w7.2.1 w7.1 hmN).mono (fun y M8 h8 => ?_)
        obtain ⟨e8, hy⟩ := h8
        subst e8
        rw [w7.2.2.1] at hy
        refine ⟨by rw [hy, ← w7.2.2.1]; exact wk32 w7.2.1, w7.2.1, fun z => by omega, fun _ => ⟨w7.2.2.2, (s_MM_job (d := d + 3) t7 (by omega) (i32s (by omega) (by omega)) (i32s (by omega) (by omega)) (i32s (by omega) (by omega))).mono (fun Ma ha => ?_)⟩⟩
        obtain ⟨ta, sa⟩ := ha
        refine ⟨ta.1.1, (wkx _ _ ta).2.2.2, (s_MM_job (d := d + 3) ta (by simp only [List.length_cons]; omega) (i32s (by omega) (by omega)) (i32s (by omega) (by omega)) (i32s (by omega) (by omega))).mono (fun Mb hb' => ?_)⟩
        obtain ⟨tb, sb⟩ := hb'
        refine ⟨tb.1.1, tb.1.1, kids [(i, m), (m + 1, j)] M8 Mb (by simp) (fun i' j' z => ?_) (by show (m - i) + ((j - (m + 1)) + 0) + 1 ≤ j - i; omega) t7 je f7 n7 (by rw [so7]; exact Or.inr (Or.inl ⟨by omega, rfl⟩)) tb (sameT.trans sa sb)⟩
        rcases List.mem_cons.1 z with z | z
        · obtain ⟨z1, z2⟩ := Prod.mk.inj z
          subst z1 z2
          exact ⟨by omega, e1, by omega⟩
        · obtain ⟨z1, z2⟩ := single i' j' z
          subst z1 z2
          exact ⟨by omega, e2, by omega⟩
    · -- parentheses
      have p1 := e1.pr.1
      have ex : x = -1 := by rw [hx]; exact hlo
      subst ex
      refine ⟨i32s (by omega) (by omega), w5.2.1, fun _ => ⟨w5.2.2.2, (s_MM_word1 (d := d + 3) w5.2.1 w5.1 (by omega)).mono (fun y M7 h7 => ?_)⟩, fun z => by omega⟩
      obtain ⟨e7, hy⟩ := h7
      subst e7
      rw [w5.2.2.1, h36] at hy
      refine ⟨i32s (by omega) (by omega), w5.2.1, fun _ => ⟨w5.2.2.2, ?_⟩, fun z => absurd hy z⟩
      rw [show (i : Int) + 1 = ((i + 1 : Nat) : Int) by omega, show (j : Int) - 1 = ((j - 1 : Nat) : Int) by omega]
      refine (s_MM_job (d := d + 3) t5 (by omega) hp32 (i32s (by omega) (by omega)) (i32s (by omega) (by omega))).mono (fun Ma ha => ?_)
      obtain ⟨ta, sa⟩ := ha
      have s2a : sameT M2 Ma g := s25.trans sa
      exact ⟨ta.1.1, ta.1.1, ih (i + 1) (j - 1) (by omega) e1 (by omega) Ma T y3 st ta hp1 hpT (hc.mono hpT (Nat.le_refl _) (fun n _ => ⟨(s2a n).2.2.1, (s2a n).2.2.2⟩)) (by omega) (by omega) (fun M9 T9 t9 b1 b2 je to nn => hQ M9 T9 t9 b1 (by omega) (je.pre hpT (fun n _ => s2a n)) to nn)⟩
    · -- a sign before
      have p1 := e1.pr.1
      have ex : x = -1 := by rw [hx]; exact hlo
      subst ex
      refine ⟨i32s (by omega) (by omega), w5.2.1, fun _ => ⟨w5.2.2.2, (s_MM_word1 (d := d + 3) w5.2.1 w5.1 (by omega)).mono (fun y M7 h7 => ?_)⟩, fun z => by omega⟩
      obtain ⟨e7, hy⟩ := h7
      subst e7
      rw [w5.2.2.1] at hy
      refine ⟨i32s (by omega) (by omega), w5.2.1, fun z => by omega, fun _ v hv => ⟨w5.2.2.2, mk v i i _ (by split at hv <;> exact i32s (by omega) (by omega)) (by omega) (by omega) (fun M8 t8 je8 f8 n8 so8 _ => ⟨fun _ => ⟨(wkx _ _ t8).2.2.2, ?_⟩, fun z => by omega⟩)⟩⟩
      rw [show (i : Int) + 1 = ((i + 1 : Nat) : Int) by omega]
      refine (s_MM_job (d := d + 3) t8 (by omega) (i32s (by omega) (by omega)) (i32s (by omega) (by omega)) (i32s (by omega) (by omega))).mono (fun Ma ha => ?_)
      obtain ⟨ta, sa⟩ := ha
      refine ⟨ta.1.1, k_MM_part_267 ta.1.1 ⟨ta.1.1, kids [(i + 1, j)] M8 Ma (by simp) (fun i' j' z => ?_) (by show (j - (i + 1)) + 0 + 1 ≤ j - i; omega) t8 je8 f8 n8 (by rw [so8]; exact Or.inl ⟨by split at hv <;> omega, rfl⟩) ta sa⟩⟩
      obtain ⟨z1, z2⟩ := single i' j' z
      subst z1 z2
      exact ⟨by omega, e1, by omega⟩
    · -- a leaf
      have ex : x = -1 := by rw [hx]; exact hlo
      subst ex
      refine ⟨i32s (by omega) (by omega), w5.2.1, fun _ => ⟨w5.2.2.2, (s_MM_word1 (d := d + 3) w5.2.1 w5.1 (by omega)).mono (fun y M7 h7 => ?_)⟩, fun z => by omega⟩
      obtain ⟨e7, hy⟩ := h7
      subst e7
      rw [w5.2.2.1] at hy
      -- a leaf's value is written
      have leaf : ∀ (M8 M9 : mM) (v : Int), TI M a g N (T + 1) st M8 → JE M2 M8 g T y3 → fp M8 g T = -1 → np M8 g T = -1 → so M8 g T = y → i32 v → M9 = mUI M8 (mR M8 (g + 7) 0) T v → (y = 2 → 0 ≤ v ∧ v < 1000000000) → (y = 1 → 0 ≤ v ∧ v < N ∧ wk M a v.toNat = 1) → h_MM_part_267 G (d + 4) M9 (fun M28 => mOk M28 ∧ h_MM_tree_26 G (d + 5) a root M28 Q) := fun M8 M9 v t8 je8 f8 n8 so8 hv e9 h2 h1 => by
        have w8 := t8.2.1.1.1
        have g7 : tL g (g + 7) := by omega
        obtain ⟨m9, k1, k2, k3⟩ := mv_el hv t8.1.1 w8 (tL_in hg g7) e9
        obtain ⟨u1, u2, u3⟩ := t8.wx m9 (fun r hr => Or.inl (by rw [hr]; exact g7))
        have sm : ∀ r, r ∈ nums a → r ≠ g + 7 → sameN M8 M9 r := fun r hr hne => m9.lst hr hne
        have t9 : TI M a g N (T + 1) st M9 := ⟨u1, u2, u3, fun r hr => by
          by_cases z : r = g + 7
          · rw [z, k1]; exact t8.2.2.2.1 _ g7
          · rw [(sm r (tL_in hg hr) z).1]; exact t8.2.2.2.1 r hr, t8.2.2.2.2.1.same (sm _ n91 (fun z => by rw [← z] at g7; exact (tL_no hg w8).2.2.2.2 g7)), hg⟩
        have s1 : ∀ n, so M9 g n = so M8 g n := fun n => (sm _ (tL_in hg (by omega)) (by omega)).2.1 n
        have s9 : ∀ n, fp M9 g n = fp M8 g n := fun n => (sm _ (tL_in hg (by omega)) (by omega)).2.1 n
        have s11 : ∀ n, np M9 g n = np M8 g n := fun n => (sm _ (tL_in hg (by omega)) (by omega)).2.1 n
        have s7 : ∀ n, va M9 g n = if n = T then v else va M8 g n := k2
        refine k_MM_part_267 u1.1 ⟨u1.1, hQ M9 (T + 1) t9 (by omega) (by omega) (je8.post (fun n hn => ⟨s1 n, by rw [s7 n, if_neg (by omega)], s9 n, s11 n⟩)) (To.leaf (by rw [s9]; exact f8) (by rw [s1, so8]; omega) (fun z => ?_) (fun z => ?_)) (by rw [s11]; exact n8)⟩
        · rw [s1, so8] at z
          rw [s7 T, if_pos rfl]
          exact h2 z
        · rw [s1, so8] at z
          rw [s7 T, if_pos rfl]
          exact h1 z
      refine ⟨i32s (by omega) (by omega), w5.2.1, fun z => by omega, fun _ v hv => ⟨w5.2.2.2, ?_⟩⟩
      rw [if_neg (by omega)] at hv
      subst hv
      refine mk v i i _ (i32s (by omega) (by omega)) (by omega) (by omega) (fun M8 t8 je8 f8 n8 so8 va8 => ⟨fun z => by omega, fun _ => ?_⟩)
      have w8 := wkx _ _ t8
      have wd8 := t8.2.1.1.1
      have gp := wd8.gp hg
      have u7 := wd8.nu (tL_in (q := g + 7) hg (by omega))
      have l7 := t8.2.2.2.1 (g + 7) (by omega)
      have c7 : ((T + 1 : Nat) : Int) ≤ cp M8 (g + 7) := by rw [← l7]; exact u7.2.2.2.1.2
      have r3 : mR M8 g 3 = g + 7 := gp.2.1.2.2.2.1
      rw [t8.2.2.1, r3]
      refine ⟨fun z2 => ⟨w8.2.2.2, gp.1, u7.1, (s_MM_numberOf (d := d + 2) w8.2.1 t8.2.1 (by omega) (by rw [w8.2.2.1, ← hy]; exact z2)).mono (fun z M9 h9 => ?_)⟩, fun z2 => ⟨fun z1 => ⟨w8.2.2.2, gp.1, u7.1, u7.2.1, ⟨by omega, by have : mN M8 (mR M8 (g + 7) 0) = cp M8 (g + 7) := rfl; omega⟩, fun M9 e9 => ?_⟩, fun z1 => ⟨fun z => by omega, fun _ => ?_⟩⟩⟩
      · obtain ⟨e9, z0, z1⟩ := h9
        subst e9
        refine ⟨⟨by omega, by omega⟩, w8.2.1, u7.2.1, ⟨by omega, by have : mN M9 (mR M9 (g + 7) 0) = cp M9 (g + 7) := rfl; omega⟩, fun Ma ea => ?_⟩
        rw [Int.toNat_natCast] at ea
        exact leaf M9 Ma z t8 je8 f8 n8 so8 ⟨by omega, by omega⟩ ea (fun _ => ⟨z0, z1⟩) (fun q => by omega)
      · rw [Int.toNat_natCast] at e9
        exact leaf M8 M9 i t8 je8 f8 n8 so8 (i32s (by omega) (by omega)) e9 (fun q => absurd q z2) (fun _ => ⟨by omega, by omega, by rw [Int.toNat_natCast, ← hy]; exact z1⟩)
      · exact k_MM_part_267 w8.2.1 ⟨w8.2.1, hQ M8 (T + 1) t8 (by omega) (by omega) je8 (To.leaf f8 (by rw [so8]; omega) (fun z => by rw [so8] at z; exact absurd z z2) (fun z => by rw [so8] at z; exact absurd z z1)) n8⟩
    · -- a list
      have p7 := e7.pr.1
      have ex : x = -1 := by rw [hx]; exact hlo
      subst ex
      refine ⟨i32s (by omega) (by omega), w5.2.1, fun _ => ⟨w5.2.2.2, (s_MM_word1 (d := d + 3) w5.2.1 w5.1 (by omega)).mono (fun y M7 h7 => ?_)⟩, fun z => by omega⟩
      obtain ⟨e9, hy⟩ := h7
      subst e9
      rw [w5.2.2.1] at hy
      refine ⟨i32s (by omega) (by omega), w5.2.1, fun z => by omega, fun _ v hv => ⟨w5.2.2.2, ?_⟩⟩
      rw [if_neg (by omega)] at hv
      subst hv
      refine mk v i i _ (i32s (by omega) (by omega)) (by omega) (by omega) (fun M8 t8 je8 f8 n8 so8 _ => ⟨fun z => by omega, fun _ => ⟨fun z => by omega, fun _ => ⟨fun z => by omega, fun _ => ⟨fun _ => ⟨(wkx _ _ t8).2.2.2, ?_⟩, fun z => by omega⟩⟩⟩⟩)
      rw [show (i : Int) + 2 = ((i + 2 : Nat) : Int) by omega, show (j : Int) - 1 = ((j - 1 : Nat) : Int) by omega]
      refine (s_MM_list (d := d + 2) hw t8 (i32s (by omega) (by omega)) (by omega) (by omega) (by omega) e7).mono (fun Ma ha => ?_)
      obtain ⟨s, f, ta, sa, jl, -⟩ := ha
      obtain ⟨rs, k1, k2, k3, k4⟩ := JL.rs jl
      subst k1
      exact ⟨ta.1.1, k_MM_part_267 ta.1.1 ⟨ta.1.1, kids rs M8 Ma k2 (fun i' j' z => ⟨by have := (k3 i' j' z).2.2; omega, (k3 i' j' z).1, by have := (k3 i' j' z).2.1; omega⟩) (by omega) t8 je8 f8 n8 (by rw [so8]; exact Or.inr (Or.inr (Or.inr (by omega)))) ta sa⟩⟩
end MK
