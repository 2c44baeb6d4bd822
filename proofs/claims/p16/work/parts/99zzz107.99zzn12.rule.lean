/-! The reference's rule, exactly: a tree is made and looked at. -/
section TMP
variable {w pl nv nv' S A V F B S' A' V' F' B' : Nat → Int} {i j n e : Nat} {x : Int}
/-- the same nodes, the same tree -/
theorem Td_mp : ∀ (f c i j : Nat), 2 * (j - i) + c ≤ f → Eoc w c i j → ∀ (x : Int) (n e : Nat), Td w pl nv S A V F B c x i j n e → (∀ k, n ≤ k → k < e → S' k = S k ∧ A' k = A k ∧ (∀ t, S k = w t → V k = nv t → V' k = nv' t) ∧ F' k = F k) → (∀ k, n < k → k < e → B' k = B k) → (c = 1 → B' n = B n) → Td w pl nv' S' A' V' F' B' c x i j n e := by
  refine Eo_ind (P := fun c i j => ∀ (x : Int) (n e : Nat), Td w pl nv S A V F B c x i j n e → (∀ k, n ≤ k → k < e → S' k = S k ∧ A' k = A k ∧ (∀ t, S k = w t → V k = nv t → V' k = nv' t) ∧ F' k = F k) → (∀ k, n < k → k < e → B' k = B k) → (c = 1 → B' n = B n) → Td w pl nv' S' A' V' F' B' c x i j n e) ?_ ?_ ?_ ?_ ?_ ?_ ?_ ?_
  · intro i m q j h1 h2 h3 h4 h5 h6 h7 h8 o1 o2 o3 i1 i2 i3 x n e ht g1 g2 g3
    rw [Td_ask h1 h2 h3 h6 h8] at ht ⊢
    obtain ⟨a, b, ⟨s1, s2, s3⟩, t1, b1, t2, b2, t3, b3⟩ := ht
    have l1 := t1.lt (Or.inl ⟨rfl, o1⟩)
    have l2 := t2.lt (Or.inl ⟨rfl, o2⟩)
    have l3 := t3.lt (Or.inl ⟨rfl, o3⟩)
    obtain ⟨k1, k2, -, k4⟩ := g1 n (Nat.le_refl _) (by omega)
    exact ⟨a, b, ⟨by rw [k1]; exact s1, by rw [k2]; exact s2, by rw [k4]; exact s3⟩, i1 _ _ _ t1 (fun k u v => g1 k (by omega) (by omega)) (fun k u v => g2 k (by omega) (by omega)) (fun u => absurd u (by decide)), by rw [g2 _ (by omega) (by omega)]; exact b1, i2 _ _ _ t2 (fun k u v => g1 k (by omega) (by omega)) (fun k u v => g2 k (by omega) (by omega)) (fun u => absurd u (by decide)), by rw [g2 _ (by omega) (by omega)]; exact b2, i3 _ _ _ t3 (fun k u v => g1 k (by omega) (by omega)) (fun k u v => g2 k (by omega) (by omega)) (fun u => absurd u (by decide)), by rw [g2 _ (by omega) (by omega)]; exact b3⟩
  · intro i m j h1 h2 h3 h4 o1 o2 i1 i2 x n e ht g1 g2 g3
    rw [Td_bin h1 h2 h3 (by omega)] at ht ⊢
    obtain ⟨a, ⟨s1, s2, s3⟩, t1, b1, t2, b2⟩ := ht
    have l1 := t1.lt (Or.inl ⟨rfl, o1⟩)
    have l2 := t2.lt (Or.inl ⟨rfl, o2⟩)
    obtain ⟨k1, k2, -, k4⟩ := g1 n (Nat.le_refl _) (by omega)
    exact ⟨a, ⟨by rw [k1]; exact s1, by rw [k2]; exact s2, by rw [k4]; exact s3⟩, i1 _ _ _ t1 (fun k u v => g1 k (by omega) (by omega)) (fun k u v => g2 k (by omega) (by omega)) (fun u => absurd u (by decide)), by rw [g2 _ (by omega) (by omega)]; exact b1, i2 _ _ _ t2 (fun k u v => g1 k (by omega) (by omega)) (fun k u v => g2 k (by omega) (by omega)) (fun u => absurd u (by decide)), by rw [g2 _ (by omega) (by omega)]; exact b2⟩
  · intro i j h1 h2 h3 _ _ i1 x n e ht g1 g2 g3
    rw [Td_par h1 h2 h3] at ht ⊢
    exact i1 _ _ _ ht g1 g2 (fun u => absurd u (by decide))
  · intro i j h1 h2 h3 o1 i1 x n e ht g1 g2 g3
    rw [Td_pre h1 h2 h3] at ht ⊢
    obtain ⟨⟨s1, s2, s3⟩, t1, b1⟩ := ht
    have l1 := t1.lt (Or.inl ⟨rfl, o1⟩)
    obtain ⟨k1, k2, -, k4⟩ := g1 n (Nat.le_refl _) (by omega)
    exact ⟨⟨by rw [k1]; exact s1, by rw [k2]; exact s2, by rw [k4]; exact s3⟩, i1 _ _ _ t1 (fun k u v => g1 k (by omega) (by omega)) (fun k u v => g2 k (by omega) (by omega)) (fun u => absurd u (by decide)), by rw [g2 _ (by omega) (by omega)]; exact b1⟩
  · intro i h1 h3 x n e ht g1 g2 g3
    rw [Td_leaf h1 (by omega) h3] at ht ⊢
    obtain ⟨rfl, s1, s2, s3, s4⟩ := ht
    obtain ⟨k1, k2, k3, k4⟩ := g1 n (Nat.le_refl _) (by omega)
    exact ⟨rfl, by rw [k1]; exact s1, by rw [k2]; exact s2, by rw [k4]; exact s3, k3 i s1 s4⟩
  · intro i j h1 h2 h3 _ o1 i1 x n e ht g1 g2 g3
    rw [Td_lst h1 h2 h3] at ht ⊢
    obtain ⟨⟨s1, s2, s3⟩, t1⟩ := ht
    have l1 := t1.lt (Or.inr ⟨rfl, o1⟩)
    obtain ⟨k1, k2, -, k4⟩ := g1 n (Nat.le_refl _) (by omega)
    exact ⟨⟨by rw [k1]; exact s1, by rw [k2]; exact s2, by rw [k4]; exact s3⟩, i1 _ _ _ t1 (fun k u v => g1 k (by omega) (by omega)) (fun k u v => g2 k (by omega) (by omega)) (fun _ => g2 _ (by omega) (by omega))⟩
  · intro i j h1 h2 _ i1 x n e ht g1 g2 g3
    rw [Td_l1 h1 h2] at ht ⊢
    exact ⟨i1 _ _ _ ht.1 g1 g2 (fun u => absurd u (by decide)), by rw [g3 rfl]; exact ht.2⟩
  · intro i m j h1 h2 h3 h4 h5 o1 o2 i1 i2 x n e ht g1 g2 g3
    rw [Td_ln h1 h4 h2] at ht ⊢
    obtain ⟨k, t1, t2, b1⟩ := ht
    have l1 := t1.lt (Or.inr ⟨rfl, o1⟩)
    have l2 := t2.lt (Or.inl ⟨rfl, o2⟩)
    exact ⟨k, i1 _ _ _ t1 (fun k u v => g1 k (by omega) (by omega)) (fun k u v => g2 k (by omega) (by omega)) (fun _ => g3 rfl), i2 _ _ _ t2 (fun k u v => g1 k (by omega) (by omega)) (fun k u v => g2 k (by omega) (by omega)) (fun u => absurd u (by decide)), by rw [g2 _ (by omega) (by omega)]; exact b1⟩
theorem Td.mp {c : Nat} (h : Td w pl nv S A V F B c x i j n e) (he : Eoc w c i j) (g1 : ∀ k, n ≤ k → k < e → S' k = S k ∧ A' k = A k ∧ (∀ t, S k = w t → V k = nv t → V' k = nv' t) ∧ F' k = F k) (g2 : ∀ k, n < k → k < e → B' k = B k) (g3 : c = 1 → B' n = B n) : Td w pl nv' S' A' V' F' B' c x i j n e := Td_mp _ c i j (Nat.le_refl _) he x n e h g1 g2 g3
end TMP
section RUX9
variable {G : mG} {d a N g T K i j : Nat} {M M2 M3 : mM} {r co tr : Int} {E rv : Nat → Int}
/-- words, places, numbers and names stay while a tree is made -/
theorem tr_same (hg : g = a + 13 ∨ g = a + 49) (w : Wd M a) (m : Mv (trP a g) (fun _ => False) M a M2) : wk M2 a = wk M a ∧ nt M2 (a + 7) = nt M (a + 7) ∧ (∀ k, nvq M2 a k = nvq M a k) ∧ (∀ y r, fdx M2 a K y r → fdx M a K y r) ∧ (∀ k, nt M2 (a + 87) k = nt M (a + 87) k) ∧ (∀ k, nt M2 (a + 89) k = nt M (a + 89) k) := by
  have no := tL_no hg w
  have r := m.rfl_a w (fun q hq => trP_in hg hq)
  have e5 : wk M2 a = wk M a := funext (fun k => (m.lst n5 (fun q => q.elim no.1 (by omega))).2.1 k)
  have e7 : ∀ k, nt M2 (a + 7) k = nt M (a + 7) k := fun k => (m.lst n7 (fun q => q.elim no.2.1 (by omega))).2.1 k
  have e9 : ∀ k, nt M2 (a + 9) k = nt M (a + 9) k := fun k => (m.lst n9 (fun q => q.elim no.2.2.1 (by omega))).2.1 k
  have et : ∀ k, nt M2 (mR M2 a 2) k = nt M (mR M a 2) k := fun k => by
    rw [r]
    refine (m.lst w.tape.2.1 (fun q => q.elim no.2.2.2.1 (fun q => ?_))).2.1 k
    rcases w.1.2.1 with y | y <;> rw [y.2] at q <;> omega
  have e85 : ∀ k, nt M2 (a + 85) k = nt M (a + 85) k := fun k => (m.lst n85 (by omega)).2.1 k
  refine ⟨e5, funext e7, fun k => ?_, fun y r k => ?_, fun k => (m.lst n87 (by omega)).2.1 k, fun k => (m.lst n89 (by omega)).2.1 k⟩
  · unfold nvq
    rw [e5, e7, e9, show nt M2 (mR M2 a 2) = nt M (mR M a 2) from funext et]
  · have sm : ∀ x y, smx M2 a x y = smx M a x y := fun x y => by
      unfold smx
      simp only [e7, e9, et]
    unfold fdx at k ⊢
    simp only [sm, e85] at k
    exact k
/-- how leaves stand when names are resolved -/
def nrq (M : mM) (a : Nat) (rv : Nat → Int) (k : Nat) : Int := if wk M a k = 1 then rv k else nvq M a k
/-- the fault of a rule that must be a truth (tr = 1) or a number -/
noncomputable def rfq (M : mM) (a : Nat) (E : Nat → Int) (tr : Int) (i j : Nat) : Int × Int := fst9 (fl (wk M a) E (nt M (a + 7)) 0 i j) (kft (kdq (wk M a) E 0 i j = tr) (nt M (a + 7) i))
/-- the tree of a rule that has been looked at -/
abbrev Tmr (M M3 : mM) (a g : Nat) (rv : Nat → Int) (i j n e : Nat) : Prop := Td (wk M a) (nt M (a + 7)) (nrq M a rv) (so M3 g) (pm M3 g) (va M3 g) (fp M3 g) (np M3 g) 0 0 i j n e
/-- a tree has been made, then looked at -/
theorem trlk {T' : Nat} (hU : URq M a g N K co E rv) (hg : g = a + 13 ∨ g = a + 49) (w : Wd M a) (h2 : Lc M2 a g N T' K) (m : Mv (trP a g) (fun _ => False) M a M2) (etn : tn M2 g = tn M g) : URq M2 a g N K co E rv := by
  obtain ⟨k1, k2, k3, k4, k5, k6⟩ := tr_same (K := K) hg w m
  intro y r hy hw hf
  rw [k1] at hw
  have := hU y r hy hw (k4 y r hf)
  rw [k5, k6, etn]
  exact this
theorem tm_rs {T' : Nat} (hg : g = a + 13 ∨ g = a + 49) (w : Wd M a) (m : Mv (trP a g) (fun _ => False) M a M2) (w2 : Wd M2 a) (h3 : LO M2 a g N T' K M3) (eo : Eo (wk M a) 6 i j) (tm : Tm M M2 a g 0 0 i j T T') (hv : ∀ k, T ≤ k → k < T' → va M3 g k = rsw M2 g rv k) : Tmr M M3 a g rv i j T T' := by
  refine tm.mp (Or.inl ⟨rfl, eo⟩) (fun k k1 k2 => ⟨(h3.2.2.2.1 k).1, h3.pm w2 k, fun t s1 s2 => ?_, (h3.2.2.2.1 k).2.1⟩) (fun k _ _ => (h3.2.2.2.1 k).2.2) (fun u => absurd u (by decide))
  rw [hv k k1 k2]
  unfold rsw nrq
  by_cases c : so M2 g k = 1
  · have ct : wk M a t = 1 := by rw [← s1]; exact c
    rw [if_pos c, if_pos ct, s2]
    unfold nvq
    rw [if_pos ct, Int.toNat_natCast]
  · have ct : ¬ wk M a t = 1 := by rw [← s1]; exact c
    rw [if_neg c, if_neg ct, s2]
/-- a rule of a wanted type, exactly -/
def rlX (co : Int) (M : mM) (a g N T K i j : Nat) (E rv : Nat → Int) (tr r : Int) (M3 : mM) : Prop := r = T ∧ ∃ T', T < T' ∧ T' ≤ T + (j - i) ∧ rlR co M a g N T K T' tr M3 ∧ (mI M a 16 ≠ 0 ∨ (mI M3 a 16 ≠ 0 ∧ fpw M3 a (rfq M a E tr i j)) ∨ (mI M3 a 16 = 0 ∧ (rfq M a E tr i j).1 = 0 ∧ Tmr M M3 a g rv i j T T' ∧ ∀ n, n < T → pm M3 g n = pm M g n))
theorem tm_self {n e : Nat} (k1 : wk M2 a = wk M a) (k2 : nt M2 (a + 7) = nt M (a + 7)) (k3 : ∀ k, nvq M2 a k = nvq M a k) (h : Tm M M2 a g 0 0 i j n e) : Tm M2 M2 a g 0 0 i j n e := by
  unfold Tm
  rw [k1, k2, show nvq M2 a = nvq M a from funext k3]
  exact h
theorem x_MM_rule1 (hU : URq M a g N K co E rv) (hco : i32 co) (htr : tr = 0 ∨ tr = 1) (h : Lc M a g N T K) (hT : T + (j - i) ≤ 30000) (he : Eo (wk M a) 6 i j) (hj : j < N) : Ci G y_MM_rule1 (d + 7) [vr a, vi i, vi j, vi tr, vi co] M (rlX co M a g N T K i j E rv tr) := by
  obtain ⟨hO, hx, -, hd, h10, hg, -, -⟩ := id h
  have w := hx.1.1
  have hN := hx.1.2.2
  have hij := he.pr.1
  refine k_MM_rule1 hO (i32s (by omega) (by omega)) (i32s (by omega) (by omega)) (i32s (by omega) (by omega)) hco ⟨w.1.1, (x_MM_tree (d := d) hO hx hg h10 hd he hj (by omega)).mono (fun r M2 t => ?_)⟩
  obtain ⟨tt1, tt2, T9, tt3, tt4, tt5, tt6, tt7, tt8, tt9⟩ := t
  obtain ⟨er, T', t1, t2, L2, t3, e2, m2, s2⟩ := tr_lc h hT ⟨tt1, tt2, T9, tt3, tt4, tt5, tt6, tt7, tt9⟩
  have eT : T9 = T' := by
    have q1 := tt3 (g + 1) (by first | exact tLk1 g | exact gLk1 g | omega)
    have q2 := L2.2.2.2.1 (g + 1) (by first | exact tLk1 g | exact gLk1 g | omega)
    omega
  subst eT
  obtain ⟨k1, k2, k3, k4, k5, k6⟩ := tr_same (K := K) hg w tt1
  subst er
  have w2 := L2.2.1.1.1
  refine ⟨i32s (by omega) (by omega), L2.1, w2.1.1, (x_MM_look (d := d) (trlk hU hg w L2 tt1 e2.2.2.2) hco (nm := nmw (wk M a) N) (fun v hv => ⟨⟨hv.1, hv.2.1⟩, by rw [k1]; exact hv.2.2⟩) (by rw [k1]; exact he) (tm_self k1 k2 k3 tt8.1) L2 t3 (Nat.le_refl _)).mono (fun x M3 q0 => ?_)⟩
  obtain ⟨q, qx⟩ := q0
  have R := tl_rl h L2 e2 m2 s2 q
  rw [k1, k2, show mI M2 a = mI M a from e2.1] at qx
  obtain ⟨R1, R2, R3, R4, R5, R6⟩ := id R
  have w3 := R2.2.1.1.1
  refine ⟨i32s (by omega) (by omega), R2.1, w3.1.1, fun z => ⟨rfl, T9, t1, t2, ⟨R1, R2, R3, R4, htr, ?_⟩, ?_⟩, fun z => (s_MM_place0 (d := d + 5) R2.1 R2.2.1 (by omega)).mono (fun y M4 h4 => ?_)⟩
  · by_cases z1 : mI M3 a 16 = 0
    · rcases z with z | z
      · exact absurd z1 z
      · rw [← z]; exact R6
    · exact Or.inl z1
  · rcases qx with qx | ⟨qx, qf⟩ | ⟨qx, qf, qk, qv⟩
    · exact Or.inl qx
    · refine Or.inr (Or.inl ⟨qx, ?_⟩)
      unfold rfq
      rw [fst9_l (by rw [← qf.1]; exact qx)]
      exact qf
    · refine Or.inr (Or.inr ⟨qx, ?_, tm_rs hg w tt1 w2 q.1 he tt8.1 qv, fun n hn => (q.1.pm w2 n).trans (tt8.2 n hn)⟩)
      unfold rfq
      rw [fst9_r qf, kft_1, ← qk]
      rcases z with z | z
      · exact absurd qx z
      · exact z
  · obtain ⟨e4, hy⟩ := h4
    subst e4
    have hy32 : i32 y := by rw [hy]; exact (R2.1 _ _).1
    refine ⟨hy32, R2.1, w3.1.1, (s_MM_stop (i32s (by omega) (by omega)) hy32 R2.1 w3).mono (fun M5 h5 => ?_)⟩
    obtain ⟨m5, f1, f2, f3⟩ := h5
    have s7 := m5.lst (tL_in (a := a) (q := g + 7) hg (tLk7 g)) (fun z => z)
    obtain ⟨L5, -, g5, k5⟩ := R2.step m5 (fun q hq => hq.elim) (fun x hx => hx) s7.1
    refine ⟨m5.1, rfl, T9, t1, t2, ⟨R1.trans (k5.mono (fun x hx => Or.inr hx) (fun x hx => hx) (fun x hx => w3.lt (rlP_in hg hx))), L5, fun i i1 i2 => (f3 i i1 i2).trans (R3 i i1 i2), g5.trans R4, htr, Or.inl (by rw [f1]; decide)⟩, ?_⟩
    rcases qx with qx | ⟨qx, -⟩ | ⟨qx, qf, qk, qv⟩
    · exact Or.inl qx
    · omega
    · refine Or.inr (Or.inl ⟨by rw [f1]; decide, ?_⟩)
      have z9 : ¬ kdq (wk M a) E 0 i j = tr := by rw [← qk]; omega
      unfold rfq kft
      rw [fst9_r qf, if_neg z9]
      have p7 := (q.1.txt w2).1 i
      exact ⟨f1, by rw [f2, hy, p7, k2]⟩
end RUX9
