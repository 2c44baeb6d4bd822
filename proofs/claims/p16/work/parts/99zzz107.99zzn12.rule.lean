section
/-! The reference's rule, exactly: a tree is made and looked at. -/
section TMP
variable {w pl nv nv' S A V F B S' A' V' F' B' : Nat → Int} {i j n e : Nat} {x : Int}
/-- the same nodes, the same tree -/
theorem Td_mp : ∀ (f c i j : Nat), 2 * (j - i) + c ≤ f → Eoc w c i j → ∀ (x : Int) (n e : Nat), Td w pl nv S A V F B c x i j n e → (∀ k, n ≤ k → k < e → S' k = S k ∧ A' k = A k ∧ (∀ t, S k = w t → V k = nv t → V' k = nv' t) ∧ F' k = F k) → (∀ k, n < k → k < e → B' k = B k) → (c = 1 → B' n = B n) → Td w pl nv' S' A' V' F' B' c x i j n e := by
  refine Eo_ind (P := fun c i j => ∀ (x : Int) (n e : Nat), Td w pl nv S A V F B c x i j n e → (∀ k, n ≤ k → k < e → S' k = S k ∧ A' k = A k ∧ (∀ t, S k = w t → V k = nv t → V' k = nv' t) ∧ F' k = F k) → (∀ k, n < k → k < e → B' k = B k) → (c = 1 → B' n = B n) → Td w pl nv' S' A' V' F' B' c x i j n e) ?_ ?_ ?_ ?_ ?_ ?_ ?_ ?_
  · intro i m q j h1 h2 h3 h4 h5 h6 h7 h8 o1 o2 o3 i1 i2 i3 x n e ht g1 g2 g3
    rw [Td_ask h1 h2 h3 h6 h8] at ht ⊢
    obtain ⟨a, b, ⟨s1, s2, s3⟩, t1, b1, t2, b2, t3, b3⟩ := ht
    have l1 := t1.lt (Or.inl ⟨rfl, o1⟩)
    have l2 := t2.lt (Or.inl ⟨rfl, o2⟩)
    have l3 := t3.lt (Or.inl ⟨rfl, o3⟩)
    obtain ⟨k1, k2, -, k4⟩ := g1 n (Nat.le_refl _) (by omega)
    exact ⟨a, b, ⟨by rw [k1]; exact s1, by rw [k2]; exact s2, by rw [k4]; exact s3⟩, i1 _ _ _ t1 (fun k u v => g1 k (by omega) (by omega)) (fun k u v => g2 k (by omega) (by omega)) (fun u => absurd u (by decide)), by rw [g2 _ (by omega) (by omega)]; exact b1, i2 _ _ _ t2 (fun k u v => g1 k (by omega) (by omega)) (fun k u v => g2 k (by omega) (by omega)) (fun u => absurd u (by decide)), by rw [g2 _ (by omega) (by omega)]; exact b2, i3 _ _ _ t3 (fun k u v => g1 k (by omega) (by omega)) (fun k u v => g2 k (by omega) (by omega)) (fun u => absurd u (by decide)), by rw [g2 _ (by omega) (by omega)]; exact b3⟩
  · intro i m j h1 h2 h3 h4 o1 o2 i1 i2 x n e ht g1 g2 g3
    rw [Td_bin h1 h2 h3 (by omega)] at ht ⊢
    obtain ⟨a, ⟨s1, s2, s3⟩, t1, b1, t2, b2⟩ := ht
    have l1 := t1.lt (Or.inl ⟨rfl, o1⟩)
    have l2 := t2.lt (Or.inl ⟨rfl, o2⟩)
    obtain ⟨k1, k2, -, k4⟩ := g1 n (Nat.le_refl _) (by omega)
    exact ⟨a, ⟨by rw [k1]; exact s1, by rw [k2]; exact s2, by rw [k4]; exact s3⟩, i1 _ _ _ t1 (fun k u v => g1 k (by omega) (by omega)) (fun k u v => g2 k (by omega) (by omega)) (fun u => absurd u (by decide)), by rw [g2 _ (by omega) (by omega)]; exact b1, i2 _ _ _ t2 (fun k u v => g1 k (by omega) (by omega)) (fun k u v => g2 k (by omega) (by omega)) (fun u => absurd u (by decide)), by rw [g2 _ (by omega) (by omega)]; exact b2⟩
  · intro i j h1 h2 h3 _ _ i1 x n e ht g1 g2 g3
    rw [Td_par h1 h2 h3] at ht ⊢
    exact i1 _ _ _ ht g1 g2 (fun u => absurd u (by decide))
  · intro i j h1 h2 h3 o1 i1 x n e ht g1 g2 g3
    rw [Td_pre h1 h2 h3] at ht ⊢
    obtain ⟨⟨s1, s2, s3⟩, t1, b1⟩ := ht
    have l1 := t1.lt (Or.inl ⟨rfl, o1⟩)
    obtain ⟨k1, k2, -, k4⟩ := g1 n (Nat.le_refl _) (by omega)
    exact ⟨⟨by rw [k1]; exact s1, by rw [k2]; exact s2, by rw [k4]; exact s3⟩, i1 _ _ _ t1 (fun k u v => g1 k (by omega) (by omega)) (fun k u v => g2 k (by omega) (by omega)) (fun u => absurd u (by decide)), by rw [g2 _ (by omega) (by omega)]; exact b1⟩
  · intro i h1 h3 x n e ht g1 g2 g3
    rw [Td_leaf h1 (by omega) h3] at ht ⊢
    obtain ⟨rfl, s1, s2, s3, s4⟩ := ht
    obtain ⟨k1, k2, k3, k4⟩ := g1 n (Nat.le_refl _) (by omega)
    exact ⟨rfl, by rw [k1]; exact s1, by rw [k2]; exact s2, by rw [k4]; exact s3, k3 i s1 s4⟩
  · intro i j h1 h2 h3 _ o1 i1 x n e ht g1 g2 g3
    rw [Td_lst h1 h2 h3] at ht ⊢
    obtain ⟨⟨s1, s2, s3⟩, t1⟩ := ht
    have l1 := t1.lt (Or.inr ⟨rfl, o1⟩)
    obtain ⟨k1, k2, -, k4⟩ := g1 n (Nat.le_refl _) (by omega)
    exact ⟨⟨by rw [k1]; exact s1, by rw [k2]; exact s2, by rw [k4]; exact s3⟩, i1 _ _ _ t1 (fun k u v => g1 k (by omega) (by omega)) (fun k u v => g2 k (by omega) (by omega)) (fun _ => g2 _ (by omega) (by omega))⟩
  · intro i j h1 h2 _ i1 x n e ht g1 g2 g3
    rw [Td_l1 h1 h2] at ht ⊢
    exact ⟨i1 _ _ _ ht.1 g1 g2 (fun u => absurd u (by decide)), by rw [g3 rfl]; exact ht.2⟩
  · intro i m j h1 h2 h3 h4 h5 o1 o2 i1 i2 x n e ht g1 g2 g3
    rw [Td_ln h1 h4 h2] at ht ⊢
    obtain ⟨k, t1, t2, b1⟩ := ht
    have l1 := t1.lt (Or.inr ⟨rfl, o1⟩)
    have l2 := t2.lt (Or.inl ⟨rfl, o2⟩)
    exact ⟨k, i1 _ _ _ t1 (fun k u v => g1 k (by omega) (by omega)) (fun k u v => g2 k (by omega) (by omega)) (fun _ => g3 rfl), i2 _ _ _ t2 (fun k u v => g1 k (by omega) (by omega)) (fun k u v => g2 k (by omega) (by omega)) (fun u => absurd u (by decide)), by rw [g2 _ (by omega) (by omega)]; exact b1⟩
theorem Td.mp {c : Nat} (h : Td w pl nv S A V F B c x i j n e) (he : Eoc w c i j) (g1 : ∀ k, n ≤ k → k < e → S' k = S k ∧ A' k = A k ∧ (∀ t, S k = w t → V k = nv t → V' k = nv' t) ∧ F' k = F k) (g2 : ∀ k, n < k → k < e → B' k = B k) (g3 : c = 1 → B' n = B n) : Td w pl nv' S' A' V' F' B' c x i j n e := Td_mp _ c i j (Nat.le_refl _) he x n e h g1 g2 g3
end TMP
section RUX9
variable {G : mG} {d a N g T K i j : Nat} {M M2 M3 : mM} {r co tr : Int} {E rv : Nat → Int}
/-- words, places, numbers and names stay while a tree is made -/
theorem tr_same (hg : g = a + 13 ∨ g = a + 49) (w : Wd M a) (m : Mv (trP a g) (fun _ => False) M a M2) : wk M2 a = wk M a ∧ nt M2 (a + 7) = nt M (a + 7) ∧ (∀ k, nvq M2 a k = nvq M a k) ∧ (∀ y r, fdx M2 a K y r → fdx M a K y r) ∧ (∀ k, nt M2 (a + 87) k = nt M (a + 87) k) ∧ (∀ k, nt M2 (a + 89) k = nt M (a + 89) k) := by
  have no := tL_no hg w
  have r := m.rfl_a w (fun q hq => trP_in hg hq)
  have e5 : wk M2 a = wk M a := funext (fun k => (m.lst n5 (fun q => q.elim no.1 (by omega))).2.1 k)
  have e7 : ∀ k, nt M2 (a + 7) k = nt M (a + 7) k := fun k => (m.lst n7 (fun q => q.elim no.2.1 (by omega))).2.1 k
  have e9 : ∀ k, nt M2 (a + 9) k = nt M (a + 9) k := fun k => (m.lst n9 (fun q => q.elim no.2.2.1 (by omega))).2.1 k
  have et : ∀ k, nt M2 (mR M2 a 2) k = nt M (mR M a 2) k := fun k => by
    rw [r]
    refine (m.lst w.tape.2.1 (fun q => q.elim no.2.2.2.1 (fun q => ?_))).2.1 k
    rcases w.1.2.1 with y | y <;> rw [y.2] at q <;> omega
  have e85 : ∀ k, nt M2 (a + 85) k = nt M (a + 85) k := fun k => (m.lst n85 (by omega)).2.1 k
  refine ⟨e5, funext e7, fun k => ?_, fun y r k => ?_, fun k => (m.lst n87 (by omega)).2.1 k, fun k => (m.lst n89 (by omega)).2.1 k⟩
  · unfold nvq
    rw [e5, e7, e9, show nt M2 (mR M2 a 2) = nt M (mR M a 2) from funext et]
  · have sm : ∀ x y, smx M2 a x y = smx M a x y := fun x y => by
      unfold smx
      simp only [e7, e9, et]
    unfold fdx at k ⊢
    simp only [sm, e85] at k
    exact k
/-- how leaves stand when names are resolved -/
def nrq (M : mM) (a : Nat) (rv : Nat → Int) (k : Nat) : Int := if wk M a k = 1 then rv k else nvq M a k
/-- the fault of a rule that must be a truth (tr = 1) or a number -/
noncomputable def rfq (M : mM) (a : Nat) (E : Nat → Int) (tr : Int) (i j : Nat) : Int × Int := fst9 (fl (wk M a) E (nt M (a + 7)) 0 i j) (kft (kdq (wk M a) E 0 i j = tr) (nt M (a + 7) i))
/-- the tree of a rule that has been looked at -/
abbrev Tmr (M M3 : mM) (a g : Nat) (rv : Nat → Int) (i j n e : Nat) : Prop := Td (wk M a) (nt M (a + 7)) (nrq M a rv) (so M3 g) (pm M3 g) (va M3 g) (fp M3 g) (np M3 g) 0 0 i j n e
/-- a tree has been made, then looked at -/
theorem trlk {T' : Nat} (hU : URq M a g N K co E rv) (hg : g = a + 13 ∨ g = a + 49) (w : Wd M a) (h2 : Lc M2 a g N T' K) (m : Mv (trP a g) (fun _ => False) M a M2) (etn : tn M2 g = tn M g) : URq M2 a g N K co E rv := by
  obtain ⟨k1, k2, k3, k4, k5, k6⟩ := tr_same (K := K) hg w m
  intro y r hy hw hf
  rw [k1] at hw
  have := hU y r hy hw (k4 y r hf)
  rw [k5, k6, etn]
  exact this
theorem tm_rs {T' : Nat} (hg : g = a + 13 ∨ g = a + 49) (w : Wd M a) (m : Mv (trP a g) (fun _ => False) M a M2) (w2 : Wd M2 a) (h3 : LO M2 a g N T' K M3) (eo : Eo (wk M a) 6 i j) (tm : Tm M M2 a g 0 0 i j T T') (hv : ∀ k, T ≤ k → k < T' → va M3 g k = rsw M2 g rv k) : Tmr M M3 a g rv i j T T' := by
  refine tm.mp (Or.inl ⟨rfl, eo⟩) (fun k k1 k2 => ⟨(h3.2.2.2.1 k).1, h3.pm w2 k, fun t s1 s2 => ?_, (h3.2.2.2.1 k).2.1⟩) (fun k _ _ => (h3.2.2.2.1 k).2.2) (fun u => absurd u (by decide))
  rw [hv k k1 k2]
  unfold rsw nrq
  by_cases c : so M2 g k = 1
  · have ct : wk M a t = 1 := by rw [← s1]; exact c
    rw [if_pos c, if_pos ct, s2]
    unfold nvq
    rw [if_pos ct, Int.toNat_natCast]
  · have ct : ¬ wk M a t = 1 := by rw [← s1]; exact c
    rw [if_neg c, if_neg ct, s2]
/-- a rule of a wanted type, exactly -/
def rlX (co : Int) (M : mM) (a g N T K i j : Nat) (E rv : Nat → Int) (tr r : Int) (M3 : mM) : Prop := r = T ∧ ∃ T', T < T' ∧ T' ≤ T + (j - i) ∧ rlR co M a g N T K T' tr M3 ∧ (mI M a 16 ≠ 0 ∨ (mI M3 a 16 ≠ 0 ∧ fpw M3 a (rfq M a E tr i j)) ∨ (mI M3 a 16 = 0 ∧ (rfq M a E tr i j).1 = 0 ∧ Tmr M M3 a g rv i j T T' ∧ ∀ n, n < T → pm M3 g n = pm M g n))
theorem tm_self {n e : Nat} (k1 : wk M2 a = wk M a) (k2 : nt M2 (a + 7) = nt M (a + 7)) (k3 : ∀ k, nvq M2 a k = nvq M a k) (h : Tm M M2 a g 0 0 i j n e) : Tm M2 M2 a g 0 0 i j n e := by
  unfold Tm
  rw [k1, k2, show nvq M2 a = nvq M a from funext k3]
  exact h
theorem x_MM_rule1 (hU : URq M a g N K co E rv) (hco : i32 co) (htr : tr = 0 ∨ tr = 1) (h : Lc M a g N T K) (hT : T + (j - i) ≤ 30000) (he : Eo (wk M a) 6 i j) (hj : j < N) : Ci G y_MM_rule1 (d + 7) [vr a, vi i, vi j, vi tr, vi co] M (rlX co M a g N T K i j E rv tr) := by
  obtain ⟨hO, hx, -, hd, h10, hg, -, -⟩ := id h
  have w := hx.1.1
  have hN := hx.1.2.2
  have hij := he.pr.1
  refine k_MM_rule1 hO (i32s (by omega) (by omega)) (i32s (by omega) (by omega)) (i32s (by omega) (by omega)) hco ⟨w.1.1, (x_MM_tree (d := d) hO hx hg h10 hd he hj (by omega)).mono (fun r M2 t => ?_)⟩
  obtain ⟨tt1, tt2, T9, tt3, tt4, tt5, tt6, tt7, tt8, tt9⟩ := t
  obtain ⟨er, T', t1, t2, L2, t3, e2, m2, s2⟩ := tr_lc h hT ⟨tt1, tt2, T9, tt3, tt4, tt5, tt6, tt7, tt9⟩
  have eT : T9 = T' := by
    have q1 := tt3 (g + 1) (by first | exact tLk1 g | exact gLk1 g | omega)
    have q2 := L2.2.2.2.1 (g + 1) (by first | exact tLk1 g | exact gLk1 g | omega)
    omega
  subst eT
  obtain ⟨k1, k2, k3, k4, k5, k6⟩ := tr_same (K := K) hg w tt1
  subst er
  have w2 := L2.2.1.1.1
  refine ⟨i32s (by omega) (by omega), L2.1, w2.1.1, (x_MM_look (d := d) (trlk hU hg w L2 tt1 e2.2.2.2) hco (nm := nmw (wk M a) N) (fun v hv => ⟨⟨hv.1, hv.2.1⟩, by rw [k1]; exact hv.2.2⟩) (by rw [k1]; exact he) (tm_self k1 k2 k3 tt8.1) L2 t3 (Nat.le_refl _)).mono (fun x M3 q0 => ?_)⟩
  obtain ⟨q, qx⟩ := q0
  have R := tl_rl h L2 e2 m2 s2 q
  rw [k1, k2, show mI M2 a = mI M a from e2.1] at qx
  obtain ⟨R1, R2, R3, R4, R5, R6⟩ := id R
  have w3 := R2.2.1.1.1
  refine ⟨i32s (by omega) (by omega), R2.1, w3.1.1, fun z => ⟨rfl, T9, t1, t2, ⟨R1, R2, R3, R4, htr, ?_⟩, ?_⟩, fun z => (s_MM_place0 (d := d + 5) R2.1 R2.2.1 (by omega)).mono (fun y M4 h4 => ?_)⟩
  · by_cases z1 : mI M3 a 16 = 0
    · rcases z with z | z
      · exact absurd z1 z
      · rw [← z]; exact R6
    · exact Or.inl z1
  · rcases qx with qx | ⟨qx, qf⟩ | ⟨qx, qf, qk, qv⟩
    · exact Or.inl qx
    · refine Or.inr (Or.inl ⟨qx, ?_⟩)
      unfold rfq
      rw [fst9_l (by rw [← qf.1]; exact qx)]
      exact qf
    · refine Or.inr (Or.inr ⟨qx, ?_, tm_rs hg w tt1 w2 q.1 he tt8.1 qv, fun n hn => (q.1.pm w2 n).trans (tt8.2 n hn)⟩)
      unfold rfq
      rw [fst9_r qf, kft_1, ← qk]
      rcases z with z | z
      · exact absurd qx z
      · exact z
  · obtain ⟨e4, hy⟩ := h4
    subst e4
    have hy32 : i32 y := by rw [hy]; exact (R2.1 _ _).1
    refine ⟨hy32, R2.1, w3.1.1, (s_MM_stop (i32s (by omega) (by omega)) hy32 R2.1 w3).mono (fun M5 h5 => ?_)⟩
    obtain ⟨m5, f1, f2, f3⟩ := h5
    have s7 := m5.lst (tL_in (a := a) (q := g + 7) hg (tLk7 g)) (fun z => z)
    obtain ⟨L5, -, g5, k5⟩ := R2.step m5 (fun q hq => hq.elim) (fun x hx => hx) s7.1
    refine ⟨m5.1, rfl, T9, t1, t2, ⟨R1.trans (k5.mono (fun x hx => Or.inr hx) (fun x hx => hx) (fun x hx => w3.lt (rlP_in hg hx))), L5, fun i i1 i2 => (f3 i i1 i2).trans (R3 i i1 i2), g5.trans R4, htr, Or.inl (by rw [f1]; decide)⟩, ?_⟩
    rcases qx with qx | ⟨qx, -⟩ | ⟨qx, qf, qk, qv⟩
    · exact Or.inl qx
    · omega
    · refine Or.inr (Or.inl ⟨by rw [f1]; decide, ?_⟩)
      have z9 : ¬ kdq (wk M a) E 0 i j = tr := by rw [← qk]; omega
      unfold rfq kft
      rw [fst9_r qf, if_neg z9]
      have p7 := (q.1.txt w2).1 i
      exact ⟨f1, by rw [f2, hy, p7, k2]⟩
end RUX9
end
section
/-! The reference's names and the pure ones. -/
section RNM
variable {a g N K : Nat} {M : mM} {co : Int}
theorem smx.symm {x y : Nat} (h : smx M a x y) : smx M a y x := ⟨h.1.symm, fun i hi => (h.2 i (by have := h.1; omega)).symm⟩
theorem smx.trans {x y z : Nat} (h : smx M a x y) (k : smx M a y z) : smx M a x z := ⟨by rw [k.1, h.1], fun i hi => (h.2 i hi).trans (k.2 i (by have := h.1; omega))⟩
theorem fdx_ex (y : Nat) : ∀ K, ∃ r, fdx M a K y r
  | 0 => ⟨-1, Or.inl ⟨rfl, fun k hk => absurd hk (by omega)⟩⟩
  | K + 1 => by
    by_cases c : smx M a (nt M (a + 85) K).toNat y
    · exact ⟨K, Or.inr ⟨K, rfl, by omega, c, fun k h1 h2 => absurd h1 (by omega)⟩⟩
    · obtain ⟨r, h | ⟨q, h1, h2, h3, h4⟩⟩ := fdx_ex y K
      · refine ⟨r, Or.inl ⟨h.1, fun k hk => ?_⟩⟩
        by_cases e : k = K
        · rw [e]; exact c
        · exact h.2 k (by omega)
      · refine ⟨r, Or.inr ⟨q, h1, by omega, h3, fun k k1 k2 => ?_⟩⟩
        by_cases e : k = K
        · rw [e]; exact c
        · exact h4 k k1 (by omega)
theorem fdx_un {y : Nat} {r r' : Int} (h : fdx M a K y r) (h' : fdx M a K y r') : r = r' := by
  rcases h with ⟨h1, h2⟩ | ⟨q, h1, h2, h3, h4⟩ <;> rcases h' with ⟨k1, k2⟩ | ⟨q', k1, k2, k3, k4⟩
  · rw [h1, k1]
  · exact absurd k3 (h2 q' k2)
  · exact absurd h3 (k2 q h2)
  · have : q = q' := by
      rcases Nat.lt_trichotomy q q' with c | c | c
      · exact absurd k3 (h4 q' c k2)
      · exact c
      · exact absurd h3 (k4 q c h2)
    rw [h1, k1, this]
/-- the place of the word y among the names -/
noncomputable def fdn (M : mM) (a K y : Nat) : Int := Classical.choose (fdx_ex (M := M) (a := a) y K)
theorem fdn_x (y : Nat) : fdx M a K y (fdn M a K y) := Classical.choose_spec (fdx_ex y K)
theorem fdn_un {y : Nat} {r : Int} (h : fdx M a K y r) : r = fdn M a K y := fdx_un h (fdn_x y)
/-- how a name is resolved, and its kind -/
noncomputable def rvn (M : mM) (a K y : Nat) : Int := if nt M (a + 87) (fdn M a K y).toNat = 3 then 100 + nt M (a + 89) (fdn M a K y).toNat else nt M (a + 89) (fdn M a K y).toNat
noncomputable def Ern (M : mM) (a g K : Nat) (co : Int) (y : Nat) : Int := haveI := Classical.propDecidable (fdn M a K y = -1 ∨ (co ≠ 0 ∧ nt M (a + 87) (fdn M a K y).toNat ≠ 1)); if fdn M a K y = -1 ∨ (co ≠ 0 ∧ nt M (a + 87) (fdn M a K y).toNat ≠ 1) then -1 else tn M g (rvn M a K y)
theorem ur_n : URq M a g N K co (Ern M a g K co) (rvn M a K) := by
  intro y r _ _ h
  rw [fdn_un h]
  refine ⟨fun z => ?_, fun z => ?_⟩
  · unfold Ern; rw [if_pos z]
  · unfold Ern; rw [if_neg z]; exact ⟨rfl, rfl⟩
/-- the names of the reference are these -/
def RSq (M : mM) (a g K : Nat) (nms : List nm9) : Prop := nms.length = K ∧ (∀ q, q < K → ∃ e : nm9, nms[q]? = some e ∧ nt M (a + 85) q = e.1 ∧ nt M (a + 87) q = e.2.1 ∧ (1 ≤ e.2.1 ∧ e.2.1 ≤ 3) ∧ e.2.2.1 = tn M g (if nt M (a + 87) q = 3 then 100 + nt M (a + 89) q else nt M (a + 89) q) ∧ (e.2.1 = 1 → e.2.2.2 = vr9 e.2.2.1 (mL M (g + 16) (nt M (a + 89) q).toNat) (mL M (g + 17) (nt M (a + 89) q).toNat)) ∧ nt M (a + 89) q = (if e.2.1 = 3 then ((vcn (nms.take q) : Nat) : Int) else ((rcn (nms.take q) : Nat) : Int))) ∧ (∀ p q, p < q → q < K → ¬ smx M a (nt M (a + 85) p).toNat (nt M (a + 85) q).toNat) ∧ ∀ p q, p < q → q < K → nt M (a + 87) p = 3 → nt M (a + 87) q = 3 → nt M (a + 89) p ≠ nt M (a + 89) q
theorem RSq.fnd {nms : List nm9} (h : RSq M a g K nms) (y : Nat) : (fdn M a K y = -1 ∧ fnd9 (smx M a) nms y = none) ∨ ∃ (q : Nat) (e : nm9), fdn M a K y = q ∧ q < K ∧ nms[q]? = some e ∧ fnd9 (smx M a) nms y = some e := by
  obtain ⟨hl, hn, hu, -⟩ := h
  have at9 : ∀ {q : Nat} {e : nm9}, nms[q]? = some e → q < K := fun {q e} z => by
    rw [← hl]
    exact (List.getElem?_eq_some_iff.mp z).1
  have same : ∀ {q : Nat} {e : nm9}, nms[q]? = some e → (nt M (a + 85) q).toNat = e.1 := fun {q e} z => by
    obtain ⟨e', z1, z2, -⟩ := hn q (at9 z)
    have : e' = e := Option.some.inj (z1.symm.trans z)
    subst this
    rw [z2, Int.toNat_natCast]
  rcases fdn_x (M := M) (a := a) (K := K) y with ⟨h1, h2⟩ | ⟨q, h1, h2, h3, -⟩
  · refine Or.inl ⟨h1, ?_⟩
    unfold fnd9
    rw [List.find?_eq_none]
    intro e he
    obtain ⟨q, z⟩ := List.mem_iff_getElem?.mp he
    simp only [decide_eq_true_eq]
    rw [← same z]
    exact h2 q (at9 z)
  · obtain ⟨e, z, -⟩ := hn q h2
    refine Or.inr ⟨q, e, h1, h2, z, ?_⟩
    unfold fnd9
    cases c : nms.find? (fun e => @decide (smx M a e.1 y) (Classical.propDecidable _)) with
    | none =>
      rw [List.find?_eq_none] at c
      have := c e (List.mem_of_getElem? z)
      simp only [decide_eq_true_eq] at this
      rw [← same z] at this
      exact absurd h3 this
    | some e' =>
      have m1 := List.find?_some c
      simp only [decide_eq_true_eq] at m1
      obtain ⟨q', z'⟩ := List.mem_iff_getElem?.mp (List.mem_of_find?_eq_some c)
      rw [← same z'] at m1
      have qq : q' = q := by
        rcases Nat.lt_trichotomy q' q with d | d | d
        · exact absurd (m1.trans h3.symm) (hu q' q d h2)
        · exact d
        · exact absurd (h3.trans m1.symm) (hu q q' d (at9 z'))
      subst qq
      rw [z] at z'
      exact z'.symm
theorem RSq.en {nms : List nm9} (h : RSq M a g K nms) (hc : co = 0 ∨ co = 1) : Ern M a g K co = E9 (smx M a) nms co := by
  funext y
  unfold Ern E9
  rcases h.fnd y with ⟨h1, h2⟩ | ⟨q, e, h1, h2, h3, h4⟩
  · rw [if_pos (Or.inl h1), h2]
  · rw [h4, h1, Int.toNat_natCast]
    obtain ⟨e', z1, z2, z3, z4, z5, -⟩ := h.2.1 q h2
    have : e' = e := Option.some.inj (z1.symm.trans h3)
    subst this
    show _ = if co = 1 ∧ e'.2.1 ≠ 1 then (-1 : Int) else e'.2.2.1
    by_cases c : co = 1 ∧ e'.2.1 ≠ 1
    · rw [if_pos c, if_pos (Or.inr ⟨by omega, by rw [z3]; omega⟩)]
    · rw [if_neg c, if_neg (by rw [z3]; omega), z5]
      unfold rvn
      rw [h1, Int.toNat_natCast]
end RNM
end
section
/-! The reference's draft and the pure state. -/
section RST
variable {a g N T K R W C Z : Nat} {M M' M2 M3 : mM} {nms : List nm9}
/-- the same text -/
def SXq (M : mM) (a : Nat) (M' : mM) : Prop := wk M' a = wk M a ∧ nt M' (a + 7) = nt M (a + 7) ∧ nt M' (a + 9) = nt M (a + 9) ∧ nt M' (mR M' a 2) = nt M (mR M a 2)
theorem SXq.refl : SXq M a M := ⟨rfl, rfl, rfl, rfl⟩
theorem SXq.trans (h : SXq M a M2) (k : SXq M2 a M3) : SXq M a M3 := ⟨k.1.trans h.1, k.2.1.trans h.2.1, k.2.2.1.trans h.2.2.1, k.2.2.2.trans h.2.2.2⟩
theorem SXq.sm (h : SXq M a M') : smx M' a = smx M a := by
  funext x y
  unfold smx
  rw [h.2.1, h.2.2.1, h.2.2.2]
theorem SXq.nv (h : SXq M a M') : nvq M' a = nvq M a := by
  funext k
  unfold nvq
  rw [h.1, h.2.1, h.2.2.1, h.2.2.2]
theorem iF.sx (h : iF M a g M') (w : Wd M a) (hg : g = a + 13 ∨ g = a + 49) : SXq M a M' := by
  have no : ∀ q, q = a + 1 ∨ q = a + 3 ∨ q = a + 5 ∨ q = a + 7 ∨ q = a + 9 → ¬ itP a g q := fun q hq z => by
    have := z.2
    omega
  have r := h.1.rfl_a w (fun q hq => hq.1)
  refine ⟨funext (fun k => (h.1.lst n5 (no _ (by omega))).2.1 k), funext (fun k => (h.1.lst n7 (no _ (by omega))).2.1 k), funext (fun k => (h.1.lst n9 (no _ (by omega))).2.1 k), ?_⟩
  rw [r]
  refine funext (fun k => (h.1.lst w.tape.2.1 (no _ ?_)).2.1 k)
  rcases w.1.2.1 with y | y <;> rw [y.2] <;> omega
/-- the values of numbers, in a text -/
def nuq (M : mM) (a k : Nat) : Int := numq (nt M (mR M a 2)) (nt M (a + 7) k).toNat (nt M (a + 9) k - nt M (a + 7) k).toNat
theorem SXq.nu (h : SXq M a M') : nuq M' a = nuq M a := by
  funext k
  unfold nuq
  rw [h.2.1, h.2.2.1, h.2.2.2]
/-- names stay what they are -/
theorem RSq.ge (h : RSq M a g K nms) (hn : Nm M a g N K) (g6 : mI M g 6 = R) (g12 : mI M g 12 = W) (hR : R ≤ 60) (k : Ge M g R W C Z T M') (sx : SXq M a M') (s85 : ∀ q, q < K → nt M' (a + 85) q = nt M (a + 85) q ∧ nt M' (a + 87) q = nt M (a + 87) q ∧ nt M' (a + 89) q = nt M (a + 89) q) : RSq M' a g K nms := by
  obtain ⟨h1, h2, h3, h4⟩ := h
  refine ⟨h1, fun q hq => ?_, fun p q hpq hq => ?_, fun p q hpq hq => by rw [(s85 p (by omega)).2.1, (s85 q hq).2.1, (s85 p (by omega)).2.2, (s85 q hq).2.2]; exact h4 p q hpq hq⟩
  · obtain ⟨e, e1, e2, e3, e4, e5, e6, e7⟩ := h2 q hq
    obtain ⟨s1, s2, s3⟩ := s85 q hq
    have nq := (hn.2.2.2.2 q hq).2.1
    rw [g6, g12] at nq
    refine ⟨e, e1, by rw [s1]; exact e2, by rw [s2]; exact e3, e4, ?_, fun z => ?_, by rw [s3]; exact e7⟩
    · rw [e5, s2, s3]
      by_cases c : nt M (a + 87) q = 3
      · rw [if_pos c]
        exact (k.1.tv (by omega) (by omega)).symm
      · rw [if_neg c]
        have := k.1.tr (r := (nt M (a + 89) q).toNat) hR (by omega)
        rw [show (((nt M (a + 89) q).toNat : Nat) : Int) = nt M (a + 89) q by omega] at this
        exact this.symm
    · rw [e6 z, s3, (k.2.1 _ (by omega)).2.1, (k.2.1 _ (by omega)).2.2]
  · rw [sx.sm, (s85 p (by omega)).1, (s85 q hq).1]
    exact h3 p q hpq hq
/-- one name more -/
theorem RSq.kn {u : Nat} {v x : Int} {e : nm9} (h : RSq M a g K nms) (hs : ∀ q, q < K → nt M' (a + 85) q = nt M (a + 85) q ∧ nt M' (a + 87) q = nt M (a + 87) q ∧ nt M' (a + 89) q = nt M (a + 89) q) (ht : tn M' g = tn M g) (hl : mL M' (g + 16) = mL M (g + 16) ∧ mL M' (g + 17) = mL M (g + 17)) (sx : SXq M a M') (e1 : nt M' (a + 85) K = (u : Int)) (e2 : nt M' (a + 87) K = v) (e3 : nt M' (a + 89) K = x) (f1 : e.1 = u) (f2 : (e.2.1 : Int) = v) (f3 : 1 ≤ e.2.1 ∧ e.2.1 ≤ 3) (f4 : e.2.2.1 = tn M g (if v = 3 then 100 + x else x)) (f5 : e.2.1 = 1 → e.2.2.2 = vr9 e.2.2.1 (mL M (g + 16) x.toNat) (mL M (g + 17) x.toNat)) (hnew : fdn M a K u = -1) (f6 : v = 3 → ∀ p, p < K → nt M (a + 87) p = 3 → nt M (a + 89) p ≠ x) (f7 : x = if e.2.1 = 3 then ((vcn nms : Nat) : Int) else ((rcn nms : Nat) : Int)) : RSq M' a g (K + 1) (nms ++ [e]) := by
  obtain ⟨h1, h2, h3, h4⟩ := h
  refine ⟨by rw [List.length_append, h1]; rfl, fun q hq => ?_, fun p q hpq hq => ?_, fun p q hpq hq z1 z2 => ?_⟩
  · by_cases c : q = K
    · subst c
      refine ⟨e, by rw [List.getElem?_append_right (by omega), h1, Nat.sub_self]; rfl, by rw [e1, f1], by rw [e2, f2], f3, ?_, fun z => ?_, by rw [e3, f7, List.take_append_of_le_length (by omega), List.take_of_length_le (by omega)]⟩
      · rw [f4, e2, e3, ht]
      · rw [f5 z, e3, hl.1, hl.2]
    · obtain ⟨e', g1, g2, g3, g4, g5, g6, g7⟩ := h2 q (by omega)
      obtain ⟨s1, s2, s3⟩ := hs q (by omega)
      exact ⟨e', by rw [List.getElem?_append_left (by omega)]; exact g1, by rw [s1]; exact g2, by rw [s2]; exact g3, g4, by rw [g5, s2, s3, ht], fun z => by rw [g6 z, s3, hl.1, hl.2], by rw [s3, List.take_append_of_le_length (by omega)]; exact g7⟩
  · rw [sx.sm, (hs p (by omega)).1]
    by_cases c : q = K
    · subst c
      rw [e1, Int.toNat_natCast]
      rcases fdn_x (M := M) (a := a) (K := q) u with ⟨-, k2⟩ | ⟨q', k1, -⟩
      · exact k2 p hpq
      · omega
    · rw [(hs q (by omega)).1]
      exact h3 p q hpq (by omega)
  · rw [(hs p (by omega)).2.1] at z1
    rw [(hs p (by omega)).2.2]
    by_cases c : q = K
    · subst c
      rw [e2] at z2
      rw [e3]
      exact f6 z2 p hpq z1
    · rw [(hs q (by omega)).2.1] at z2
      rw [(hs q (by omega)).2.2]
      exact h4 p q hpq (by omega) z1 z2
/-- the values of words -/
theorem RSq.cv (h : RSq M a g K nms) {k : Nat} (hk : wk M a k = 1 → Ern M a g K 1 k ≠ -1) : cvq M a g (nrq M a (rvn M a K)) k = cv9 (wk M a) (nuq M a) (smx M a) nms k := by
  unfold cvq cv9 nrq
  by_cases c : wk M a k = 1
  · rw [if_pos c, if_pos c, if_pos c]
    have hk := hk c
    unfold Ern at hk
    rcases h.fnd k with ⟨h1, h2⟩ | ⟨q, e, h1, h2, h3, h4⟩
    · rw [if_pos (Or.inl h1)] at hk
      exact absurd rfl hk
    · rw [h4]
      obtain ⟨e', z1, z2, z3, z4, z5, z6, -⟩ := h.2.1 q h2
      have : e' = e := Option.some.inj (z1.symm.trans h3)
      subst this
      have s1 : e'.2.1 = 1 := by
        by_cases c1 : nt M (a + 87) q = 1
        · rw [z3] at c1; omega
        · rw [if_pos (Or.inr ⟨by decide, by rw [h1, Int.toNat_natCast]; exact c1⟩)] at hk
          exact absurd rfl hk
      have s2 : nt M (a + 87) q ≠ 3 := by rw [z3, s1]; decide
      show _ = e'.2.2.2
      unfold rvn
      rw [z6 s1, h1, Int.toNat_natCast, if_neg s2, z5, if_neg s2]
  · rw [if_neg c, if_neg c]
    by_cases c2 : wk M a k = 2
    · rw [if_pos c2, if_pos c2, if_neg c]
      unfold nvq nuq
      rw [if_neg c, if_pos c2]
    · rw [if_neg c2, if_neg c2, if_neg c]
/-- how numbers and names stand in a tree -/
theorem RSq.nvo (h : RSq M a g K nms) : Nvq (wk M a) (nuq M a) (smx M a) nms (nrq M a (rvn M a K)) := by
  refine ⟨fun k hk => ?_, fun k hk l1 e l2 he hs hno => ?_⟩
  · unfold nrq nvq nuq
    rw [if_neg (by omega), if_neg (by omega), if_pos hk]
  · have hl : l1.length < K := by
      rw [← h.1, he, List.length_append, List.length_cons]
      omega
    have ge : nms[l1.length]? = some e := by rw [he, List.getElem?_append_right (Nat.le_refl _), Nat.sub_self]; rfl
    have tk : nms.take l1.length = l1 := by rw [he, List.take_left']; rfl
    obtain ⟨e0, z1, z2, z3, z4, z5, z6, z7⟩ := h.2.1 l1.length hl
    have e0e : e0 = e := Option.some.inj (z1.symm.trans ge)
    subst e0e
    have fq : fdn M a K k = (l1.length : Int) := by
      rcases fdn_x (M := M) (a := a) (K := K) k with ⟨f1, f2⟩ | ⟨q, f1, f2, f3, f4⟩
      · have := f2 l1.length hl
        rw [z2, Int.toNat_natCast] at this
        exact absurd hs this
      · rcases Nat.lt_trichotomy q l1.length with c | c | c
        · have := f4 l1.length c hl
          rw [z2, Int.toNat_natCast] at this
          exact absurd hs this
        · rw [f1, c]
        · have := h.2.2.1 l1.length q c f2
          rw [z2, Int.toNat_natCast] at this
          exact absurd (hs.trans f3.symm) this
    unfold nrq
    rw [if_pos hk]
    unfold rvn
    rw [fq, Int.toNat_natCast, z3, z7, tk]
    by_cases c : e0.2.1 = 3
    · rw [if_pos (by omega), if_pos c, if_pos c]
    · rw [if_neg (by omega), if_neg c, if_neg c]
end RST
end
section
/-! The reference's items, exactly: const and formula. -/
section RIX
variable {G : mG} {d a g R W C Z T N K : Nat} {M M' M2 M3 : mM} {E : Eg9} {tg : Int} {s s' : st9} {nms : List nm9}
/-- the text in memory, names, a game -/
noncomputable def txg (M : mM) (a N : Nat) (nms : List nm9) (gm : gm9) : gW9 := (wk M a, nt M (a + 7), nuq M a, smx M a, N, nms, gm)
theorem SXq.tx9 (h : SXq M a M') {nms : List nm9} {gm : gm9} : txg M' a N nms gm = txg M a N nms gm := by
  unfold txg
  rw [h.1, h.2.1, h.nu, h.sm]
/-- the draft is sound, and it is the pure state s and the pure game gm -/
def DfS (M : mM) (a g N k : Nat) (s : st9) (gm : gm9) : Prop := ∃ (T K R W C Z : Nat) (E : Eg9) (tg : Int), Df M a g N T K R W C Z E tg ∧ (T ≤ k ∧ Z ≤ k) ∧ RSq M a g K s.1 ∧ s.2.1 = (W, R, C, if tg = -1 then 0 else 1) ∧ E.2 = txg M a N s.1 gm
/-- an item has been read: s' tells the fault or the draft -/
def itX (M : mM) (a g N k : Nat) (s' : st9) (gm : gm9) (M' : mM) : Prop := iF M a g M' ∧ ((s'.2.2.1 ≠ 0 ∧ fpw M' a s'.2.2) ∨ (s'.2.2.1 = 0 ∧ mI M' a 16 = 0 ∧ DfS M' a g N k s' gm))
/-- a fault is told at a word -/
theorem x_st_it {gm : gm9} {c : Int} {k k' : Nat} (hc : c ≠ 0) (hc2 : i32 c) (h : Lc M a g N T K) (hk : k < N) (es : s'.2.2 = (c, nt M (a + 7) k)) : Ci G y_MM_place0 (d + 1) [vr a, vi k] M (fun x M2 => i32 x ∧ mOk M2 ∧ (mK M2 a = 14 ∧ Cv G y_MM_stop (d + 1) [vr a, vi c, vi x] M2 (fun M3 => mOk M3 ∧ (mOk M3 ∧ itX M a g N k' s' gm M3)))) := by
  have w := h.2.1.1.1
  refine (s_MM_place0 (d := d) h.1 h.2.1 hk).mono (fun y M4 h4 => ?_)
  obtain ⟨e4, hy⟩ := h4
  subst e4
  have hy32 : i32 y := by rw [hy]; exact (h.1 _ _).1
  refine ⟨hy32, h.1, w.1.1, (s_MM_stop hc2 hy32 h.1 w).mono (fun M5 h5 => ⟨h5.1.1, h5.1.1, (st_it (g := g) (N := N) (k := k') w hc h5).1, Or.inl ?_⟩)⟩
  rw [es]
  exact ⟨hc, h5.2.1, by rw [h5.2.2.1]; exact hy⟩
/-- names stay, nothing of theirs has changed -/
theorem RSq.eq (h : RSq M a g K nms) (hs : ∀ q, q < K → nt M' (a + 85) q = nt M (a + 85) q ∧ nt M' (a + 87) q = nt M (a + 87) q ∧ nt M' (a + 89) q = nt M (a + 89) q) (ht : tn M' g = tn M g) (hl : mL M' (g + 16) = mL M (g + 16) ∧ mL M' (g + 17) = mL M (g + 17)) (sx : SXq M a M') : RSq M' a g K nms := by
  obtain ⟨h1, h2, h3, h4⟩ := h
  refine ⟨h1, fun q hq => ?_, fun p q hpq hq => ?_, fun p q hpq hq => by rw [(hs p (by omega)).2.1, (hs q hq).2.1, (hs p (by omega)).2.2, (hs q hq).2.2]; exact h4 p q hpq hq⟩
  · obtain ⟨e', g1, g2, g3, g4, g5, g6, g7⟩ := h2 q hq
    obtain ⟨s1, s2, s3⟩ := hs q hq
    exact ⟨e', g1, by rw [s1]; exact g2, by rw [s2]; exact g3, g4, by rw [g5, s2, s3, ht], fun z => by rw [g6 z, s3, hl.1, hl.2], by rw [s3]; exact g7⟩
  · rw [sx.sm, (hs p (by omega)).1, (hs q hq).1]
    exact h3 p q hpq hq
/-- the lists of names are the same -/
def lst3 (M : mM) (a : Nat) (M' : mM) : Prop := sameN M M' (a + 85) ∧ sameN M M' (a + 87) ∧ sameN M M' (a + 89)
theorem lst3.trans (h : lst3 M a M2) (k : lst3 M2 a M3) : lst3 M a M3 := ⟨h.1.trans k.1, h.2.1.trans k.2.1, h.2.2.trans k.2.2⟩
theorem lst3.q (h : lst3 M a M') (K : Nat) : ∀ q, q < K → nt M' (a + 85) q = nt M (a + 85) q ∧ nt M' (a + 87) q = nt M (a + 87) q ∧ nt M' (a + 89) q = nt M (a + 89) q := fun q _ => ⟨h.1.2.1 q, h.2.1.2.1 q, h.2.2.2.1 q⟩
theorem lst3.of {P S : Nat → Prop} (m : Mv P S M a M') (h : ∀ i, i = 85 ∨ i = 87 ∨ i = 89 → ¬ P (a + i)) : lst3 M a M' := ⟨m.lst n85 (h 85 (by omega)), m.lst n87 (h 87 (by omega)), m.lst n89 (h 89 (by omega))⟩
theorem lst3.fd (h : lst3 M a M') (sx : SXq M a M') (y : Nat) : fdn M' a K y = fdn M a K y := by
  refine fdn_un ?_
  have k := fdn_x (M := M') (a := a) (K := K) y
  have e85 : ∀ k, nt M' (a + 85) k = nt M (a + 85) k := h.1.2.1
  unfold fdx at k ⊢
  simp only [sx.sm, e85] at k
  exact k
theorem lst3.rv (h : lst3 M a M') (sx : SXq M a M') : rvn M' a K = rvn M a K := by
  funext y
  unfold rvn
  rw [h.fd sx, h.2.1.2.1, h.2.2.2.1]
/-- a known name -/
theorem RSq.kw (h : RSq M a g K nms) {y : Nat} {r : Int} (hf : fdx M a K y r) : (r = -1 → fnd9 (smx M a) nms y = none) ∧ (r ≠ -1 → fnd9 (smx M a) nms y ≠ none) := by
  rw [fdn_un hf]
  rcases h.fnd y with ⟨h1, h2⟩ | ⟨q, e, h1, h2, h3, h4⟩
  · exact ⟨fun _ => h2, fun z => absurd h1 z⟩
  · refine ⟨fun z => by omega, fun _ => ?_⟩
    rw [h4]
    exact fun z => by cases z
theorem x_ri187 {nwe : nm9} {gm : gm9} {k T' : Nat} {v6 : Int} {E' : Eg9} {M9 : mM} (eE : E'.2 = txg M a N (s.1 ++ [nwe]) gm) (hRr : rcn s.1 = R) (h : Df M a g N T K R W C Z E tg) (hR : R < 60) (hk : k + 1 < N) (hT' : T' ≤ k + 20000) {e : Nat} (hTe : T' ≤ e) (hZe : Z ≤ e) (i6 : i32 v6) (L9 : Lc M9 a g N T' K) (I9 : iF M a g M9) (gI9 : mI M9 g = mI M g) (z30 : ln M9 (g + 30) = ln M (g + 30)) (z32 : ln M9 (g + 32) = ln M (g + 32)) (z34 : ln M9 (g + 34) = ln M (g + 34)) (h13 : mI M9 (g + 13) R = v6) (hD9 : mI M9 a 16 = 0 → Dg M9 g (R + 1) W C Z T' E' tg) (hwk : wk M a k = 3 ∨ wk M a k = 6) (hv6 : v6 = if wk M a k = 6 then 1 else 0) (hRS : RSq M9 a g K s.1) (h3 : lst3 M a M9) (hnew : fdn M a K (k + 1) = -1) (hst : s.2.1 = (W, R, C, if tg = -1 then 0 else 1)) (flt : mI M9 a 16 ≠ 0 → s'.2.2.1 ≠ 0 ∧ fpw M9 a s'.2.2) (good : mI M9 a 16 = 0 → s' = (s.1 ++ [nwe], (W, R + 1, C, if tg = -1 then 0 else 1), (0, 0)) ∧ nwe.1 = k + 1 ∧ nwe.2.1 = (if wk M a k = 3 then 1 else 2) ∧ nwe.2.2.1 = tn M9 g R ∧ (nwe.2.1 = 1 → nwe.2.2.2 = vr9 nwe.2.2.1 (mL M9 (g + 16) R) (mL M9 (g + 17) R))) : h_MM_ruleItem_187 G (d + 6) a k v6 R M9 (fun M' => mOk M' ∧ itX M a g N e s' gm M') := by
  obtain ⟨hL, ⟨g6, g12, g18, g17⟩, ⟨y30, y32, y34⟩, hK, hD⟩ := id h
  have hN := hL.2.1.1.2.2
  have hg := hL.2.2.2.2.2.1
  have hW := hD.1
  have w9 := L9.2.1.1.1
  have d9 : mR M9 a 10 = g := L9.2.2.2.2.1
  refine k_MM_ruleItem_187 L9.1 (i32s (by omega) (by omega)) i6 (i32s (by omega) (by omega)) ?_
  rw [d9]
  refine ⟨w9.1.1, (w9.gp hg).1, i32s (by omega) (by omega), fun M1 e1 v hv => ?_⟩
  have a0 := goff0 hg
  obtain ⟨m1, f1, l1⟩ := mv_cell (v := (R : Int) + 1) (i32s (by omega) (by omega)) L9.1 w9 (show a ≤ g by omega) ⟨a0.1, a0.2.1, a0.2.2.1⟩ e1
  have no : ∀ q : Nat, False → q ∈ nums a := fun _ z => z.elim
  have aI1 := (m1.fld w9 no (by omega)).1
  have g1 : ∀ i, mI M1 g i = if i = 6 then (R : Int) + 1 else mI M g i := fun i => by
    rw [f1]
    by_cases z : i = 6
    · rw [if_pos ⟨rfl, z⟩, if_pos z]
    · rw [if_neg (fun y => z y.2), if_neg z, gI9]
  have x6 : mI M1 g 6 = (R : Int) + 1 := by rw [g1, if_pos rfl]
  have x12 : mI M1 g 12 = W := by rw [g1, if_neg (by omega), g12]
  have L1 : Lc M1 a g N T' K := L9.mv m1 no (fun _ z => z.elim) (by rw [x6, gI9, g6]; omega) (by rw [x12, gI9, g12]; omega) ⟨by omega, by omega⟩ (fun r _ => by rw [f1, if_neg (fun z => by omega)])
  have I1 : iF M a g M1 := I9.trans (iF.mk w9 m1 (fun _ z => z.elim) (fun x z => Or.inr (Or.inl (by omega))) (fun i _ _ _ => by rw [aI1]))
  have w1 := m1.2.1
  have hK2 : K ≤ 72 := by omega
  have hv' : v = 1 ∨ v = 2 := by split at hv <;> omega
  refine (s_MM_know (d := d + 5) (u := (k : Int) + 1) (i32s (by omega) (by omega)) (i32s (by omega) (by omega)) (i32s (by omega) (by omega)) L1.1 w1 L1.2.2.1.1 L1.2.2.1.2.1 L1.2.2.1.2.2.1 (by omega)).mono (fun M2 t => ?_)
  obtain ⟨o2, m2, l2, p2, e2, s2, x2⟩ := t
  obtain ⟨L2, gI2, aI2⟩ := L1.kn (by omega) m2 l2 p2 e2 s2 x2 (by omega) (Or.inr ⟨hv', by omega, by omega⟩) (fun z => by
    rw [Int.toNat_natCast, f1, if_neg (fun y => by omega), h13]
    split at hv <;> omega)
  obtain ⟨G2, q30, q32, q34⟩ := ge_kn (R := R + 1) (W := W) (C := C) (Z := Z) (T := T') w1 hg m2
  have I2 : iF M a g M2 := I1.trans (iF.mk w1 m2 (fun q hq => knP_it hq) (fun _ z => z.elim) (fun i _ _ _ => by rw [aI2]))
  have no2 : ∀ q : Nat, ¬ False := fun _ z => z
  refine ⟨o2, o2, I2, ?_⟩
  have e16 : mI M2 a 16 = mI M9 a 16 := by rw [aI2, aI1]
  by_cases z16 : mI M2 a 16 = 0
  · have z9 : mI M9 a 16 = 0 := by rw [← e16]; exact z16
    obtain ⟨u1, u2, u3, u4, u5⟩ := good z9
    refine Or.inr ⟨by rw [u1], z16, T', K + 1, R + 1, W, C, Z, E', tg, ⟨L2, ⟨by rw [gI2, x6]; omega, by rw [gI2, x12], by rw [gI2, g1, if_neg (by omega), g18], by rw [gI2, g1, if_neg (by omega), g17]⟩, ⟨?_, ?_, ?_⟩, by omega, ?_⟩, ⟨hTe, hZe⟩, ?_, by rw [u1], ?_⟩
    · rw [q30, (m1.lst (n30 hg) (fun z => z)).1, z30, y30]
    · rw [q32, (m1.lst (n32 hg) (fun z => z)).1, z32, y32]
    · rw [q34, (m1.lst (n34 hg) (fun z => z)).1, z34, y34]
    · have D9 := hD9 (by rw [← e16]; exact z16)
      have G1 : Ge M9 g (R + 1) W C Z T' M1 := ge_mv w9 hg m1 no (fun z => z) (fun z => z) (fun z => z) (fun i i1 i2 (z : g + i = g) => by omega) (fun n _ => ⟨(m1.lst (tL_in (q := g + 1) hg (tLk1 g)) (fun z => z)).2.1 n, (m1.lst (tL_in (q := g + 7) hg (tLk7 g)) (fun z => z)).2.1 n, (m1.lst (tL_in (q := g + 9) hg (tLk9 g)) (fun z => z)).2.1 n, (m1.lst (tL_in (q := g + 11) hg (tLk11 g)) (fun z => z)).2.1 n, (m1.lst (tL_in (q := g + 3) hg (tLk3 g)) (fun z => z)).2.1 n⟩)
      exact (D9.ge G1).ge G2
    · have t1 : tn M1 g = tn M9 g := by
        funext v
        unfold tn
        rw [show mI M1 (g + 18) = mI M9 (g + 18) from funext (fun i => by rw [f1, if_neg (fun z => by omega)]), show mI M1 (g + 14) = mI M9 (g + 14) from funext (fun i => by rw [f1, if_neg (fun z => by omega)])]
      have c14 := m2.cellL w1 (fun q hq => knP_in hq) (goffx (i := 14) hg (by decide) (by decide)) (fun z => z)
      have c16 := m2.cellL w1 (fun q hq => knP_in hq) (goffx (i := 16) hg (by decide) (by decide)) (fun z => z)
      have c17 := m2.cellL w1 (fun q hq => knP_in hq) (goffx (i := 17) hg (by decide) (by decide)) (fun z => z)
      have c18 := m2.cellL w1 (fun q hq => knP_in hq) (goffx (i := 18) hg (by decide) (by decide)) (fun z => z)
      have t2 : tn M2 g = tn M1 g := by
        funext v
        unfold tn
        rw [c18.1, c14.1]
      have sx9 := I9.sx hL.2.1.1.1 hg
      have sx1 : SXq M9 a M1 := (iF.mk (g := g) w9 m1 (fun _ z => z.elim) (fun x z => Or.inr (Or.inl (by omega))) (fun i _ _ _ => by rw [aI1])).sx w9 hg
      have sx2 : SXq M1 a M2 := (iF.mk (g := g) w1 m2 (fun q hq => knP_it hq) (fun _ z => z.elim) (fun i _ _ _ => by rw [aI2])).sx w1 hg
      have l31 : lst3 M9 a M1 := lst3.of m1 (fun _ _ z => z)
      have RS1 : RSq M1 a g K s.1 := hRS.eq (l31.q K) t1 ⟨by rw [l1], by rw [l1]⟩ sx1
      rw [u1]
      refine RS1.kn (u := k + 1) p2 t2 ⟨c16.2, c17.2⟩ sx2 (by rw [e2]; omega) s2 x2 u2 ?_ (by rw [u3]; split <;> decide) ?_ (fun z => ?_) ?_ (fun z => absurd z (by omega)) (by rw [hRr, if_neg (by rw [u3]; split <;> decide)])
      · rw [u3, hv, hv6]
        rcases hwk with q | q
        · simp [q]
        · simp [q]
      · rw [u4, t1]
        rw [if_neg (by omega)]
      · rw [u5 z, l1, Int.toNat_natCast]
      · rw [l31.fd sx1, h3.fd sx9]
        exact hnew
    · rw [eE, u1, (I2.sx hL.2.1.1.1 hg).tx9]
  · obtain ⟨u1, u2⟩ := flt (by rw [← e16]; exact z16)
    refine Or.inl ⟨u1, ?_, ?_⟩
    · rw [e16]; exact u2.1
    · rw [show mI M2 a 17 = mI M9 a 17 by rw [aI2, aI1]]; exact u2.2
/-! what a const or formula comes to -/
theorem itr_many {w pl nq : Nat → Int} {sm : Nat → Nat → Prop} {k e : Nat} (h : s.2.1.2.1 = 60) : (itr w pl nq sm k e s).2.2 = (5, pl k) := by
  unfold itr
  rw [if_pos h]
theorem itr_known {w pl nq : Nat → Int} {sm : Nat → Nat → Prop} {k e : Nat} (h : s.2.1.2.1 ≠ 60) (h2 : fnd9 sm s.1 (k + 1) ≠ none) : (itr w pl nq sm k e s).2.2 = (2, pl (k + 1)) := by
  unfold itr
  rw [if_neg h, if_pos h2]
theorem itr_fl {w pl nq : Nat → Int} {sm : Nat → Nat → Prop} {k e : Nat} (h : s.2.1.2.1 ≠ 60) (h2 : fnd9 sm s.1 (k + 1) = none) (h3 : (fl w (E9 sm s.1 (if w k = 3 then 1 else 0)) pl 0 (k + 3) e).1 ≠ 0) : (itr w pl nq sm k e s).2.2 = fl w (E9 sm s.1 (if w k = 3 then 1 else 0)) pl 0 (k + 3) e := by
  unfold itr
  rw [if_neg h, if_neg (fun z => z h2), if_pos h3]
theorem itr_vl {w pl nq : Nat → Int} {sm : Nat → Nat → Prop} {k e : Nat} (h : s.2.1.2.1 ≠ 60) (h2 : fnd9 sm s.1 (k + 1) = none) (h3 : (fl w (E9 sm s.1 (if w k = 3 then 1 else 0)) pl 0 (k + 3) e).1 = 0) (hw : w k = 3) (h4 : (vlq w (cv9 w nq sm s.1) pl 0 0 (k + 3) e).1 ≠ 0) : (itr w pl nq sm k e s).2.2 = ((vlq w (cv9 w nq sm s.1) pl 0 0 (k + 3) e).1, (vlq w (cv9 w nq sm s.1) pl 0 0 (k + 3) e).2.1) := by
  unfold itr
  rw [if_neg h, if_neg (fun z => z h2), if_neg (fun z => z h3)]
  simp only [hw, if_true]
  rw [if_pos h4]
theorem itr_ok {w pl nq : Nat → Int} {sm : Nat → Nat → Prop} {k e : Nat} {v : vrs} (h : s.2.1.2.1 ≠ 60) (h2 : fnd9 sm s.1 (k + 1) = none) (h3 : (fl w (E9 sm s.1 (if w k = 3 then 1 else 0)) pl 0 (k + 3) e).1 = 0) (hv : v = if w k = 3 then vlq w (cv9 w nq sm s.1) pl 0 0 (k + 3) e else (0, 0, 1)) (h4 : v.1 = 0) : itr w pl nq sm k e s = (s.1 ++ [(k + 1, (if w k = 3 then 1 else 2), kdq w (E9 sm s.1 (if w k = 3 then 1 else 0)) 0 (k + 3) e, v)], (s.2.1.1, s.2.1.2.1 + 1, s.2.1.2.2), (0, 0)) := by
  unfold itr
  rw [if_neg h, if_neg (fun z => z h2), if_neg (fun z => z h3)]
  simp only [← hv]
  rw [if_neg (fun z => z h4)]
end RIX
end
