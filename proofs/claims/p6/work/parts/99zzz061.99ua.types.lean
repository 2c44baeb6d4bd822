section
/-! The reference: trees with types. -/
section TY
variable {a N g T K : Nat} {M M3 M4 : mM} {nm : Int → Prop} {w : Int → Int}
/-- as Tn, and u tells the brothers' types -/
def Ty (nm : Int → Prop) (w : Int → Int) (M : mM) (g : Nat) : Nat → Nat → Nat → Nat → (Nat → Int) → Prop
  | 0, _, _, _, _ => False
  | f + 1, md, n, e, u => if md = 0 then n < e ∧ (u 0 = 0 ∨ u 0 = 1) ∧ ((e = n + 1 ∧ fp M g n = -1 ∧ (so M g n = 1 ∨ so M g n = 2 ∨ so M g n = 12 ∨ so M g n = 13) ∧ (so M g n = 2 → 0 ≤ va M g n ∧ va M g n < 1000000000) ∧ (so M g n = 1 → nm (va M g n)) ∧ tyn w (so M g n) (va M g n) 0 (fun _ => 0) (u 0)) ∨ ∃ (k : Nat) (c : Nat → Int), 1 ≤ k ∧ ari (so M g n) k ∧ fp M g n = ((n + 1 : Nat) : Int) ∧ Ty nm w M g f k (n + 1) e c ∧ tyn w (so M g n) (va M g n) k c (u 0))
    else if md = 1 then np M g n = -1 ∧ Ty nm w M g f 0 n e u else ∃ m : Nat, np M g n = (m : Int) ∧ Ty nm w M g f 0 n m u ∧ Ty nm w M g f (md - 1) m e (fun j => u (j + 1))
theorem Ty.tn : ∀ {f md n e : Nat} {u : Nat → Int}, Ty nm w M g f md n e u → Tn nm M g f md n e := by
  intro f
  induction f with
  | zero => intro md n e u h; exact h.elim
  | succ f ih =>
    intro md n e u h
    rw [Ty] at h
    rw [Tn]
    by_cases c0 : md = 0
    · rw [if_pos c0] at h ⊢
      obtain ⟨h1, -, h2⟩ := h
      refine ⟨h1, ?_⟩
      rcases h2 with ⟨b1, b2, b3, b4, b5, -⟩ | ⟨k, c, b1, b2, b3, b4, -⟩
      · exact Or.inl ⟨b1, b2, b3, b4, b5⟩
      · exact Or.inr ⟨k, b1, b2, b3, ih b4⟩
    · rw [if_neg c0] at h ⊢
      by_cases c1 : md = 1
      · rw [if_pos c1] at h ⊢
        exact ⟨h.1, ih h.2⟩
      · rw [if_neg c1] at h ⊢
        obtain ⟨m, q1, q2, q3⟩ := h
        exact ⟨m, q1, ih q2, ih q3⟩
theorem Ty.cg : ∀ {f md n e : Nat} {u v : Nat → Int}, Ty nm w M g f md n e u → (∀ j, j < md + (1 - md) → v j = u j) → Ty nm w M g f md n e v := by
  intro f
  induction f with
  | zero => intro md n e u v h; exact h.elim
  | succ f ih =>
    intro md n e u v h hv
    rw [Ty] at h ⊢
    have h0 := hv 0 (by omega)
    by_cases c0 : md = 0
    · rw [if_pos c0] at h ⊢
      rw [h0]
      exact h
    · rw [if_neg c0] at h ⊢
      by_cases c1 : md = 1
      · rw [if_pos c1] at h ⊢
        exact ⟨h.1, ih h.2 (fun j hj => hv j (by omega))⟩
      · rw [if_neg c1] at h ⊢
        obtain ⟨m, q1, q2, q3⟩ := h
        exact ⟨m, q1, ih q2 (fun j hj => hv j (by omega)), ih q3 (fun j hj => hv (j + 1) (by omega))⟩
theorem Ty.fr : ∀ {f md n e : Nat} {u : Nat → Int}, Ty nm w M3 g f md n e u → (∀ k, n ≤ k → k < e → so M4 g k = so M3 g k ∧ va M4 g k = va M3 g k ∧ fp M4 g k = fp M3 g k) → (∀ k, n < k → k < e → np M4 g k = np M3 g k) → (md ≠ 0 → np M4 g n = np M3 g n) → Ty nm w M4 g f md n e u := by
  intro f
  induction f with
  | zero => intro md n e u h; exact h.elim
  | succ f ih =>
    intro md n e u h h1 h2 h3
    have hlt := h.tn.lt
    rw [Ty] at h ⊢
    by_cases c0 : md = 0
    · rw [if_pos c0] at h ⊢
      have k := h1 n (Nat.le_refl _) hlt
      rw [k.1, k.2.1, k.2.2]
      refine ⟨h.1, h.2.1, ?_⟩
      rcases h.2.2 with q | ⟨k', c, q1, q2, q3, q4, q5⟩
      · exact Or.inl q
      · have := q4.tn.lt
        exact Or.inr ⟨k', c, q1, q2, q3, ih q4 (fun x a b => h1 x (by omega) b) (fun x a b => h2 x (by omega) b) (fun _ => h2 (n + 1) (by omega) this), q5⟩
    · rw [if_neg c0] at h ⊢
      by_cases c1 : md = 1
      · rw [if_pos c1] at h ⊢
        exact ⟨by rw [h3 c0]; exact h.1, ih h.2 h1 h2 (fun z => absurd rfl z)⟩
      · rw [if_neg c1] at h ⊢
        obtain ⟨m, q1, q2, q3⟩ := h
        have l1 := q2.tn.lt
        have l2 := q3.tn.lt
        exact ⟨m, by rw [h3 c0]; exact q1, ih q2 (fun x a b => h1 x a (by omega)) (fun x a b => h2 x a (by omega)) (fun z => absurd rfl z), ih q3 (fun x a b => h1 x (by omega) b) (fun x a b => h2 x (by omega) b) (fun _ => h2 m l1 l2)⟩
theorem Ty.lo {f md n e : Nat} {u : Nat → Int} (h : Ty nm w M3 g f md n e u) (h3 : LO M a g N T K M3) (h4 : LO M a g N T K M4) (hv : ∀ k, n ≤ k → k < e → va M4 g k = va M3 g k) : Ty nm w M4 g f md n e u := by
  have s : ∀ k, so M4 g k = so M3 g k ∧ fp M4 g k = fp M3 g k ∧ np M4 g k = np M3 g k := fun k => by
    have a1 := h3.2.2.2.1 k
    have a2 := h4.2.2.2.1 k
    exact ⟨a2.1.trans a1.1.symm, a2.2.1.trans a1.2.1.symm, a2.2.2.trans a1.2.2.symm⟩
  exact h.fr (fun k b1 b2 => ⟨(s k).1, hv k b1 b2, (s k).2.1⟩) (fun k _ _ => (s k).2.2) (fun _ => (s n).2.2)
/-- more names, the same types -/
theorem Ty.mono {nm' : Int → Prop} {w' : Int → Int} (hn : ∀ v, nm v → nm' v ∧ w' v = w v) : ∀ {f md n e : Nat} {u : Nat → Int}, Ty nm w M g f md n e u → Ty nm' w' M g f md n e u := by
  intro f
  induction f with
  | zero => intro md n e u h; exact h.elim
  | succ f ih =>
    intro md n e u h
    rw [Ty] at h ⊢
    by_cases c0 : md = 0
    · rw [if_pos c0] at h ⊢
      refine ⟨h.1, h.2.1, ?_⟩
      rcases h.2.2 with ⟨b1, b2, b3, b4, b5, b6⟩ | ⟨k', c, q1, q2, q3, q4, q5⟩
      · refine Or.inl ⟨b1, b2, b3, b4, fun z => (hn _ (b5 z)).1, ?_⟩
        unfold tyn at b6 ⊢
        by_cases z : so M g n = 1
        · rw [if_pos z] at b6 ⊢
          rw [(hn _ (b5 z)).2]
          exact b6
        · rw [if_neg z] at b6 ⊢
          exact b6
      · refine Or.inr ⟨k', c, q1, q2, q3, ih q4, ?_⟩
        have z : so M g n ≠ 1 := fun z => by unfold ari at q2; omega
        unfold tyn at q5 ⊢
        rw [if_neg z] at q5 ⊢
        exact q5
    · rw [if_neg c0] at h ⊢
      by_cases c1 : md = 1
      · rw [if_pos c1] at h ⊢
        exact ⟨h.1, ih h.2⟩
      · rw [if_neg c1] at h ⊢
        obtain ⟨m, q1, q2, q3⟩ := h
        exact ⟨m, q1, ih q2, ih q3⟩
end TY
end
section
/-! The reference: looking at a tree. -/
section LV
variable {G : mG} {d a N g T K : Nat} {M M2 M3 M4 : mM} {nm : Int → Prop} {Q : Int → mM → Prop} {co : Int}
theorem r20w (w : Wd M a) : mR M a 20 = a + 95 := w.1.2.2.2.2.1.2.2.2.2.2.1
/-- a node is looked at, and the loop goes on or ends -/
theorem s_lkA {nm' : Int → Prop} {n k L : Nat} {u : Nat → Int} (hco : i32 co) (hw0 : Wd M a) (hF : ∀ M3, LO M a g N T K M3 → mI M3 a 16 ≠ 0 → Q 0 M3) (h : LO M a g N T K M4) (hn : n < T) (hk : pks nm' M4 g T n k) (hv : so M4 g n = 1 → 0 ≤ va M4 g n ∧ va M4 g n < N) (hL : ln M4 (a + 93) = (L + k : Nat)) (hb : L + k ≤ 65000) (hu : ∀ j, j < k → nt M4 (a + 93) (L + j) = u j) (h01 : ∀ j, j < k → u j = 0 ∨ u j = 1) (hK : ∀ M5, laQ co M M4 a g N T K n L k u M5 → mI M5 a 16 = 0 → h_MM_look_32 G (d + 5) a co M5 Q) : Cv G y_MM_lookAt (d + 5) [vr a, vi n, vi co] M4 (fun M5 => mOk M5 ∧ h_MM_look_32 G (d + 5) a co M5 Q) := by
  refine (s_MM_lookAt hco hw0 h hn hk hv hL hb hu h01).mono (fun M5 h5 => ⟨h5.1, ?_⟩)
  obtain ⟨o5, h5⟩ := h5
  by_cases z : mI M5 a 16 = 0
  · exact hK M5 h5 z
  · have w5 := h5.1.2.1.2.1.1.1
    refine k_MM_look_32 o5 hco ?_
    rw [r20w w5]
    exact ⟨w5.1.1, (w5.nu n95).1, fun _ => ⟨fun q => absurd q z, fun _ => hF M5 h5.1 z⟩, fun q => absurd (Or.inr z) q⟩
/-- a pair is taken from the pile -/
theorem s_lk2 {n X : Nat} {s : Int} (hco : i32 co) (h : LO M a g N T K M2) (h16 : mI M2 a 16 = 0) (hn : n < T) (hl : ln M2 (a + 95) = (X + 2 : Nat)) (hX : X ≤ 64000) (e0 : nt M2 (a + 95) X = (n : Int)) (e1 : nt M2 (a + 95) (X + 1) = s)
    (hA : (s = 1 ∨ ¬ (0 ≤ fp M2 g n)) → ∀ M5, kp M a g N T K M2 M5 → ln M5 (a + 95) = (X : Int) → (∀ j, nt M5 (a + 95) j = nt M2 (a + 95) j) → Cv G y_MM_lookAt (d + 5) [vr a, vi n, vi co] M5 (fun M6 => mOk M6 ∧ h_MM_look_32 G (d + 5) a co M6 Q))
    (hB : ¬ (s = 1 ∨ ¬ (0 ≤ fp M2 g n)) → ∀ M6, kp M a g N T K M2 M6 → ln M6 (a + 95) = (X + 2 : Nat) → (∀ j, j < X → nt M6 (a + 95) j = nt M2 (a + 95) j) → nt M6 (a + 95) X = (n : Int) → nt M6 (a + 95) (X + 1) = 1 → h_MM_look_126 G (d + 5) a co (fp M2 g n) (X + 2 : Nat) M6 Q) : h_MM_look_32 G (d + 5) a co M2 Q := by
  obtain ⟨hO, hw, -, -, -, hg, -, hT⟩ := id h.2.1
  have w := hw.1.1
  have hl' : mI M2 (a + 95) 1 = (X + 2 : Nat) := hl
  refine k_MM_look_32 hO hco ?_
  rw [r20w w, hl', h16]
  refine ⟨w.1.1, (w.nu n95).1, fun q => by omega, fun _ => (s_lk_pop (X := X + 1) h hl).mono (fun x M4 h4 => ?_)⟩
  obtain ⟨i4, o4, k4, l4, t4, v4⟩ := h4
  have w4 := k4.1.2.1.2.1.1.1
  rw [r20w w4]
  refine ⟨i4, o4, w4.1.1, (w4.nu n95).1, (s_lk_pop (X := X) k4.1 l4).mono (fun y M5 h5 => ?_)⟩
  obtain ⟨i5, o5, k5, l5, t5, v5⟩ := h5
  have kk := k4.trans k5
  obtain ⟨-, hw5, -, hd5, h105, -, -, -⟩ := id kk.1.2.1
  have w5 := hw5.1.1
  have gp := w5.gp hg
  have r4 : mR M5 g 4 = g + 9 := gp.2.1.2.2.2.2.1
  have u9 := w5.nu (tL_in (a := a) (q := g + 9) hg (by omega))
  have l9 := hd5 (g + 9) (by omega)
  have hy : y = (n : Int) := by rw [v5, t4, e0]
  have hx : x = s := by rw [v4, e1]
  subst hy
  subst hx
  rw [h105, r4]
  refine ⟨i5, o5, w5.1.1, gp.1, u9.1, (s_MN_at o5 u9 (by omega)).mono (fun z M6 e6 => ?_)⟩
  obtain ⟨e6, hz⟩ := e6
  subst e6
  have hz' : z = fp M2 g n := by
    have b1 := (kk.1.2.2.2.1 n).2.1
    have b2 := (h.2.2.2.1 n).2.1
    exact hz.trans (b1.trans b2.symm)
  refine ⟨by rw [hz]; exact (o5 _ _).1, o5, ?_⟩
  rw [hz']
  refine ⟨fun q => ⟨w5.1.1, hA q M6 kk l5 (fun j => (t5 j).trans (t4 j))⟩, fun q => ?_⟩
  rw [r20w w5]
  refine ⟨w5.1.1, (w5.nu n95).1, (s_lk_push (i32s (by omega) (by omega)) kk.1 l5 (by omega)).mono (fun M7 h7 => ?_)⟩
  obtain ⟨o7, k7, l7, t7, v7⟩ := h7
  have w7 := k7.1.2.1.2.1.1.1
  rw [r20w w7]
  refine ⟨o7, w7.1.1, (w7.nu n95).1, (s_lk_push (i32s (by omega) (by omega)) k7.1 l7 (by omega)).mono (fun M8 h8 => ?_)⟩
  obtain ⟨o8, k8, l8, t8, v8⟩ := h8
  have w8 := k8.1.2.1.2.1.1.1
  have l8' : mI M8 (a + 95) 1 = (X + 2 : Nat) := l8
  rw [r20w w8, l8']
  exact ⟨o8, w8.1.1, (w8.nu n95).1, hB q M8 (kk.trans (k7.trans k8)) l8 (fun j hj => by rw [t8 j (by omega), t7 j hj, t5, t4]) (by rw [t8 X (by omega), v7]) v8⟩
/-- trees have been looked at -/
def lkR (co : Int) (M : mM) (a g N T K Lk L kk f md n e : Nat) (M2 M3 : mM) : Prop := LO M a g N T K M3 ∧ mI M3 a 16 = 0 ∧ ln M3 (a + 95) = (Lk : Int) ∧ (∀ j, j < Lk → nt M3 (a + 95) j = nt M2 (a + 95) j) ∧ ln M3 (a + 93) = (L + kk : Nat) ∧ (∀ j, j < L → nt M3 (a + 93) j = nt M2 (a + 93) j) ∧ (∃ u : Nat → Int, (∀ j, j < kk → nt M3 (a + 93) (L + j) = u j) ∧ (∀ j, j < kk → u j = 0 ∨ u j = 1) ∧ Ty (nmr co M g) (tn M g) M3 g f md n e u) ∧ ∀ j, (j < n ∨ e ≤ j) → va M3 g j = va M2 g j
theorem s_look_run (hco : i32 co) (hw0 : Wd M a) (hnm : ∀ v, nm v → 0 ≤ v ∧ v < N) (hF : ∀ M3, LO M a g N T K M3 → mI M3 a 16 ≠ 0 → Q 0 M3) : ∀ (f md n e Lk L kk : Nat) (M2 : mM), kk = md + (1 - md) → Tn nm M2 g f md n e → e ≤ T → LO M a g N T K M2 → mI M2 a 16 = 0 → ln M2 (a + 95) = (Lk + 2 * kk : Nat) → (∀ j, j < kk → nt M2 (a + 95) (Lk + 2 * (kk - 1 - j)) = ci M g n j ∧ nt M2 (a + 95) (Lk + 2 * (kk - 1 - j) + 1) = 0) → ln M2 (a + 93) = (L : Int) → L ≤ n → Lk ≤ 2 * (n + (T - e)) → (∀ M3, lkR co M a g N T K Lk L kk f md n e M2 M3 → h_MM_look_32 G (d + 5) a co M3 Q) → h_MM_look_32 G (d + 5) a co M2 Q := by
  intro f
  induction f with
  | zero => intro md n e Lk L kk M2 _ ht; exact ht.elim
  | succ f ih =>
    intro md n e Lk L kk M2 hkk ht he h h16 lk pk lL hLn hLk hQ
    have hT := h.2.1.2.2.2.2.2.2.2
    have ht' := ht
    rw [Tn] at ht'
    have hlt := ht.lt
    by_cases c0 : md = 0
    · subst c0
      have kk1 : kk = 1 := by omega
      subst kk1
      rw [if_pos rfl] at ht'
      obtain ⟨p0, p1⟩ := pk 0 (by omega)
      rw [show Lk + 2 * (1 - 1 - 0) = Lk by omega] at p0 p1
      have pn : nt M2 (a + 95) Lk = (n : Int) := p0
      obtain ⟨-, ht'⟩ := ht'
      rcases ht' with ⟨b1, b2, b3, b4, b5⟩ | ⟨k, b1, b2, b3, b4⟩
      · -- a leaf
        refine s_lk2 (X := Lk) hco h h16 (by omega) lk (by omega) pn p1 (fun _ M5 k5 l5 t5 => ?_) (fun q => absurd (Or.inr (by omega)) q)
        have so5 : so M5 g n = so M2 g n := (k5.1.2.2.2.1 n).1.trans (h.2.2.2.1 n).1.symm
        have fp5 : fp M5 g n = fp M2 g n := (k5.1.2.2.2.1 n).2.1.trans (h.2.2.2.1 n).2.1.symm
        have va5 := k5.2.2.1
        refine s_lkA (nm' := nm) (k := 0) (L := L) (u := fun _ => 0) hco hw0 hF k5.1 (by omega) (Or.inl ⟨rfl, by rw [fp5]; exact b2, by rw [so5]; exact b3⟩) (fun z => by rw [va5]; exact hnm _ (b5 (so5.symm.trans z))) (by rw [k5.2.2.2.1, lL]; omega) (by omega) (fun j _ => by omega) (fun j _ => by omega) (fun M6 h6 z6 => hQ M6 ?_)
        obtain ⟨g1, g2, g3, g4, g5, g6⟩ := h6
        have so6 : so M6 g n = so M2 g n := (g1.2.2.2.1 n).1.trans (h.2.2.2.1 n).1.symm
        have fp6 : fp M6 g n = fp M2 g n := (g1.2.2.2.1 n).2.1.trans (h.2.2.2.1 n).2.1.symm
        rcases g6 with z | ⟨z1, z2, z3, z4⟩
        · exact absurd z6 z
        · rw [so5] at z2 z4
          refine ⟨g1, z6, by rw [g2.1]; exact l5, fun j _ => by rw [g2.2.1, t5], g3, fun j hj => by rw [g4 j hj, k5.2.2.2.2.1], ⟨fun _ => nt M6 (a + 93) L, fun j hj => by rw [show L + j = L by omega], fun _ _ => g5, ?_⟩, fun j hj => ?_⟩
          · rw [Ty, if_pos rfl]
            refine ⟨hlt, g5, Or.inl ⟨b1, by rw [fp6]; exact b2, by rw [so6]; exact b3, fun y => ?_, fun y => z2 (so6.symm.trans y), by rw [so6]; exact z4⟩⟩
            rw [so6] at y
            rw [z3 n (Or.inr (by rw [so5, y]; decide)), va5]
            exact b4 y
          · rw [z3 j (Or.inl (by omega)), va5]
      · -- a node with parts
        have hge := b4.ge
        have so1 : so M2 g n ≠ 1 := fun z => by unfold ari at b2; omega
        refine s_lk2 (X := Lk) hco h h16 (by omega) lk (by omega) pn p1 (fun q => by omega) (fun _ M6 k6 l6 t6 v6 w6 => ?_)
        rw [b3]
        have b46 : Tn nm M6 g f k (n + 1) e := b4.lo h k6.1 (fun j _ _ => k6.2.2.1 j)
        refine s_look126 (X := Lk + 2) hco (by omega) k f (n + 1) e (Lk + 2) M6 b1 b46 he k6.1 l6 (by omega) (fun M7 k7 l7 t7 v7 => ?_)
        have w7 := k7.1.2.1.2.1.1.1
        refine k_MM_look_126 k7.1.2.1.1 hco (i32s (by omega) (by omega)) (i32s (by omega) (by omega)) ⟨fun _ => ⟨w7.1.1, (s_MM_turn (d := d + 4) k7.1.2.1.1 w7 l7 (by omega) b1).mono (fun M8 h8 => ?_)⟩, fun q => absurd (by decide) q⟩
        obtain ⟨m8, l8, t8, u8⟩ := h8
        have k8 := kp.mk k7.1 m8 (fun _ z => z)
        have k68 := k6.trans (k7.trans k8)
        refine ⟨m8.1, ?_⟩
        have b48 : Tn nm M8 g f k (n + 1) e := b4.lo h k68.1 (fun j _ _ => k68.2.2.1 j)
        refine ih k (n + 1) e (Lk + 2) L k M8 (by omega) b48 he k68.1 (by rw [k68.2.1]; exact h16) (by rw [l8, l7]) (fun j hj => ?_) (by rw [k68.2.2.2.1]; exact lL) (by omega) (by omega) (fun M9 h9 => ?_)
        · refine ⟨?_, ?_⟩
          · rw [t8 (k - 1 - j) (by omega), show k - 1 - (k - 1 - j) = j by omega]
            exact (v7 j hj).1
          · rw [u8 _ (fun i hi => by omega)]
            exact (v7 (k - 1 - j) (by omega)).2
        · obtain ⟨g1, g2, g3, g4, g5, g6, ⟨c, gu, g7, g8⟩, g9⟩ := h9
          have low : ∀ j, j < Lk + 2 → nt M9 (a + 95) j = nt M6 (a + 95) j := fun j hj => by rw [g4 j hj, u8 j (fun i hi => by omega), t7 j hj]
          refine s_lk2 (n := n) (X := Lk) (s := 1) hco g1 g2 (by omega) g3 (by omega) (by rw [low Lk (by omega)]; exact v6) (by rw [low (Lk + 1) (by omega)]; exact w6) (fun _ M10 k10 l10 t10 => ?_) (fun q => absurd (Or.inl rfl) q)
          have so10 : so M10 g n = so M2 g n := (k10.1.2.2.2.1 n).1.trans (h.2.2.2.1 n).1.symm
          have fp10 : fp M10 g n = fp M2 g n := (k10.1.2.2.2.1 n).2.1.trans (h.2.2.2.1 n).2.1.symm
          refine s_lkA (nm' := nmr co M g) (k := k) (L := L) (u := c) hco hw0 hF k10.1 (by omega) (Or.inr ⟨b1, by omega, by rw [so10]; exact b2, by rw [fp10]; exact b3, f, e, he, (g8.lo g1 k10.1 (fun j _ _ => k10.2.2.1 j)).tn⟩) (fun z => absurd (so10.symm.trans z) so1) (by rw [k10.2.2.2.1]; exact g5) (by omega) (fun j hj => by rw [k10.2.2.2.2.1]; exact gu j hj) g7 (fun M11 h11 z11 => hQ M11 ?_)
          obtain ⟨f1, f2, f3, f4, f5, f6⟩ := h11
          have so11 : so M11 g n = so M2 g n := (f1.2.2.2.1 n).1.trans (h.2.2.2.1 n).1.symm
          have fp11 : fp M11 g n = fp M2 g n := (f1.2.2.2.1 n).2.1.trans (h.2.2.2.1 n).2.1.symm
          rcases f6 with z | ⟨z1, z2, z3, z4⟩
          · exact absurd z11 z
          · have va11 : ∀ j, va M11 g j = va M9 g j := fun j => (z3 j (Or.inr (by rw [so10]; exact so1))).trans (k10.2.2.1 j)
            refine ⟨f1, z11, by rw [f2.1]; exact l10, fun j hj => by rw [f2.2.1, t10, low j (by omega), t6 j hj], f3, fun j hj => by rw [f4 j hj, k10.2.2.2.2.1, g6 j hj, k68.2.2.2.2.1], ⟨fun _ => nt M11 (a + 93) L, fun j hj => by rw [show L + j = L by omega], fun _ _ => f5, ?_⟩, fun j hj => ?_⟩
            · rw [Ty, if_pos rfl]
              exact ⟨hlt, f5, Or.inr ⟨k, c, b1, by rw [so11]; exact b2, by rw [fp11]; exact b3, g8.lo g1 f1 (fun j _ _ => va11 j), by rw [so11, ← so10]; exact z4⟩⟩
            · rw [va11, g9 j (by omega), k68.2.2.1]
    · rw [if_neg c0] at ht'
      have kkm : kk = md := by omega
      subst kkm
      by_cases c1 : kk = 1
      · subst c1
        rw [if_pos rfl] at ht'
        refine ih 0 n e Lk L 1 M2 (by omega) ht'.2 he h h16 lk pk lL hLn hLk (fun M3 h3 => hQ M3 ?_)
        obtain ⟨g1, g2, g3, g4, g5, g6, ⟨u, gu, g7, g8⟩, g9⟩ := h3
        refine ⟨g1, g2, g3, g4, g5, g6, ⟨u, gu, g7, ?_⟩, g9⟩
        rw [Ty, if_neg (by omega), if_pos rfl]
        exact ⟨((g1.2.2.2.1 n).2.2.trans (h.2.2.2.1 n).2.2.symm).trans ht'.1, g8⟩
      · rw [if_neg c1] at ht'
        obtain ⟨m, q1, q2, q3⟩ := ht'
        have l1 := q2.lt
        have l2 := q3.ge
        have hnp : np M g n = (m : Int) := (h.2.2.2.1 n).2.2.symm.trans q1
        refine ih 0 n m (Lk + 2 * (kk - 1)) L 1 M2 (by omega) q2 (by omega) h h16 (by rw [lk]; omega) (fun j hj => ?_) lL hLn (by omega) (fun M3 h3 => ?_)
        · have : j = 0 := by omega
          subst this
          have := pk 0 (by omega)
          rw [show Lk + 2 * (kk - 1) + 2 * (1 - 1 - 0) = Lk + 2 * (kk - 1 - 0) by omega]
          exact this
        · obtain ⟨g1, g2, g3, g4, g5, g6, ⟨u, gu, g7, g8⟩, g9⟩ := h3
          refine ih (kk - 1) m e Lk (L + 1) (kk - 1) M3 (by omega) (q3.lo h g1 (fun j j1 _ => g9 j (by omega))) he g1 g2 g3 (fun j hj => ?_) g5 (by omega) (by omega) (fun M4 h4 => hQ M4 ?_)
          · have := pk (j + 1) (by omega)
            rw [ci_succ hnp, show Lk + 2 * (kk - 1 - (j + 1)) = Lk + 2 * (kk - 1 - 1 - j) by omega] at this
            rw [g4 _ (by omega), g4 _ (by omega)]
            exact this
          · obtain ⟨f1, f2, f3, f4, f5, f6, ⟨v, fu, f7, f8⟩, f9⟩ := h4
            refine ⟨f1, f2, f3, fun j hj => by rw [f4 j hj, g4 j (by omega)], by rw [f5]; omega, fun j hj => by rw [f6 j (by omega), g6 j hj], ⟨fun j => if j = 0 then u 0 else v (j - 1), fun j hj => ?_, fun j hj => ?_, ?_⟩, fun j hj => by rw [f9 j (by omega), g9 j (by omega)]⟩
            · show nt M4 (a + 93) (L + j) = if j = 0 then u 0 else v (j - 1)
              by_cases z : j = 0
              · rw [if_pos z, z, f6 (L + 0) (by omega)]; exact gu 0 (by omega)
              · rw [if_neg z, ← fu (j - 1) (by omega), show L + 1 + (j - 1) = L + j by omega]
            · show (if j = 0 then u 0 else v (j - 1)) = 0 ∨ (if j = 0 then u 0 else v (j - 1)) = 1
              by_cases z : j = 0
              · rw [if_pos z]; exact g7 0 (by omega)
              · rw [if_neg z]; exact f7 (j - 1) (by omega)
            · rw [Ty, if_neg (by omega), if_neg (by omega)]
              refine ⟨m, ((f1.2.2.2.1 n).2.2.trans (h.2.2.2.1 n).2.2.symm).trans q1, (g8.lo g1 f1 (fun j _ j2 => f9 j (by omega))).cg (fun j hj => ?_), f8.cg (fun j hj => ?_)⟩
              · have : j = 0 := by omega
                rw [this, if_pos rfl]
              · rw [if_neg (by omega), show j + 1 - 1 = j by omega]
end LV
end
section
/-! The reference: look. -/
section LW
variable {G : mG} {d a N g T K : Nat} {M : mM} {nm : Int → Prop} {co : Int}
/-- a tree has been looked at: a fault was told, or its names are known -/
def lkQ (co : Int) (M : mM) (a g N T K n e : Nat) (r : Int) (M3 : mM) : Prop := LO M a g N T K M3 ∧ (r = 0 ∨ r = 1) ∧ (mI M3 a 16 ≠ 0 ∨ (mI M3 a 16 = 0 ∧ (∃ f, Ty (nmr co M g) (tn M g) M3 g f 0 n e (fun _ => r)) ∧ ∀ j, (j < n ∨ e ≤ j) → va M3 g j = va M g j))
theorem LO.refl (h : Lc M a g N T K) : LO M a g N T K M := by
  have w := h.2.1.1.1
  exact ⟨Mv.refl h.1 w (fun q hq => w.lt (lkP_in h.2.2.2.2.2.1 hq)), h, fun _ _ _ => rfl, fun _ => ⟨rfl, rfl, rfl⟩, rfl⟩
theorem s_MM_look {n e : Nat} (hco : i32 co) (hnm : ∀ v, nm v → 0 ≤ v ∧ v < N) (h : Lc M a g N T K) (ht : To nm M g 0 n e) (he : e ≤ T) : Ci G y_MM_look (d + 6) [vr a, vi n, vi co] M (lkQ co M a g N T K n e) := by
  obtain ⟨hO, hw, -, -, -, hg, -, hT⟩ := id h
  have w := hw.1.1
  obtain ⟨f, ht⟩ := ht
  have hlt := ht.lt
  have r19 : ∀ {M3 : mM}, Wd M3 a → mR M3 a 19 = a + 93 := fun w => w.1.2.2.2.2.1.2.2.2.2.1
  have h0 := LO.refl h
  refine k_MM_look hO (i32s (by omega) (by omega)) hco ?_
  rw [r20w w]
  refine ⟨w.1.1, (w.nu n95).1, fun M3 e3 => ?_⟩
  have b95 : 0 ≤ ln M (a + 95) := (w.nu n95).2.2.2.1.1
  obtain ⟨m3, l3, -, -⟩ := mv_set hO w n95 (v := 0) (by omega) b95 e3
  have k3 := kp.mk h0 m3 (fun _ z => z)
  have w3 := k3.1.2.1.2.1.1.1
  rw [r19 w3]
  refine ⟨(w3.nu n93).1, fun M6 e6 => ?_⟩
  have b93 : 0 ≤ ln M3 (a + 93) := (w3.nu n93).2.2.2.1.1
  obtain ⟨m6, l6, -, -⟩ := mv_set m3.1 w3 n93 (v := 0) (by omega) b93 e6
  have w6 := m6.2.1
  have f6 := (m6.fld w3 (fun q hq => by rw [hq]; exact n93) (fun hq => hq)).1
  have s7 := m6.lst (tL_in (a := a) (q := g + 7) hg (by omega)) (by omega)
  have L6 : LO M a g N T K M6 := k3.1.step m6 (fun q hq => Or.inl hq) (fun x hx => hx.elim) s7.1 (fun i _ _ => by rw [f6])
  have v6 : ∀ k, va M6 g k = va M g k := fun k => (s7.2.1 k).trans (k3.2.2.1 k)
  have x6 : ln M6 (a + 95) = ((0 : Nat) : Int) := by rw [(m6.lst n95 (by omega)).1, l3]; rfl
  rw [r20w w6]
  refine ⟨(w6.nu n95).1, (s_lk_push (i32s (by omega) (by omega)) L6 x6 (by omega)).mono (fun M7 h7 => ?_)⟩
  obtain ⟨o7, k7, l7, t7, v7⟩ := h7
  have w7 := k7.1.2.1.2.1.1.1
  rw [r20w w7]
  refine ⟨o7, w7.1.1, (w7.nu n95).1, (s_lk_push (i32s (by omega) (by omega)) k7.1 l7 (by omega)).mono (fun M8 h8 => ?_)⟩
  obtain ⟨o8, k8, l8, t8, v8⟩ := h8
  have w8 := k8.1.2.1.2.1.1.1
  have k68 := k7.trans k8
  have va8 : ∀ k, va M8 g k = va M g k := fun k => (k68.2.2.1 k).trans (v6 k)
  refine ⟨o8, ?_⟩
  by_cases z : mI M8 a 16 = 0
  · refine s_look_run (nm := nm) hco w hnm (fun M3 h3 z3 => ⟨h3, Or.inl rfl, Or.inl z3⟩) f 0 n e 0 0 1 M8 rfl (ht.lo h0 k8.1 (fun k _ _ => va8 k)) he k8.1 z l8 (fun j hj => ?_) (by rw [k68.2.2.2.1, l6]; rfl) (by omega) (by omega) (fun M9 h9 => ?_)
    · have : j = 0 := by omega
      subst this
      exact ⟨(t8 0 (by omega)).trans v7, v8⟩
    · obtain ⟨g1, g2, g3, g4, g5, g6, ⟨u, gu, g7, g8⟩, g9⟩ := h9
      have w9 := g1.2.1.2.1.1.1
      have g3' : mI M9 (a + 95) 1 = 0 := g3
      refine k_MM_look_32 g1.2.1.1 hco ?_
      rw [r20w w9, r19 w9, g3', g2]
      refine ⟨w9.1.1, (w9.nu n95).1, fun _ => ⟨fun _ => ⟨(w9.nu n93).1, (s_MN_last g1.2.1.1 (w9.nu n93) (by rw [g5]; omega)).mono (fun x M10 h10 => ?_)⟩, fun q => absurd rfl q⟩, fun q => absurd (Or.inl (by omega)) q⟩
      obtain ⟨e10, hx⟩ := h10
      subst e10
      refine ⟨by rw [hx]; exact (g1.2.1.1 _ _).1, g1.2.1.1, fun v hv => ⟨g1, by split at hv <;> omega, Or.inr ⟨g2, ⟨f, g8.cg (fun j hj => ?_)⟩, fun j hj => (g9 j hj).trans (va8 j)⟩⟩⟩
      have u0 := gu 0 (by omega)
      have u1 := g7 0 (by omega)
      rw [g5] at hx
      have hx' : x = u 0 := hx.trans u0
      rw [show j = 0 by omega]
      split at hv <;> omega
  · refine k_MM_look_32 o8 hco ?_
    rw [r20w w8]
    exact ⟨w8.1.1, (w8.nu n95).1, fun _ => ⟨fun q => absurd q z, fun _ => ⟨k8.1, Or.inl rfl, Or.inl z⟩⟩, fun q => absurd (Or.inr z) q⟩
end LW
end
section
/-! The reference: a rule is read and looked at. -/
section RU
variable {G : mG} {d a N g T K i j : Nat} {M M2 M3 : mM} {r co tr : Int}
theorem goff0 (hg : g = a + 13 ∨ g = a + 49) : g < a + 21192 ∧ g ∉ nums a ∧ (∀ q, q ∈ nums a → g ≠ q + 1) ∧ g ≠ a := by
  refine ⟨by omega, fun z => ?_, fun q z e => ?_, by omega⟩
  · obtain ⟨o, z1, z2⟩ := nums_off.1 z
    have : o = 13 ∨ o = 49 := by omega
    rcases this with y | y <;> rw [y] at z1 <;> exact absurd z1 (by decide)
  · obtain ⟨o, z1, z2⟩ := nums_off.1 z
    have : o = 12 ∨ o = 48 := by omega
    rcases this with y | y <;> rw [y] at z1 <;> exact absurd z1 (by decide)
abbrev rlP (a g : Nat) : Nat → Prop := fun x => trP a g x ∨ lkP a g x
theorem rlP_in {q : Nat} (hg : g = a + 13 ∨ g = a + 49) (h : rlP a g q) : q ∈ nums a := h.elim (fun z => trP_in hg z) (fun z => lkP_in hg z)
/-- a tree has been made -/
theorem tr_lc (h : Lc M a g N T K) (hT : T + (j - i) ≤ 30000) (t : trQ M a g N T i j r M2) : r = T ∧ ∃ T', T < T' ∧ T' ≤ T + (j - i) ∧ Lc M2 a g N T' K ∧ To (nmw (wk M a) N) M2 g 0 T T' ∧ (mI M2 a = mI M a ∧ mI M2 g = mI M g ∧ (∀ co, nmr co M2 g = nmr co M g) ∧ tn M2 g = tn M g) ∧ Mv (rlP a g) (fun x => x = a) M a M2 ∧ ∀ n, n < T → so M2 g n = so M g n ∧ va M2 g n = va M g n ∧ fp M2 g n = fp M g n ∧ np M2 g n = np M g n := by
  obtain ⟨m, e, T', hn, t1, t2, t3, t4, t5⟩ := t
  obtain ⟨hO, hx, hnm, hd, h10, hg, hb, -⟩ := h
  have w := hx.1.1
  have hin : ∀ q, trP a g q → q ∈ nums a := fun q hq => trP_in hg hq
  have h2 : ¬ trP a g (mR M a 2) := by
    rcases w.1.2.1 with y | y <;> rw [y.2] <;> omega
  have a0 := goff0 hg
  have a1 := goff (x := g + 14) hg (Or.inl rfl)
  have a2 := goff (x := g + 18) hg (Or.inr rfl)
  have gI := m.cell w hin a0.1 a0.2.1 a0.2.2.1 (fun z => z)
  have o13 := goffx (i := 13) hg (by decide) (by decide)
  have g13 := m.cell w hin o13.1 o13.2.1 o13.2.2 (fun z => z)
  have g14 := m.cell w hin a1.1 a1.2.1 a1.2.2.1 (fun z => z)
  have g18 := m.cell w hin a2.1 a2.2.1 a2.2.2.1 (fun z => z)
  have aI := (m.fld w hin (fun z => z)).1
  have k85 := m.lst (n85 (a := a)) (by omega)
  have k87 := m.lst (n87 (a := a)) (by omega)
  have k89 := m.lst (n89 (a := a)) (by omega)
  refine ⟨e, T', t1, t2, ⟨m.1, hx.mv m hin (by omega) (by omega) (by omega) h2, ?_, hn, by rw [m.rfl_a w hin]; exact h10, hg, by rw [gI]; exact hb, by omega⟩, t3, ⟨aI, gI, ?_, ?_⟩, m.mono (fun q hq => Or.inl hq) (fun x hx => hx.elim) (fun q hq => w.lt (rlP_in hg hq)), t5⟩
  · obtain ⟨n1, n2, n3, n4, n5'⟩ := hnm
    refine ⟨by rw [k85.1]; exact n1, by rw [k87.1]; exact n2, by rw [k89.1]; exact n3, n4, fun k hk => ?_⟩
    rw [k85.2.1, k87.2.1, k89.2.1, gI, g13]
    exact n5' k hk
  · intro co
    funext v
    unfold nmr
    rw [gI, g13]
  · funext v
    unfold tn
    rw [g14, g18]
/-- a tree has been made and looked at -/
def rlR (co : Int) (M : mM) (a g N T K T' : Nat) (r : Int) (M3 : mM) : Prop := Mv (rlP a g) (fun x => x = a) M a M3 ∧ Lc M3 a g N T' K ∧ (∀ i, i ≠ 16 → i ≠ 17 → mI M3 a i = mI M a i) ∧ mI M3 g = mI M g ∧ (r = 0 ∨ r = 1) ∧ (mI M3 a 16 ≠ 0 ∨ (mI M3 a 16 = 0 ∧ (∃ f, Ty (nmr co M g) (tn M g) M3 g f 0 T T' (fun _ => r)) ∧ ∀ n, n < T → so M3 g n = so M g n ∧ va M3 g n = va M g n ∧ fp M3 g n = fp M g n ∧ np M3 g n = np M g n))
theorem tl_rl {T' : Nat} (hL : Lc M a g N T K) (h : Lc M2 a g N T' K) (e : mI M2 a = mI M a ∧ mI M2 g = mI M g ∧ (∀ co, nmr co M2 g = nmr co M g) ∧ tn M2 g = tn M g) (m : Mv (rlP a g) (fun x => x = a) M a M2) (s : ∀ n, n < T → so M2 g n = so M g n ∧ va M2 g n = va M g n ∧ fp M2 g n = fp M g n ∧ np M2 g n = np M g n) (q : lkQ co M2 a g N T' K T T' r M3) : rlR co M a g N T K T' r M3 := by
  obtain ⟨q1, q2, q3⟩ := q
  have hg := h.2.2.2.2.2.1
  have w2 := h.2.1.1.1
  refine ⟨m.trans (q1.1.mono (fun x hx => Or.inr hx) (fun x hx => hx) (fun x hx => w2.lt (rlP_in hg hx))), q1.2.1, fun i i1 i2 => by rw [q1.2.2.1 i i1 i2, e.1], q1.2.2.2.2.trans e.2.1, q2, ?_⟩
  rcases q3 with z | ⟨z1, z2, z3⟩
  · exact Or.inl z
  · rw [e.2.2.1, e.2.2.2] at z2
    refine Or.inr ⟨z1, z2, fun n hn => ?_⟩
    obtain ⟨b1, b2, b3, b4⟩ := s n hn
    obtain ⟨c1, c2, c3⟩ := q1.2.2.2.1 n
    exact ⟨c1.trans b1, (z3 n (Or.inl hn)).trans b2, c2.trans b3, c3.trans b4⟩
/-- a rule of a wanted type -/
def rlQ (co : Int) (M : mM) (a g N T K i j : Nat) (tr r : Int) (M3 : mM) : Prop := r = T ∧ ∃ T', T < T' ∧ T' ≤ T + (j - i) ∧ rlR co M a g N T K T' tr M3
theorem s_MM_rule1 (hco : i32 co) (htr : tr = 0 ∨ tr = 1) (h : Lc M a g N T K) (hT : T + (j - i) ≤ 30000) (he : Eo (wk M a) 6 i j) (hj : j < N) : Ci G y_MM_rule1 (d + 7) [vr a, vi i, vi j, vi tr, vi co] M (rlQ co M a g N T K i j tr) := by
  obtain ⟨hO, hx, -, hd, h10, hg, -, -⟩ := id h
  have w := hx.1.1
  have hN := hx.1.2.2
  have hij := he.pr.1
  refine k_MM_rule1 hO (i32s (by omega) (by omega)) (i32s (by omega) (by omega)) (i32s (by omega) (by omega)) hco ⟨w.1.1, (s_MM_tree (d := d) hO hx hg h10 hd he hj (by omega)).mono (fun r M2 t => ?_)⟩
  obtain ⟨er, T', t1, t2, L2, t3, e2, m2, s2⟩ := tr_lc h hT t
  subst er
  have w2 := L2.2.1.1.1
  refine ⟨i32s (by omega) (by omega), L2.1, w2.1.1, (s_MM_look (d := d) hco (fun v hv => ⟨hv.1, hv.2.1⟩) L2 t3 (Nat.le_refl _)).mono (fun x M3 q => ?_)⟩
  have R := tl_rl h L2 e2 m2 s2 q
  obtain ⟨R1, R2, R3, R4, R5, R6⟩ := id R
  have w3 := R2.2.1.1.1
  refine ⟨i32s (by omega) (by omega), R2.1, w3.1.1, fun z => ⟨rfl, T', t1, t2, R1, R2, R3, R4, htr, ?_⟩, fun z => (s_MM_place0 (d := d + 5) R2.1 R2.2.1 (by omega)).mono (fun y M4 h4 => ?_)⟩
  · by_cases z1 : mI M3 a 16 = 0
    · rcases z with z | z
      · exact absurd z1 z
      · rw [← z]; exact R6
    · exact Or.inl z1
  · obtain ⟨e4, hy⟩ := h4
    subst e4
    have hy32 : i32 y := by rw [hy]; exact (R2.1 _ _).1
    refine ⟨hy32, R2.1, w3.1.1, (s_MM_stop (i32s (by omega) (by omega)) hy32 R2.1 w3).mono (fun M5 h5 => ?_)⟩
    obtain ⟨m5, f1, f2, f3⟩ := h5
    have s7 := m5.lst (tL_in (a := a) (q := g + 7) hg (by omega)) (fun z => z)
    obtain ⟨L5, -, g5, k5⟩ := R2.step m5 (fun q hq => hq.elim) (fun x hx => hx) s7.1
    exact ⟨m5.1, rfl, T', t1, t2, R1.trans (k5.mono (fun x hx => Or.inr hx) (fun x hx => hx) (fun x hx => w3.lt (rlP_in hg hx))), L5, fun i i1 i2 => (f3 i i1 i2).trans (R3 i i1 i2), g5.trans R4, htr, Or.inl (by rw [f1]; decide)⟩
end RU
end
section
/-! The reference: the pile of what is to do. -/
section TD
variable {G : mG} {d a : Nat} {M : mM}
theorem n99 : a + 99 ∈ nums a := nums_o (by decide)
theorem r24w (w : Wd M a) : mR M a 24 = a + 99 := w.1.2.2.2.2.1.2.2.2.2.2.2.2.2.1
/-- two numbers are pushed -/
theorem s_MM_todo {X : Nat} {u v : Int} (hu : i32 u) (hv : i32 v) (hO : mOk M) (h : Wd M a) (hl : ln M (a + 99) = (X : Int)) (hX : X ≤ 65000) : Cv G y_MM_todo (d + 1) [vr a, vi u, vi v] M (fun M' => mOk M' ∧ Mv (fun x => x = a + 99) (fun _ => False) M a M' ∧ ln M' (a + 99) = (X + 2 : Nat) ∧ (∀ j, j < X → nt M' (a + 99) j = nt M (a + 99) j) ∧ nt M' (a + 99) X = u ∧ nt M' (a + 99) (X + 1) = v) := by
  refine k_MM_todo hO hu hv ?_
  rw [r24w h]
  refine ⟨h.1.1, (h.nu n99).1, (s_MN_addB (B := 65536) hu hO (h.nu n99) (by omega) (by decide)).mono (fun M1 t => ?_)⟩
  have m1 := mv_addB h n99 (Or.inr (Or.inr (Or.inr rfl))) t
  have w1 := m1.2.1
  obtain ⟨-, -, -, t1, t2, t3, -⟩ := t
  rw [hl] at t1 t2 t3
  rw [Int.toNat_natCast] at t3
  rw [r24w w1]
  refine ⟨m1.1, w1.1.1, (w1.nu n99).1, (s_MN_addB (B := 65536) hv m1.1 (w1.nu n99) (by omega) (by decide)).mono (fun M2 t' => ?_)⟩
  have m2 := mv_addB w1 n99 (Or.inr (Or.inr (Or.inr rfl))) t'
  obtain ⟨-, -, -, s1, s2, s3, -⟩ := t'
  rw [t1] at s1 s2 s3
  rw [show ((X : Int) + 1).toNat = X + 1 by omega] at s3
  exact ⟨m2.1, m2.1, m1.trans m2, by rw [s1]; omega, fun j hj => by rw [s2 j (by omega), t2 j (by omega)], by rw [s2 X (by omega)]; exact t3, s3⟩
theorem s_MM_turnTodo {L k : Nat} (hO : mOk M) (h : Wd M a) (hl : ln M (a + 99) = (L + 2 * k : Nat)) (hb : L + 2 * k ≤ 200000) (hk : 1 ≤ k) : Cv G y_MM_turnTodo (d + 1) [vr a, vi L] M (fun M' => Mv (fun x => x = a + 99) (fun _ => False) M a M' ∧ ln M' (a + 99) = ln M (a + 99) ∧ (∀ j, j < k → nt M' (a + 99) (L + 2 * j + 1) = nt M (a + 99) (L + 2 * (k - 1 - j) + 1)) ∧ ∀ i, (∀ j, j < k → i ≠ L + 2 * j + 1) → nt M' (a + 99) i = nt M (a + 99) i) := by
  have r24 : ∀ (M3 : mM), Wd M3 a → mR M3 a 24 = a + 99 := fun M3 w => w.1.2.2.2.2.1.2.2.2.2.2.2.2.2.1
  have l0 : mI M (a + 99) 1 = (L + 2 * k : Nat) := hl
  refine k_MM_turnTodo hO ⟨by omega, by omega⟩ ?_
  rw [r24 M h, l0]
  refine ⟨h.1.1, (h.nu n99).1, ?_⟩
  -- t pairs have been turned
  suffices H : ∀ (c t : Nat) (M3 : mM), c + t = k → Mv (fun x => x = a + 99) (fun _ => False) M a M3 → ln M3 (a + 99) = ln M (a + 99) → 2 * t ≤ k → (∀ j, j < k → nt M3 (a + 99) (L + 2 * j + 1) = if j < t ∨ k - 1 - j < t then nt M (a + 99) (L + 2 * (k - 1 - j) + 1) else nt M (a + 99) (L + 2 * j + 1)) → (∀ i, (∀ j, j < k → i ≠ L + 2 * j + 1) → nt M3 (a + 99) i = nt M (a + 99) i) → h_MM_turnTodo_12 G d a (L + 2 * t : Nat) ((L + 2 * k : Nat) - 2 - 2 * (t : Int)) M3 (fun M' => Mv (fun x => x = a + 99) (fun _ => False) M a M' ∧ ln M' (a + 99) = ln M (a + 99) ∧ (∀ j, j < k → nt M' (a + 99) (L + 2 * j + 1) = nt M (a + 99) (L + 2 * (k - 1 - j) + 1)) ∧ ∀ i, (∀ j, j < k → i ≠ L + 2 * j + 1) → nt M' (a + 99) i = nt M (a + 99) i) by
    have := H k 0 M (by omega) (Mv.refl hO h (fun q hq => by rw [hq]; exact h.lt n99)) rfl (by omega) (fun j hj => by rw [if_neg (by omega)]) (fun i _ => rfl)
    rw [show L + 2 * 0 = L by omega, show ((L + 2 * k : Nat) : Int) - 2 - 2 * ((0 : Nat) : Int) = ((L + 2 * k : Nat) : Int) - 2 by omega] at this
    exact this
  intro c
  induction c with
  | zero => intro t M3 hc _ _ h2; omega
  | succ c ih =>
    intro t M3 hc m3 l3 ht h3 o3
    have w3 := m3.2.1
    have u3 := w3.nu (p := a + 99) n99
    have c3 : ((L + 2 * k : Nat) : Int) ≤ cp M3 (a + 99) := by rw [← hl, ← l3]; exact u3.2.2.2.1.2
    have ecp : mN M3 (mR M3 (a + 99) 0) = cp M3 (a + 99) := rfl
    refine k_MM_turnTodo_12 m3.1 ⟨by omega, by omega⟩ ⟨by omega, by omega⟩ ⟨fun q => ⟨m3, l3, fun j hj => ?_, o3⟩, fun q => ?_⟩
    · rw [h3 j hj]
      by_cases z : j < t ∨ k - 1 - j < t
      · rw [if_pos z]
      · rw [if_neg z, show k - 1 - j = j by omega]
    · rw [r24 M3 w3, show ((L + 2 * t : Nat) : Int) + 1 = ((L + 2 * t + 1 : Nat) : Int) by omega, show ((L + 2 * k : Nat) : Int) - 2 - 2 * (t : Int) + 1 = ((L + 2 * (k - 1 - t) + 1 : Nat) : Int) by omega]
      refine ⟨w3.1.1, u3.1, (s_MN_at m3.1 u3 (by omega)).mono (fun x M4 h4 => ?_)⟩
      obtain ⟨e4, hx⟩ := h4
      subst e4
      rw [r24 M4 w3]
      refine ⟨by rw [hx]; exact (m3.1 _ _).1, m3.1, w3.1.1, u3.1, (s_MN_at m3.1 u3 (by omega)).mono (fun y M5 h5 => ?_)⟩
      obtain ⟨e5, hy⟩ := h5
      subst e5
      have hx32 : i32 x := by rw [hx]; exact (m3.1 _ _).1
      have hy32 : i32 y := by rw [hy]; exact (m3.1 _ _).1
      refine ⟨hy32, m3.1, u3.2.1, by omega, fun M6 e6 => ?_⟩
      rw [Int.toNat_natCast] at e6
      obtain ⟨m6, l6, k6, -⟩ := mv_el hy32 m3.1 w3 n99 e6
      have w6 := m6.2.1
      have u6 := w6.nu (p := a + 99) n99
      have c6 : ((L + 2 * k : Nat) : Int) ≤ cp M6 (a + 99) := by rw [← hl, ← l3, ← l6]; exact u6.2.2.2.1.2
      have ecp6 : mN M6 (mR M6 (a + 99) 0) = cp M6 (a + 99) := rfl
      rw [r24 M6 w6]
      refine ⟨w6.1.1, u6.1, u6.2.1, by omega, fun M7 e7 => ?_⟩
      rw [Int.toNat_natCast] at e7
      obtain ⟨m7, l7, k7, -⟩ := mv_el hx32 m6.1 w6 n99 e7
      have nx := ih (t + 1) M7 (by omega) ((m3.trans m6).trans m7) (by rw [l7, l6, l3]) (by omega) (fun j hj => ?_) (fun i hi => ?_)
      · rw [show ((L + 2 * (t + 1) : Nat) : Int) = ((L + 2 * t : Nat) : Int) + 2 by omega, show ((L + 2 * k : Nat) : Int) - 2 - 2 * ((t + 1 : Nat) : Int) = ((L + 2 * k : Nat) : Int) - 2 - 2 * (t : Int) - 2 by omega] at nx
        exact nx
      · rw [k7, k6]
        by_cases z1 : j = k - 1 - t
        · rw [if_pos (by omega), hx, h3 t (by omega), if_neg (by omega), if_pos (by omega), z1, show k - 1 - (k - 1 - t) = t by omega]
        · rw [if_neg (by omega)]
          by_cases z2 : j = t
          · rw [if_pos (by omega), hy, h3 (k - 1 - t) (by omega), if_neg (by omega), if_pos (by omega), z2]
          · rw [if_neg (by omega), h3 j hj]
            by_cases z3 : j < t ∨ k - 1 - j < t
            · rw [if_pos z3, if_pos (by omega)]
            · rw [if_neg z3, if_neg (by omega)]
      · rw [k7, k6, if_neg (hi (k - 1 - t) (by omega)), if_neg (hi t (by omega))]
        exact o3 i hi
end TD
end
section
/-! The reference: a name's value. -/
section NV
variable {G : mG} {F : Prop} {d a g R W T V X : Nat} {M : mM}
/-- a game whose constants, met formulas and variables have values of their types -/
def Ev (F : Prop) (M : mM) (a g R W T : Nat) : Prop := mOk M ∧ Wd M a ∧ (g = a + 13 ∨ g = a + 49) ∧ nd M g T ∧ (R ≤ 60 ∧ W ≤ 12 ∧ T ≤ 16384) ∧ (∀ r : Nat, r < R → (mI M (g + 13) r = 0 → vok (tn M g r) (mL M (g + 16) r) (mL M (g + 17) r)) ∧ (F → mI M (g + 13) r ≠ 0 → mI M (a + 102) r ≠ 0 → vok (tn M g r) (mL M (a + 103) r) (mL M (a + 104) r))) ∧ (F → ∀ v : Nat, v < W → vok (tn M g (100 + v)) (mI M (a + 101) v) (if mI M (g + 18) v = 0 then 1 else 0))
/-- the names a tree may hold: constants, and with F formulas and variables too -/
def nme (F : Prop) (M : mM) (g R W : Nat) (v : Int) : Prop := (0 ≤ v ∧ v < R ∧ (F ∨ mI M (g + 13) v.toNat = 0)) ∨ (F ∧ 100 ≤ v ∧ v < 100 + W)
/-- a formula is to be worked out -/
def nfQ (F : Prop) (M : mM) (a g X : Nat) (v : Int) (M' : mM) : Prop := F ∧ v < 100 ∧ mI M (g + 13) v.toNat ≠ 0 ∧ mI M (a + 102) v.toNat = 0 ∧ Mv (fun x => x = a + 99) (fun _ => False) M a M' ∧ ln M' (a + 99) = (X + 4 : Nat) ∧ (∀ j, j < X → nt M' (a + 99) j = nt M (a + 99) j) ∧ nt M' (a + 99) X = 3 ∧ nt M' (a + 99) (X + 1) = v ∧ nt M' (a + 99) (X + 2) = 0 ∧ nt M' (a + 99) (X + 3) = mI M (g + 15) v.toNat
/-- a value is pushed, or a formula is to be worked out -/
def naQ (F : Prop) (M : mM) (a g V X : Nat) (v : Int) (M' : mM) : Prop := (∃ A B : Int, vok (tn M g v) A B ∧ psQ M a V A B M') ∨ nfQ F M a g X v M'
theorem goff15 (hg : g = a + 13 ∨ g = a + 49) : g + 15 < a + 21192 ∧ g + 15 ∉ nums a ∧ (∀ q, q ∈ nums a → g + 15 ≠ q + 1) := by
  refine ⟨by omega, fun z => ?_, fun q z e => ?_⟩
  · obtain ⟨o, z1, z2⟩ := nums_off.1 z
    have : o = 28 ∨ o = 64 := by omega
    rcases this with y | y <;> rw [y] at z1 <;> exact absurd z1 (by decide)
  · obtain ⟨o, z1, z2⟩ := nums_off.1 z
    have : o = 27 ∨ o = 63 := by omega
    rcases this with y | y <;> rw [y] at z1 <;> exact absurd z1 (by decide)
theorem s_MM_name {v : Int} (h : Ev F M a g R W T) (hvn : nme F M g R W v) (hV : mI M a 23 = (V : Int)) (hb : V < 16400) (hl : ln M (a + 99) = (X : Int)) (hX : X ≤ 64000) : Cv G y_MM_name (d + 2) [vr a, vr g, vi v] M (fun M' => mOk M' ∧ naQ F M a g V X v M') := by
  have hv : (0 ≤ v ∧ v < R) ∨ (100 ≤ v ∧ v < 100 + W) := hvn.elim (fun z => Or.inl ⟨z.1, z.2.1⟩) (fun z => Or.inr z.2)
  obtain ⟨hO, w, hg, hn, hB, hr, hw⟩ := h
  have gp := w.gp hg
  have r7 : mR M g 7 = g + 13 := gp.2.1.2.2.2.2.2.2.1
  have r9 : mR M g 9 = g + 15 := gp.2.1.2.2.2.2.2.2.2.2.1
  have r10 : mR M g 10 = g + 16 := gp.2.1.2.2.2.2.2.2.2.2.2.1
  have r11 : mR M g 11 = g + 17 := gp.2.1.2.2.2.2.2.2.2.2.2.2
  have r13 : mR M g 13 = g + 18 := gp.2.2.1.1
  have B := w.1.2.2.2.2.1.2.2.2.2.2.2.2.2.2
  have r25 : mR M a 25 = a + 101 := B.1
  have r26 : mR M a 26 = a + 102 := B.2.1
  have r27 : mR M a 27 = a + 103 := B.2.2.1
  have r28 : mR M a 28 = a + 104 := B.2.2.2
  have A8 := w.1.2.2.2.2.2.2.2.1
  have g13 := gp.2.2.2.1.1
  have g15 := gp.2.2.2.1.2.2.1
  have g16 := gp.2.2.2.1.2.2.2.1
  have g17 := gp.2.2.2.1.2.2.2.2
  have g18 := gp.2.2.2.2.1.1
  refine k_MM_name hO ⟨by omega, by omega⟩ ?_
  rw [r7, r10, r11, r13, r25, r26, r27, r28]
  refine ⟨fun q => ?_, fun q => ?_⟩
  · have hvr : v.toNat < R := by omega
    obtain ⟨b1, b2⟩ := hr v.toNat hvr
    have hF : mI M (g + 13) v.toNat ≠ 0 → F := fun z => hvn.elim (fun y => y.2.2.elim (fun x => x) (fun x => absurd x z)) (fun y => y.1)
    rw [show ((v.toNat : Nat) : Int) = v by omega] at b1 b2
    refine ⟨gp.1, g13.1, by rw [g13.2]; omega, fun z => ⟨g16.1, by rw [g16.2]; omega, g17.1, by rw [g17.2]; omega, w.1.1, (s_MM_push (hO _ _).2 (hO _ _).2 hO w hV hb).mono (fun M' t => ⟨t.1, t.1, Or.inl ⟨_, _, b1 z, t.2⟩⟩)⟩, fun z => ⟨w.1.1, A8.2.2.2.1.1, by rw [A8.2.2.2.1.2]; omega, fun z2 => ?_, fun z2 => ⟨A8.2.2.2.2.1.1, by rw [A8.2.2.2.2.1.2]; omega, A8.2.2.2.2.2.1, by rw [A8.2.2.2.2.2.2]; omega, (s_MM_push (hO _ _).2 (hO _ _).2 hO w hV hb).mono (fun M' t => ⟨t.1, t.1, Or.inl ⟨_, _, b2 (hF z) z z2, t.2⟩⟩)⟩⟩⟩
    refine (s_MM_todo (d := d) ⟨by omega, by omega⟩ ⟨by omega, by omega⟩ hO w hl (by omega)).mono (fun M2 t => ?_)
    obtain ⟨o2, m2, l2, e2, x2, y2⟩ := t
    have w2 := m2.2.1
    have gp2 := w2.gp hg
    have q15 := goff15 hg
    have c15 := m2.cell w (fun q hq => by rw [hq]; exact n99) q15.1 q15.2.1 q15.2.2 (fun z => z)
    rw [show mR M2 g 9 = g + 15 from gp2.2.1.2.2.2.2.2.2.2.2.1, c15]
    refine ⟨o2, gp2.1, gp2.2.2.2.1.2.2.1.1, by rw [gp2.2.2.2.1.2.2.1.2]; omega, w2.1.1, (s_MM_todo (d := d) ⟨by omega, by omega⟩ (hO _ _).1 o2 w2 l2 (by omega)).mono (fun M3 t => ?_)⟩
    obtain ⟨o3, m3, l3, e3, x3, y3⟩ := t
    exact ⟨o3, o3, Or.inr ⟨hF z, q, z, z2, m2.trans m3, by rw [l3], fun j hj => by rw [e3 j (by omega), e2 j hj], by rw [e3 X (by omega)]; exact x2, by rw [e3 (X + 1) (by omega)]; exact y2, x3, y3⟩⟩
  · have hF : F := hvn.elim (fun y => absurd y.2.1 (by omega)) (fun y => y.1)
    have b := hw hF (v - 100).toNat (by omega)
    rw [show (100 : Int) + ((v - 100).toNat : Nat) = v by omega] at b
    refine ⟨w.1.1, A8.2.2.1.1, by rw [A8.2.2.1.2]; omega, gp.1, g18.1, by rw [g18.2]; omega, fun u hu => ?_⟩
    rw [← hu] at b
    have i1 := (hO (a + 101) (v - 100).toNat).1
    exact (s_MM_push ⟨by have := i1.1; omega, by have := i1.2; omega⟩ ⟨by split at hu <;> omega, by split at hu <;> omega⟩ hO w hV hb).mono (fun M' t => ⟨t.1, t.1, Or.inl ⟨_, _, b, t.2⟩⟩)
end NV
end
section
/-! The reference: and, or, ask go on or end. -/
section CH
variable {G : mG} {F : Prop} {d a g R W T V X n c1 c2 : Nat} {M : mM}
/-- the first part's value stays, or it is taken and another part is begun -/
def coQ (M : mM) (a g V X n c2 : Nat) (M' : mM) : Prop := (so M g n ≠ 32 ∧ M' = M) ∨ ∃ c : Int, (c = c2 ∨ (so M g n = 32 ∧ c = np M g c2)) ∧ Mv (fun x => x = a + 99) (fun x => x = a) M a M' ∧ mI M' a 23 = (V : Int) ∧ (∀ i, i ≠ 23 → mI M' a i = mI M a i) ∧ ln M' (a + 99) = (X + 2 : Nat) ∧ (∀ j, j < X → nt M' (a + 99) j = nt M (a + 99) j) ∧ nt M' (a + 99) X = 0 ∧ nt M' (a + 99) (X + 1) = c
theorem s_MM_choose0 (h : Ev F M a g R W T) (hn : n < T) (h1 : fp M g n = (c1 : Int)) (h1T : c1 < T) (h2 : np M g c1 = (c2 : Int)) (h2T : c2 < T) (hV : mI M a 23 = (V + 1 : Nat)) (hb : V < 16400) (hl : ln M (a + 99) = (X : Int)) (hX : X ≤ 64000) : Cv G y_MM_choose0 (d + 2) [vr a, vr g, vi n] M (fun M' => mOk M' ∧ coQ M a g V X n c2 M') := by
  obtain ⟨hO, w, hg, hd, hB, -, -⟩ := h
  have gp := w.gp hg
  have r0 : mR M g 0 = g + 1 := gp.2.1.1
  have r4 : mR M g 4 = g + 9 := gp.2.1.2.2.2.2.1
  have r5 : mR M g 5 = g + 11 := gp.2.1.2.2.2.2.2.1
  have r21 : mR M a 21 = a + 97 := w.1.2.2.2.2.1.2.2.2.2.2.2.1
  have n97 : mK M (a + 97) = 33 ∧ mN M (a + 97) = 16400 := w.1.2.2.2.2.2.2.2.1.1
  have i1 := tL_in (a := a) (q := g + 1) hg (by omega)
  have i9 := tL_in (a := a) (q := g + 9) hg (by omega)
  have i11 := tL_in (a := a) (q := g + 11) hg (by omega)
  have l1 := hd (g + 1) (by omega)
  have l9 := hd (g + 9) (by omega)
  have l11 := hd (g + 11) (by omega)
  have rd : ∀ {p j : Nat} {Q : Int → mM → Prop}, p ∈ nums a → (j : Int) < ln M p → (∀ z, z = nt M p j → i32 z → Q z M) → Ci G y_MN_at (d + 1) [vr p, vi j] M Q := fun hp hk hQ => by
    refine (s_MN_at hO (w.nu hp) hk).mono (fun z M1 e1 => ?_)
    obtain ⟨e1, hz⟩ := e1
    subst e1
    exact hQ z hz (by rw [hz]; exact (hO _ _).1)
  -- the value is taken
  have go : ∀ (M2 : mM) (c : Int), i32 c → M2 = mUI M a 23 (V : Int) → (c = c2 ∨ (so M g n = 32 ∧ c = np M g c2)) → Cv G y_MM_todo (d + 1) [vr a, vi 0, vi c] M2 (fun M' => mOk M' ∧ (mOk M' ∧ coQ M a g V X n c2 M')) := fun M2 c hc e2 hcc => by
    obtain ⟨m2, f2⟩ := mv_fld (v := (V : Int)) ⟨by omega, by omega⟩ hO w e2
    have s2 := m2.lst (n99 (a := a)) (fun z => z)
    refine (s_MM_todo (d := d) ⟨by omega, by omega⟩ hc m2.1 m2.2.1 (by rw [s2.1]; exact hl) (by omega)).mono (fun M3 t => ?_)
    obtain ⟨o3, m3, l3, e3, x3, y3⟩ := t
    have f3 := (m3.fld m2.2.1 (fun q hq => by rw [hq]; exact n99) (fun z => z)).1
    have lt : ∀ {M5 : mM}, Wd M5 a → ∀ q, q = a + 99 → q < mZ M5 := fun w q hq => by rw [hq]; exact w.lt n99
    refine ⟨o3, o3, Or.inr ⟨c, hcc, (m2.mono (fun _ z => z.elim) (fun x hx => hx) (lt w)).trans (m3.mono (fun x hx => hx) (fun x hx => hx.elim) (lt m2.2.1)), by rw [f3, f2, if_pos rfl], fun i hi => by rw [f3, f2, if_neg hi], l3, fun j hj => by rw [e3 j hj, s2.2.1], x3, y3⟩⟩
  have eV : ((V + 1 : Nat) : Int) - 1 = (V : Int) := by omega
  refine k_MM_choose0 hO (i32s (by omega) (by omega)) ?_
  rw [r0]
  refine ⟨gp.1, (w.nu i1).1, rd i1 (by omega) (fun s hs is => ⟨is, hO, w.1.1, ?_⟩)⟩
  have hs' : s = so M g n := hs
  rw [r21, hV, r4, r5, eV]
  refine ⟨n97.1, by rw [n97.2]; omega, fun v10 _ => ⟨gp.1, (w.nu i9).1, rd i9 (by omega) (fun x18 h18 i18 => ⟨i18, hO, (w.nu i11).1, ?_⟩)⟩⟩
  have e18 : x18 = (c1 : Int) := h18.trans h1
  subst e18
  refine rd i11 (by omega) (fun x22 h22 i22 => ⟨i22, hO, fun q => ⟨w.1.1, ?_⟩, fun q v54 _ => ⟨fun _ => ⟨w.1.1, ?_⟩, fun _ => ⟨hO, Or.inl ⟨by rw [← hs']; exact q, rfl⟩⟩⟩⟩)
  · have e22 : x22 = (c2 : Int) := h22.trans h2
    subst e22
    rw [hV, eV]
    refine ⟨⟨by omega, by omega⟩, fun M2 e2 => ⟨fun _ => ?_, fun _ => go M2 _ i22 e2 (Or.inl rfl)⟩⟩
    obtain ⟨m2, f2⟩ := mv_fld (v := (V : Int)) ⟨by omega, by omega⟩ hO w e2
    have w2 := m2.2.1
    have gp2 := w2.gp hg
    have s11 := m2.lst i11 (fun z => z)
    rw [show mR M2 g 5 = g + 11 from gp2.2.1.2.2.2.2.2.1]
    refine ⟨gp2.1, (w2.nu i11).1, (s_MN_at m2.1 (w2.nu i11) (by rw [s11.1]; omega)).mono (fun z M3 e3 => ?_)⟩
    obtain ⟨e3, hz⟩ := e3
    subst e3
    have iz : i32 z := by rw [hz]; exact (m2.1 _ _).1
    exact ⟨iz, m2.1, w2.1.1, go M3 z iz e2 (Or.inr ⟨by rw [← hs']; exact q, by rw [hz, s11.2.1]⟩)⟩
  · have e22 : x22 = (c2 : Int) := h22.trans h2
    subst e22
    rw [hV, eV]
    exact ⟨⟨by omega, by omega⟩, fun M2 e2 => go M2 _ i22 e2 (Or.inl rfl)⟩
end CH
end
section
/-! The reference: a node's value from its parts' values. -/
section FI2
variable {G : mG} {F : Prop} {d a g R W T V n : Nat} {M : mM} {Q : mM → Prop}
theorem s_fin32 {nm : Int → Prop} {s p : Int} (is : i32 s) (ip : i32 p) (h : Ev F M a g R W T) : ∀ (k f n e c : Nat), 1 ≤ k → Tn nm M g f k n e → e ≤ T → c + k ≤ 100000 → h_MM_finish_32 G d a g s p (c + k : Nat) (-1) M Q → h_MM_finish_32 G d a g s p c n M Q := by
  obtain ⟨hO, w, hg, hd, hB, -, -⟩ := h
  have gp := w.gp hg
  have i11 := tL_in (a := a) (q := g + 11) hg (by omega)
  have l11 := hd (g + 11) (by omega)
  have r5 : mR M g 5 = g + 11 := gp.2.1.2.2.2.2.2.1
  intro k
  induction k with
  | zero => intro f n e c hk; omega
  | succ k ih =>
    intro f n e c hk ht he hc hQ
    have hlt := ht.lt
    cases f with
    | zero => exact ht.elim
    | succ f =>
      have ht' : Tn nm M g (f + 1) (k + 1) n e := ht
      rw [Tn, if_neg (by omega)] at ht'
      refine k_MM_finish_32 hO is ip (i32s (by omega) (by omega)) (i32s (by omega) (by omega)) ⟨fun q => by omega, fun _ => ?_⟩
      rw [r5]
      refine ⟨gp.1, (w.nu i11).1, (s_MN_at hO (w.nu i11) (by omega)).mono (fun z M1 e1 => ?_)⟩
      obtain ⟨e1, hz⟩ := e1
      subst e1
      refine ⟨by rw [hz]; exact (hO _ _).1, hO, ?_⟩
      by_cases k0 : k + 1 = 1
      · rw [if_pos k0] at ht'
        rw [show z = -1 from hz.trans ht'.1, show (c : Int) + 1 = ((c + (k + 1) : Nat) : Int) by omega]
        exact hQ
      · rw [if_neg k0] at ht'
        obtain ⟨m, q1, q2, q3⟩ := ht'
        rw [show z = (m : Int) from hz.trans q1, show (c : Int) + 1 = ((c + 1 : Nat) : Int) by omega]
        refine ih f m e (c + 1) (by omega) q3 he (by omega) ?_
        rw [show c + 1 + k = c + (k + 1) by omega]
        exact hQ
/-- a field is written first -/
theorem rkQ.pre {t : Int} {M2 M' : mM} (m : Mv (fun _ => False) (fun x => x = a) M a M2) (f : ∀ i, i ≠ 23 → mI M2 a i = mI M a i) (w : Wd M a) (h : rkQ M2 a V t M') : rkQ M a V t M' := by
  have z := w.2.2.2
  have cl : ∀ x, x < mZ M → x ≠ a → mL M2 x = mL M x := fun x hx hne => (m.2.2.2.1.2.2.2.1 x hx (fun y => y) (fun p y => y.elim) hne).2
  obtain ⟨h1, h2, h3, h4⟩ := h
  refine ⟨(m.mono (fun _ y => y) (fun x y => Or.inl y) (fun _ y => y.elim)).trans h1, fun i i1 i2 i3 => (h2 i i1 i2 i3).trans (f i i3), fun k hk => ⟨by rw [(h3 k hk).1, cl _ (by omega) (by omega)], by rw [(h3 k hk).2, cl _ (by omega) (by omega)]⟩, ?_⟩
  rw [← f 16 (by omega)]
  exact h4
end FI2
end
