section
/-! The reference: trees with types. -/
section TY
variable {a N g T K : Nat} {M M3 M4 : mM} {nm : Int → Prop} {w : Int → Int}
/-- as Tn, and u tells the brothers' types -/
def Ty (nm : Int → Prop) (w : Int → Int) (M : mM) (g : Nat) : Nat → Nat → Nat → Nat → (Nat → Int) → Prop
  | 0, _, _, _, _ => False
  | f + 1, md, n, e, u => if md = 0 then n < e ∧ (u 0 = 0 ∨ u 0 = 1) ∧ ((e = n + 1 ∧ fp M g n = -1 ∧ (so M g n = 1 ∨ so M g n = 2 ∨ so M g n = 12 ∨ so M g n = 13) ∧ (so M g n = 2 → 0 ≤ va M g n ∧ va M g n < 1000000000) ∧ (so M g n = 1 → nm (va M g n)) ∧ tyn w (so M g n) (va M g n) 0 (fun _ => 0) (u 0)) ∨ ∃ (k : Nat) (c : Nat → Int), 1 ≤ k ∧ ari (so M g n) k ∧ fp M g n = ((n + 1 : Nat) : Int) ∧ Ty nm w M g f k (n + 1) e c ∧ tyn w (so M g n) (va M g n) k c (u 0))
    else if md = 1 then np M g n = -1 ∧ Ty nm w M g f 0 n e u else ∃ m : Nat, np M g n = (m : Int) ∧ Ty nm w M g f 0 n m u ∧ Ty nm w M g f (md - 1) m e (fun j => u (j + 1))
theorem Ty.tn : ∀ {f md n e : Nat} {u : Nat → Int}, Ty nm w M g f md n e u → Tn nm M g f md n e := by
  intro f
  induction f with
  | zero => intro md n e u h; exact h.elim
  | succ f ih =>
    intro md n e u h
    rw [Ty] at h
    rw [Tn]
    by_cases c0 : md = 0
    · rw [if_pos c0] at h ⊢
      obtain ⟨h1, -, h2⟩ := h
      refine ⟨h1, ?_⟩
      rcases h2 with ⟨b1, b2, b3, b4, b5, -⟩ | ⟨k, c, b1, b2, b3, b4, -⟩
      · exact Or.inl ⟨b1, b2, b3, b4, b5⟩
      · exact Or.inr ⟨k, b1, b2, b3, ih b4⟩
    · rw [if_neg c0] at h ⊢
      by_cases c1 : md = 1
      · rw [if_pos c1] at h ⊢
        exact ⟨h.1, ih h.2⟩
      · rw [if_neg c1] at h ⊢
        obtain ⟨m, q1, q2, q3⟩ := h
        exact ⟨m, q1, ih q2, ih q3⟩
theorem Ty.cg : ∀ {f md n e : Nat} {u v : Nat → Int}, Ty nm w M g f md n e u → (∀ j, j < md + (1 - md) → v j = u j) → Ty nm w M g f md n e v := by
  intro f
  induction f with
  | zero => intro md n e u v h; exact h.elim
  | succ f ih =>
    intro md n e u v h hv
    rw [Ty] at h ⊢
    have h0 := hv 0 (by omega)
    by_cases c0 : md = 0
    · rw [if_pos c0] at h ⊢
      rw [h0]
      exact h
    · rw [if_neg c0] at h ⊢
      by_cases c1 : md = 1
      · rw [if_pos c1] at h ⊢
        exact ⟨h.1, ih h.2 (fun j hj => hv j (by omega))⟩
      · rw [if_neg c1] at h ⊢
        obtain ⟨m, q1, q2, q3⟩ := h
        exact ⟨m, q1, ih q2 (fun j hj => hv j (by omega)), ih q3 (fun j hj => hv (j + 1) (by omega))⟩
theorem Ty.fr : ∀ {f md n e : Nat} {u : Nat → Int}, Ty nm w M3 g f md n e u → (∀ k, n ≤ k → k < e → so M4 g k = so M3 g k ∧ va M4 g k = va M3 g k ∧ fp M4 g k = fp M3 g k) → (∀ k, n < k → k < e → np M4 g k = np M3 g k) → (md ≠ 0 → np M4 g n = np M3 g n) → Ty nm w M4 g f md n e u := by
  intro f
  induction f with
  | zero => intro md n e u h; exact h.elim
  | succ f ih =>
    intro md n e u h h1 h2 h3
    have hlt := h.tn.lt
    rw [Ty] at h ⊢
    by_cases c0 : md = 0
    · rw [if_pos c0] at h ⊢
      have k := h1 n (Nat.le_refl _) hlt
      rw [k.1, k.2.1, k.2.2]
      refine ⟨h.1, h.2.1, ?_⟩
      rcases h.2.2 with q | ⟨k', c, q1, q2, q3, q4, q5⟩
      · exact Or.inl q
      · have := q4.tn.lt
        exact Or.inr ⟨k', c, q1, q2, q3, ih q4 (fun x a b => h1 x (by omega) b) (fun x a b => h2 x (by omega) b) (fun _ => h2 (n + 1) (by omega) this), q5⟩
    · rw [if_neg c0] at h ⊢
      by_cases c1 : md = 1
      · rw [if_pos c1] at h ⊢
        exact ⟨by rw [h3 c0]; exact h.1, ih h.2 h1 h2 (fun z => absurd rfl z)⟩
      · rw [if_neg c1] at h ⊢
        obtain ⟨m, q1, q2, q3⟩ := h
        have l1 := q2.tn.lt
        have l2 := q3.tn.lt
        exact ⟨m, by rw [h3 c0]; exact q1, ih q2 (fun x a b => h1 x a (by omega)) (fun x a b => h2 x a (by omega)) (fun z => absurd rfl z), ih q3 (fun x a b => h1 x (by omega) b) (fun x a b => h2 x (by omega) b) (fun _ => h2 m l1 l2)⟩
theorem Ty.lo {f md n e : Nat} {u : Nat → Int} (h : Ty nm w M3 g f md n e u) (h3 : LO M a g N T K M3) (h4 : LO M a g N T K M4) (hv : ∀ k, n ≤ k → k < e → va M4 g k = va M3 g k) : Ty nm w M4 g f md n e u := by
  have s : ∀ k, so M4 g k = so M3 g k ∧ fp M4 g k = fp M3 g k ∧ np M4 g k = np M3 g k := fun k => by
    have a1 := h3.2.2.2.1 k
    have a2 := h4.2.2.2.1 k
    exact ⟨a2.1.trans a1.1.symm, a2.2.1.trans a1.2.1.symm, a2.2.2.trans a1.2.2.symm⟩
  exact h.fr (fun k b1 b2 => ⟨(s k).1, hv k b1 b2, (s k).2.1⟩) (fun k _ _ => (s k).2.2) (fun _ => (s n).2.2)
/-- more names, the same types -/
theorem Ty.mono {nm' : Int → Prop} {w' : Int → Int} (hn : ∀ v, nm v → nm' v ∧ w' v = w v) : ∀ {f md n e : Nat} {u : Nat → Int}, Ty nm w M g f md n e u → Ty nm' w' M g f md n e u := by
  intro f
  induction f with
  | zero => intro md n e u h; exact h.elim
  | succ f ih =>
    intro md n e u h
    rw [Ty] at h ⊢
    by_cases c0 : md = 0
    · rw [if_pos c0] at h ⊢
      refine ⟨h.1, h.2.1, ?_⟩
      rcases h.2.2 with ⟨b1, b2, b3, b4, b5, b6⟩ | ⟨k', c, q1, q2, q3, q4, q5⟩
      · refine Or.inl ⟨b1, b2, b3, b4, fun z => (hn _ (b5 z)).1, ?_⟩
        unfold tyn at b6 ⊢
        by_cases z : so M g n = 1
        · rw [if_pos z] at b6 ⊢
          rw [(hn _ (b5 z)).2]
          exact b6
        · rw [if_neg z] at b6 ⊢
          exact b6
      · refine Or.inr ⟨k', c, q1, q2, q3, ih q4, ?_⟩
        have z : so M g n ≠ 1 := fun z => by unfold ari at q2; omega
        unfold tyn at q5 ⊢
        rw [if_neg z] at q5 ⊢
        exact q5
    · rw [if_neg c0] at h ⊢
      by_cases c1 : md = 1
      · rw [if_pos c1] at h ⊢
        exact ⟨h.1, ih h.2⟩
      · rw [if_neg c1] at h ⊢
        obtain ⟨m, q1, q2, q3⟩ := h
        exact ⟨m, q1, ih q2, ih q3⟩
end TY
end
section
/-! The reference: looking at a tree. -/
section LV
variable {G : mG} {d a N g T K : Nat} {M M2 M3 M4 : mM} {nm : Int → Prop} {Q : Int → mM → Prop} {co : Int}
theorem r20w (w : Wd M a) : mR M a 20 = a + 95 := w.1.2.2.2.2.1.2.2.2.2.2.1
/-- a node is looked at, and the loop goes on or ends -/
theorem s_lkA {nm' : Int → Prop} {n k L : Nat} {u : Nat → Int} (hco : i32 co) (hw0 : Wd M a) (hF : ∀ M3, LO M a g N T K M3 → mI M3 a 16 ≠ 0 → Q 0 M3) (h : LO M a g N T K M4) (hn : n < T) (hk : pks nm' M4 g T n k) (hv : so M4 g n = 1 → 0 ≤ va M4 g n ∧ va M4 g n < N) (hL : ln M4 (a + 93) = (L + k : Nat)) (hb : L + k ≤ 65000) (hu : ∀ j, j < k → nt M4 (a + 93) (L + j) = u j) (h01 : ∀ j, j < k → u j = 0 ∨ u j = 1) (hK : ∀ M5, laQ co M M4 a g N T K n L k u M5 → mI M5 a 16 = 0 → h_MM_look_32 G (d + 5) a co M5 Q) : Cv G y_MM_lookAt (d + 5) [vr a, vi n, vi co] M4 (fun M5 => mOk M5 ∧ h_MM_look_32 G (d + 5) a co M5 Q) := by
  refine (s_MM_lookAt hco hw0 h hn hk hv hL hb hu h01).mono (fun M5 h5 => ⟨h5.1, ?_⟩)
  obtain ⟨o5, h5⟩ := h5
  by_cases z : mI M5 a 16 = 0
  · exact hK M5 h5 z
  · have w5 := h5.1.2.1.2.1.1.1
    refine k_MM_look_32 o5 hco ?_
    rw [r20w w5]
    exact ⟨w5.1.1, (w5.nu n95).1, fun _ => ⟨fun q => absurd q z, fun _ => hF M5 h5.1 z⟩, fun q => absurd (Or.inr z) q⟩
/-- a pair is taken from the pile -/
theorem s_lk2 {n X : Nat} {s : Int} (hco : i32 co) (h : LO M a g N T K M2) (h16 : mI M2 a 16 = 0) (hn : n < T) (hl : ln M2 (a + 95) = (X + 2 : Nat)) (hX : X ≤ 64000) (e0 : nt M2 (a + 95) X = (n : Int)) (e1 : nt M2 (a + 95) (X + 1) = s)
    (hA : (s = 1 ∨ ¬ (0 ≤ fp M2 g n)) → ∀ M5, kp M a g N T K M2 M5 → ln M5 (a + 95) = (X : Int) → (∀ j, nt M5 (a + 95) j = nt M2 (a + 95) j) → Cv G y_MM_lookAt (d + 5) [vr a, vi n, vi co] M5 (fun M6 => mOk M6 ∧ h_MM_look_32 G (d + 5) a co M6 Q))
    (hB : ¬ (s = 1 ∨ ¬ (0 ≤ fp M2 g n)) → ∀ M6, kp M a g N T K M2 M6 → ln M6 (a + 95) = (X + 2 : Nat) → (∀ j, j < X → nt M6 (a + 95) j = nt M2 (a + 95) j) → nt M6 (a + 95) X = (n : Int) → nt M6 (a + 95) (X + 1) = 1 → h_MM_look_126 G (d + 5) a co (fp M2 g n) (X + 2 : Nat) M6 Q) : h_MM_look_32 G (d + 5) a co M2 Q := by
  obtain ⟨hO, hw, -, -, -, hg, -, hT⟩ := id h.2.1
  have w := hw.1.1
  have hl' : mI M2 (a + 95) 1 = (X + 2 : Nat) := hl
  refine k_MM_look_32 hO hco ?_
  rw [r20w w, hl', h16]
  refine ⟨w.1.1, (w.nu n95).1, fun q => by omega, fun _ => (s_lk_pop (X := X + 1) h hl).mono (fun x M4 h4 => ?_)⟩
  obtain ⟨i4, o4, k4, l4, t4, v4⟩ := h4
  have w4 := k4.1.2.1.2.1.1.1
  rw [r20w w4]
  refine ⟨i4, o4, w4.1.1, (w4.nu n95).1, (s_lk_pop (X := X) k4.1 l4).mono (fun y M5 h5 => ?_)⟩
  obtain ⟨i5, o5, k5, l5, t5, v5⟩ := h5
  have kk := k4.trans k5
  obtain ⟨-, hw5, -, hd5, h105, -, -, -⟩ := id kk.1.2.1
  have w5 := hw5.1.1
  have gp := w5.gp hg
  have r4 : mR M5 g 4 = g + 9 := gp.2.1.2.2.2.2.1
  have u9 := w5.nu (tL_in (a := a) (q := g + 9) hg (by omega))
  have l9 := hd5 (g + 9) (by omega)
  have hy : y = (n : Int) := by rw [v5, t4, e0]
  have hx : x = s := by rw [v4, e1]
  subst hy
  subst hx
  rw [h105, r4]
  refine ⟨i5, o5, w5.1.1, gp.1, u9.1, (s_MN_at o5 u9 (by omega)).mono (fun z M6 e6 => ?_)⟩
  obtain ⟨e6, hz⟩ := e6
  subst e6
  have hz' : z = fp M2 g n := by
    have b1 := (kk.1.2.2.2.1 n).2.1
    have b2 := (h.2.2.2.1 n).2.1
    exact hz.trans (b1.trans b2.symm)
  refine ⟨by rw [hz]; exact (o5 _ _).1, o5, ?_⟩
  rw [hz']
  refine ⟨fun q => ⟨w5.1.1, hA q M6 kk l5 (fun j => (t5 j).trans (t4 j))⟩, fun q => ?_⟩
  rw [r20w w5]
  refine ⟨w5.1.1, (w5.nu n95).1, (s_lk_push (i32s (by omega) (by omega)) kk.1 l5 (by omega)).mono (fun M7 h7 => ?_)⟩
  obtain ⟨o7, k7, l7, t7, v7⟩ := h7
  have w7 := k7.1.2.1.2.1.1.1
  rw [r20w w7]
  refine ⟨o7, w7.1.1, (w7.nu n95).1, (s_lk_push (i32s (by omega) (by omega)) k7.1 l7 (by omega)).mono (fun M8 h8 => ?_)⟩
  obtain ⟨o8, k8, l8, t8, v8⟩ := h8
  have w8 := k8.1.2.1.2.1.1.1
  have l8' : mI M8 (a + 95) 1 = (X + 2 : Nat) := l8
  rw [r20w w8, l8']
  exact ⟨o8, w8.1.1, (w8.nu n95).1, hB q M8 (kk.trans (k7.trans k8)) l8 (fun j hj => by rw [t8 j (by omega), t7 j hj, t5, t4]) (by rw [t8 X (by omega), v7]) v8⟩
/-- trees have been looked at -/
def lkR (co : Int) (M : mM) (a g N T K Lk L kk f md n e : Nat) (M2 M3 : mM) : Prop := LO M a g N T K M3 ∧ mI M3 a 16 = 0 ∧ ln M3 (a + 95) = (Lk : Int) ∧ (∀ j, j < Lk → nt M3 (a + 95) j = nt M2 (a + 95) j) ∧ ln M3 (a + 93) = (L + kk : Nat) ∧ (∀ j, j < L → nt M3 (a + 93) j = nt M2 (a + 93) j) ∧ (∃ u : Nat → Int, (∀ j, j < kk → nt M3 (a + 93) (L + j) = u j) ∧ (∀ j, j < kk → u j = 0 ∨ u j = 1) ∧ Ty (nmr co M g) (tn M g) M3 g f md n e u) ∧ ∀ j, (j < n ∨ e ≤ j) → va M3 g j = va M2 g j
theorem s_look_run (hco : i32 co) (hw0 : Wd M a) (hnm : ∀ v, nm v → 0 ≤ v ∧ v < N) (hF : ∀ M3, LO M a g N T K M3 → mI M3 a 16 ≠ 0 → Q 0 M3) : ∀ (f md n e Lk L kk : Nat) (M2 : mM), kk = md + (1 - md) → Tn nm M2 g f md n e → e ≤ T → LO M a g N T K M2 → mI M2 a 16 = 0 → ln M2 (a + 95) = (Lk + 2 * kk : Nat) → (∀ j, j < kk → nt M2 (a + 95) (Lk + 2 * (kk - 1 - j)) = ci M g n j ∧ nt M2 (a + 95) (Lk + 2 * (kk - 1 - j) + 1) = 0) → ln M2 (a + 93) = (L : Int) → L ≤ n → Lk ≤ 2 * (n + (T - e)) → (∀ M3, lkR co M a g N T K Lk L kk f md n e M2 M3 → h_MM_look_32 G (d + 5) a co M3 Q) → h_MM_look_32 G (d + 5) a co M2 Q := by
  intro f
  induction f with
  | zero => intro md n e Lk L kk M2 _ ht; exact ht.elim
  | succ f ih =>
    intro md n e Lk L kk M2 hkk ht he h h16 lk pk lL hLn hLk hQ
    have hT := h.2.1.2.2.2.2.2.2.2
    have ht' := ht
    rw [Tn] at ht'
    have hlt := ht.lt
    by_cases c0 : md = 0
    · subst c0
      have kk1 : kk = 1 := by omega
      subst kk1
      rw [if_pos rfl] at ht'
      obtain ⟨p0, p1⟩ := pk 0 (by omega)
      rw [show Lk + 2 * (1 - 1 - 0) = Lk by omega] at p0 p1
      have pn : nt M2 (a + 95) Lk = (n : Int) := p0
      obtain ⟨-, ht'⟩ := ht'
      rcases ht' with ⟨b1, b2, b3, b4, b5⟩ | ⟨k, b1, b2, b3, b4⟩
      · -- a leaf
        refine s_lk2 (X := Lk) hco h h16 (by omega) lk (by omega) pn p1 (fun _ M5 k5 l5 t5 => ?_) (fun q => absurd (Or.inr (by omega)) q)
        have so5 : so M5 g n = so M2 g n := (k5.1.2.2.2.1 n).1.trans (h.2.2.2.1 n).1.symm
        have fp5 : fp M5 g n = fp M2 g n := (k5.1.2.2.2.1 n).2.1.trans (h.2.2.2.1 n).2.1.symm
        have va5 := k5.2.2.1
        refine s_lkA (nm' := nm) (k := 0) (L := L) (u := fun _ => 0) hco hw0 hF k5.1 (by omega) (Or.inl ⟨rfl, by rw [fp5]; exact b2, by rw [so5]; exact b3⟩) (fun z => by rw [va5]; exact hnm _ (b5 (so5.symm.trans z))) (by rw [k5.2.2.2.1, lL]; omega) (by omega) (fun j _ => by omega) (fun j _ => by omega) (fun M6 h6 z6 => hQ M6 ?_)
        obtain ⟨g1, g2, g3, g4, g5, g6⟩ := h6
        have so6 : so M6 g n = so M2 g n := (g1.2.2.2.1 n).1.trans (h.2.2.2.1 n).1.symm
        have fp6 : fp M6 g n = fp M2 g n := (g1.2.2.2.1 n).2.1.trans (h.2.2.2.1 n).2.1.symm
        rcases g6 with z | ⟨z1, z2, z3, z4⟩
        · exact absurd z6 z
        · rw [so5] at z2 z4
          refine ⟨g1, z6, by rw [g2.1]; exact l5, fun j _ => by rw [g2.2.1, t5], g3, fun j hj => by rw [g4 j hj, k5.2.2.2.2.1], ⟨fun _ => nt M6 (a + 93) L, fun j hj => by rw [show L + j = L by omega], fun _ _ => g5, ?_⟩, fun j hj => ?_⟩
          · rw [Ty, if_pos rfl]
            refine ⟨hlt, g5, Or.inl ⟨b1, by rw [fp6]; exact b2, by rw [so6]; exact b3, fun y => ?_, fun y => z2 (so6.symm.trans y), by rw [so6]; exact z4⟩⟩
            rw [so6] at y
            rw [z3 n (Or.inr (by rw [so5, y]; decide)), va5]
            exact b4 y
          · rw [z3 j (Or.inl (by omega)), va5]
      · -- a node with parts
        have hge := b4.ge
        have so1 : so M2 g n ≠ 1 := fun z => by unfold ari at b2; omega
        refine s_lk2 (X := Lk) hco h h16 (by omega) lk (by omega) pn p1 (fun q => by omega) (fun _ M6 k6 l6 t6 v6 w6 => ?_)
        rw [b3]
        have b46 : Tn nm M6 g f k (n + 1) e := b4.lo h k6.1 (fun j _ _ => k6.2.2.1 j)
        refine s_look126 (X := Lk + 2) hco (by omega) k f (n + 1) e (Lk + 2) M6 b1 b46 he k6.1 l6 (by omega) (fun M7 k7 l7 t7 v7 => ?_)
        have w7 := k7.1.2.1.2.1.1.1
        refine k_MM_look_126 k7.1.2.1.1 hco (i32s (by omega) (by omega)) (i32s (by omega) (by omega)) ⟨fun _ => ⟨w7.1.1, (s_MM_turn (d := d + 4) k7.1.2.1.1 w7 l7 (by omega) b1).mono (fun M8 h8 => ?_)⟩, fun q => absurd (by decide) q⟩
        obtain ⟨m8, l8, t8, u8⟩ := h8
        have k8 := kp.mk k7.1 m8 (fun _ z => z)
        have k68 := k6.trans (k7.trans k8)
        refine ⟨m8.1, ?_⟩
        have b48 : Tn nm M8 g f k (n + 1) e := b4.lo h k68.1 (fun j _ _ => k68.2.2.1 j)
        refine ih k (n + 1) e (Lk + 2) L k M8 (by omega) b48 he k68.1 (by rw [k68.2.1]; exact h16) (by rw [l8, l7]) (fun j hj => ?_) (by rw [k68.2.2.2.1]; exact lL) (by omega) (by omega) (fun M9 h9 => ?_)
        · refine ⟨?_, ?_⟩
          · rw [t8 (k - 1 - j) (by omega), show k - 1 - (k - 1 - j) = j by omega]
            exact (v7 j hj).1
          · rw [u8 _ (fun i hi => by omega)]
            exact (v7 (k - 1 - j) (by omega)).2
        · obtain ⟨g1, g2, g3, g4, g5, g6, ⟨c, gu, g7, g8⟩, g9⟩ := h9
          have low : ∀ j, j < Lk + 2 → nt M9 (a + 95) j = nt M6 (a + 95) j := fun j hj => by rw [g4 j hj, u8 j (fun i hi => by omega), t7 j hj]
          refine s_lk2 (n := n) (X := Lk) (s := 1) hco g1 g2 (by omega) g3 (by omega) (by rw [low Lk (by omega)]; exact v6) (by rw [low (Lk + 1) (by omega)]; exact w6) (fun _ M10 k10 l10 t10 => ?_) (fun q => absurd (Or.inl rfl) q)
          have so10 : so M10 g n = so M2 g n := (k10.1.2.2.2.1 n).1.trans (h.2.2.2.1 n).1.symm
          have fp10 : fp M10 g n = fp M2 g n := (k10.1.2.2.2.1 n).2.1.trans (h.2.2.2.1 n).2.1.symm
          refine s_lkA (nm' := nmr co M g) (k := k) (L := L) (u := c) hco hw0 hF k10.1 (by omega) (Or.inr ⟨b1, by omega, by rw [so10]; exact b2, by rw [fp10]; exact b3, f, e, he, (g8.lo g1 k10.1 (fun j _ _ => k10.2.2.1 j)).tn⟩) (fun z => absurd (so10.symm.trans z) so1) (by rw [k10.2.2.2.1]; exact g5) (by omega) (fun j hj => by rw [k10.2.2.2.2.1]; exact gu j hj) g7 (fun M11 h11 z11 => hQ M11 ?_)
          obtain ⟨f1, f2, f3, f4, f5, f6⟩ := h11
          have so11 : so M11 g n = so M2 g n := (f1.2.2.2.1 n).1.trans (h.2.2.2.1 n).1.symm
          have fp11 : fp M11 g n = fp M2 g n := (f1.2.2.2.1 n).2.1.trans (h.2.2.2.1 n).2.1.symm
          rcases f6 with z | ⟨z1, z2, z3, z4⟩
          · exact absurd z11 z
          · have va11 : ∀ j, va M11 g j = va M9 g j := fun j => (z3 j (Or.inr (by rw [so10]; exact so1))).trans (k10.2.2.1 j)
            refine ⟨f1, z11, by rw [f2.1]; exact l10, fun j hj => by rw [f2.2.1, t10, low j (by omega), t6 j hj], f3, fun j hj => by rw [f4 j hj, k10.2.2.2.2.1, g6 j hj, k68.2.2.2.2.1], ⟨fun _ => nt M11 (a + 93) L, fun j hj => by rw [show L + j = L by omega], fun _ _ => f5, ?_⟩, fun j hj => ?_⟩
            · rw [Ty, if_pos rfl]
              exact ⟨hlt, f5, Or.inr ⟨k, c, b1, by rw [so11]; exact b2, by rw [fp11]; exact b3, g8.lo g1 f1 (fun j _ _ => va11 j), by rw [so11, ← so10]; exact z4⟩⟩
            · rw [va11, g9 j (by omega), k68.2.2.1]
    · rw [if_neg c0] at ht'
      have kkm : kk = md := by omega
      subst kkm
      by_cases c1 : kk = 1
      · subst c1
        rw [if_pos rfl] at ht'
        refine ih 0 n e Lk L 1 M2 (by omega) ht'.2 he h h16 lk pk lL hLn hLk (fun M3 h3 => hQ M3 ?_)
        obtain ⟨g1, g2, g3, g4, g5, g6, ⟨u, gu, g7, g8⟩, g9⟩ := h3
        refine ⟨g1, g2, g3, g4, g5, g6, ⟨u, gu, g7, ?_⟩, g9⟩
        rw [Ty, if_neg (by omega), if_pos rfl]
        exact ⟨((g1.2.2.2.1 n).2.2.trans (h.2.2.2.1 n).2.2.symm).trans ht'.1, g8⟩
      · rw [if_neg c1] at ht'
        obtain ⟨m, q1, q2, q3⟩ := ht'
        have l1 := q2.lt
        have l2 := q3.ge
        have hnp : np M g n = (m : Int) := (h.2.2.2.1 n).2.2.symm.trans q1
        refine ih 0 n m (Lk + 2 * (kk - 1)) L 1 M2 (by omega) q2 (by omega) h h16 (by rw [lk]; omega) (fun j hj => ?_) lL hLn (by omega) (fun M3 h3 => ?_)
        · have : j = 0 := by omega
          subst this
          have := pk 0 (by omega)
          rw [show Lk + 2 * (kk - 1) + 2 * (1 - 1 - 0) = Lk + 2 * (kk - 1 - 0) by omega]
          exact this
        · obtain ⟨g1, g2, g3, g4, g5, g6, ⟨u, gu, g7, g8⟩, g9⟩ := h3
          refine ih (kk - 1) m e Lk (L + 1) (kk - 1) M3 (by omega) (q3.lo h g1 (fun j j1 _ => g9 j (by omega))) he g1 g2 g3 (fun j hj => ?_) g5 (by omega) (by omega) (fun M4 h4 => hQ M4 ?_)
          · have := pk (j + 1) (by omega)
            rw [ci_succ hnp, show Lk + 2 * (kk - 1 - (j + 1)) = Lk + 2 * (kk - 1 - 1 - j) by omega] at this
            rw [g4 _ (by omega), g4 _ (by omega)]
            exact this
          · obtain ⟨f1, f2, f3, f4, f5, f6, ⟨v, fu, f7, f8⟩, f9⟩ := h4
            refine ⟨f1, f2, f3, fun j hj => by rw [f4 j hj, g4 j (by omega)], by rw [f5]; omega, fun j hj => by rw [f6 j (by omega), g6 j hj], ⟨fun j => if j = 0 then u 0 else v (j - 1), fun j hj => ?_, fun j hj => ?_, ?_⟩, fun j hj => by rw [f9 j (by omega), g9 j (by omega)]⟩
            · show nt M4 (a + 93) (L + j) = if j = 0 then u 0 else v (j - 1)
              by_cases z : j = 0
              · rw [if_pos z, z, f6 (L + 0) (by omega)]; exact gu 0 (by omega)
              · rw [if_neg z, ← fu (j - 1) (by omega), show L + 1 + (j - 1) = L + j by omega]
            · show (if j = 0 then u 0 else v (j - 1)) = 0 ∨ (if j = 0 then u 0 else v (j - 1)) = 1
              by_cases z : j = 0
              · rw [if_pos z]; exact g7 0 (by omega)
              · rw [if_neg z]; exact f7 (j - 1) (by omega)
            · rw [Ty, if_neg (by omega), if_neg (by omega)]
              refine ⟨m, ((f1.2.2.2.1 n).2.2.trans (h.2.2.2.1 n).2.2.symm).trans q1, (g8.lo g1 f1 (fun j _ j2 => f9 j (by omega))).cg (fun j hj => ?_), f8.cg (fun j hj => ?_)⟩
              · have : j = 0 := by omega
                rw [this, if_pos rfl]
              · rw [if_neg (by omega), show j + 1 - 1 = j by omega]
end LV
end
section
/-! The reference: look. -/
section LW
variable {G : mG} {d a N g T K : Nat} {M : mM} {nm : Int → Prop} {co : Int}
/-- a tree has been looked at: a fault was told, or its names are known -/
def lkQ (co : Int) (M : mM) (a g N T K n e : Nat) (r : Int) (M3 : mM) : Prop := LO M a g N T K M3 ∧ (r = 0 ∨ r = 1) ∧ (mI M3 a 16 ≠ 0 ∨ (mI M3 a 16 = 0 ∧ (∃ f, Ty (nmr co M g) (tn M g) M3 g f 0 n e (fun _ => r)) ∧ ∀ j, (j < n ∨ e ≤ j) → va M3 g j = va M g j))
theorem LO.refl (h : Lc M a g N T K) : LO M a g N T K M := by
  have w := h.2.1.1.1
  exact ⟨Mv.refl h.1 w (fun q hq => w.lt (lkP_in h.2.2.2.2.2.1 hq)), h, fun _ _ _ => rfl, fun _ => ⟨rfl, rfl, rfl⟩, rfl⟩
theorem s_MM_look {n e : Nat} (hco : i32 co) (hnm : ∀ v, nm v → 0 ≤ v ∧ v < N) (h : Lc M a g N T K) (ht : To nm M g 0 n e) (he : e ≤ T) : Ci G y_MM_look (d + 6) [vr a, vi n, vi co] M (lkQ co M a g N T K n e) := by
  obtain ⟨hO, hw, -, -, -, hg, -, hT⟩ := id h
  have w := hw.1.1
  obtain ⟨f, ht⟩ := ht
  have hlt := ht.lt
  have r19 : ∀ {M3 : mM}, Wd M3 a → mR M3 a 19 = a + 93 := fun w => w.1.2.2.2.2.1.2.2.2.2.1
  have h0 := LO.refl h
  refine k_MM_look hO (i32s (by omega) (by omega)) hco ?_
  rw [r20w w]
  refine ⟨w.1.1, (w.nu n95).1, fun M3 e3 => ?_⟩
  have b95 : 0 ≤ ln M (a + 95) := (w.nu n95).2.2.2.1.1
  obtain ⟨m3, l3, -, -⟩ := mv_set hO w n95 (v := 0) (by omega) b95 e3
  have k3 := kp.mk h0 m3 (fun _ z => z)
  have w3 := k3.1.2.1.2.1.1.1
  rw [r19 w3]
  refine ⟨(w3.nu n93).1, fun M6 e6 => ?_⟩
  have b93 : 0 ≤ ln M3 (a + 93) := (w3.nu n93).2.2.2.1.1
  obtain ⟨m6, l6, -, -⟩ := mv_set m3.1 w3 n93 (v := 0) (by omega) b93 e6
  have w6 := m6.2.1
  have f6 := (m6.fld w3 (fun q hq => by rw [hq]; exact n93) (fun hq => hq)).1
  have s7 := m6.lst (tL_in (a := a) (q := g + 7) hg (by omega)) (by omega)
  have L6 : LO M a g N T K M6 := k3.1.step m6 (fun q hq => Or.inl hq) (fun x hx => hx.elim) s7.1 (fun i _ _ => by rw [f6])
  have v6 : ∀ k, va M6 g k = va M g k := fun k => (s7.2.1 k).trans (k3.2.2.1 k)
  have x6 : ln M6 (a + 95) = ((0 : Nat) : Int) := by rw [(m6.lst n95 (by omega)).1, l3]; rfl
  rw [r20w w6]
  refine ⟨(w6.nu n95).1, (s_lk_push (i32s (by omega) (by omega)) L6 x6 (by omega)).mono (fun M7 h7 => ?_)⟩
  obtain ⟨o7, k7, l7, t7, v7⟩ := h7
  have w7 := k7.1.2.1.2.1.1.1
  rw [r20w w7]
  refine ⟨o7, w7.1.1, (w7.nu n95).1, (s_lk_push (i32s (by omega) (by omega)) k7.1 l7 (by omega)).mono (fun M8 h8 => ?_)⟩
  obtain ⟨o8, k8, l8, t8, v8⟩ := h8
  have w8 := k8.1.2.1.2.1.1.1
  have k68 := k7.trans k8
  have va8 : ∀ k, va M8 g k = va M g k := fun k => (k68.2.2.1 k).trans (v6 k)
  refine ⟨o8, ?_⟩
  by_cases z : mI M8 a 16 = 0
  · refine s_look_run (nm := nm) hco w hnm (fun M3 h3 z3 => ⟨h3, Or.inl rfl, Or.inl z3⟩) f 0 n e 0 0 1 M8 rfl (ht.lo h0 k8.1 (fun k _ _ => va8 k)) he k8.1 z l8 (fun j hj => ?_) (by rw [k68.2.2.2.1, l6]; rfl) (by omega) (by omega) (fun M9 h9 => ?_)
    · have : j = 0 := by omega
      subst this
      exact ⟨(t8 0 (by omega)).trans v7, v8⟩
    · obtain ⟨g1, g2, g3, g4, g5, g6, ⟨u, gu, g7, g8⟩, g9⟩ := h9
      have w9 := g1.2.1.2.1.1.1
      have g3' : mI M9 (a + 95) 1 = 0 := g3
      refine k_MM_look_32 g1.2.1.1 hco ?_
      rw [r20w w9, r19 w9, g3', g2]
      refine ⟨w9.1.1, (w9.nu n95).1, fun _ => ⟨fun _ => ⟨(w9.nu n93).1, (s_MN_last g1.2.1.1 (w9.nu n93) (by rw [g5]; omega)).mono (fun x M10 h10 => ?_)⟩, fun q => absurd rfl q⟩, fun q => absurd (Or.inl (by omega)) q⟩
      obtain ⟨e10, hx⟩ := h10
      subst e10
      refine ⟨by rw [hx]; exact (g1.2.1.1 _ _).1, g1.2.1.1, fun v hv => ⟨g1, by split at hv <;> omega, Or.inr ⟨g2, ⟨f, g8.cg (fun j hj => ?_)⟩, fun j hj => (g9 j hj).trans (va8 j)⟩⟩⟩
      have u0 := gu 0 (by omega)
      have u1 := g7 0 (by omega)
      rw [g5] at hx
      have hx' : x = u 0 := hx.trans u0
      rw [show j = 0 by omega]
      split at hv <;> omega
  · refine k_MM_look_32 o8 hco ?_
    rw [r20w w8]
    exact ⟨w8.1.1, (w8.nu n95).1, fun _ => ⟨fun q => absurd q z, fun _ => ⟨k8.1, Or.inl rfl, Or.inl z⟩⟩, fun q => absurd (Or.inr z) q⟩
end LW
end
