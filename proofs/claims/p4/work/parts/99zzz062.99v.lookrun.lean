/-! The reference: looking at a tree. -/
section LV
variable {G : mG} {d a N g T K : Nat} {M M2 M3 M4 : mM} {nm : Int → Prop} {Q : Int → mM → Prop} {co : Int}
theorem r20w (w : Wd M a) : mR M a 20 = a + 95 := w.1.2.2.2.2.1.2.2.2.2.2.1
/-- a node is looked at, and the loop goes on or ends -/
theorem s_lkA {nm' : Int → Prop} {n k L : Nat} {u : Nat → Int} (hco : i32 co) (hw0 : Wd M a) (hF : ∀ M3, LO M a g N T K M3 → mI M3 a 16 ≠ 0 → Q 0 M3) (h : LO M a g N T K M4) (hn : n < T) (hk : pks nm' M4 g T n k) (hv : so M4 g n = 1 → 0 ≤ va M4 g n ∧ va M4 g n < N) (hL : ln M4 (a + 93) = (L + k : Nat)) (hb : L + k ≤ 65000) (hu : ∀ j, j < k → nt M4 (a + 93) (L + j) = u j) (h01 : ∀ j, j < k → u j = 0 ∨ u j = 1) (hK : ∀ M5, laQ co M M4 a g N T K n L k u M5 → mI M5 a 16 = 0 → h_MM_look_32 G (d + 5) a co M5 Q) : Cv G y_MM_lookAt (d + 5) [vr a, vi n, vi co] M4 (fun M5 => mOk M5 ∧ h_MM_look_32 G (d + 5) a co M5 Q) := by
  refine (s_MM_lookAt hco hw0 h hn hk hv hL hb hu h01).mono (fun M5 h5 => ⟨h5.1, ?_⟩)
  obtain ⟨o5, h5⟩ := h5
  by_cases z : mI M5 a 16 = 0
  · exact hK M5 h5 z
  · have w5 := h5.1.2.1.2.1.1.1
    refine k_MM_look_32 o5 hco ?_
    rw [r20w w5]
    exact ⟨w5.1.1, (w5.nu n95).1, fun _ => ⟨fun q => absurd q z, fun _ => hF M5 h5.1 z⟩, fun q => absurd (Or.inr z) q⟩
/-- a pair is taken from the pile -/
theorem s_lk2 {n X : Nat} {s : Int} (hco : i32 co) (h : LO M a g N T K M2) (h16 : mI M2 a 16 = 0) (hn : n < T) (hl : ln M2 (a + 95) = (X + 2 : Nat)) (hX : X ≤ 64000) (e0 : nt M2 (a + 95) X = (n : Int)) (e1 : nt M2 (a + 95) (X + 1) = s)
    (hA : (s = 1 ∨ ¬ (0 ≤ fp M2 g n)) → ∀ M5, kp M a g N T K M2 M5 → ln M5 (a + 95) = (X : Int) → (∀ j, nt M5 (a + 95) j = nt M2 (a + 95) j) → Cv G y_MM_lookAt (d + 5) [vr a, vi n, vi co] M5 (fun M6 => mOk M6 ∧ h_MM_look_32 G (d + 5) a co M6 Q))
    (hB : ¬ (s = 1 ∨ ¬ (0 ≤ fp M2 g n)) → ∀ M6, kp M a g N T K M2 M6 → ln M6 (a + 95) = (X + 2 : Nat) → (∀ j, j < X → nt M6 (a + 95) j = nt M2 (a + 95) j) → nt M6 (a + 95) X = (n : Int) → nt M6 (a + 95) (X + 1) = 1 → h_MM_look_126 G (d + 5) a co (fp M2 g n) (X + 2 : Nat) M6 Q) : h_MM_look_32 G (d + 5) a co M2 Q := by
  obtain ⟨hO, hw, -, -, -, hg, -, hT⟩ := id h.2.1
  have w := hw.1.1
  have hl' : mI M2 (a + 95) 1 = (X + 2 : Nat) := hl
  refine k_MM_look_32 hO hco ?_
  rw [r20w w, hl', h16]
  refine ⟨w.1.1, (w.nu n95).1, fun q => by omega, fun _ => (s_lk_pop (X := X + 1) h hl).mono (fun x M4 h4 => ?_)⟩
  obtain ⟨i4, o4, k4, l4, t4, v4⟩ := h4
  have w4 := k4.1.2.1.2.1.1.1
  rw [r20w w4]
  refine ⟨i4, o4, w4.1.1, (w4.nu n95).1, (s_lk_pop (X := X) k4.1 l4).mono (fun y M5 h5 => ?_)⟩
  obtain ⟨i5, o5, k5, l5, t5, v5⟩ := h5
  have kk := k4.trans k5
  obtain ⟨-, hw5, -, hd5, h105, -, -, -⟩ := id kk.1.2.1
  have w5 := hw5.1.1
  have gp := w5.gp hg
  have r4 : mR M5 g 4 = g + 9 := gp.2.1.2.2.2.2.1
  have u9 := w5.nu (tL_in (a := a) (q := g + 9) hg (by omega))
  have l9 := hd5 (g + 9) (by omega)
  have hy : y = (n : Int) := by rw [v5, t4, e0]
  have hx : x = s := by rw [v4, e1]
  subst hy
  subst hx
  rw [h105, r4]
  refine ⟨i5, o5, w5.1.1, gp.1, u9.1, (s_MN_at o5 u9 (by omega)).mono (fun z M6 e6 => ?_)⟩
  obtain ⟨e6, hz⟩ := e6
  subst e6
  have hz' : z = fp M2 g n := by
    have b1 := (kk.1.2.2.2.1 n).2.1
    have b2 := (h.2.2.2.1 n).2.1
    exact hz.trans (b1.trans b2.symm)
  refine ⟨by rw [hz]; exact (o5 _ _).1, o5, ?_⟩
  rw [hz']
  refine ⟨fun q => ⟨w5.1.1, hA q M6 kk l5 (fun j => (t5 j).trans (t4 j))⟩, fun q => ?_⟩
  rw [r20w w5]
  refine ⟨w5.1.1, (w5.nu n95).1, (s_lk_push (i32s (by omega) (by omega)) kk.1 l5 (by omega)).mono (fun M7 h7 => ?_)⟩
  obtain ⟨o7, k7, l7, t7, v7⟩ := h7
  have w7 := k7.1.2.1.2.1.1.1
  rw [r20w w7]
  refine ⟨o7, w7.1.1, (w7.nu n95).1, (s_lk_push (i32s (by omega) (by omega)) k7.1 l7 (by omega)).mono (fun M8 h8 => ?_)⟩
  obtain ⟨o8, k8, l8, t8, v8⟩ := h8
  have w8 := k8.1.2.1.2.1.1.1
  have l8' : mI M8 (a + 95) 1 = (X + 2 : Nat) := l8
  rw [r20w w8, l8']
  exact ⟨o8, w8.1.1, (w8.nu n95).1, hB q M8 (kk.trans (k7.trans k8)) l8 (fun j hj => by rw [t8 j (by omega), t7 j hj, t5, t4]) (by rw [t8 X (by omega), v7]) v8⟩
/-- trees have been looked at -/
def lkR (co : Int) (M : mM) (a g N T K Lk L kk f md n e : Nat) (M2 M3 : mM) : Prop := LO M a g N T K M3 ∧ mI M3 a 16 = 0 ∧ ln M3 (a + 95) = (Lk : Int) ∧ (∀ j, j < Lk → nt M3 (a + 95) j = nt M2 (a + 95) j) ∧ ln M3 (a + 93) = (L + kk : Nat) ∧ (∀ j, j < L → nt M3 (a + 93) j = nt M2 (a + 93) j) ∧ (∃ u : Nat → Int, (∀ j, j < kk → nt M3 (a + 93) (L + j) = u j) ∧ (∀ j, j < kk → u j = 0 ∨ u j = 1) ∧ Ty (nmr co M g) (tn M g) M3 g f md n e u) ∧ ∀ j, (j < n ∨ e ≤ j) → va M3 g j = va M2 g j
theorem s_look_run (hco : i32 co) (hw0 : Wd M a) (hnm : ∀ v, nm v → 0 ≤ v ∧ v < N) (hF : ∀ M3, LO M a g N T K M3 → mI M3 a 16 ≠ 0 → Q 0 M3) : ∀ (f md n e Lk L kk : Nat) (M2 : mM), kk = md + (1 - md) → Tn nm M2 g f md n e → e ≤ T → LO M a g N T K M2 → mI M2 a 16 = 0 → ln M2 (a + 95) = (Lk + 2 * kk : Nat) → (∀ j, j < kk → nt M2 (a + 95) (Lk + 2 * (kk - 1 - j)) = ci M g n j ∧ nt M2 (a + 95) (Lk + 2 * (kk - 1 - j) + 1) = 0) → ln M2 (a + 93) = (L : Int) → L ≤ n → Lk ≤ 2 * (n + (T - e)) → (∀ M3, lkR co M a g N T K Lk L kk f md n e M2 M3 → h_MM_look_32 G (d + 5) a co M3 Q) → h_MM_look_32 G (d + 5) a co M2 Q := by
  intro f
  induction f with
  | zero => intro md n e Lk L kk M2 _ ht; exact ht.elim
  | succ f ih =>
    intro md n e Lk L kk M2 hkk ht he h h16 lk pk lL hLn hLk hQ
    have hT := h.2.1.2.2.2.2.2.2.2
    have ht' := ht
    rw [Tn] at ht'
    have hlt := ht.lt
    by_cases c0 : md = 0
    · subst c0
      have kk1 : kk = 1 := by omega
      subst kk1
      rw [if_pos rfl] at ht'
      obtain ⟨p0, p1⟩ := pk 0 (by omega)
      rw [show Lk + 2 * (1 - 1 - 0) = Lk by omega] at p0 p1
      have pn : nt M2 (a + 95) Lk = (n : Int) := p0
      obtain ⟨-, ht'⟩ := ht'
      rcases ht' with ⟨b1, b2, b3, b4, b5⟩ | ⟨k, b1, b2, b3, b4⟩
      · -- a leaf
        refine s_lk2 (X := Lk) hco h h16 (by omega) lk (by omega) pn p1 (fun _ M5 k5 l5 t5 => ?_) (fun q => absurd (Or.inr (by omega)) q)
        have so5 : so M5 g n = so M2 g n := (k5.1.2.2.2.1 n).1.trans (h.2.2.2.1 n).1.symm
        have fp5 : fp M5 g n = fp M2 g n := (k5.1.2.2.2.1 n).2.1.trans (h.2.2.2.1 n).2.1.symm
        have va5 := k5.2.2.1
        refine s_lkA (nm' := nm) (k := 0) (L := L) (u := fun _ => 0) hco hw0 hF k5.1 (by omega) (Or.inl ⟨rfl, by rw [fp5]; exact b2, by rw [so5]; exact b3⟩) (fun z => by rw [va5]; exact hnm _ (b5 (so5.symm.trans z))) (by rw [k5.2.2.2.1, lL]; omega) (by omega) (fun j _ => by omega) (fun j _ => by omega) (fun M6 h6 z6 => hQ M6 ?_)
        obtain ⟨g1, g2, g3, g4, g5, g6⟩ := h6
        have so6 : so M6 g n = so M2 g n := (g1.2.2.2.1 n).1.trans (h.2.2.2.1 n).1.symm
        have fp6 : fp M6 g n = fp M2 g n := (g1.2.2.2.1 n).2.1.trans (h.2.2.2.1 n).2.1.symm
        rcases g6 with z | ⟨z1, z2, z3, z4⟩
        · exact absurd z6 z
        · rw [so5] at z2 z4
          refine ⟨g1, z6, by rw [g2.1]; exact l5, fun j _ => by rw [g2.2.1, t5], g3, fun j hj => by rw [g4 j hj, k5.2.2.2.2.1], ⟨fun _ => nt M6 (a + 93) L, fun j hj => by rw [show L + j = L by omega], fun _ _ => g5, ?_⟩, fun j hj => ?_⟩
          · rw [Ty, if_pos rfl]
            refine ⟨hlt, g5, Or.inl ⟨b1, by rw [fp6]; exact b2, by rw [so6]; exact b3, fun y => ?_, fun y => z2 (so6.symm.trans y), by rw [so6]; exact z4⟩⟩
            rw [so6] at y
            rw [z3 n (Or.inr (by rw [so5, y]; decide)), va5]
            exact b4 y
          · rw [z3 j (Or.inl (by omega)), va5]
      · -- a node with parts
        have hge := b4.ge
        have so1 : so M2 g n ≠ 1 := fun z => by unfold ari at b2; omega
        refine s_lk2 (X := Lk) hco h h16 (by omega) lk (by omega) pn p1 (fun q => by omega) (fun _ M6 k6 l6 t6 v6 w6 => ?_)
        rw [b3]
        have b46 : Tn nm M6 g f k (n + 1) e := b4.lo h k6.1 (fun j _ _ => k6.2.2.1 j)
        refine s_look126 (X := Lk + 2) hco (by omega) k f (n + 1) e (Lk + 2) M6 b1 b46 he k6.1 l6 (by omega) (fun M7 k7 l7 t7 v7 => ?_)
        have w7 := k7.1.2.1.2.1.1.1
        refine k_MM_look_126 k7.1.2.1.1 hco (i32s (by omega) (by omega)) (i32s (by omega) (by omega)) ⟨fun _ => ⟨w7.1.1, (s_MM_turn (d := d + 4) k7.1.2.1.1 w7 l7 (by omega) b1).mono (fun M8 h8 => ?_)⟩, fun q => absurd (by decide) q⟩
        obtain ⟨m8, l8, t8, u8⟩ := h8
        have k8 := kp.mk k7.1 m8 (fun _ z => z)
        have k68 := k6.trans (k7.trans k8)
        refine ⟨m8.1, ?_⟩
        have b48 : Tn nm M8 g f k (n + 1) e := b4.lo h k68.1 (fun j _ _ => k68.2.2.1 j)
        refine ih k (n + 1) e (Lk + 2) L k M8 (by omega) b48 he k68.1 (by rw [k68.2.1]; exact h16) (by rw [l8, l7]) (fun j hj => ?_) (by rw [k68.2.2.2.1]; exact lL) (by omega) (by omega) (fun M9 h9 => ?_)
        · refine ⟨?_, ?_⟩
          · rw [t8 (k - 1 - j) (by omega), show k - 1 - (k - 1 - j) = j by omega]
            exact (v7 j hj).1
          · rw [u8 _ (fun i hi => by omega)]
            exact (v7 (k - 1 - j) (by omega)).2
        · obtain ⟨g1, g2, g3, g4, g5, g6, ⟨c, gu, g7, g8⟩, g9⟩ := h9
          have low : ∀ j, j < Lk + 2 → nt M9 (a + 95) j = nt M6 (a + 95) j := fun j hj => by rw [g4 j hj, u8 j (fun i hi => by omega), t7 j hj]
          refine s_lk2 (n := n) (X := Lk) (s := 1) hco g1 g2 (by omega) g3 (by omega) (by rw [low Lk (by omega)]; exact v6) (by rw [low (Lk + 1) (by omega)]; exact w6) (fun _ M10 k10 l10 t10 => ?_) (fun q => absurd (Or.inl rfl) q)
          have so10 : so M10 g n = so M2 g n := (k10.1.2.2.2.1 n).1.trans (h.2.2.2.1 n).1.symm
          have fp10 : fp M10 g n = fp M2 g n := (k10.1.2.2.2.1 n).2.1.trans (h.2.2.2.1 n).2.1.symm
          refine s_lkA (nm' := nmr co M g) (k := k) (L := L) (u := c) hco hw0 hF k10.1 (by omega) (Or.inr ⟨b1, by omega, by rw [so10]; exact b2, by rw [fp10]; exact b3, f, e, he, (g8.lo g1 k10.1 (fun j _ _ => k10.2.2.1 j)).tn⟩) (fun z => absurd (so10.symm.trans z) so1) (by rw [k10.2.2.2.1]; exact g5) (by omega) (fun j hj => by rw [k10.2.2.2.2.1]; exact gu j hj) g7 (fun M11 h11 z11 => hQ M11 ?_)
          obtain ⟨f1, f2, f3, f4, f5, f6⟩ := h11
          have so11 : so M11 g n = so M2 g n := (f1.2.2.2.1 n).1.trans (h.2.2.2.1 n).1.symm
          have fp11 : fp M11 g n = fp M2 g n := (f1.2.2.2.1 n).2.1.trans (h.2.2.2.1 n).2.1.symm
          rcases f6 with z | ⟨z1, z2, z3, z4⟩
          · exact absurd z11 z
          · have va11 : ∀ j, va M11 g j = va M9 g j := fun j => (z3 j (Or.inr (by rw [so10]; exact so1))).trans (k10.2.2.1 j)
            refine ⟨f1, z11, by rw [f2.1]; exact l10, fun j hj => by rw [f2.2.1, t10, low j (by omega), t6 j hj], f3, fun j hj => by rw [f4 j hj, k10.2.2.2.2.1, g6 j hj, k68.2.2.2.2.1], ⟨fun _ => nt M11 (a + 93) L, fun j hj => by rw [show L + j = L by omega], fun _ _ => f5, ?_⟩, fun j hj => ?_⟩
            · rw [Ty, if_pos rfl]
              exact ⟨hlt, f5, Or.inr ⟨k, c, b1, by rw [so11]; exact b2, by rw [fp11]; exact b3, g8.lo g1 f1 (fun j _ _ => va11 j), by rw [so11, ← so10]; exact z4⟩⟩
            · rw [va11, g9 j (by omega), k68.2.2.1]
    · rw [if_neg c0] at ht'
      have kkm : kk = md := by omega
      subst kkm
      by_cases c1 : kk = 1
      · subst c1
        rw [if_pos rfl] at ht'
        refine ih 0 n e Lk L 1 M2 (by omega) ht'.2 he h h16 lk pk lL hLn hLk (fun M3 h3 => hQ M3 ?_)
        obtain ⟨g1, g2, g3, g4, g5, g6, ⟨u, gu, g7, g8⟩, g9⟩ := h3
        refine ⟨g1, g2, g3, g4, g5, g6, ⟨u, gu, g7, ?_⟩, g9⟩
        rw [Ty, if_neg (by omega), if_pos rfl]
        exact ⟨((g1.2.2.2.1 n).2.2.trans (h.2.2.2.1 n).2.2.symm).trans ht'.1, g8⟩
      · rw [if_neg c1] at ht'
        obtain ⟨m, q1, q2, q3⟩ := ht'
        have l1 := q2.lt
        have l2 := q3.ge
        have hnp : np M g n = (m : Int) := (h.2.2.2.1 n).2.2.symm.trans q1
        refine ih 0 n m (Lk + 2 * (kk - 1)) L 1 M2 (by omega) q2 (by omega) h h16 (by rw [lk]; omega) (fun j hj => ?_) lL hLn (by omega) (fun M3 h3 => ?_)
        · have : j = 0 := by omega
          subst this
          have := pk 0 (by omega)
          rw [show Lk + 2 * (kk - 1) + 2 * (1 - 1 - 0) = Lk + 2 * (kk - 1 - 0) by omega]
          exact this
        · obtain ⟨g1, g2, g3, g4, g5, g6, ⟨u, gu, g7, g8⟩, g9⟩ := h3
          refine ih (kk - 1) m e Lk (L + 1) (kk - 1) M3 (by omega) (q3.lo h g1 (fun j j1 _ => g9 j (by omega))) he g1 g2 g3 (fun j hj => ?_) g5 (by omega) (by omega) (fun M4 h4 => hQ M4 ?_)
          · have := pk (j + 1) (by omega)
            rw [ci_succ hnp, show Lk + 2 * (kk - 1 - (j + 1)) = Lk + 2 * (kk - 1 - 1 - j) by omega] at this
            rw [g4 _ (by omega), g4 _ (by omega)]
            exact this
          · obtain ⟨f1, f2, f3, f4, f5, f6, ⟨v, fu, f7, f8⟩, f9⟩ := h4
            refine ⟨f1, f2, f3, fun j hj => by rw [f4 j hj, g4 j (by omega)], by rw [f5]; omega, fun j hj => by rw [f6 j (by omega), g6 j hj], ⟨fun j => if j = 0 then u 0 else v (j - 1), fun j hj => ?_, fun j hj => ?_, ?_⟩, fun j hj => by rw [f9 j (by omega), g9 j (by omega)]⟩
            · show nt M4 (a + 93) (L + j) = if j = 0 then u 0 else v (j - 1)
              by_cases z : j = 0
              · rw [if_pos z, z, f6 (L + 0) (by omega)]; exact gu 0 (by omega)
              · rw [if_neg z, ← fu (j - 1) (by omega), show L + 1 + (j - 1) = L + j by omega]
            · show (if j = 0 then u 0 else v (j - 1)) = 0 ∨ (if j = 0 then u 0 else v (j - 1)) = 1
              by_cases z : j = 0
              · rw [if_pos z]; exact g7 0 (by omega)
              · rw [if_neg z]; exact f7 (j - 1) (by omega)
            · rw [Ty, if_neg (by omega), if_neg (by omega)]
              refine ⟨m, ((f1.2.2.2.1 n).2.2.trans (h.2.2.2.1 n).2.2.symm).trans q1, (g8.lo g1 f1 (fun j _ j2 => f9 j (by omega))).cg (fun j hj => ?_), f8.cg (fun j hj => ?_)⟩
              · have : j = 0 := by omega
                rw [this, if_pos rfl]
              · rw [if_neg (by omega), show j + 1 - 1 = j by omega]
end LV
