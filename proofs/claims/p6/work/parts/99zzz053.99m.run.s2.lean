section
/-! The reference: looking at a node, to the end. -/
section LB
variable {G : mG} {d a N g T K n L : Nat} {M M2 : mM}
/-- a sum -/
def su (u : Nat → Int) : Nat → Int
  | 0 => 0
  | j + 1 => su u j + u j
theorem su_b {u : Nat → Int} : ∀ {k : Nat}, (∀ j, j < k → u j = 0 ∨ u j = 1) → 0 ≤ su u k ∧ su u k ≤ k ∧ (su u k = k → ∀ j, j < k → u j = 1) ∧ (su u k = 0 → ∀ j, j < k → u j = 0)
  | 0, _ => ⟨by rw [su]; omega, by rw [su]; omega, fun _ j hj => by omega, fun _ j hj => by omega⟩
  | k + 1, h => by
    obtain ⟨a1, a2, a3, a4⟩ := su_b (k := k) (fun j hj => h j (by omega))
    have := h k (by omega)
    rw [su]
    refine ⟨by omega, by omega, fun e j hj => ?_, fun e j hj => ?_⟩
    · by_cases z : j = k
      · rw [z]; omega
      · exact a3 (by omega) j (by omega)
    · by_cases z : j = k
      · rw [z]; omega
      · exact a4 (by omega) j (by omega)
theorem s_MM_lookAt {nm : Int → Prop} {k : Nat} {u : Nat → Int} {co : Int} (hco : i32 co) (hw0 : Wd M a) (h : LO M a g N T K M2) (hn : n < T) (hk : pks nm M2 g T n k) (hv : so M2 g n = 1 → 0 ≤ va M2 g n ∧ va M2 g n < N) (hL : ln M2 (a + 93) = (L + k : Nat)) (hb : L + k ≤ 65000) (hu : ∀ j, j < k → nt M2 (a + 93) (L + j) = u j) (h01 : ∀ j, j < k → u j = 0 ∨ u j = 1) : Cv G y_MM_lookAt (d + 5) [vr a, vi n, vi co] M2 (fun M5 => mOk M5 ∧ laQ co M M2 a g N T K n L k u M5) := by
  refine Cv.mono (Q := laQ co M M2 a g N T K n L k u) ?_ (fun M5 h5 => ⟨h5.1.2.1.1, h5⟩)
  obtain ⟨hO, hx, -, hd, h10, hg, -, hT⟩ := id h.2.1
  have w := hx.1.1
  have gp := w.gp hg
  have r0 : mR M2 g 0 = g + 1 := gp.2.1.1
  have r1 : mR M2 g 1 = g + 3 := gp.2.1.2.1
  have r19 : mR M2 a 19 = a + 93 := w.1.2.2.2.2.1.2.2.2.2.1
  have u1 := w.nu (tL_in (a := a) (q := g + 1) hg (by omega))
  have u3 := w.nu (tL_in (a := a) (q := g + 3) hg (by omega))
  have l1 := hd (g + 1) (by omega)
  have l3 := hd (g + 3) (by omega)
  have l93 : mI M2 (a + 93) 1 = (L + k : Nat) := hL
  have rd : ∀ {p j : Nat} {Q : Int → mM → Prop}, p ∈ nums a → (j : Int) < ln M2 p → (∀ z, z = nt M2 p j → i32 z → Q z M2) → Ci G y_MN_at (d + 4) [vr p, vi j] M2 Q := fun hp hk hQ => by
    refine (s_MN_at hO (w.nu hp) hk).mono (fun z M1 e1 => ?_)
    obtain ⟨e1, hz⟩ := e1
    subst e1
    exact hQ z hz (by rw [hz]; exact (hO _ _).1)
  have ok : ∀ (x : Int), (x = 0 ∨ x = 1) → so M2 g n ≠ 1 → tyn (tn M g) (so M2 g n) (va M2 g n) k u x → h_MM_lookAt_386 G (d + 4) a L x M2 (laQ co M M2 a g N T K n L k u) := fun x hx hs ht => la386 hx h sameN.refl sameN.refl (Or.inr ⟨rfl, fun z => absurd z hs, fun _ _ => rfl, ht⟩) hL hb
  have flt : ∀ (p x : Int), i32 p → (x = 0 ∨ x = 1) → Cv G y_MM_stop (d + 4) [vr a, vi 3, vi p] M2 (fun M4 => mOk M4 ∧ h_MM_lookAt_386 G (d + 4) a L x M4 (laQ co M M2 a g N T K n L k u)) := fun p x hp hx => by
    refine (s_MM_stop (i32s (by omega) (by omega)) hp hO w).mono (fun M4 h4 => ?_)
    obtain ⟨m4, f1, f2, f3⟩ := h4
    have s7 := m4.lst (tL_in (a := a) (q := g + 7) hg (by omega)) (fun z => z)
    exact ⟨m4.1, la386 hx (h.step m4 (fun q hq => hq.elim) (fun x hx => hx) s7.1 f3) (m4.lst n93 (fun z => z)) (m4.lst n95 (fun z => z)) (Or.inl (by rw [f1]; decide)) hL hb⟩
  refine k_MM_lookAt hO (i32s (by omega) (by omega)) hco ?_
  rw [h10, r0]
  refine ⟨w.1.1, gp.1, u1.1, rd (tL_in hg (by omega)) (by omega) (fun s es is => ⟨is, hO, w.1.1, ?_⟩)⟩
  rw [h10, r1]
  refine ⟨gp.1, u3.1, rd (tL_in hg (by omega)) (by omega) (fun p ep ip => ⟨ip, hO, w.1.1, (s_MM_parts (d := d + 3) h hn hk).mono (fun r M3 e3 => ?_)⟩)⟩
  obtain ⟨e3, hr⟩ := e3
  subst e3
  subst hr
  have es' : s = so M3 g n := es
  rw [← es'] at hv ok
  have hkb : k ≤ 30000 := by rcases hk with q | q <;> omega
  rw [r19, l93, show ((L + k : Nat) : Int) - (k : Int) = (L : Int) by omega]
  refine ⟨i32s (by omega) (by omega), hO, w.1.1, (w.nu n93).1, ?_⟩
  suffices H : ∀ (c j : Nat), c + j = k → h_MM_lookAt_51 G (d + 4) a n co s p k L (su u j) (L + j : Nat) M3 (laQ co M M3 a g N T K n L k u) by
    have := H k 0 (by omega)
    rw [show L + 0 = L by omega] at this
    exact this
  intro c
  induction c with
  | succ c ih =>
    intro j hj
    have sb := su_b (k := j) (fun i hi => h01 i (by omega))
    refine k_MM_lookAt_51 hO (i32s (by omega) (by omega)) hco is ip (i32s (by omega) (by omega)) (i32s (by omega) (by omega)) (i32s (by omega) (by omega)) ⟨by omega, by omega⟩ ?_
    rw [r19, l93]
    refine ⟨w.1.1, (w.nu n93).1, fun q => by omega, fun _ => rd n93 (by rw [hL]; omega) (fun z hz iz => ⟨iz, hO, ?_⟩)⟩
    rw [hu j (by omega)] at hz
    have := ih (j + 1) (by omega)
    rw [show ((L + (j + 1) : Nat) : Int) = ((L + j : Nat) : Int) + 1 by omega, su, ← hz] at this
    exact this
  | zero =>
    intro j hj
    have hjk : j = k := by omega
    subst hjk
    obtain ⟨sb1, sb2, sb3, sb4⟩ := su_b (k := j) h01
    have ny : ∀ {t : Int}, s ≠ 1 → s ≠ 2 → ¬ (s = 12 ∨ s = 13) → tyr s j u t → tyn (tn M g) s (va M3 g n) j u t := fun y1 y2 y3 y4 => by
      unfold tyn
      rw [if_neg y1, if_neg y2, if_neg y3]
      exact y4
    have hk2 : s = 18 ∨ s = 23 → j = 2 := fun y => by
      rcases hk with ⟨-, -, z⟩ | ⟨-, -, z, -⟩
      · omega
      · unfold ari at z; omega
    refine k_MM_lookAt_51 hO (i32s (by omega) (by omega)) hco is ip (i32s (by omega) (by omega)) (i32s (by omega) (by omega)) (i32s (by omega) (by omega)) ⟨by omega, by omega⟩ ?_
    rw [r19, l93]
    refine ⟨w.1.1, (w.nu n93).1, fun _ => ⟨fun q1 => ?_, fun q1 => ⟨fun q2 => ⟨fun z => absurd z (by decide), fun _ => ok 0 (Or.inl rfl) q1 (by unfold tyn; rw [if_neg q1, if_pos q2])⟩, fun q2 => ⟨fun q3 => ⟨fun z => absurd z (by decide), fun _ => ok 1 (Or.inr rfl) q1 (by unfold tyn; rw [if_neg q1, if_neg q2, if_pos q3])⟩, fun q3 => ⟨fun q4 v hv => ⟨fun _ => flt p 1 ip (Or.inr rfl), fun z => ok 1 (Or.inr rfl) q1 (ny q1 q2 q3 ?_)⟩, fun q4 => ⟨fun q5 v hv => ⟨fun _ => flt p 1 ip (Or.inr rfl), fun z => ok 1 (Or.inr rfl) q1 (ny q1 q2 q3 ?_)⟩, fun q5 => ⟨fun q6 => ?_, fun q6 v hv => k_MM_isComparison hO is (fun v7 h7 => ⟨i32s (by split at h7 <;> omega) (by split at h7 <;> omega), hO, fun x hx => ⟨fun _ => ⟨w.1.1, flt p x ip (by split at hx <;> omega)⟩, fun z => ok x (by split at hx <;> omega) q1 (ny q1 q2 q3 ?_)⟩⟩)⟩⟩⟩⟩⟩⟩, fun q => absurd (Int.le_refl _) q⟩
    · refine (s_MM_lookUp (d := d) hco hw0 h hn (hv q1)).mono (fun x M4 h4 => ?_)
      obtain ⟨h4, x01, t93, t95, t⟩ := h4
      refine ⟨i32s (by omega) (by omega), h4.2.1.1, fun z => absurd z (by decide), fun _ => la386 x01 h4 t93 t95 ?_ hL hb⟩
      rcases t with ⟨t, -⟩ | ⟨t1, ⟨t2, t4⟩, t3⟩
      · exact Or.inl (by rw [t]; decide)
      · refine Or.inr ⟨t1, fun _ => t2, fun i hi => t3 i (by rcases hi with z | z; exact z; exact absurd (es'.symm.trans q1) z), ?_⟩
        unfold tyn
        rw [← es', if_pos q1]
        exact t4
    · have j2 := hk2 q4
      have sm1 : su u j ≠ 1 := fun y => by rw [if_pos y] at hv; exact z hv
      subst j2
      have u0 := h01 0 (by omega)
      have u1 := h01 1 (by omega)
      have : su u 2 = 0 + u 0 + u 1 := rfl
      unfold tyr
      rw [if_neg (by omega), if_pos q4]
      exact ⟨by omega, rfl⟩
    · unfold tyr
      rw [if_pos q5]
      refine ⟨sb3 ?_, rfl⟩
      by_cases y : su u j = (j : Int)
      · exact y
      · rw [if_neg y] at hv; exact absurd hv z
    · have k3 : j = 3 := by
        rcases hk with ⟨-, -, z⟩ | ⟨-, -, z, -⟩
        · omega
        · unfold ari at z; omega
      subst k3
      have g334 : ∀ (b : Int), (b = 0 ∨ b = 1) → (b = 1 → u 0 = 1 ∧ u 1 = u 2) → h_MM_lookAt_334 G (d + 4) a p L b M3 (laQ co M M3 a g N T K n L 3 u) := fun b hb2 hb3 => by
        refine k_MM_lookAt_334 hO ip (i32s (by omega) (by omega)) (i32s (by omega) (by omega)) ?_
        rw [r19]
        refine ⟨w.1.1, (w.nu n93).1, (s_MN_last hO (w.nu n93) (by rw [hL]; omega)).mono (fun z M1 e1 => ?_)⟩
        obtain ⟨e1, hz⟩ := e1
        subst e1
        have z01 := h01 2 (by omega)
        rw [hL, show (((L + 3 : Nat) : Int) - 1).toNat = L + 2 by omega, hu 2 (by omega)] at hz
        rw [← hz] at z01
        refine ⟨i32s (by omega) (by omega), hO, fun _ => ⟨w.1.1, flt p z ip z01⟩, fun y => ok z z01 q1 (ny q1 q2 q3 ?_)⟩
        obtain ⟨y1, y2⟩ := hb3 (by omega)
        unfold tyr
        rw [if_neg q5, if_neg q4, if_pos q6]
        exact ⟨y1, y2.trans hz.symm, hz.symm⟩
      refine rd n93 (by rw [hL]; omega) (fun z hz iz => ⟨iz, hO, fun c1 => ?_, fun _ => g334 0 (Or.inl rfl) (fun y => by omega)⟩)
      have hz0 : z = u 0 := hz.trans (hu 0 (by omega))
      rw [r19]
      refine ⟨w.1.1, (w.nu n93).1, ?_⟩
      rw [show (L : Int) + 1 = ((L + 1 : Nat) : Int) by omega]
      refine rd n93 (by rw [hL]; omega) (fun z2 hz2 iz2 => ⟨iz2, hO, w.1.1, ?_⟩)
      rw [hu 1 (by omega)] at hz2
      rw [r19]
      refine ⟨(w.nu n93).1, ?_⟩
      rw [show (L : Int) + 2 = ((L + 2 : Nat) : Int) by omega]
      exact rd n93 (by rw [hL]; omega) (fun z3 hz3 iz3 => ⟨iz3, hO, fun y => g334 1 (Or.inr rfl) (fun _ => by rw [hu 2 (by omega)] at hz3; omega), fun _ => g334 0 (Or.inl rfl) (fun y => by omega)⟩)
    · unfold tyr
      rw [if_neg q5, if_neg q4, if_neg q6]
      refine ⟨sb4 ?_, ?_⟩
      · by_cases y : su u j = 0
        · exact y
        · rw [if_neg y] at hv; exact absurd hv z
      · rw [hx, h7]
        by_cases y : 19 ≤ s ∧ s ≤ 22
        · rw [if_pos y, if_pos (show s = 23 ∨ s = 18 ∨ s = 21 ∨ s = 19 ∨ s = 22 ∨ s = 20 by omega)]; rfl
        · rw [if_neg y, if_neg (show ¬ (s = 23 ∨ s = 18 ∨ s = 21 ∨ s = 19 ∨ s = 22 ∨ s = 20) by omega)]; rfl
end LB
end
section
/-! The reference: the pile of nodes to look at. -/
section LP
variable {G : mG} {d a N g T K : Nat} {M M2 M3 M4 : mM} {nm : Int → Prop}
/-- only the pile of looks has changed -/
def kp (M : mM) (a g N T K : Nat) (M3 M4 : mM) : Prop := LO M a g N T K M4 ∧ mI M4 a 16 = mI M3 a 16 ∧ (∀ k, va M4 g k = va M3 g k) ∧ sameN M3 M4 (a + 93)
theorem kp.refl (h : LO M a g N T K M3) : kp M a g N T K M3 M3 := ⟨h, rfl, fun _ => rfl, sameN.refl⟩
theorem kp.trans {M5 : mM} (h : kp M a g N T K M3 M4) (k : kp M a g N T K M4 M5) : kp M a g N T K M3 M5 :=
  ⟨k.1, k.2.1.trans h.2.1, fun n => (k.2.2.1 n).trans (h.2.2.1 n), h.2.2.2.trans k.2.2.2⟩
theorem kp.mk {S : Nat → Prop} (h : LO M a g N T K M3) (m : Mv (fun x => x = a + 95) S M3 a M4) (hS : ∀ x, ¬ S x) : kp M a g N T K M3 M4 := by
  obtain ⟨hO, hw, -, -, -, hg, -, -⟩ := id h.2.1
  have w := hw.1.1
  have f := (m.fld w (fun q hq => by rw [hq]; exact n95) (hS a)).1
  have s7 := m.lst (tL_in (a := a) (q := g + 7) hg (by omega)) (by omega)
  exact ⟨h.step m (fun q hq => Or.inr (Or.inl hq)) (fun x hx => (hS x hx).elim) s7.1 (fun i _ _ => by rw [f]), by rw [f], s7.2.1, m.lst n93 (by omega)⟩
theorem Tn.lo {f md n e : Nat} (h : Tn nm M3 g f md n e) (h3 : LO M a g N T K M3) (h4 : LO M a g N T K M4) (hv : ∀ k, n ≤ k → k < e → va M4 g k = va M3 g k) : Tn nm M4 g f md n e := by
  have s : ∀ k, so M4 g k = so M3 g k ∧ fp M4 g k = fp M3 g k ∧ np M4 g k = np M3 g k := fun k => by
    have a1 := h3.2.2.2.1 k
    have a2 := h4.2.2.2.1 k
    exact ⟨a2.1.trans a1.1.symm, a2.2.1.trans a1.2.1.symm, a2.2.2.trans a1.2.2.symm⟩
  exact h.fr (fun k b1 b2 => ⟨(s k).1, hv k b1 b2, (s k).2.1⟩) (fun k _ _ => (s k).2.2) (fun _ => (s n).2.2)
theorem s_lk_push {X : Nat} {v : Int} (hv : i32 v) (h : LO M a g N T K M3) (hl : ln M3 (a + 95) = (X : Int)) (hX : X ≤ 65000) : Cv G y_MN_add d [vr (a + 95), vi v] M3 (fun M4 => mOk M4 ∧ kp M a g N T K M3 M4 ∧ ln M4 (a + 95) = (X + 1 : Nat) ∧ (∀ j, j < X → nt M4 (a + 95) j = nt M3 (a + 95) j) ∧ nt M4 (a + 95) X = v) := by
  obtain ⟨hO, hw, -⟩ := id h.2.1
  have w := hw.1.1
  refine (s_MN_addB (B := 65536) hv hO (w.nu n95) (by omega) (by decide)).mono (fun M4 t => ?_)
  have m := mv_addB w n95 (Or.inr (Or.inr (Or.inl rfl))) t
  obtain ⟨-, -, -, t1, t2, t3, -⟩ := t
  rw [hl] at t1 t2 t3
  rw [Int.toNat_natCast] at t3
  exact ⟨m.1, kp.mk h m (fun _ z => z), by rw [t1]; omega, fun j hj => t2 j (by omega), t3⟩
theorem s_lk_pop {X : Nat} (h : LO M a g N T K M3) (hl : ln M3 (a + 95) = (X + 1 : Nat)) : Ci G y_MN_take d [vr (a + 95)] M3 (fun x M4 => i32 x ∧ mOk M4 ∧ kp M a g N T K M3 M4 ∧ ln M4 (a + 95) = (X : Int) ∧ (∀ j, nt M4 (a + 95) j = nt M3 (a + 95) j) ∧ x = nt M3 (a + 95) X) := by
  obtain ⟨hO, hw, -⟩ := id h.2.1
  have w := hw.1.1
  refine (s_MN_take hO (w.nu n95) (by omega)).mono (fun x M4 t => ?_)
  have m := mv_take w n95 t
  obtain ⟨-, -, -, t1, t2, t3⟩ := t
  rw [hl] at t1 t3
  rw [show (((X + 1 : Nat) : Int) - 1).toNat = X by omega] at t3
  exact ⟨by rw [t3]; exact (hO _ _).1, m.1, kp.mk h m (fun _ z => z), by rw [t1]; omega, t2, t3⟩
/-- the brothers from n on -/
def ci (M : mM) (g n : Nat) : Nat → Int
  | 0 => n
  | j + 1 => np M g (ci M g n j).toNat
theorem ci_succ {n m : Nat} (h : np M g n = (m : Int)) : ∀ j, ci M g n (j + 1) = ci M g m j
  | 0 => h
  | j + 1 => by
    have := ci_succ h j
    rw [ci, this, ci]
theorem Tn.ge : ∀ {f md n e : Nat}, Tn nm M g f md n e → n + md ≤ e := by
  intro f
  induction f with
  | zero => intro md n e h; exact h.elim
  | succ f ih =>
    intro md n e h
    have hl := h.lt
    rw [Tn] at h
    by_cases c0 : md = 0
    · omega
    · rw [if_neg c0] at h
      by_cases c1 : md = 1
      · omega
      · rw [if_neg c1] at h
        obtain ⟨m, -, h2, h3⟩ := h
        have := h2.lt
        have := ih h3
        omega
/-- pushing the parts -/
theorem s_look126 {co : Int} {Q : Int → mM → Prop} {X : Nat} (hco : i32 co) (hX : X ≤ 65000) : ∀ (k f c e Y : Nat) (M3 : mM), 1 ≤ k → Tn nm M3 g f k c e → e ≤ T → LO M a g N T K M3 → ln M3 (a + 95) = (Y : Int) → Y + 2 * k ≤ 65000 → (∀ M4, kp M a g N T K M3 M4 → ln M4 (a + 95) = (Y + 2 * k : Nat) → (∀ j, j < Y → nt M4 (a + 95) j = nt M3 (a + 95) j) → (∀ j, j < k → nt M4 (a + 95) (Y + 2 * j) = ci M g c j ∧ nt M4 (a + 95) (Y + 2 * j + 1) = 0) → h_MM_look_126 G d a co (-1) X M4 Q) → h_MM_look_126 G d a co c X M3 Q := by
  intro k
  induction k with
  | zero => intro f c e Y M3 hk; omega
  | succ k ih =>
    intro f c e Y M3 hk ht he h3 l3 hY hQ
    obtain ⟨hO, hw, -, -, h10, hg, -, hT⟩ := id h3.2.1
    have w := hw.1.1
    have hlt := ht.lt
    have r20 : ∀ {M3 : mM}, Wd M3 a → mR M3 a 20 = a + 95 := fun w => w.1.2.2.2.2.1.2.2.2.2.2.1
    refine k_MM_look_126 hO hco (i32s (by omega) (by omega)) (i32s (by omega) (by omega)) ⟨fun q => by omega, fun _ => ?_⟩
    rw [r20 w]
    refine ⟨w.1.1, (w.nu n95).1, (s_lk_push (i32s (by omega) (by omega)) h3 l3 (by omega)).mono (fun M4 h4 => ?_)⟩
    obtain ⟨o4, k4, l4, e4, v4⟩ := h4
    have w4 := k4.1.2.1.2.1.1.1
    rw [r20 w4]
    refine ⟨o4, w4.1.1, (w4.nu n95).1, (s_lk_push (i32s (by omega) (by omega)) k4.1 l4 (by omega)).mono (fun M5 h5 => ?_)⟩
    obtain ⟨o5, k5, l5, e5, v5⟩ := h5
    obtain ⟨-, hw5, -, hd5, h105, -, -, -⟩ := id k5.1.2.1
    have w5 := hw5.1.1
    have gp := w5.gp hg
    have r5 : mR M5 g 5 = g + 11 := gp.2.1.2.2.2.2.2.1
    have u11 := w5.nu (tL_in (a := a) (q := g + 11) hg (by omega))
    have l11 := hd5 (g + 11) (by omega)
    rw [h105, r5]
    refine ⟨o5, w5.1.1, gp.1, u11.1, (s_MN_at o5 u11 (by omega)).mono (fun z M6 e6 => ?_)⟩
    obtain ⟨e6, hz⟩ := e6
    subst e6
    refine ⟨by rw [hz]; exact (o5 _ _).1, o5, ?_⟩
    have kk := k4.trans k5
    have ht6 : Tn nm M6 g f (k + 1) c e := ht.lo h3 kk.1 (fun j _ _ => kk.2.2.1 j)
    have hnp : np M6 g c = np M g c := (kk.1.2.2.2.1 c).2.2
    have base : ∀ j, j < Y → nt M6 (a + 95) j = nt M3 (a + 95) j := fun j hj => (e5 j (by omega)).trans (e4 j hj)
    have b0 : nt M6 (a + 95) Y = (c : Int) := (e5 Y (by omega)).trans v4
    cases f with
    | zero => exact ht6.elim
    | succ f =>
      rw [Tn, if_neg (by omega)] at ht6
      by_cases k0 : k + 1 = 1
      · rw [if_pos k0] at ht6
        have : z = -1 := hz.trans ht6.1
        rw [this]
        refine hQ M6 kk (by rw [l5]; omega) base (fun j hj => ?_)
        have : j = 0 := by omega
        subst this
        exact ⟨b0, v5⟩
      · rw [if_neg k0] at ht6
        obtain ⟨m, q1, q2, q3⟩ := ht6
        have hzm : z = (m : Int) := hz.trans q1
        rw [hzm]
        refine ih f m e (Y + 2) M6 (by omega) q3 he kk.1 (by rw [l5]) (by omega) (fun M7 k7 l7 e7 v7 => ?_)
        refine hQ M7 (kk.trans k7) (by rw [l7]; omega) (fun j hj => (e7 j (by omega)).trans (base j hj)) (fun j hj => ?_)
        cases j with
        | zero => exact ⟨(e7 Y (by omega)).trans b0, (e7 (Y + 1) (by omega)).trans v5⟩
        | succ j =>
          have := v7 j (by omega)
          rw [ci_succ (hnp.symm.trans q1), show Y + 2 * (j + 1) = Y + 2 + 2 * j by omega]
          exact this
end LP
end
