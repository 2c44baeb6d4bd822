section
/-! The reference's look at a node, exactly. -/
section LAX
variable {G : mG} {d a N g T K n L : Nat} {M M2 M4 : mM}
/-- the parts' types fit the node -/
def gdt (s : Int) (k : Nat) (u : Nat → Int) : Prop := if s = 29 ∨ s = 30 ∨ s = 31 then ∀ j, j < k → u j = 1 else if s = 18 ∨ s = 23 then u 0 = u 1 else if s = 32 then u 0 = 1 ∧ u 1 = u 2 else ∀ j, j < k → u j = 0
/-- the node's own type -/
def tyt (s : Int) (u : Nat → Int) : Int := if s = 29 ∨ s = 30 ∨ s = 31 ∨ s = 18 ∨ s = 23 then 1 else if s = 32 then u 2 else if 19 ≤ s ∧ s ≤ 22 then 1 else 0
/-- a fault, or what becomes of the names -/
def laF (co : Int) (M M2 : mM) (a g n k : Nat) (u E rv : Nat → Int) (t : Int) (M3 : mM) : Prop := (mI M3 a 16 = 2 ∧ mI M3 a 17 = pm M g n ∧ so M2 g n = 1 ∧ E (va M2 g n).toNat = -1) ∨ (mI M3 a 16 = 3 ∧ mI M3 a 17 = pm M g n ∧ (so M2 g n ≠ 1 ∧ so M2 g n ≠ 2 ∧ so M2 g n ≠ 12 ∧ so M2 g n ≠ 13) ∧ ¬ gdt (so M2 g n) k u) ∨ (laE co M M2 a g n k u t M3 ∧ mI M3 a 16 = mI M2 a 16 ∧ (so M2 g n = 1 → va M3 g n = rv (va M2 g n).toNat ∧ E (va M2 g n).toNat = t ∧ t ≠ -1) ∧ ((so M2 g n ≠ 1 ∧ so M2 g n ≠ 2 ∧ so M2 g n ≠ 12 ∧ so M2 g n ≠ 13) → gdt (so M2 g n) k u ∧ t = tyt (so M2 g n) u))
def laX (co : Int) (M M2 : mM) (a g N T K n L k : Nat) (u E rv : Nat → Int) (M5 : mM) : Prop := LO M a g N T K M5 ∧ sameN M2 M5 (a + 95) ∧ ln M5 (a + 93) = (L + 1 : Nat) ∧ (∀ j, j < L → nt M5 (a + 93) j = nt M2 (a + 93) j) ∧ (nt M5 (a + 93) L = 0 ∨ nt M5 (a + 93) L = 1) ∧ laF co M M2 a g n k u E rv (nt M5 (a + 93) L) M5
theorem la386x {co : Int} {k : Nat} {u E rv : Nat → Int} {x : Int} (hx : x = 0 ∨ x = 1) (h : LO M a g N T K M4) (s93 : sameN M2 M4 (a + 93)) (s95 : sameN M2 M4 (a + 95)) (e : laF co M M2 a g n k u E rv x M4) (hL : ln M2 (a + 93) = (L + k : Nat)) (hb : L + k ≤ 65000) : h_MM_lookAt_386 G d a L x M4 (laX co M M2 a g N T K n L k u E rv) := by
  obtain ⟨hO, hw, -, -, -, hg, -, -⟩ := id h.2.1
  have w := hw.1.1
  have r19 : ∀ {M3 : mM}, Wd M3 a → mR M3 a 19 = a + 93 := fun w => w.1.2.2.2.2.1.2.2.2.2.1
  refine k_MM_lookAt_386 hO (i32s (by omega) (by omega)) (i32s (by omega) (by omega)) ?_
  rw [r19 w]
  refine ⟨w.1.1, (w.nu n93).1, fun M5 e5 => ?_⟩
  obtain ⟨m5, l5, t5, -⟩ := mv_set hO w n93 (v := (L : Int)) (by omega) (by rw [s93.1, hL]; omega) e5
  have w5 := m5.2.1
  have g7 : g + 7 ∈ nums a := tL_in hg (by omega)
  have f5 := (m5.fld w (fun q hq => by rw [hq]; exact n93) (fun hq => hq)).1
  have L5 : LO M a g N T K M5 := h.step m5 (fun q hq => Or.inl hq) (fun x hx => hx.elim) (m5.lst g7 (by omega)).1 (fun i _ _ => by rw [f5])
  rw [r19 w5]
  refine ⟨(w5.nu n93).1, (s_MN_addB (B := 65536) (i32s (by omega) (by omega)) m5.1 (w5.nu n93) (by rw [l5]; omega) (by decide)).mono (fun M6 t6 => ?_)⟩
  have m6 := mv_addB w5 n93 (Or.inr (Or.inl rfl)) t6
  have f6 := (m6.fld w5 (fun q hq => by rw [hq]; exact n93) (fun hq => hq)).1
  have L6 : LO M a g N T K M6 := L5.step m6 (fun q hq => Or.inl hq) (fun x hx => hx.elim) (m6.lst g7 (by omega)).1 (fun i _ _ => by rw [f6])
  obtain ⟨-, -, -, t1, t2, t3, -⟩ := t6
  rw [l5] at t1 t2 t3
  rw [Int.toNat_natCast] at t3
  have v6 : ∀ k, va M6 g k = va M4 g k := fun k => ((m6.lst g7 (by omega)).2.1 k).trans ((m5.lst g7 (by omega)).2.1 k)
  refine ⟨m6.1, L6, ?_, by rw [t1]; omega, fun j hj => by rw [t2 j (by omega), t5, s93.2.1], by rw [t3]; exact hx, ?_⟩
  · exact sameN.trans s95 (sameN.trans (m5.lst n95 (by omega)) (m6.lst n95 (by omega)))
  · unfold laF laE at e ⊢
    rw [f6, f5, t3]
    simp only [v6]
    exact e
theorem su_all1 {u : Nat → Int} : ∀ {k : Nat}, (∀ j, j < k → u j = 1) → su u k = k
  | 0, _ => rfl
  | k + 1, h => by rw [su, su_all1 (fun j hj => h j (by omega)), h k (by omega)]; omega
theorem su_all0 {u : Nat → Int} : ∀ {k : Nat}, (∀ j, j < k → u j = 0) → su u k = 0
  | 0, _ => rfl
  | k + 1, h => by rw [su, su_all0 (fun j hj => h j (by omega)), h k (by omega)]; rfl
theorem x_MM_lookAt {nm : Int → Prop} {k : Nat} {u E rv : Nat → Int} {co : Int} (hU : URq M a g N K co E rv) (hco : i32 co) (hw0 : Wd M a) (h : LO M a g N T K M2) (hn : n < T) (hk : pks nm M2 g T n k) (hv : so M2 g n = 1 → (0 ≤ va M2 g n ∧ va M2 g n < N) ∧ wk M a (va M2 g n).toNat = 1) (hL : ln M2 (a + 93) = (L + k : Nat)) (hb : L + k ≤ 65000) (hu : ∀ j, j < k → nt M2 (a + 93) (L + j) = u j) (h01 : ∀ j, j < k → u j = 0 ∨ u j = 1) : Cv G y_MM_lookAt (d + 5) [vr a, vi n, vi co] M2 (fun M5 => mOk M5 ∧ laX co M M2 a g N T K n L k u E rv M5) := by
  refine Cv.mono (Q := laX co M M2 a g N T K n L k u E rv) ?_ (fun M5 h5 => ⟨h5.1.2.1.1, h5⟩)
  obtain ⟨hO, hx, -, hd, h10, hg, -, hT⟩ := id h.2.1
  have w := hx.1.1
  have gp := w.gp hg
  have r0 : mR M2 g 0 = g + 1 := gp.2.1.1
  have r1 : mR M2 g 1 = g + 3 := gp.2.1.2.1
  have r19 : mR M2 a 19 = a + 93 := w.1.2.2.2.2.1.2.2.2.2.1
  have u1 := w.nu (tL_in (a := a) (q := g + 1) hg (tLk1 g))
  have u3 := w.nu (tL_in (a := a) (q := g + 3) hg (tLk3 g))
  have l1 := hd (g + 1) (by first | exact tLk1 g | exact gLk1 g | omega)
  have l3 := hd (g + 3) (by first | exact tLk3 g | exact gLk3 g | omega)
  have l93 : mI M2 (a + 93) 1 = (L + k : Nat) := hL
  have rd : ∀ {p j : Nat} {Q : Int → mM → Prop}, p ∈ nums a → (j : Int) < ln M2 p → (∀ z, z = nt M2 p j → i32 z → Q z M2) → Ci G y_MN_at (d + 4) [vr p, vi j] M2 Q := fun hp hk hQ => by
    refine (s_MN_at hO (w.nu hp) hk).mono (fun z M1 e1 => ?_)
    obtain ⟨e1, hz⟩ := e1
    subst e1
    exact hQ z hz (by rw [hz]; exact (hO _ _).1)
  have ok : ∀ (x : Int), (x = 0 ∨ x = 1) → so M2 g n ≠ 1 → tyn (tn M g) (so M2 g n) (va M2 g n) k u x → ((so M2 g n ≠ 1 ∧ so M2 g n ≠ 2 ∧ so M2 g n ≠ 12 ∧ so M2 g n ≠ 13) → gdt (so M2 g n) k u ∧ x = tyt (so M2 g n) u) → h_MM_lookAt_386 G (d + 4) a L x M2 (laX co M M2 a g N T K n L k u E rv) := fun x hx hs ht hgd => la386x hx h sameN.refl sameN.refl (Or.inr (Or.inr ⟨Or.inr ⟨rfl, fun z => absurd z hs, fun _ _ => rfl, ht⟩, rfl, fun z => absurd z hs, hgd⟩)) hL hb
  have flt : ∀ (p x : Int), i32 p → (x = 0 ∨ x = 1) → p = pm M2 g n → (so M2 g n ≠ 1 ∧ so M2 g n ≠ 2 ∧ so M2 g n ≠ 12 ∧ so M2 g n ≠ 13) → ¬ gdt (so M2 g n) k u → Cv G y_MM_stop (d + 4) [vr a, vi 3, vi p] M2 (fun M4 => mOk M4 ∧ h_MM_lookAt_386 G (d + 4) a L x M4 (laX co M M2 a g N T K n L k u E rv)) := fun p x hp hx pp ps pg => by
    refine (s_MM_stop (i32s (by omega) (by omega)) hp hO w).mono (fun M4 h4 => ?_)
    obtain ⟨m4, f1, f2, f3⟩ := h4
    have s7 := m4.lst (tL_in (a := a) (q := g + 7) hg (tLk7 g)) (fun z => z)
    exact ⟨m4.1, la386x hx (h.step m4 (fun q hq => hq.elim) (fun x hx => hx) s7.1 f3) (m4.lst n93 (fun z => z)) (m4.lst n95 (fun z => z)) (Or.inr (Or.inl ⟨f1, by rw [f2, pp]; exact h.pm hw0 n, ps, pg⟩)) hL hb⟩
  refine k_MM_lookAt hO (i32s (by omega) (by omega)) hco ?_
  rw [h10, r0]
  refine ⟨w.1.1, gp.1, u1.1, rd (tL_in hg (by omega)) (by omega) (fun s es is => ⟨is, hO, w.1.1, ?_⟩)⟩
  rw [h10, r1]
  refine ⟨gp.1, u3.1, rd (tL_in hg (by omega)) (by omega) (fun p ep ip => ⟨ip, hO, w.1.1, (s_MM_parts (d := d + 3) h hn hk).mono (fun r M3 e3 => ?_)⟩)⟩
  obtain ⟨e3, hr⟩ := e3
  subst e3
  subst hr
  have es' : s = so M3 g n := es
  rw [← es'] at hv ok flt
  have hkb : k ≤ 30000 := by rcases hk with q | q <;> omega
  rw [r19, l93, show ((L + k : Nat) : Int) - (k : Int) = (L : Int) by omega]
  refine ⟨i32s (by omega) (by omega), hO, w.1.1, (w.nu n93).1, ?_⟩
  suffices H : ∀ (c j : Nat), c + j = k → h_MM_lookAt_51 G (d + 4) a n co s p k L (su u j) (L + j : Nat) M3 (laX co M M3 a g N T K n L k u E rv) by
    have := H k 0 (by omega)
    rw [show L + 0 = L by omega] at this
    exact this
  intro c
  induction c with
  | succ c ih =>
    intro j hj
    have sb := su_b (k := j) (fun i hi => h01 i (by omega))
    refine k_MM_lookAt_51 hO (i32s (by omega) (by omega)) hco is ip (i32s (by omega) (by omega)) (i32s (by omega) (by omega)) (i32s (by omega) (by omega)) ⟨by omega, by omega⟩ ?_
    rw [r19, l93]
    refine ⟨w.1.1, (w.nu n93).1, fun q => by omega, fun _ => rd n93 (by rw [hL]; omega) (fun z hz iz => ⟨iz, hO, ?_⟩)⟩
    rw [hu j (by omega)] at hz
    have := ih (j + 1) (by omega)
    rw [show ((L + (j + 1) : Nat) : Int) = ((L + j : Nat) : Int) + 1 by omega, su, ← hz] at this
    exact this
  | zero =>
    intro j hj
    have hjk : j = k := by omega
    subst hjk
    obtain ⟨sb1, sb2, sb3, sb4⟩ := su_b (k := j) h01
    have ny : ∀ {t : Int}, s ≠ 1 → s ≠ 2 → ¬ (s = 12 ∨ s = 13) → tyr s j u t → tyn (tn M g) s (va M3 g n) j u t := fun y1 y2 y3 y4 => by
      unfold tyn
      rw [if_neg y1, if_neg y2, if_neg y3]
      exact y4
    have hk2 : s = 18 ∨ s = 23 → j = 2 := fun y => by
      rcases hk with ⟨-, -, z⟩ | ⟨-, -, z, -⟩
      · omega
      · unfold ari at z; omega
    refine k_MM_lookAt_51 hO (i32s (by omega) (by omega)) hco is ip (i32s (by omega) (by omega)) (i32s (by omega) (by omega)) (i32s (by omega) (by omega)) ⟨by omega, by omega⟩ ?_
    rw [r19, l93]
    have ep' : p = pm M3 g n := ep
    refine ⟨w.1.1, (w.nu n93).1, fun _ => ⟨fun q1 => ?_, fun q1 => ⟨fun q2 => ⟨fun z => absurd z (by decide), fun _ => ok 0 (Or.inl rfl) q1 (by unfold tyn; rw [if_neg q1, if_pos q2]) (fun z => absurd q2 z.2.1)⟩, fun q2 => ⟨fun q3 => ⟨fun z => absurd z (by decide), fun _ => ok 1 (Or.inr rfl) q1 (by unfold tyn; rw [if_neg q1, if_neg q2, if_pos q3]) (fun z => absurd q3 (by omega))⟩, fun q3 => ⟨fun q4 v hv => ⟨fun z => flt p 1 ip (Or.inr rfl) ep' ⟨q1, q2, by omega, by omega⟩ ?_, fun z => ok 1 (Or.inr rfl) q1 (ny q1 q2 q3 ?_) (fun _ => ?_)⟩, fun q4 => ⟨fun q5 v hv => ⟨fun z => flt p 1 ip (Or.inr rfl) ep' ⟨q1, q2, by omega, by omega⟩ ?_, fun z => ok 1 (Or.inr rfl) q1 (ny q1 q2 q3 ?_) (fun _ => ?_)⟩, fun q5 => ⟨fun q6 => ?_, fun q6 v hv => k_MM_isComparison hO is (fun v7 h7 => ⟨i32s (by split at h7 <;> omega) (by split at h7 <;> omega), hO, fun x hx => ⟨fun z => ⟨w.1.1, flt p x ip (by split at hx <;> omega) ep' ⟨q1, q2, by omega, by omega⟩ ?_⟩, fun z => ok x (by split at hx <;> omega) q1 (ny q1 q2 q3 ?_) (fun _ => ?_)⟩⟩)⟩⟩⟩⟩⟩⟩, fun q => absurd (Int.le_refl _) q⟩
    · refine (x_MM_lookUp (d := d) hU hco hw0 h hn (hv q1).1 (hv q1).2).mono (fun x M4 h4 => ?_)
      obtain ⟨h4, x01, t93, t95, t⟩ := h4
      refine ⟨i32s (by omega) (by omega), h4.2.1.1, fun z => absurd z (by decide), fun _ => la386x x01 h4 t93 t95 ?_ hL hb⟩
      rcases t with ⟨t, ⟨t5, t6⟩, -⟩ | ⟨t1, ⟨t2, t4, t7, t8⟩, t3⟩
      · exact Or.inl ⟨t, t5, es'.symm.trans q1, t6⟩
      · refine Or.inr (Or.inr ⟨Or.inr ⟨t1, fun _ => t2, fun i hi => t3 i (by rcases hi with z | z; exact z; exact absurd (es'.symm.trans q1) z), ?_⟩, t1, fun _ => ⟨t7, t8, by omega⟩, fun z => absurd (es'.symm.trans q1) z.1⟩)
        unfold tyn
        rw [← es', if_pos q1]
        exact t4
    · -- the same: bad
      have j2 := hk2 q4
      have sm1 : su u j = 1 := by
        by_cases y : su u j = 1
        · exact y
        · rw [if_neg y] at hv; rw [hv] at z; exact absurd z (by decide)
      subst j2
      have : su u 2 = 0 + u 0 + u 1 := rfl
      unfold gdt
      rw [if_neg (by omega), if_pos q4]
      omega
    · have j2 := hk2 q4
      have sm1 : su u j ≠ 1 := fun y => by rw [if_pos y] at hv; exact z hv
      subst j2
      have u0 := h01 0 (by omega)
      have u1 := h01 1 (by omega)
      have : su u 2 = 0 + u 0 + u 1 := rfl
      unfold tyr
      rw [if_neg (by omega), if_pos q4]
      exact ⟨by omega, rfl⟩
    · have j2 := hk2 q4
      have sm1 : su u j ≠ 1 := fun y => by rw [if_pos y] at hv; exact z hv
      subst j2
      have u0 := h01 0 (by omega)
      have u1 := h01 1 (by omega)
      have : su u 2 = 0 + u 0 + u 1 := rfl
      unfold gdt tyt
      rw [if_neg (by omega), if_pos q4, if_pos (by omega)]
      exact ⟨by omega, rfl⟩
    · unfold gdt
      rw [if_pos q5]
      intro y
      have y2 := su_all1 y
      rw [if_pos y2] at hv
      rw [hv] at z
      exact absurd z (by decide)
    · unfold tyr
      rw [if_pos q5]
      refine ⟨sb3 ?_, rfl⟩
      by_cases y : su u j = (j : Int)
      · exact y
      · rw [if_neg y] at hv; exact absurd hv z
    · unfold gdt tyt
      rw [if_pos q5, if_pos (by omega)]
      refine ⟨sb3 ?_, rfl⟩
      by_cases y : su u j = (j : Int)
      · exact y
      · rw [if_neg y] at hv; exact absurd hv z
    · have k3 : j = 3 := by
        rcases hk with ⟨-, -, z⟩ | ⟨-, -, z, -⟩
        · omega
        · unfold ari at z; omega
      subst k3
      have g334 : ∀ (b : Int), (b = 0 ∨ b = 1) → (b = 1 ↔ u 0 = 1 ∧ u 1 = u 2) → h_MM_lookAt_334 G (d + 4) a p L b M3 (laX co M M3 a g N T K n L 3 u E rv) := fun b hb2 hb3 => by
        refine k_MM_lookAt_334 hO ip (i32s (by omega) (by omega)) (i32s (by omega) (by omega)) ?_
        rw [r19]
        refine ⟨w.1.1, (w.nu n93).1, (s_MN_last hO (w.nu n93) (by rw [hL]; omega)).mono (fun z M1 e1 => ?_)⟩
        obtain ⟨e1, hz⟩ := e1
        subst e1
        have z01 := h01 2 (by omega)
        rw [hL, show (((L + 3 : Nat) : Int) - 1).toNat = L + 2 by omega, hu 2 (by omega)] at hz
        rw [← hz] at z01
        refine ⟨i32s (by omega) (by omega), hO, fun y => ⟨w.1.1, flt p z ip z01 ep' ⟨q1, q2, by omega, by omega⟩ (by unfold gdt; rw [if_neg q5, if_neg q4, if_pos q6]; exact fun qq => by have := hb3.mpr qq; omega)⟩, fun y => ok z z01 q1 (ny q1 q2 q3 ?_) (fun _ => by unfold gdt tyt; rw [if_neg q5, if_neg q4, if_pos q6, if_neg (by omega), if_pos q6]; exact ⟨hb3.mp (by omega), hz⟩)⟩
        obtain ⟨y1, y2⟩ := hb3.mp (by omega)
        unfold tyr
        rw [if_neg q5, if_neg q4, if_pos q6]
        exact ⟨y1, y2.trans hz.symm, hz.symm⟩
      refine rd n93 (by rw [hL]; omega) (fun z hz iz => ⟨iz, hO, fun c1 => ?_, fun c1 => g334 0 (Or.inl rfl) ⟨fun y => by omega, fun y => absurd (by rw [hz]; exact (hu 0 (by omega)).trans y.1) c1⟩⟩)
      have hz0 : z = u 0 := hz.trans (hu 0 (by omega))
      rw [r19]
      refine ⟨w.1.1, (w.nu n93).1, ?_⟩
      rw [show (L : Int) + 1 = ((L + 1 : Nat) : Int) by omega]
      refine rd n93 (by rw [hL]; omega) (fun z2 hz2 iz2 => ⟨iz2, hO, w.1.1, ?_⟩)
      rw [hu 1 (by omega)] at hz2
      rw [r19]
      refine ⟨(w.nu n93).1, ?_⟩
      rw [show (L : Int) + 2 = ((L + 2 : Nat) : Int) by omega]
      exact rd n93 (by rw [hL]; omega) (fun z3 hz3 iz3 => ⟨iz3, hO, fun y => g334 1 (Or.inr rfl) ⟨fun _ => by rw [hu 2 (by omega)] at hz3; omega, fun _ => rfl⟩, fun y => g334 0 (Or.inl rfl) ⟨fun y => by omega, fun yy => absurd (by rw [hu 2 (by omega)] at hz3; omega) y⟩⟩)
    · unfold gdt
      rw [if_neg q5, if_neg q4, if_neg q6]
      intro y
      have y2 := su_all0 y
      rw [if_pos y2] at hv
      rw [hv] at z
      exact absurd z (by decide)
    · unfold tyr
      rw [if_neg q5, if_neg q4, if_neg q6]
      refine ⟨sb4 ?_, ?_⟩
      · by_cases y : su u j = 0
        · exact y
        · rw [if_neg y] at hv; exact absurd hv z
      · rw [hx, h7]
        by_cases y : 19 ≤ s ∧ s ≤ 22
        · rw [if_pos y, if_pos (show s = 23 ∨ s = 18 ∨ s = 21 ∨ s = 19 ∨ s = 22 ∨ s = 20 by omega)]; rfl
        · rw [if_neg y, if_neg (show ¬ (s = 23 ∨ s = 18 ∨ s = 21 ∨ s = 19 ∨ s = 22 ∨ s = 20) by omega)]; rfl
    · unfold gdt tyt
      rw [if_neg q5, if_neg q4, if_neg q6, if_neg (by omega), if_neg q6]
      refine ⟨sb4 ?_, ?_⟩
      · by_cases y : su u j = 0
        · exact y
        · rw [if_neg y] at hv; exact absurd hv z
      · rw [hx, h7]
        by_cases y : 19 ≤ s ∧ s ≤ 22
        · rw [if_pos y, if_pos (show s = 23 ∨ s = 18 ∨ s = 21 ∨ s = 19 ∨ s = 22 ∨ s = 20 by omega)]; rfl
        · rw [if_neg y, if_neg (show ¬ (s = 23 ∨ s = 18 ∨ s = 21 ∨ s = 19 ∨ s = 22 ∨ s = 20) by omega)]; rfl
end LAX
end
section
/-! What the parts of a node mean. -/
section PTS
variable {w E pl nv S A V F B : Nat → Int}
/-- the first fault of some rules, one after another -/
noncomputable def flr (w E pl : Nat → Int) : List (Nat × Nat) → Int × Int
  | [] => (0, 0)
  | r :: rs => fst9 (fl w E pl 0 r.1 r.2) (flr w E pl rs)
/-- their kinds -/
noncomputable def kdl (w E : Nat → Int) (rs : List (Nat × Nat)) (t : Nat) : Int := kdq w E 0 (rs.getD t (0, 0)).1 (rs.getD t (0, 0)).2
theorem flr_app : ∀ (rs rs' : List (Nat × Nat)), flr w E pl (rs ++ rs') = fst9 (flr w E pl rs) (flr w E pl rs')
  | [], rs' => (fst9_0 _).symm
  | r :: rs, rs' => by
    show fst9 _ (flr w E pl (rs ++ rs')) = fst9 (fst9 _ _) _
    rw [flr_app rs rs', fst9_a]
theorem fl_zz : ∀ (f c i j : Nat), 2 * (j - i) + c ≤ f → Eoc w c i j → (fl w E pl c i j).1 = 0 → fl w E pl c i j = (0, 0) := by
  have f2 : ∀ {a b : Int × Int}, (a.1 = 0 → a = (0, 0)) → (b.1 = 0 → b = (0, 0)) → (fst9 a b).1 = 0 → fst9 a b = (0, 0) := fun ha hb h => by
    obtain ⟨h1, h2⟩ := fst9_1.mp h
    rw [ha h1, fst9_0, hb h2]
  have fk : ∀ {p : Prop} {x : Int}, (kft p x).1 = 0 → kft p x = (0, 0) := fun {p x} h => by
    have := kft_1.mp h
    unfold kft
    rw [if_pos this]
  refine Eo_ind (P := fun c i j => (fl w E pl c i j).1 = 0 → fl w E pl c i j = (0, 0)) ?_ ?_ ?_ ?_ ?_ ?_ ?_ ?_
  · intro i m q j h1 h2 h3 h4 h5 h6 h7 h8 _ _ _ i1 i2 i3
    rw [fl_ask h1 h2 h3 h6 h8]
    exact f2 (f2 (f2 i1 i2) i3) fk
  · intro i m j h1 h2 h3 h4 _ _ i1 i2
    rw [fl_bin h1 h2 h3 (by omega)]
    exact f2 (f2 i1 i2) fk
  · intro i j h1 h2 h3 _ _ i1
    rw [fl_par h1 h2 h3]
    exact i1
  · intro i j h1 h2 h3 _ i1
    rcases h3 with h3 | h3
    · rw [fl_neg h1 h2 h3]; exact f2 i1 fk
    · rw [fl_not h1 h2 h3]; exact f2 i1 fk
  · intro i h1 h3
    rw [fl_leaf h1 (by omega) h3]
    split
    · intro h; exact absurd h (by simp)
    · intro _; rfl
  · intro i j h1 h2 h3 _ _ i1
    rw [fl_lst h1 h2 h3]
    exact f2 i1 fk
  · intro i j h1 h2 _ i1
    rw [fl_l1 h1 h2]
    exact i1
  · intro i m j h1 h2 h3 h4 h5 _ _ i1 i2
    rw [fl_ln h1 h4 h2]
    exact f2 i1 i2
theorem fl_z {i j : Nat} (he : Eo w 6 i j) (h : (fl w E pl 0 i j).1 = 0) : fl w E pl 0 i j = (0, 0) := fl_zz _ 0 i j (Nat.le_refl _) (Or.inl ⟨rfl, he⟩) h
theorem kf_01 : ∀ (f c i j : Nat), 2 * (j - i) + c ≤ f → Eoc w c i j → kdq w E c i j = 0 ∨ kdq w E c i j = 1 := by
  refine Eo_ind (P := fun c i j => kdq w E c i j = 0 ∨ kdq w E c i j = 1) ?_ ?_ ?_ ?_ ?_ ?_ ?_ ?_
  · intro i m q j h1 h2 h3 h4 h5 h6 h7 h8 _ _ _ i1 i2 i3
    rw [kd_ask h1 h2 h3 h6 h8]; exact i3
  · intro i m j h1 h2 h3 h4 _ _ i1 i2
    rw [kd_bin h1 h2 h3 (by omega)]
    split
    · exact Or.inr rfl
    · exact Or.inl rfl
  · intro i j h1 h2 h3 _ _ i1
    rw [kd_par h1 h2 h3]; exact i1
  · intro i j h1 h2 h3 _ i1
    rcases h3 with h3 | h3
    · rw [kd_num h1 h2 (Or.inl h3)]; exact Or.inl rfl
    · rw [kd_tru h1 h2 (Or.inl h3)]; exact Or.inr rfl
  · intro i h1 h3
    rcases h3 with h3 | h3 | h3
    · rw [kd_nam h1 (by omega) h3]
      split
      · exact Or.inr rfl
      · exact Or.inl rfl
    · rw [kd_num h1 (by omega) (Or.inr (Or.inl h3))]; exact Or.inl rfl
    · rw [kd_tru h1 (by omega) (Or.inr h3)]; exact Or.inr rfl
  · intro i j h1 h2 h3 _ _ i1
    rw [kd_num h1 h2 (Or.inr (Or.inr h3))]; exact Or.inl rfl
  · intro i j h1 h2 _ i1
    rw [kd_l1 h1 h2]; exact i1
  · intro i m j h1 h2 h3 h4 h5 _ _ i1 i2
    rw [kd_ln h1 h4 h2]
    split
    · exact Or.inr rfl
    · exact Or.inl rfl
theorem kf01 {i j : Nat} (h : Eo w 6 i j) : kdq w E 0 i j = 0 ∨ kdq w E 0 i j = 1 := kf_01 _ 0 i j (Nat.le_refl _) (Or.inl ⟨rfl, h⟩)
theorem kdl_01 {rs : List (Nat × Nat)} (h : ∀ r, r ∈ rs → Eo w 6 r.1 r.2) {t : Nat} (ht : t < rs.length) : kdl w E rs t = 0 ∨ kdl w E rs t = 1 := by
  unfold kdl
  rw [List.getD_eq_getElem?_getD, List.getElem?_eq_getElem ht]
  exact kf01 (h _ (List.getElem_mem ht))
theorem Tbq.app {i' j' e : Nat} {x : Int} : ∀ (rs : List (Nat × Nat)) {n k : Nat}, Tbq w pl nv S A V F B (k : Int) rs n k → Td w pl nv S A V F B 0 0 i' j' k e → B k = x → Tbq w pl nv S A V F B x (rs ++ [(i', j')]) n e
  | [], _, _, h, _, _ => h.elim
  | [(i, j)], n, k, h, h2, h3 => ⟨k, h.1, h.2, h2, h3⟩
  | (i, j) :: r :: rs, n, k, h, h2, h3 => by
    obtain ⟨m, k1, k2, k3⟩ := h
    exact ⟨m, k1, k2, Tbq.app (r :: rs) k3 h2 h3⟩
theorem td_tb : ∀ (f c i j : Nat), 2 * (j - i) + c ≤ f → Eoc w c i j → c = 1 → ∀ (x : Int) (n e : Nat), Td w pl nv S A V F B c x i j n e → ∃ rs : List (Nat × Nat), rs ≠ [] ∧ (∀ r, r ∈ rs → Eo w 6 r.1 r.2) ∧ Tbq w pl nv S A V F B x rs n e ∧ fl w E pl 1 i j = flr w E pl rs ∧ (kdq w E 1 i j = 1 ↔ ∃ t, t < rs.length ∧ kdl w E rs t = 1) := by
  refine Eo_ind (P := fun c i j => c = 1 → ∀ (x : Int) (n e : Nat), Td w pl nv S A V F B c x i j n e → ∃ rs : List (Nat × Nat), rs ≠ [] ∧ (∀ r, r ∈ rs → Eo w 6 r.1 r.2) ∧ Tbq w pl nv S A V F B x rs n e ∧ fl w E pl 1 i j = flr w E pl rs ∧ (kdq w E 1 i j = 1 ↔ ∃ t, t < rs.length ∧ kdl w E rs t = 1)) ?_ ?_ ?_ ?_ ?_ ?_ ?_ ?_
  · intros; omega
  · intros; omega
  · intros; omega
  · intros; omega
  · intros; omega
  · intros; omega
  · intro i j h1 h2 he i1 _ x n e ht
    rw [Td_l1 h1 h2] at ht
    refine ⟨[(i, j)], by simp, fun r hr => by rw [List.mem_singleton.1 hr]; exact he, ht, ?_, ?_⟩
    · rw [fl_l1 h1 h2]
      show _ = fst9 (fl w E pl 0 i j) (0, 0)
      unfold fst9
      split
      · rename_i h0; exact fl_z he h0
      · rfl
    · rw [kd_l1 h1 h2]
      refine ⟨fun h => ⟨0, by simp, h⟩, fun ⟨t, h3, h4⟩ => ?_⟩
      have : t = 0 := by simp at h3; omega
      subst this
      exact h4
  · intro i m j h1 h2 h3 h4 h5 o1 o2 i1 i2 _ x n e ht
    rw [Td_ln h1 h4 h2] at ht
    obtain ⟨k, t1, t2, b1⟩ := ht
    obtain ⟨rs, r1, r2, r3, r4, r5⟩ := i1 rfl _ _ _ t1
    have gl : ∀ t, t < rs.length → kdl w E (rs ++ [(m + 1, j)]) t = kdl w E rs t := fun t h => by
      unfold kdl
      rw [List.getD_eq_getElem?_getD, List.getD_eq_getElem?_getD, List.getElem?_append_left h]
    have gr : kdl w E (rs ++ [(m + 1, j)]) rs.length = kdq w E 0 (m + 1) j := by
      unfold kdl
      rw [List.getD_eq_getElem?_getD, List.getElem?_append_right (Nat.le_refl _), Nat.sub_self]
      rfl
    refine ⟨rs ++ [(m + 1, j)], by simp, fun r hr => ?_, r3.app rs t2 b1, ?_, ?_⟩
    · rcases List.mem_append.1 hr with q | q
      · exact r2 r q
      · rw [List.mem_singleton.1 q]; exact o2
    · rw [fl_ln h1 h4 h2, r4, flr_app]
      congr 1
      show _ = fst9 (fl w E pl 0 (m + 1) j) (0, 0)
      unfold fst9
      split
      · rename_i h0; exact fl_z o2 h0
      · rfl
    · rw [kd_ln h1 h4 h2]
      constructor
      · intro h
        by_cases c1 : kdq w E 0 (m + 1) j = 1
        · exact ⟨rs.length, by simp, by rw [gr]; exact c1⟩
        · by_cases c2 : kdq w E 1 i m = 1
          · obtain ⟨t, h6, h7⟩ := r5.mp c2
            exact ⟨t, by simp; omega, by rw [gl t h6]; exact h7⟩
          · rw [if_neg (fun q => q.elim c2 c1)] at h
            exact absurd h (by decide)
      · intro ⟨t, h6, h7⟩
        rw [if_pos]
        simp at h6
        by_cases c : t < rs.length
        · rw [gl t c] at h7
          exact Or.inl (r5.mpr ⟨t, c, h7⟩)
        · rw [show t = rs.length by omega, gr] at h7
          exact Or.inr h7
theorem kft_cg {p q : Prop} {x : Int} (h : p ↔ q) : kft p x = kft q x := by rw [propext h]
/-- a leaf, or a node with parts -/
theorem td_node : ∀ (f c i j : Nat), 2 * (j - i) + c ≤ f → Eoc w c i j → c = 0 → ∀ (x : Int) (n e : Nat), Td w pl nv S A V F B c x i j n e →
    (F n = -1 ∧ e = n + 1 ∧ ∃ k, (i ≤ k ∧ k < j) ∧ (w k = 1 ∨ w k = 2 ∨ w k = 12 ∨ w k = 13) ∧ S n = w k ∧ A n = pl k ∧ V n = nv k ∧ fl w E pl 0 i j = (if w k = 1 ∧ E k = -1 then (2, pl k) else (0, 0)) ∧ kdq w E 0 i j = (if w k = 12 ∨ w k = 13 ∨ (w k = 1 ∧ E k = 1) then 1 else 0))
    ∨ (F n = ((n + 1 : Nat) : Int) ∧ ∃ rs : List (Nat × Nat), rs ≠ [] ∧ (∀ r, r ∈ rs → Eo w 6 r.1 r.2) ∧ Tbq w pl nv S A V F B (-1) rs (n + 1) e ∧ (S n ≠ 1 ∧ S n ≠ 2 ∧ S n ≠ 12 ∧ S n ≠ 13) ∧ ari (S n) rs.length ∧ fl w E pl 0 i j = fst9 (flr w E pl rs) (kft (gdt (S n) rs.length (kdl w E rs)) (A n)) ∧ kdq w E 0 i j = tyt (S n) (kdl w E rs)) := by
  have fz : ∀ {i j : Nat}, Eo w 6 i j → fst9 (fl w E pl 0 i j) (0, 0) = fl w E pl 0 i j := fun {i j} he => by
    unfold fst9
    split
    · rename_i h0; exact (fl_z he h0).symm
    · rfl
  refine Eo_ind (P := fun c i j => c = 0 → ∀ (x : Int) (n e : Nat), Td w pl nv S A V F B c x i j n e → (F n = -1 ∧ e = n + 1 ∧ ∃ k, (i ≤ k ∧ k < j) ∧ (w k = 1 ∨ w k = 2 ∨ w k = 12 ∨ w k = 13) ∧ S n = w k ∧ A n = pl k ∧ V n = nv k ∧ fl w E pl 0 i j = (if w k = 1 ∧ E k = -1 then (2, pl k) else (0, 0)) ∧ kdq w E 0 i j = (if w k = 12 ∨ w k = 13 ∨ (w k = 1 ∧ E k = 1) then 1 else 0)) ∨ (F n = ((n + 1 : Nat) : Int) ∧ ∃ rs : List (Nat × Nat), rs ≠ [] ∧ (∀ r, r ∈ rs → Eo w 6 r.1 r.2) ∧ Tbq w pl nv S A V F B (-1) rs (n + 1) e ∧ (S n ≠ 1 ∧ S n ≠ 2 ∧ S n ≠ 12 ∧ S n ≠ 13) ∧ ari (S n) rs.length ∧ fl w E pl 0 i j = fst9 (flr w E pl rs) (kft (gdt (S n) rs.length (kdl w E rs)) (A n)) ∧ kdq w E 0 i j = tyt (S n) (kdl w E rs))) ?_ ?_ ?_ ?_ ?_ ?_ ?_ ?_
  · intro i m q j h1 h2 h3 h4 h5 h6 h7 h8 o1 o2 o3 _ _ _ _ x n e ht
    rw [Td_ask h1 h2 h3 h6 h8] at ht
    obtain ⟨a, b, ⟨s1, s2, s3⟩, t1, b1, t2, b2, t3, b3⟩ := ht
    refine Or.inr ⟨s3, [(i, m), (m + 1, q), (q + 1, j)], by simp, fun r hr => ?_, ⟨a, t1, b1, b, t2, b2, t3, b3⟩, by omega, by rw [s1, h6]; exact Or.inr (Or.inr (Or.inl ⟨rfl, rfl⟩)), ?_, ?_⟩
    · simp at hr
      rcases hr with hr | hr | hr <;> subst hr
      · exact o1
      · exact o2
      · exact o3
    · rw [fl_ask h1 h2 h3 h6 h8, s2]
      show _ = fst9 (fst9 (fl w E pl 0 i m) (fst9 (fl w E pl 0 (m + 1) q) (fst9 (fl w E pl 0 (q + 1) j) (0, 0)))) _
      rw [fz o3, fst9_a (fl w E pl 0 i m)]
      congr 1
      refine kft_cg ?_
      unfold gdt
      rw [s1, h6, if_neg (by decide), if_neg (by decide), if_pos rfl]
      exact Iff.rfl
    · rw [kd_ask h1 h2 h3 h6 h8]
      unfold tyt
      rw [s1, h6, if_neg (by decide), if_pos rfl]
      rfl
  · intro i m j h1 h2 h3 h4 o1 o2 _ _ _ x n e ht
    rw [Td_bin h1 h2 h3 (by omega)] at ht
    obtain ⟨a, ⟨s1, s2, s3⟩, t1, b1, t2, b2⟩ := ht
    refine Or.inr ⟨s3, [(i, m), (m + 1, j)], by simp, fun r hr => ?_, ⟨a, t1, b1, t2, b2⟩, by omega, by rw [s1]; exact Or.inr (Or.inl ⟨h4, rfl⟩), ?_, ?_⟩
    · simp at hr
      rcases hr with hr | hr <;> subst hr
      · exact o1
      · exact o2
    · rw [fl_bin h1 h2 h3 (by omega), s2]
      show _ = fst9 (fst9 (fl w E pl 0 i m) (fst9 (fl w E pl 0 (m + 1) j) (0, 0))) _
      rw [fz o2]
      congr 1
      refine kft_cg ?_
      have all2 : ∀ y : Int, (kdq w E 0 i m = y ∧ kdq w E 0 (m + 1) j = y) ↔ ∀ t, t < 2 → kdl w E [(i, m), (m + 1, j)] t = y := fun y => by
        constructor
        · intro ⟨u1, u2⟩ t ht
          have : t = 0 ∨ t = 1 := by omega
          rcases this with rfl | rfl
          · exact u1
          · exact u2
        · intro u
          exact ⟨u 0 (by omega), u 1 (by omega)⟩
      unfold okq gdt
      rw [s1]
      by_cases c1 : w m = 29 ∨ w m = 30
      · rw [if_pos c1, if_pos (show w m = 29 ∨ w m = 30 ∨ w m = 31 by omega)]
        exact all2 1
      · rw [if_neg c1, if_neg (show ¬ (w m = 29 ∨ w m = 30 ∨ w m = 31) by omega)]
        by_cases c2 : w m = 23 ∨ w m = 18
        · rw [if_pos c2, if_pos (show w m = 18 ∨ w m = 23 by omega)]
          exact Iff.rfl
        · rw [if_neg c2, if_neg (show ¬ (w m = 18 ∨ w m = 23) by omega), if_neg (show ¬ w m = 32 by omega)]
          exact all2 0
    · rw [kd_bin h1 h2 h3 (by omega)]
      unfold tyt tru
      rw [s1]
      by_cases c1 : (18 ≤ w m ∧ w m ≤ 23) ∨ w m = 29 ∨ w m = 30
      · rw [if_pos c1]
        by_cases c2 : w m = 29 ∨ w m = 30 ∨ w m = 31 ∨ w m = 18 ∨ w m = 23
        · rw [if_pos c2]
        · rw [if_neg c2, if_neg (by omega), if_pos (by omega)]
      · rw [if_neg c1, if_neg (by omega), if_neg (by omega), if_neg (by omega)]
  · intro i j h1 h2 h3 _ _ i1 _ x n e ht
    rw [Td_par h1 h2 h3] at ht
    rw [fl_par h1 h2 h3, kd_par h1 h2 h3]
    rcases i1 rfl _ _ _ ht with ⟨a1, a2, k, a3, a4⟩ | q
    · exact Or.inl ⟨a1, a2, k, by omega, a4⟩
    · exact Or.inr q
  · intro i j h1 h2 h3 o1 _ _ x n e ht
    rw [Td_pre h1 h2 h3] at ht
    obtain ⟨⟨s1, s2, s3⟩, t1, b1⟩ := ht
    have all1 : ∀ y : Int, kdq w E 0 (i + 1) j = y ↔ ∀ t, t < 1 → kdl w E [(i + 1, j)] t = y := fun y => by
      constructor
      · intro u t ht
        rw [show t = 0 by omega]
        exact u
      · intro u
        exact u 0 (by omega)
    refine Or.inr ⟨s3, [(i + 1, j)], by simp, fun r hr => by rw [List.mem_singleton.1 hr]; exact o1, ⟨t1, b1⟩, ?_, ?_, ?_, ?_⟩
    · rw [s1]; split <;> decide
    · rw [s1]; refine Or.inl ⟨?_, rfl⟩; split <;> simp
    · rw [s2]
      show _ = fst9 (fst9 (fl w E pl 0 (i + 1) j) (0, 0)) _
      rw [fz o1]
      rcases h3 with h3 | h3
      · rw [fl_neg h1 h2 h3]
        congr 1
        refine kft_cg ?_
        unfold gdt
        rw [s1, if_pos h3, if_neg (by decide), if_neg (by decide), if_neg (by decide)]
        exact all1 0
      · rw [fl_not h1 h2 h3]
        congr 1
        refine kft_cg ?_
        unfold gdt
        rw [s1, if_neg (show ¬ w i = 25 by omega), if_pos (by decide)]
        exact all1 1
    · unfold tyt
      rcases h3 with h3 | h3
      · rw [kd_num h1 h2 (Or.inl h3), s1, if_pos h3]
        rfl
      · rw [kd_tru h1 h2 (Or.inl h3), s1, if_neg (show ¬ w i = 25 by omega)]
        rfl
  · intro i h1 h3 _ x n e ht
    rw [Td_leaf h1 (by omega) h3] at ht
    obtain ⟨rfl, s1, s2, s3, s4⟩ := ht
    refine Or.inl ⟨s3, rfl, i, ⟨Nat.le_refl _, by omega⟩, h3, s1, s2, s4, fl_leaf h1 (by omega) h3, ?_⟩
    rcases h3 with h3 | h3 | h3
    · rw [kd_nam h1 (by omega) h3]
      by_cases c : E i = 1
      · rw [if_pos c, if_pos (Or.inr (Or.inr ⟨h3, c⟩))]
      · rw [if_neg c, if_neg (by omega)]
    · rw [kd_num h1 (by omega) (Or.inr (Or.inl h3)), if_neg (by omega)]
    · rw [kd_tru h1 (by omega) (Or.inr h3), if_pos (by omega)]
  · intro i j h1 h2 h3 _ o7 _ _ x n e ht
    rw [Td_lst h1 h2 h3] at ht
    obtain ⟨⟨s1, s2, s3⟩, t1⟩ := ht
    have y0 : S n ≠ 1 ∧ S n ≠ 2 ∧ S n ≠ 12 ∧ S n ≠ 13 := by omega
    have y1 : ¬ (w i = 29 ∨ w i = 30 ∨ w i = 31) := by omega
    have y2 : ¬ (w i = 18 ∨ w i = 23) := by omega
    have y3 : ¬ w i = 32 := by omega
    have y4 : ¬ (w i = 29 ∨ w i = 30 ∨ w i = 31 ∨ w i = 18 ∨ w i = 23) := by omega
    have y5 : ¬ (19 ≤ w i ∧ w i ≤ 22) := by omega
    obtain ⟨rs, r1, r2, r3, r4, r5⟩ := td_tb (E := E) _ 1 (i + 2) (j - 1) (Nat.le_refl _) (Or.inr ⟨rfl, o7⟩) rfl _ _ _ t1
    refine Or.inr ⟨s3, rs, r1, r2, r3, y0, by rw [s1]; exact Or.inr (Or.inr (Or.inr h3)), ?_, ?_⟩
    · rw [fl_lst h1 h2 h3, r4, s2]
      congr 1
      refine kft_cg ?_
      unfold gdt
      rw [s1, if_neg y1, if_neg y2, if_neg y3]
      constructor
      · intro u t ht
        rcases kdl_01 (E := E) r2 ht with v | v
        · exact v
        · have z1 := r5.mpr ⟨t, ht, v⟩
          rw [u] at z1
          exact absurd z1 (by decide)
      · intro u
        rcases kf_01 (E := E) _ 1 (i + 2) (j - 1) (Nat.le_refl _) (Or.inr ⟨rfl, o7⟩) with v | v
        · exact v
        · obtain ⟨t, h6, h7⟩ := r5.mp v
          have z1 := u t h6
          rw [h7] at z1
          exact absurd z1 (by decide)
    · rw [kd_num h1 h2 (Or.inr (Or.inr h3))]
      unfold tyt
      rw [s1, if_neg y4, if_neg y3, if_neg y5]
  · intros; omega
  · intros; omega
end PTS
end
section
/-! The reference's look, exactly. -/
section LVX
variable {G : mG} {d a N g T K : Nat} {M M2 M3 M4 : mM} {nm : Int → Prop} {Q : Int → mM → Prop} {co : Int} {E rv : Nat → Int}
/-- a node is looked at, and the loop goes on or ends -/
theorem x_lkA {nm' : Int → Prop} {n k L : Nat} {u : Nat → Int} (hU : URq M a g N K co E rv) (hco : i32 co) (hw0 : Wd M a) (hF : ∀ M3, laX co M M4 a g N T K n L k u E rv M3 → mI M3 a 16 ≠ 0 → Q 0 M3) (h : LO M a g N T K M4) (hn : n < T) (hk : pks nm' M4 g T n k) (hv : so M4 g n = 1 → (0 ≤ va M4 g n ∧ va M4 g n < N) ∧ wk M a (va M4 g n).toNat = 1) (hL : ln M4 (a + 93) = (L + k : Nat)) (hb : L + k ≤ 65000) (hu : ∀ j, j < k → nt M4 (a + 93) (L + j) = u j) (h01 : ∀ j, j < k → u j = 0 ∨ u j = 1) (hK : ∀ M5, laX co M M4 a g N T K n L k u E rv M5 → mI M5 a 16 = 0 → h_MM_look_32 G (d + 5) a co M5 Q) : Cv G y_MM_lookAt (d + 5) [vr a, vi n, vi co] M4 (fun M5 => mOk M5 ∧ h_MM_look_32 G (d + 5) a co M5 Q) := by
  refine (x_MM_lookAt hU hco hw0 h hn hk hv hL hb hu h01).mono (fun M5 h5 => ⟨h5.1, ?_⟩)
  obtain ⟨o5, h5⟩ := h5
  by_cases z : mI M5 a 16 = 0
  · exact hK M5 h5 z
  · have w5 := h5.1.2.1.2.1.1.1
    refine k_MM_look_32 o5 hco ?_
    rw [r20w w5]
    exact ⟨w5.1.1, (w5.nu n95).1, fun _ => ⟨fun q => absurd q z, fun _ => hF M5 h5 z⟩, fun q => absurd (Or.inr z) q⟩
/-- what the trees stand for: intervals of words -/
def TBx (M : mM) (a g md : Nat) (rs : List (Nat × Nat)) (n e : Nat) : Prop := (∀ r, r ∈ rs → Eo (wk M a) 6 r.1 r.2) ∧ if md = 0 then ∃ i j, rs = [(i, j)] ∧ Tm M M a g 0 0 i j n e else rs.length = md ∧ Tmb M M a g (-1) rs n e
/-- what a node's value becomes -/
def rsw (M : mM) (g : Nat) (rv : Nat → Int) (k : Nat) : Int := if so M g k = 1 then rv (va M g k).toNat else va M g k
/-- no fault; the kinds; the names are resolved -/
def lkE (M : mM) (a g : Nat) (E rv : Nat → Int) (rs : List (Nat × Nat)) (L n e : Nat) (M3 : mM) : Prop := (flr (wk M a) E (nt M (a + 7)) rs).1 = 0 ∧ (∀ j, j < rs.length → nt M3 (a + 93) (L + j) = kdl (wk M a) E rs j) ∧ ∀ k, n ≤ k → k < e → va M3 g k = rsw M g rv k
/-- a pair is a fault -/
def fpw (M3 : mM) (a : Nat) (f : Int × Int) : Prop := mI M3 a 16 = f.1 ∧ mI M3 a 17 = f.2
theorem fst9_l {x y : Int × Int} (h : x.1 ≠ 0) : fst9 x y = x := if_neg h
theorem fst9_r {x y : Int × Int} (h : x.1 = 0) : fst9 x y = y := if_pos h
/-- as many parts as brothers -/
theorem tb_len (h : LO M a g N T K M2) : ∀ {rs : List (Nat × Nat)} {k f n e : Nat}, Tmb M M a g (-1) rs n e → Tn nm M2 g f k n e → 1 ≤ k → rs.length = k
  | [], _, _, _, _, h1, _, _ => h1.elim
  | [r], k, f, n, e, h1, h2, hk => by
    cases f with
    | zero => exact h2.elim
    | succ f =>
      rw [Tn, if_neg (by omega)] at h2
      by_cases c1 : k = 1
      · rw [c1]; rfl
      · rw [if_neg c1] at h2
        obtain ⟨m, q1, -⟩ := h2
        have := (h.2.2.2.1 n).2.2.symm.trans q1
        have := h1.2
        omega
  | r :: r2 :: rs, k, f, n, e, h1, h2, hk => by
    obtain ⟨m', t1, t2, t3⟩ := h1
    cases f with
    | zero => exact h2.elim
    | succ f =>
      rw [Tn, if_neg (by omega)] at h2
      by_cases c1 : k = 1
      · rw [if_pos c1] at h2
        have := (h.2.2.2.1 n).2.2.symm.trans h2.1
        omega
      · rw [if_neg c1] at h2
        obtain ⟨m, q1, -, q3⟩ := h2
        have q1' := (h.2.2.2.1 n).2.2.symm.trans q1
        have em : m = m' := by omega
        subst em
        have := tb_len h t3 q3 (by omega)
        simp only [List.length_cons] at this ⊢
        omega
theorem x_look_run (hU : URq M a g N K co E rv) (hco : i32 co) (hw0 : Wd M a) (hnm : ∀ v, nm v → (0 ≤ v ∧ v < N) ∧ wk M a v.toNat = 1) : ∀ (f md n e Lk L kk : Nat) (M2 : mM) (rs : List (Nat × Nat)), kk = md + (1 - md) → Tn nm M2 g f md n e → TBx M a g md rs n e → (∀ k, n ≤ k → k < e → va M2 g k = va M g k) → e ≤ T → LO M a g N T K M2 → mI M2 a 16 = 0 → ln M2 (a + 95) = (Lk + 2 * kk : Nat) → (∀ j, j < kk → nt M2 (a + 95) (Lk + 2 * (kk - 1 - j)) = ci M g n j ∧ nt M2 (a + 95) (Lk + 2 * (kk - 1 - j) + 1) = 0) → ln M2 (a + 93) = (L : Int) → L ≤ n → Lk ≤ 2 * (n + (T - e)) → (∀ M3, LO M a g N T K M3 → fpw M3 a (flr (wk M a) E (nt M (a + 7)) rs) → mI M3 a 16 ≠ 0 → Q 0 M3) → (∀ M3, lkR co M a g N T K Lk L kk f md n e M2 M3 → lkE M a g E rv rs L n e M3 → h_MM_look_32 G (d + 5) a co M3 Q) → h_MM_look_32 G (d + 5) a co M2 Q := by
  intro f
  induction f with
  | zero => intro md n e Lk L kk M2 rs _ ht; exact ht.elim
  | succ f ih =>
    intro md n e Lk L kk M2 rs hkk ht htb hva he h h16 lk pk lL hLn hLk hF hQ
    obtain ⟨hrs, htb⟩ := htb
    have hT := h.2.1.2.2.2.2.2.2.2
    have ht' := ht
    rw [Tn] at ht'
    have hlt := ht.lt
    by_cases c0 : md = 0
    · subst c0
      have kk1 : kk = 1 := by omega
      subst kk1
      rw [if_pos rfl] at ht'
      obtain ⟨p0, p1⟩ := pk 0 (by omega)
      rw [show Lk + 2 * (1 - 1 - 0) = Lk by omega] at p0 p1
      have pn : nt M2 (a + 95) Lk = (n : Int) := p0
      obtain ⟨-, ht'⟩ := ht'
      rw [if_pos rfl] at htb
      obtain ⟨i, j, rfl, tm⟩ := htb
      have eo : Eo (wk M a) 6 i j := hrs (i, j) (List.mem_singleton.2 rfl)
      have fl1 : flr (wk M a) E (nt M (a + 7)) [(i, j)] = fl (wk M a) E (nt M (a + 7)) 0 i j := by
        show fst9 (fl (wk M a) E (nt M (a + 7)) 0 i j) (0, 0) = _
        unfold fst9
        split
        · rename_i h0; exact (fl_z eo h0).symm
        · rfl
      have kd1 : ∀ y : Int, y = kdq (wk M a) E 0 i j → ∀ t, t < [(i, j)].length → y = kdl (wk M a) E [(i, j)] t := fun y hy t ht => by
        have t0 : t = 0 := by simp at ht; omega
        subst t0
        exact hy
      have so2 : ∀ k, so M2 g k = so M g k := fun k => (h.2.2.2.1 k).1
      have fp2 : fp M2 g n = fp M g n := (h.2.2.2.1 n).2.1
      have tn9 := fun (_ : Unit) => td_node (E := E) _ 0 i j (Nat.le_refl _) (Or.inl ⟨rfl, eo⟩) rfl _ _ _ tm
      unfold lkE at hQ
      rw [fl1] at hF hQ
      rcases ht' with ⟨b1, b2, b3, b4, b5⟩ | ⟨k, b1, b2, b3, b4⟩
      · -- a leaf
        refine s_lk2 (X := Lk) hco h h16 (by omega) lk (by omega) pn p1 (fun _ M5 k5 l5 t5 => ?_) (fun q => absurd (Or.inr (by omega)) q)
        have so5 : so M5 g n = so M2 g n := (k5.1.2.2.2.1 n).1.trans (h.2.2.2.1 n).1.symm
        have fp5 : fp M5 g n = fp M2 g n := (k5.1.2.2.2.1 n).2.1.trans (h.2.2.2.1 n).2.1.symm
        have va5 := k5.2.2.1
        obtain ⟨-, e1, kw, kij, kl, ks, ka, kv, kf, kk9⟩ : fp M g n = -1 ∧ e = n + 1 ∧ ∃ k, (i ≤ k ∧ k < j) ∧ (wk M a k = 1 ∨ wk M a k = 2 ∨ wk M a k = 12 ∨ wk M a k = 13) ∧ so M g n = wk M a k ∧ pm M g n = nt M (a + 7) k ∧ va M g n = nvq M a k ∧ fl (wk M a) E (nt M (a + 7)) 0 i j = (if wk M a k = 1 ∧ E k = -1 then (2, nt M (a + 7) k) else (0, 0)) ∧ kdq (wk M a) E 0 i j = (if wk M a k = 12 ∨ wk M a k = 13 ∨ (wk M a k = 1 ∧ E k = 1) then 1 else 0) := by
          rcases tn9 () with q | ⟨q, -⟩
          · exact q
          · rw [← fp2, b2] at q; omega
        have sw5 : so M5 g n = wk M a kw := by rw [so5, so2, ks]
        have vk5 : so M5 g n = 1 → (va M5 g n).toNat = kw := fun z => by
          rw [va5, hva n (Nat.le_refl _) hlt, kv]
          unfold nvq
          rw [if_pos (by rw [← sw5]; exact z), Int.toNat_natCast]
        refine x_lkA (nm' := nm) (k := 0) (L := L) (u := fun _ => 0) hU hco hw0 (fun M6 h6 z6 => ?_) k5.1 (by omega) (Or.inl ⟨rfl, by rw [fp5]; exact b2, by rw [so5]; exact b3⟩) (fun z => by rw [va5]; exact hnm _ (b5 (so5.symm.trans z))) (by rw [k5.2.2.2.1, lL]; omega) (by omega) (fun j _ => by omega) (fun j _ => by omega) (fun M6 h6 z6 => hQ M6 ?_ ?_)
        · obtain ⟨g1, g2, g3, g4, g5, g6⟩ := h6
          refine hF M6 g1 ?_ z6
          rcases g6 with ⟨y1, y2, y3, y4⟩ | ⟨y1, y2, y3, y4⟩ | ⟨-, y1, -⟩
          · rw [vk5 y3] at y4
            rw [kf, if_pos ⟨by rw [← sw5]; exact y3, y4⟩]
            exact ⟨y1, by rw [y2, ka]⟩
          · rw [sw5] at y3; omega
          · rw [k5.2.1, h16] at y1; exact absurd y1 z6
        rotate_left
        · obtain ⟨g1, g2, g3, g4, g5, g6⟩ := h6
          rcases g6 with ⟨y1, -⟩ | ⟨y1, -⟩ | ⟨yl, y1, y2, y3⟩
          · rw [z6] at y1; exact absurd y1 (by decide)
          · rw [z6] at y1; exact absurd y1 (by decide)
          · refine ⟨?_, fun t ht => ?_, fun k k1 k2 => ?_⟩
            · rw [kf, if_neg]
              rintro ⟨u1, u2⟩
              obtain ⟨-, v2, v3⟩ := y2 (by rw [sw5]; exact u1)
              rw [vk5 (by rw [sw5]; exact u1), u2] at v2
              exact v3 v2.symm
            · have t0 : t = 0 := by simp at ht; omega
              subst t0
              refine kd1 _ ?_ 0 (by simp)
              rw [kk9, Nat.add_zero]
              have yt : tyn (tn M g) (so M5 g n) (va M6 g n) 0 (fun _ => 0) (nt M6 (a + 93) L) := by
                rcases yl with yl | yl
                · exact absurd z6 yl
                · exact yl.2.2.2
              unfold tyn at yt
              rw [sw5] at yt
              by_cases w1 : wk M a kw = 1
              · obtain ⟨-, v2, -⟩ := y2 (by rw [sw5]; exact w1)
                rw [vk5 (by rw [sw5]; exact w1)] at v2
                show nt M6 (a + 93) L = _
                rw [← v2]
                by_cases e1 : E kw = 1
                · rw [if_pos (Or.inr (Or.inr ⟨w1, e1⟩)), e1]
                · rw [if_neg (by omega)]
                  omega
              · rw [if_neg w1] at yt
                by_cases w2 : wk M a kw = 2
                · rw [if_pos w2] at yt
                  show nt M6 (a + 93) L = _
                  rw [yt, if_neg (by omega)]
                · rw [if_neg w2, if_pos (by omega)] at yt
                  show nt M6 (a + 93) L = _
                  rw [yt, if_pos (by omega)]
            · have kn : k = n := by omega
              subst kn
              unfold rsw
              have ya : laE co M M5 a g k 0 (fun _ => 0) (nt M6 (a + 93) L) M6 := yl
              by_cases w1 : so M g k = 1
              · obtain ⟨v1, -, -⟩ := y2 (by rw [so5, so2]; exact w1)
                rw [if_pos w1, v1, va5, hva k (Nat.le_refl _) hlt]
              · rw [if_neg w1]
                rcases ya with ya | ⟨-, -, ya, -⟩
                · exact absurd z6 ya
                · rw [ya k (Or.inr (by rw [so5, so2]; exact w1)), va5, hva k (Nat.le_refl _) hlt]
        obtain ⟨g1, g2, g3, g4, g5, g6⟩ := h6
        have so6 : so M6 g n = so M2 g n := (g1.2.2.2.1 n).1.trans (h.2.2.2.1 n).1.symm
        have fp6 : fp M6 g n = fp M2 g n := (g1.2.2.2.1 n).2.1.trans (h.2.2.2.1 n).2.1.symm
        replace g6 : laE co M M5 a g n 0 (fun _ => 0) (nt M6 (a + 93) L) M6 := by
          rcases g6 with ⟨y1, -⟩ | ⟨y1, -⟩ | ⟨yl, -⟩
          · rw [z6] at y1; exact absurd y1 (by decide)
          · rw [z6] at y1; exact absurd y1 (by decide)
          · exact yl
        rcases g6 with z | ⟨z1, z2, z3, z4⟩
        · exact absurd z6 z
        · rw [so5] at z2 z4
          refine ⟨g1, z6, by rw [g2.1]; exact l5, fun j _ => by rw [g2.2.1, t5], g3, fun j hj => by rw [g4 j hj, k5.2.2.2.2.1], ⟨fun _ => nt M6 (a + 93) L, fun j hj => by rw [show L + j = L by omega], fun _ _ => g5, ?_⟩, fun j hj => ?_⟩
          · rw [Ty, if_pos rfl]
            refine ⟨hlt, g5, Or.inl ⟨b1, by rw [fp6]; exact b2, by rw [so6]; exact b3, fun y => ?_, fun y => z2 (so6.symm.trans y), by rw [so6]; exact z4⟩⟩
            rw [so6] at y
            rw [z3 n (Or.inr (by rw [so5, y]; decide)), va5]
            exact b4 y
          · rw [z3 j (Or.inl (by omega)), va5]
      · -- a node with parts
        have hge := b4.ge
        have so1 : so M2 g n ≠ 1 := fun z => by unfold ari at b2; omega
        obtain ⟨-, rs2, r1, r2, r3, r4, r5, r6, r7⟩ : fp M g n = ((n + 1 : Nat) : Int) ∧ ∃ rs : List (Nat × Nat), rs ≠ [] ∧ (∀ r, r ∈ rs → Eo (wk M a) 6 r.1 r.2) ∧ Tmb M M a g (-1) rs (n + 1) e ∧ (so M g n ≠ 1 ∧ so M g n ≠ 2 ∧ so M g n ≠ 12 ∧ so M g n ≠ 13) ∧ ari (so M g n) rs.length ∧ fl (wk M a) E (nt M (a + 7)) 0 i j = fst9 (flr (wk M a) E (nt M (a + 7)) rs) (kft (gdt (so M g n) rs.length (kdl (wk M a) E rs)) (pm M g n)) ∧ kdq (wk M a) E 0 i j = tyt (so M g n) (kdl (wk M a) E rs) := by
          rcases tn9 () with ⟨q, -⟩ | q
          · rw [← fp2, b3] at q; omega
          · exact q
        have rk : rs2.length = k := tb_len h r3 b4 b1
        refine s_lk2 (X := Lk) hco h h16 (by omega) lk (by omega) pn p1 (fun q => by omega) (fun _ M6 k6 l6 t6 v6 w6 => ?_)
        rw [b3]
        have b46 : Tn nm M6 g f k (n + 1) e := b4.lo h k6.1 (fun j _ _ => k6.2.2.1 j)
        refine s_look126 (X := Lk + 2) hco (by omega) k f (n + 1) e (Lk + 2) M6 b1 b46 he k6.1 l6 (by omega) (fun M7 k7 l7 t7 v7 => ?_)
        have w7 := k7.1.2.1.2.1.1.1
        refine k_MM_look_126 k7.1.2.1.1 hco (i32s (by omega) (by omega)) (i32s (by omega) (by omega)) ⟨fun _ => ⟨w7.1.1, (s_MM_turn (d := d + 4) k7.1.2.1.1 w7 l7 (by omega) b1).mono (fun M8 h8 => ?_)⟩, fun q => absurd (by decide) q⟩
        obtain ⟨m8, l8, t8, u8⟩ := h8
        have k8 := kp.mk k7.1 m8 (fun _ z => z)
        have k68 := k6.trans (k7.trans k8)
        refine ⟨m8.1, ?_⟩
        have b48 : Tn nm M8 g f k (n + 1) e := b4.lo h k68.1 (fun j _ _ => k68.2.2.1 j)
        refine ih k (n + 1) e (Lk + 2) L k M8 rs2 (by omega) b48 ⟨r2, by rw [if_neg (by omega)]; exact ⟨rk, r3⟩⟩ (fun x x1 x2 => by rw [k68.2.2.1, hva x (by omega) x2]) he k68.1 (by rw [k68.2.1]; exact h16) (by rw [l8, l7]) (fun j hj => ?_) (by rw [k68.2.2.2.1]; exact lL) (by omega) (by omega) (fun M9 l9 p9 z9 => hF M9 l9 (by rw [r6, fst9_l (by rw [← p9.1]; exact z9)]; exact p9) z9) (fun M9 h9 x9 => ?_)
        · refine ⟨?_, ?_⟩
          · rw [t8 (k - 1 - j) (by omega), show k - 1 - (k - 1 - j) = j by omega]
            exact (v7 j hj).1
          · rw [u8 _ (fun i hi => by omega)]
            exact (v7 (k - 1 - j) (by omega)).2
        · obtain ⟨g1, g2, g3, g4, g5, g6, ⟨c, gu, g7, g8⟩, g9⟩ := h9
          obtain ⟨x1, x2, x3⟩ := x9
          rw [rk] at x2
          have ceq : ∀ j, j < k → kdl (wk M a) E rs2 j = c j := fun j hj => by rw [← x2 j hj]; exact gu j hj
          have low : ∀ j, j < Lk + 2 → nt M9 (a + 95) j = nt M6 (a + 95) j := fun j hj => by rw [g4 j hj, u8 j (fun i hi => by omega), t7 j hj]
          refine s_lk2 (n := n) (X := Lk) (s := 1) hco g1 g2 (by omega) g3 (by omega) (by rw [low Lk (by omega)]; exact v6) (by rw [low (Lk + 1) (by omega)]; exact w6) (fun _ M10 k10 l10 t10 => ?_) (fun q => absurd (Or.inl rfl) q)
          have so10 : so M10 g n = so M2 g n := (k10.1.2.2.2.1 n).1.trans (h.2.2.2.1 n).1.symm
          have fp10 : fp M10 g n = fp M2 g n := (k10.1.2.2.2.1 n).2.1.trans (h.2.2.2.1 n).2.1.symm
          refine x_lkA (nm' := nmr co M g) (k := k) (L := L) (u := kdl (wk M a) E rs2) hU hco hw0 (fun M11 h11 z11 => ?_) k10.1 (by omega) (Or.inr ⟨b1, by omega, by rw [so10]; exact b2, by rw [fp10]; exact b3, f, e, he, (g8.lo g1 k10.1 (fun j _ _ => k10.2.2.1 j)).tn⟩) (fun z => absurd (so10.symm.trans z) so1) (by rw [k10.2.2.2.1]; exact g5) (by omega) (fun j hj => by rw [k10.2.2.2.2.1]; exact x2 j hj) (fun j hj => by rw [ceq j hj]; exact g7 j hj) (fun M11 h11 z11 => hQ M11 ?_ ?_)
          · obtain ⟨f1, f2, f3, f4, f5, f6⟩ := h11
            refine hF M11 f1 ?_ z11
            rcases f6 with ⟨y1, y2, y3, y4⟩ | ⟨y1, y2, y3, y4⟩ | ⟨-, y1, -⟩
            · exact absurd (so10.symm.trans y3) so1
            · rw [r6, fst9_r x1, rk]
              rw [so10, so2] at y4
              unfold kft
              rw [if_neg y4]
              exact ⟨y1, y2⟩
            · rw [k10.2.1, g2] at y1; exact absurd y1 z11
          rotate_left
          · obtain ⟨f1, f2, f3, f4, f5, f6⟩ := h11
            rcases f6 with ⟨y1, -⟩ | ⟨y1, -⟩ | ⟨yl, y1, -, y3⟩
            · rw [z11] at y1; exact absurd y1 (by decide)
            · rw [z11] at y1; exact absurd y1 (by decide)
            · rw [so10, so2] at y3
              obtain ⟨v1, v2⟩ := y3 r4
              refine ⟨?_, fun t ht => by
                have t0 : t = 0 := by simp at ht; omega
                subst t0
                exact kd1 _ (by rw [r7]; exact v2) 0 ht, fun x y1 y2 => ?_⟩
              · rw [r6, fst9_r x1, rk]
                exact kft_1.mpr v1
              · have ya : va M11 g x = va M10 g x := by
                  rcases yl with yl | ⟨-, -, yl, -⟩
                  · exact absurd z11 yl
                  · exact yl x (Or.inr (by rw [so10]; exact so1))
                rw [ya, k10.2.2.1]
                by_cases xn : x = n
                · subst xn
                  rw [g9 x (Or.inl (by omega)), k68.2.2.1, hva x (Nat.le_refl _) hlt]
                  unfold rsw
                  rw [if_neg (by rw [← so2]; exact so1)]
                · exact x3 x (by omega) y2
          obtain ⟨f1, f2, f3, f4, f5, f6⟩ := h11
          have so11 : so M11 g n = so M2 g n := (f1.2.2.2.1 n).1.trans (h.2.2.2.1 n).1.symm
          have fp11 : fp M11 g n = fp M2 g n := (f1.2.2.2.1 n).2.1.trans (h.2.2.2.1 n).2.1.symm
          replace f6 : laE co M M10 a g n k (kdl (wk M a) E rs2) (nt M11 (a + 93) L) M11 := by
            rcases f6 with ⟨y1, -⟩ | ⟨y1, -⟩ | ⟨yl, -⟩
            · rw [z11] at y1; exact absurd y1 (by decide)
            · rw [z11] at y1; exact absurd y1 (by decide)
            · exact yl
          rcases f6 with z | ⟨z1, z2, z3, z4⟩
          · exact absurd z11 z
          · have va11 : ∀ j, va M11 g j = va M9 g j := fun j => (z3 j (Or.inr (by rw [so10]; exact so1))).trans (k10.2.2.1 j)
            refine ⟨f1, z11, by rw [f2.1]; exact l10, fun j hj => by rw [f2.2.1, t10, low j (by omega), t6 j hj], f3, fun j hj => by rw [f4 j hj, k10.2.2.2.2.1, g6 j hj, k68.2.2.2.2.1], ⟨fun _ => nt M11 (a + 93) L, fun j hj => by rw [show L + j = L by omega], fun _ _ => f5, ?_⟩, fun j hj => ?_⟩
            · rw [Ty, if_pos rfl]
              exact ⟨hlt, f5, Or.inr ⟨k, kdl (wk M a) E rs2, b1, by rw [so11]; exact b2, by rw [fp11]; exact b3, (g8.lo g1 f1 (fun j _ _ => va11 j)).cg (fun j hj => ceq j (by omega)), by rw [so11, ← so10]; exact z4⟩⟩
            · rw [va11, g9 j (by omega), k68.2.2.1]
    · rw [if_neg c0] at ht' htb
      obtain ⟨hlen, htb⟩ := htb
      have kkm : kk = md := by omega
      subst kkm
      by_cases c1 : kk = 1
      · subst c1
        rw [if_pos rfl] at ht'
        obtain ⟨r, rfl⟩ : ∃ r, rs = [r] := by
          cases rs with
          | nil => simp at hlen
          | cons r rs =>
            cases rs with
            | nil => exact ⟨r, rfl⟩
            | cons r2 rs => simp at hlen
        refine ih 0 n e Lk L 1 M2 [r] (by omega) ht'.2 ⟨hrs, by rw [if_pos rfl]; exact ⟨r.1, r.2, rfl, htb.1⟩⟩ hva he h h16 lk pk lL hLn hLk hF (fun M3 h3 x3 => hQ M3 ?_ x3)
        obtain ⟨g1, g2, g3, g4, g5, g6, ⟨u, gu, g7, g8⟩, g9⟩ := h3
        refine ⟨g1, g2, g3, g4, g5, g6, ⟨u, gu, g7, ?_⟩, g9⟩
        rw [Ty, if_neg (by omega), if_pos rfl]
        exact ⟨((g1.2.2.2.1 n).2.2.trans (h.2.2.2.1 n).2.2.symm).trans ht'.1, g8⟩
      · rw [if_neg c1] at ht'
        obtain ⟨m, q1, q2, q3⟩ := ht'
        have l1 := q2.lt
        have l2 := q3.ge
        have hnp : np M g n = (m : Int) := (h.2.2.2.1 n).2.2.symm.trans q1
        obtain ⟨r, r2, rs2, rfl⟩ : ∃ r r2 rs2, rs = r :: r2 :: rs2 := by
          cases rs with
          | nil => simp at hlen; omega
          | cons r rs =>
            cases rs with
            | nil => simp at hlen; omega
            | cons r2 rs => exact ⟨r, r2, rs, rfl⟩
        obtain ⟨m', tb1, tb2, tb3⟩ := htb
        have em : m' = m := by omega
        subst em
        have eor : Eo (wk M a) 6 r.1 r.2 := hrs r (List.mem_cons_self ..)
        have flc : flr (wk M a) E (nt M (a + 7)) (r :: r2 :: rs2) = fst9 (fl (wk M a) E (nt M (a + 7)) 0 r.1 r.2) (flr (wk M a) E (nt M (a + 7)) (r2 :: rs2)) := rfl
        have fl1 : flr (wk M a) E (nt M (a + 7)) [r] = fl (wk M a) E (nt M (a + 7)) 0 r.1 r.2 := by
          show fst9 (fl (wk M a) E (nt M (a + 7)) 0 r.1 r.2) (0, 0) = _
          unfold fst9
          split
          · rename_i h0; exact (fl_z eor h0).symm
          · rfl
        refine ih 0 n m' (Lk + 2 * (kk - 1)) L 1 M2 [r] (by omega) q2 ⟨fun x hx => by rw [List.mem_singleton.1 hx]; exact eor, by rw [if_pos rfl]; exact ⟨r.1, r.2, rfl, tb1⟩⟩ (fun x x1 x2 => hva x x1 (by omega)) (by omega) h h16 (by rw [lk]; omega) (fun j hj => ?_) lL hLn (by omega) (fun M3 l3 p3 z3 => hF M3 l3 (by rw [flc, fst9_l (by rw [← fl1, ← p3.1]; exact z3), ← fl1]; exact p3) z3) (fun M3 h3 x3 => ?_)
        · have : j = 0 := by omega
          subst this
          have := pk 0 (by omega)
          rw [show Lk + 2 * (kk - 1) + 2 * (1 - 1 - 0) = Lk + 2 * (kk - 1 - 0) by omega]
          exact this
        · obtain ⟨g1, g2, g3, g4, g5, g6, ⟨u, gu, g7, g8⟩, g9⟩ := h3
          obtain ⟨x1, x2, x3⟩ := x3
          rw [fl1] at x1
          refine ih (kk - 1) m' e Lk (L + 1) (kk - 1) M3 (r2 :: rs2) (by omega) (q3.lo h g1 (fun j j1 _ => g9 j (by omega))) ⟨fun x hx => hrs x (List.mem_cons_of_mem _ hx), by rw [if_neg (by omega)]; exact ⟨by simp only [List.length_cons] at hlen ⊢; omega, tb3⟩⟩ (fun x y1 y2 => by rw [g9 x (by omega), hva x (by omega) y2]) he g1 g2 g3 (fun j hj => ?_) g5 (by omega) (by omega) (fun M4 l4 p4 z4 => hF M4 l4 (by rw [flc, fst9_r x1]; exact p4) z4) (fun M4 h4 x4 => hQ M4 ?_ ?_)
          · have := pk (j + 1) (by omega)
            rw [ci_succ hnp, show Lk + 2 * (kk - 1 - (j + 1)) = Lk + 2 * (kk - 1 - 1 - j) by omega] at this
            rw [g4 _ (by omega), g4 _ (by omega)]
            exact this
          · obtain ⟨f1, f2, f3, f4, f5, f6, ⟨v, fu, f7, f8⟩, f9⟩ := h4
            refine ⟨f1, f2, f3, fun j hj => by rw [f4 j hj, g4 j (by omega)], by rw [f5]; omega, fun j hj => by rw [f6 j (by omega), g6 j hj], ⟨fun j => if j = 0 then u 0 else v (j - 1), fun j hj => ?_, fun j hj => ?_, ?_⟩, fun j hj => by rw [f9 j (by omega), g9 j (by omega)]⟩
            · show nt M4 (a + 93) (L + j) = if j = 0 then u 0 else v (j - 1)
              by_cases z : j = 0
              · rw [if_pos z, z, f6 (L + 0) (by omega)]; exact gu 0 (by omega)
              · rw [if_neg z, ← fu (j - 1) (by omega), show L + 1 + (j - 1) = L + j by omega]
            · show (if j = 0 then u 0 else v (j - 1)) = 0 ∨ (if j = 0 then u 0 else v (j - 1)) = 1
              by_cases z : j = 0
              · rw [if_pos z]; exact g7 0 (by omega)
              · rw [if_neg z]; exact f7 (j - 1) (by omega)
            · rw [Ty, if_neg (by omega), if_neg (by omega)]
              refine ⟨m', ((f1.2.2.2.1 n).2.2.trans (h.2.2.2.1 n).2.2.symm).trans q1, (g8.lo g1 f1 (fun j _ j2 => f9 j (by omega))).cg (fun j hj => ?_), f8.cg (fun j hj => ?_)⟩
              · have : j = 0 := by omega
                rw [this, if_pos rfl]
              · rw [if_neg (by omega), show j + 1 - 1 = j by omega]
          · obtain ⟨f1, f2, f3, f4, f5, f6, -, f9⟩ := h4
            obtain ⟨y1, y2, y3⟩ := x4
            refine ⟨by rw [flc, fst9_r x1]; exact y1, fun t ht => ?_, fun x z1 z2 => ?_⟩
            · cases t with
              | zero =>
                rw [f6 (L + 0) (by omega)]
                exact x2 0 (by simp)
              | succ t =>
                have := y2 t (by simp only [List.length_cons] at ht ⊢; omega)
                rw [show L + (t + 1) = L + 1 + t by omega, this]
                rfl
            · by_cases c : x < m'
              · rw [f9 x (Or.inl c)]; exact x3 x z1 c
              · exact y3 x (by omega) z2
end LVX
end
section
/-! The reference's look, exactly: the whole. -/
section LWX
variable {G : mG} {d a N g T K : Nat} {M : mM} {nm : Int → Prop} {co : Int} {E rv : Nat → Int}
/-- the fault, or the kind; the names are resolved -/
def lkX (co : Int) (M : mM) (a g N T K : Nat) (E rv : Nat → Int) (i j n e : Nat) (r : Int) (M3 : mM) : Prop := lkQ co M a g N T K n e r M3 ∧ (mI M a 16 ≠ 0 ∨ (mI M3 a 16 ≠ 0 ∧ fpw M3 a (fl (wk M a) E (nt M (a + 7)) 0 i j)) ∨ (mI M3 a 16 = 0 ∧ (fl (wk M a) E (nt M (a + 7)) 0 i j).1 = 0 ∧ r = kdq (wk M a) E 0 i j ∧ ∀ k, n ≤ k → k < e → va M3 g k = rsw M g rv k))
theorem x_MM_look {n e i j : Nat} (hU : URq M a g N K co E rv) (hco : i32 co) (hnm : ∀ v, nm v → (0 ≤ v ∧ v < N) ∧ wk M a v.toNat = 1) (eo : Eo (wk M a) 6 i j) (tm : Tm M M a g 0 0 i j n e) (h : Lc M a g N T K) (ht : To nm M g 0 n e) (he : e ≤ T) : Ci G y_MM_look (d + 6) [vr a, vi n, vi co] M (lkX co M a g N T K E rv i j n e) := by
  obtain ⟨hO, hw, -, -, -, hg, -, hT⟩ := id h
  have w := hw.1.1
  obtain ⟨f, ht⟩ := ht
  have hlt := ht.lt
  have r19 : ∀ {M3 : mM}, Wd M3 a → mR M3 a 19 = a + 93 := fun w => w.1.2.2.2.2.1.2.2.2.2.1
  have h0 := LO.refl h
  refine k_MM_look hO (i32s (by omega) (by omega)) hco ?_
  rw [r20w w]
  refine ⟨w.1.1, (w.nu n95).1, fun M3 e3 => ?_⟩
  have b95 : 0 ≤ ln M (a + 95) := (w.nu n95).2.2.2.1.1
  obtain ⟨m3, l3, -, -⟩ := mv_set hO w n95 (v := 0) (by omega) b95 e3
  have k3 := kp.mk h0 m3 (fun _ z => z)
  have w3 := k3.1.2.1.2.1.1.1
  rw [r19 w3]
  refine ⟨(w3.nu n93).1, fun M6 e6 => ?_⟩
  have b93 : 0 ≤ ln M3 (a + 93) := (w3.nu n93).2.2.2.1.1
  obtain ⟨m6, l6, -, -⟩ := mv_set m3.1 w3 n93 (v := 0) (by omega) b93 e6
  have w6 := m6.2.1
  have f6 := (m6.fld w3 (fun q hq => by rw [hq]; exact n93) (fun hq => hq)).1
  have s7 := m6.lst (tL_in (a := a) (q := g + 7) hg (tLk7 g)) (by omega)
  have L6 : LO M a g N T K M6 := k3.1.step m6 (fun q hq => Or.inl hq) (fun x hx => hx.elim) s7.1 (fun i _ _ => by rw [f6])
  have v6 : ∀ k, va M6 g k = va M g k := fun k => (s7.2.1 k).trans (k3.2.2.1 k)
  have x6 : ln M6 (a + 95) = ((0 : Nat) : Int) := by rw [(m6.lst n95 (by omega)).1, l3]; rfl
  rw [r20w w6]
  refine ⟨(w6.nu n95).1, (s_lk_push (i32s (by omega) (by omega)) L6 x6 (by omega)).mono (fun M7 h7 => ?_)⟩
  obtain ⟨o7, k7, l7, t7, v7⟩ := h7
  have w7 := k7.1.2.1.2.1.1.1
  rw [r20w w7]
  refine ⟨o7, w7.1.1, (w7.nu n95).1, (s_lk_push (i32s (by omega) (by omega)) k7.1 l7 (by omega)).mono (fun M8 h8 => ?_)⟩
  obtain ⟨o8, k8, l8, t8, v8⟩ := h8
  have w8 := k8.1.2.1.2.1.1.1
  have k68 := k7.trans k8
  have va8 : ∀ k, va M8 g k = va M g k := fun k => (k68.2.2.1 k).trans (v6 k)
  refine ⟨o8, ?_⟩
  have fl1 : flr (wk M a) E (nt M (a + 7)) [(i, j)] = fl (wk M a) E (nt M (a + 7)) 0 i j := by
    show fst9 (fl (wk M a) E (nt M (a + 7)) 0 i j) (0, 0) = _
    unfold fst9
    split
    · rename_i h0; exact (fl_z eo h0).symm
    · rfl
  have f16 : mI M8 a 16 = mI M a 16 := by rw [k68.2.1, f6, k3.2.1]
  by_cases z : mI M8 a 16 = 0
  · refine x_look_run (nm := nm) hU hco w hnm f 0 n e 0 0 1 M8 [(i, j)] rfl (ht.lo h0 k8.1 (fun k _ _ => va8 k)) ⟨fun r hr => by rw [List.mem_singleton.1 hr]; exact eo, by rw [if_pos rfl]; exact ⟨i, j, rfl, tm⟩⟩ (fun k _ _ => va8 k) he k8.1 z l8 (fun j hj => ?_) (by rw [k68.2.2.2.1, l6]; rfl) (by omega) (by omega) (fun M3 h3 p3 z3 => ⟨⟨h3, Or.inl rfl, Or.inl z3⟩, Or.inr (Or.inl ⟨z3, by rw [← fl1]; exact p3⟩)⟩) (fun M9 h9 x9 => ?_)
    · have : j = 0 := by omega
      subst this
      exact ⟨(t8 0 (by omega)).trans v7, v8⟩
    · obtain ⟨g1, g2, g3, g4, g5, g6, ⟨u, gu, g7, g8⟩, g9⟩ := h9
      have w9 := g1.2.1.2.1.1.1
      have g3' : mI M9 (a + 95) 1 = 0 := g3
      refine k_MM_look_32 g1.2.1.1 hco ?_
      rw [r20w w9, r19 w9, g3', g2]
      refine ⟨w9.1.1, (w9.nu n95).1, fun _ => ⟨fun _ => ⟨(w9.nu n93).1, (s_MN_last g1.2.1.1 (w9.nu n93) (by rw [g5]; omega)).mono (fun x M10 h10 => ?_)⟩, fun q => absurd rfl q⟩, fun q => absurd (Or.inl (by omega)) q⟩
      obtain ⟨e10, hx⟩ := h10
      subst e10
      refine ⟨by rw [hx]; exact (g1.2.1.1 _ _).1, g1.2.1.1, fun v hv => ⟨⟨g1, by split at hv <;> omega, Or.inr ⟨g2, ⟨f, g8.cg (fun j hj => ?_)⟩, fun j hj => (g9 j hj).trans (va8 j)⟩⟩, Or.inr (Or.inr ⟨g2, by rw [← fl1]; exact x9.1, ?_, x9.2.2⟩)⟩⟩
      rotate_left
      · have q0 := x9.2.1 0 (by simp)
        rw [g5] at hx
        have hx' : x = kdq (wk M a) E 0 i j := hx.trans q0
        rw [← hx']
        have u0 := gu 0 (by omega)
        have u1 := g7 0 (by omega)
        have hx2 : x = u 0 := hx.trans u0
        split at hv <;> omega
      have u0 := gu 0 (by omega)
      have u1 := g7 0 (by omega)
      rw [g5] at hx
      have hx' : x = u 0 := hx.trans u0
      rw [show j = 0 by omega]
      split at hv <;> omega
  · refine k_MM_look_32 o8 hco ?_
    rw [r20w w8]
    exact ⟨w8.1.1, (w8.nu n95).1, fun _ => ⟨fun q => absurd q z, fun _ => ⟨⟨k8.1, Or.inl rfl, Or.inl z⟩, Or.inl (by rw [← f16]; exact z)⟩⟩, fun q => absurd (Or.inr z) q⟩
end LWX
end
section
/-! The reference's values, exactly: divisor, pushFraction, reckon, best. -/
section RKX
variable {G : mG} {d a V : Nat} {M : mM}
/-- a value has been reckoned, or a fault told: v -/
def rkX (M : mM) (a V : Nat) (t : Int) (v : vrs) (M' : mM) : Prop := rkQ M a V t M' ∧ ((v.1 ≠ 0 ∧ mI M' a 16 = v.1 ∧ mI M' a 17 = v.2.1) ∨ (mI M' a 16 = mI M a 16 ∧ v = vr9 t (mL M' (a + 97) V) (mL M' (a + 98) V)))
theorem psQ.rkx {t A B : Int} {v : vrs} {M' : mM} (h : psQ M a V A B M') (hv : vok t A B) (e : v = vr9 t A B) : rkX M a V t v M' := by
  refine ⟨h.rk hv, Or.inr ⟨h.2.2.1 16 (by omega), ?_⟩⟩
  rw [h.2.2.2.1 V, h.2.2.2.2 V, if_pos rfl, if_pos rfl]
  exact e
theorem st_rkx {t c p : Int} {M' : mM} (hc : c ≠ 0) (h : Mv (fun _ => False) (fun x => x = a) M a M' ∧ mI M' a 16 = c ∧ mI M' a 17 = p ∧ ∀ i, i ≠ 16 → i ≠ 17 → mI M' a i = mI M a i) (w : Wd M a) : rkX M a V t (c, p, 0) M' := ⟨st_rk hc h w, Or.inl ⟨hc, h.2.1, h.2.2.1⟩⟩
theorem gcd_st {x y : Int} (hx : 0 ≤ x) (hy : 0 < y) : Int.gcd y (x % y) = Int.gcd x y := by
  obtain ⟨p, rfl⟩ : ∃ p : Nat, x = p := ⟨x.toNat, by omega⟩
  obtain ⟨q, rfl⟩ : ∃ q : Nat, y = q := ⟨y.toNat, by omega⟩
  have e : (p : Int) % (q : Int) = ((p % q : Nat) : Int) := rfl
  rw [e, Int.gcd_natCast_natCast, Int.gcd_natCast_natCast, Nat.gcd_comm p q, Nat.gcd_rec q p, Nat.gcd_comm]
theorem x_MM_divisor {A B : Int} (hA : -9223372036854775807 ≤ A ∧ A ≤ 9223372036854775807) (hB : 0 < B ∧ i64 B) (hO : mOk M) : Cj G y_MM_divisor d [vl A, vl B] M (fun x M' => M' = M ∧ (1 ≤ x ∧ x ≤ B ∧ x ∣ A ∧ x ∣ B) ∧ x = (Int.gcd A B : Int)) := by
  refine k_MM_divisor hO ⟨by omega, by omega⟩ hB.2 (fun v hv => ?_)
  have cz : ∀ z : Int, (0 ≤ cmpL z 0 ↔ 0 ≤ z) ∧ (cmpL z 0 ≤ 0 ↔ z ≤ 0) := fun z => by unfold cmpL; split <;> (try split) <;> omega
  have hg : Int.gcd v B = Int.gcd A B := by
    split at hv
    · rw [hv]
    · rw [hv, Int.neg_gcd]
  have hv' : 0 ≤ v ∧ i64 v ∧ ∀ x : Int, x ∣ v → x ∣ A := by
    by_cases q : 0 ≤ A
    · rw [if_pos ((cz A).1.2 q)] at hv
      subst hv
      exact ⟨q, ⟨by omega, by omega⟩, fun x hx => hx⟩
    · rw [if_neg (fun w => q ((cz A).1.1 w))] at hv
      subst hv
      exact ⟨by omega, ⟨by omega, by omega⟩, fun x hx => Int.dvd_neg.1 hx⟩
  suffices H : ∀ (c : Nat) (x y : Int), y ≤ c → 0 ≤ y → 0 ≤ x → 0 < x + y → i64 x → i64 y → (y = 0 → x ≤ B) → y ≤ B → (∀ z : Int, z ∣ x → z ∣ y → z ∣ A ∧ z ∣ B) → Int.gcd x y = Int.gcd A B → h_MM_divisor_17 G d x y M (fun x M' => M' = M ∧ (1 ≤ x ∧ x ≤ B ∧ x ∣ A ∧ x ∣ B) ∧ x = (Int.gcd A B : Int)) from
    H B.toNat v B (by omega) (by omega) hv'.1 (by omega) hv'.2.1 hB.2 (by omega) (by omega) (fun z z1 z2 => ⟨hv'.2.2 z z1, z2⟩) hg
  intro c
  induction c with
  | zero =>
    intro x y h1 h2 h3 h4 h5 h6 h7 h8 h9 h10
    have y0 : y = 0 := by omega
    refine k_MM_divisor_17 hO h5 h6 ⟨fun _ => ⟨rfl, ⟨by omega, h7 y0, ?_⟩, ?_⟩, fun q => absurd ((cz y).2.2 (by omega)) q⟩
    · exact h9 x (Int.dvd_refl x) (by rw [y0]; exact Int.dvd_zero x)
    · rw [← h10, y0, Int.gcd_zero_right]; omega
  | succ c ih =>
    intro x y h1 h2 h3 h4 h5 h6 h7 h8 h9 h10
    refine k_MM_divisor_17 hO h5 h6 ⟨fun q => ?_, fun q => ?_⟩
    · have y0 : y = 0 := by have := (cz y).2.1 q; omega
      exact ⟨rfl, ⟨by omega, h7 y0, h9 x (Int.dvd_refl x) (by rw [y0]; exact Int.dvd_zero x)⟩, by rw [← h10, y0, Int.gcd_zero_right]; omega⟩
    · have yp : 0 < y := by
        by_cases w : y ≤ 0
        · exact absurd ((cz y).2.2 w) q
        · omega
      have e1 : Int.tmod x y = x % y := Int.tmod_eq_emod_of_nonneg h3
      have b1 := Int.emod_nonneg x (show y ≠ 0 by omega)
      have b2 := Int.emod_lt_of_pos x yp
      refine ⟨by omega, ?_⟩
      rw [e1]
      refine ih y (x % y) (by omega) b1 (by omega) (by omega) h6 ⟨by omega, by have := h6.2; omega⟩ (fun _ => h8) (by omega) (fun z z1 z2 => h9 z ?_ z1) (by rw [gcd_st h3 yp]; exact h10)
      have := Int.mul_ediv_add_emod x y
      rw [← this]
      exact Int.dvd_add (Int.dvd_trans z1 (Int.dvd_mul_right y _)) z2
theorem x_MM_pushFraction {A B p : Int} (hA : -9223372036854775807 ≤ A ∧ A ≤ 9223372036854775807) (hB : 0 < B ∧ i64 B) (hp : i32 p) (hO : mOk M) (h : Wd M a) (hV : mI M a 23 = (V : Int)) (hb : V < 16400) : Cv G y_MM_pushFraction (d + 1) [vr a, vl A, vl B, vi p] M (fun M' => mOk M' ∧ rkX M a V 0 (vst A B p) M') := by
  refine Cv.mono (Q := rkX M a V 0 (vst A B p)) ?_ (fun M' t => ⟨t.1.1.1, t⟩)
  refine k_MM_pushFraction hO ⟨by omega, by omega⟩ hB.2 hp ((x_MM_divisor hA hB hO).mono (fun x M1 h1 => ?_))
  obtain ⟨e1, ⟨x1, x2, ⟨c, hc⟩, ⟨e, he⟩⟩, hgc⟩ := h1
  subst e1
  have dA : Int.tdiv A x = c := by rw [hc]; exact Int.mul_tdiv_cancel_left c (by omega)
  have dB : Int.tdiv B x = e := by rw [he]; exact Int.mul_tdiv_cancel_left e (by omega)
  have c1 : 0 ≤ c → c ≤ A := fun y => by
    have := Int.mul_le_mul_of_nonneg_right x1 y
    rw [← hc] at this
    omega
  have c2 : c ≤ 0 → A ≤ c := fun y => by
    have := Int.mul_le_mul_of_nonneg_right x1 (show 0 ≤ -c by omega)
    rw [Int.mul_neg, Int.mul_neg, ← hc] at this
    omega
  have e0 : 0 < e := by
    by_cases y : 0 < e
    · exact y
    · have := Int.mul_le_mul_of_nonneg_left (show e ≤ 0 by omega) (show 0 ≤ x by omega)
      rw [← he] at this
      omega
  have e1 : e ≤ B := by
    have := Int.mul_le_mul_of_nonneg_right x1 (show 0 ≤ e by omega)
    rw [← he] at this
    omega
  have ic : i64 c := ⟨by omega, by omega⟩
  have ie : i64 e := ⟨by omega, by have := hB.2.2; omega⟩
  have ev : vst A B p = if 1000000000 ≤ c ∨ c ≤ -1000000000 ∨ 1000000000 ≤ e then (6, p, 0) else (0, c, e) := by
    unfold vst
    rw [← hgc]
    have cA : A / x = c := by rw [hc]; exact Int.mul_ediv_cancel_left c (by omega)
    have cB : B / x = e := by rw [he]; exact Int.mul_ediv_cancel_left e (by omega)
    rw [cA, cB]
  have q1 := (cmpz c 1000000000).1
  have q2 := (cmpz c (-1000000000)).2.1
  have q3 := (cmpz e 1000000000).2.2.1
  rw [dA, dB]
  refine ⟨⟨by omega, by have := hB.2.2; omega⟩, hO, by omega, by omega, ic, fun _ _ => ie, fun q => ⟨h.1.1, (s_MM_stop ⟨by omega, by omega⟩ hp hO h).mono (fun M2 h2 => ?_)⟩, fun q => ⟨h.1.1, (s_MM_push ic ie hO h hV hb).mono (fun M2 h2 => ⟨h2.1, h2.2.rkx (Or.inl ?_) ?_⟩)⟩⟩
  · obtain ⟨m2, f1, f2, f3⟩ := id h2
    refine ⟨m2.1, m2.2.1.1.1, (s_MM_push ic ie m2.1 m2.2.1 (by rw [f3 23 (by omega) (by omega)]; exact hV) hb).mono (fun M3 h3 => ⟨h3.1, ?_⟩)⟩
    obtain ⟨k1, k2, k3, -⟩ := st_rk (V := V) (t := 0) (by omega) h2 h
    obtain ⟨g1, g2, g3, g4, g5⟩ := h3.2
    rw [q1, q2, q3] at q
    rw [ev, if_pos (by omega)]
    exact ⟨⟨k1.trans g1, fun i i1 i2 i3 => (g3 i i3).trans (k2 i i1 i2 i3), fun k hk => ⟨by rw [g4, if_neg (by omega)]; exact (k3 k hk).1, by rw [g5, if_neg (by omega)]; exact (k3 k hk).2⟩, Or.inl (by rw [g3 16 (by omega), f1]; decide)⟩, Or.inl ⟨by simp, by rw [g3 16 (by omega), f1], by rw [g3 17 (by omega), f2]⟩⟩
  · rw [q1, q2, q3] at q
    omega
  · rw [q1, q2, q3] at q
    rw [ev, if_neg (by omega)]
    rfl
theorem x_MM_reckon {s A B C D p : Int} (hs : 24 ≤ s ∧ s ≤ 28) (h1 : vok 0 A B) (h2 : vok 0 C D) (hp : i32 p) (hO : mOk M) (h : Wd M a) (hV : mI M a 23 = (V : Int)) (hb : V < 16400) : Cv G y_MM_reckon (d + 2) [vr a, vi s, vl A, vl B, vl C, vl D, vi p] M (fun M' => mOk M' ∧ rkX M a V 0 (vop s A B C D p) M') := by
  refine Cv.mono (Q := rkX M a V 0 (vop s A B C D p)) ?_ (fun M' t => ⟨t.1.1.1, t⟩)
  have a1 : -1000000000 < A ∧ A < 1000000000 ∧ 1 ≤ B ∧ B < 1000000000 := by unfold vok at h1; omega
  have a2 : -1000000000 < C ∧ C < 1000000000 ∧ 1 ≤ D ∧ D < 1000000000 := by unfold vok at h2; omega
  have mAD := mul9 (x := A) (y := D) ⟨a1.1, a1.2.1⟩ ⟨by omega, by omega⟩
  have mCB := mul9 (x := C) (y := B) ⟨a2.1, a2.2.1⟩ ⟨by omega, by omega⟩
  have mAC := mul9 (x := A) (y := C) ⟨a1.1, a1.2.1⟩ ⟨by omega, by omega⟩
  have mBD := mul9 (x := B) (y := D) ⟨by omega, by omega⟩ ⟨by omega, by omega⟩
  have pBD : 0 < B * D := Int.mul_pos (by omega) (by omega)
  have iBD : 0 < B * D ∧ i64 (B * D) := ⟨pBD, by omega, by omega⟩
  have stp : ∀ {c : Int}, (c = 7 ∨ c = 8) → vop s A B C D p = (c, p, 0) → Cv G y_MM_stop (d + 1) [vr a, vi c, vi p] M (fun M' => mOk M' ∧ rkX M a V 0 (vop s A B C D p) M') := fun {c} hc ec => (s_MM_stop ⟨by omega, by omega⟩ hp hO h).mono (fun M2 h2 => ⟨h2.1.1, by rw [ec]; exact st_rkx (by omega) h2 h⟩)
  have pf : ∀ {U W : Int}, (-9223372036854775807 ≤ U ∧ U ≤ 9223372036854775807) → (0 < W ∧ i64 W) → vop s A B C D p = vst U W p → Cv G y_MM_pushFraction (d + 1) [vr a, vl U, vl W, vi p] M (fun M' => mOk M' ∧ rkX M a V 0 (vop s A B C D p) M') := fun hU hW e => by rw [e]; exact x_MM_pushFraction (d := d) hU hW hp hO h hV hb
  have cz0 := (cmpz C 0).2.2.2.1
  have cz1 := (cmpz C 0).1
  have cz2 := (cmpz C 0).2.2.2.2
  have bz := (cmpz B 1).2.2.2.1
  have dz := (cmpz D 1).2.2.2.1
  refine k_MM_reckon hO ⟨by omega, by omega⟩ ⟨by omega, by omega⟩ ⟨by omega, by omega⟩ ⟨by omega, by omega⟩ ⟨by omega, by omega⟩ hp ⟨fun e1 => ⟨h.1.1, pf ⟨by omega, by omega⟩ iBD (by subst e1; rfl)⟩, fun q1 => ⟨fun e1 => ⟨h.1.1, pf ⟨by omega, by omega⟩ iBD (by subst e1; rfl)⟩, fun q2 => ⟨fun e1 => ⟨h.1.1, pf ⟨by omega, by omega⟩ iBD (by subst e1; rfl)⟩, fun q3 => ⟨fun q4 => ⟨fun q5 => ⟨h.1.1, (stp (Or.inl rfl) (by
      have c0 := cz0.mp q5
      subst q4 c0
      unfold vop
      simp)).mono (fun M2 t => ⟨t.1, k_MM_reckon_156 t.1 t.2⟩)⟩, fun q5 v hv v2 hv2 => ⟨h.1.1, (pf ?_ ?_ ?_).mono (fun M2 t => ⟨t.1, k_MM_reckon_156 t.1 t.2⟩)⟩⟩, fun q4 => ⟨fun q5 => ⟨fun q6 => ⟨?_, ?_, fun v hv => ⟨h.1.1, (s_MM_push ?_ ⟨by omega, by omega⟩ hO h hV hb).mono (fun M2 t => ⟨t.1, k_MM_reckon_228 t.1 (t.2.rkx (Or.inl ?_) ?_)⟩)⟩⟩, fun q6 => ⟨h.1.1, (stp (Or.inl rfl) (by
      have s28 : s = 28 := by omega
      subst s28
      have b1 : B = 1 ∧ D = 1 := by omega
      have c0 : C ≤ 0 := by omega
      unfold vop
      simp [b1.1, b1.2, c0])).mono (fun M2 t => ⟨t.1, k_MM_reckon_228 t.1 t.2⟩)⟩⟩, fun q5 => ⟨h.1.1, (stp (Or.inr rfl) (by
      have s28 : s = 28 := by omega
      subst s28
      have b1 : B ≠ 1 ∨ D ≠ 1 := by omega
      unfold vop
      simp [b1])).mono (fun M2 t => ⟨t.1, k_MM_reckon_228 t.1 t.2⟩)⟩⟩⟩⟩⟩⟩
  · by_cases y : 0 ≤ cmpL C 0
    · rw [if_pos y] at hv; omega
    · rw [if_neg y, Int.neg_mul] at hv; omega
  · have c0 : C ≠ 0 := fun y => q5 ((cmpz C 0).2.2.2.1.2 y)
    by_cases y : 0 ≤ cmpL C 0
    · rw [if_pos y] at hv2
      have := (cmpz C 0).1.1 y
      have : 0 < C * B := Int.mul_pos (by omega) (by omega)
      exact ⟨by omega, by omega, by omega⟩
    · rw [if_neg y] at hv2
      have : ¬ 0 ≤ C := fun z => y ((cmpz C 0).1.2 z)
      have : 0 < (-C) * B := Int.mul_pos (by omega) (by omega)
      have e := Int.neg_mul C B
      exact ⟨by omega, by omega, by omega⟩
  · subst q4
    have c0 : C ≠ 0 := fun y => q5 (cz0.mpr y)
    unfold vop
    by_cases y : 0 ≤ cmpL C 0
    · have c1 : 0 < C := by have := cz1.mp y; omega
      rw [if_pos y] at hv hv2
      rw [hv, hv2, Int.mul_comm C B]
      simp [c0, c1]
    · have c1 : ¬ 0 < C := fun u => y (cz1.mpr (by omega))
      rw [if_neg y] at hv hv2
      rw [hv, hv2, Int.neg_mul, Int.neg_mul, Int.mul_comm C B]
      simp [c0, c1]
  · have := (cmpz C 0).2.2.2.2.1 q6
    omega
  · have := (cmpz C 0).2.2.2.2.1 q6
    exact ⟨fun _ => by omega, fun _ => by omega⟩
  · have c0 := (cmpz C 0).2.2.2.2.1 q6
    have t9 := tmod9 (x := A) c0
    by_cases y : 0 ≤ cmpL (Int.tmod A C) 0
    · rw [if_pos y] at hv; exact ⟨by omega, by omega⟩
    · rw [if_neg y] at hv; exact ⟨by omega, by omega⟩
  · have c0 := (cmpz C 0).2.2.2.2.1 q6
    have t9 := tmod9 (x := A) c0
    by_cases y : 0 ≤ cmpL (Int.tmod A C) 0
    · rw [if_pos y] at hv
      have := (cmpz (Int.tmod A C) 0).1.1 y
      omega
    · rw [if_neg y] at hv
      have : ¬ 0 ≤ Int.tmod A C := fun z => y ((cmpz (Int.tmod A C) 0).1.2 z)
      omega
  · have s28 : s = 28 := by omega
    subst s28
    have c0 := cz2.mp q6
    have b1 : B = 1 ∧ D = 1 := by omega
    have c1 : ¬ C ≤ 0 := by omega
    have em : v = A % C := by
      have e0 := Int.mul_tdiv_add_tmod A C
      have t9 := tmod9 (x := A) c0
      by_cases y : 0 ≤ cmpL (Int.tmod A C) 0
      · rw [if_pos y] at hv
        have t0 := (cmpz (Int.tmod A C) 0).1.1 y
        have e2 : (Int.tmod A C + C * Int.tdiv A C) % C = Int.tmod A C := by
          rw [Int.add_mul_emod_self_left]
          exact Int.emod_eq_of_lt t0 t9.2
        rw [Int.add_comm, e0] at e2
        rw [hv, e2]
      · rw [if_neg y] at hv
        have t0 : ¬ 0 ≤ Int.tmod A C := fun z => y ((cmpz (Int.tmod A C) 0).1.2 z)
        have e1 : A = (Int.tmod A C + C) + C * (Int.tdiv A C - 1) := by
          rw [Int.mul_sub]
          omega
        have e2 : ((Int.tmod A C + C) + C * (Int.tdiv A C - 1)) % C = Int.tmod A C + C := by
          rw [Int.add_mul_emod_self_left]
          exact Int.emod_eq_of_lt (by omega) (by omega)
        rw [← e1] at e2
        rw [hv, e2]
    unfold vop
    rw [em]
    simp [b1.1, b1.2, c1, vr9]
/-- the best of the values from k on, n + 1 of them; x = 14 the least, 15 the most -/
def bsq (x : Int) (A B : Nat → Int) (k : Nat) : Nat → vrs
  | 0 => (0, A k, B k)
  | n + 1 => vbs x (bsq x A B k n).2.1 (bsq x A B k n).2.2 (A (k + n + 1)) (B (k + n + 1))
theorem x_MM_best {k m : Nat} {l : Int} (hl : i32 l) (hm : 1 ≤ m) (hO : mOk M) (h : Wd M a) (hV : mI M a 23 = (V : Int)) (hb : V < 16400) (hk : k + m ≤ 16400) (hv : ∀ j, k ≤ j → j < k + m → vok 0 (mL M (a + 97) j) (mL M (a + 98) j)) : Cv G y_MM_best (d + 1) [vr a, vi l, vi k, vi m] M (fun M' => mOk M' ∧ rkX M a V 0 (bsq (if l = 0 then 15 else 14) (mL M (a + 97)) (mL M (a + 98)) k (m - 1)) M') := by
  refine Cv.mono (Q := rkX M a V 0 (bsq (if l = 0 then 15 else 14) (mL M (a + 97)) (mL M (a + 98)) k (m - 1))) ?_ (fun M' t => ⟨t.1.1.1, t⟩)
  have r21 : mR M a 21 = a + 97 := h.1.2.2.2.2.1.2.2.2.2.2.2.1
  have r22 : mR M a 22 = a + 98 := h.1.2.2.2.2.1.2.2.2.2.2.2.2.1
  have n97 : mK M (a + 97) = 33 ∧ mN M (a + 97) = 16400 := h.1.2.2.2.2.2.2.2.1.1
  have n98 : mK M (a + 98) = 33 ∧ mN M (a + 98) = 16400 := h.1.2.2.2.2.2.2.2.1.2.1
  refine k_MM_best hO hl ⟨by omega, by omega⟩ ⟨by omega, by omega⟩ ?_
  suffices H : ∀ (c i f : Nat), c + i = k + m → k ≤ f → f < k + m → k ≤ i → k < i → bsq (if l = 0 then 15 else 14) (mL M (a + 97)) (mL M (a + 98)) k (i - k - 1) = (0, mL M (a + 97) f, mL M (a + 98) f) → h_MM_best_8 G d a l k m f i M (rkX M a V 0 (bsq (if l = 0 then 15 else 14) (mL M (a + 97)) (mL M (a + 98)) k (m - 1))) from
    H (m - 1) (k + 1) k (by omega) (by omega) (by omega) (by omega) (by omega) (by rw [show k + 1 - k - 1 = 0 by omega]; rfl)
  intro c
  induction c with
  | zero =>
    intro i f hc f1 f2 hi hki hb9
    refine k_MM_best_8 hO hl ⟨by omega, by omega⟩ ⟨by omega, by omega⟩ ⟨by omega, by omega⟩ ⟨by omega, by omega⟩ ?_
    rw [r21, r22, n97.2, n98.2, Int.toNat_natCast]
    have hf := hv f f1 f2
    refine ⟨⟨by omega, by omega⟩, fun _ => ⟨h.1.1, n97.1, by omega, n98.1, by omega, (s_MM_push (hO _ _).2 (hO _ _).2 hO h hV hb).mono (fun M2 t => ⟨t.1, t.2.rkx hf (by rw [show m - 1 = i - k - 1 by omega, hb9]; rfl)⟩)⟩, fun q => by omega⟩
  | succ c ih =>
    intro i f hc f1 f2 hi hki hb9
    refine k_MM_best_8 hO hl ⟨by omega, by omega⟩ ⟨by omega, by omega⟩ ⟨by omega, by omega⟩ ⟨by omega, by omega⟩ ?_
    rw [r21, r22, n97.2, n98.2, Int.toNat_natCast, Int.toNat_natCast]
    have hf := hv f f1 f2
    have hi' := hv i hi (by omega)
    unfold vok at hf hi'
    have m1 := mul9 (x := mL M (a + 97) i) (y := mL M (a + 98) f) ⟨by omega, by omega⟩ ⟨by omega, by omega⟩
    have m2 := mul9 (x := mL M (a + 97) f) (y := mL M (a + 98) i) ⟨by omega, by omega⟩ ⟨by omega, by omega⟩
    refine ⟨⟨by omega, by omega⟩, fun q => by omega, fun _ => ⟨h.1.1, n97.1, by omega, n98.1, by omega, by omega, by omega, ⟨fun _ _ => ⟨by omega, by omega⟩, fun _ => ⟨by omega, by omega⟩⟩, fun v hv2 => ?_⟩⟩
    have stp : bsq (if l = 0 then 15 else 14) (mL M (a + 97)) (mL M (a + 98)) k (i + 1 - k - 1) = vbs (if l = 0 then 15 else 14) (mL M (a + 97) f) (mL M (a + 98) f) (mL M (a + 97) i) (mL M (a + 98) i) := by
      rw [show i + 1 - k - 1 = (i - k - 1) + 1 by omega, bsq, hb9, show k + (i - k - 1) + 1 = i by omega]
    have cz := cmpz (mL M (a + 97) i * mL M (a + 98) f - mL M (a + 97) f * mL M (a + 98) i) 0
    clear m1 m2 hf hi'
    split at hv2
    · rename_i z
      rw [hv2]
      refine ih (i + 1) f (by omega) f1 f2 (by omega) (by omega) ?_
      rw [stp]
      unfold vbs
      by_cases l0 : l = 0
      · rw [if_pos l0, if_neg (by decide), if_neg (by omega)]
      · rw [if_neg l0, if_pos rfl, if_neg (by omega)]
    · rename_i z
      rw [hv2]
      refine ih (i + 1) i (by omega) hi (by omega) (by omega) (by omega) ?_
      rw [stp]
      unfold vbs
      by_cases l0 : l = 0
      · rw [if_pos l0, if_neg (by decide), if_pos (by omega)]
      · rw [if_neg l0, if_pos rfl, if_pos (by omega)]
end RKX
end
