/-! The reference's look at a node, exactly. -/
section LAX
variable {G : mG} {d a N g T K n L : Nat} {M M2 M4 : mM}
/-- the parts' types fit the node -/
def gdt (s : Int) (k : Nat) (u : Nat → Int) : Prop := if s = 29 ∨ s = 30 ∨ s = 31 then ∀ j, j < k → u j = 1 else if s = 18 ∨ s = 23 then u 0 = u 1 else if s = 32 then u 0 = 1 ∧ u 1 = u 2 else ∀ j, j < k → u j = 0
/-- the node's own type -/
def tyt (s : Int) (u : Nat → Int) : Int := if s = 29 ∨ s = 30 ∨ s = 31 ∨ s = 18 ∨ s = 23 then 1 else if s = 32 then u 2 else if 19 ≤ s ∧ s ≤ 22 then 1 else 0
/-- a fault, or what becomes of the names -/
def laF (co : Int) (M M2 : mM) (a g n k : Nat) (u E rv : Nat → Int) (t : Int) (M3 : mM) : Prop := (mI M3 a 16 = 2 ∧ mI M3 a 17 = pm M g n ∧ so M2 g n = 1 ∧ E (va M2 g n).toNat = -1) ∨ (mI M3 a 16 = 3 ∧ mI M3 a 17 = pm M g n ∧ (so M2 g n ≠ 1 ∧ so M2 g n ≠ 2 ∧ so M2 g n ≠ 12 ∧ so M2 g n ≠ 13) ∧ ¬ gdt (so M2 g n) k u) ∨ (laE co M M2 a g n k u t M3 ∧ mI M3 a 16 = mI M2 a 16 ∧ (so M2 g n = 1 → va M3 g n = rv (va M2 g n).toNat ∧ E (va M2 g n).toNat = t ∧ t ≠ -1) ∧ ((so M2 g n ≠ 1 ∧ so M2 g n ≠ 2 ∧ so M2 g n ≠ 12 ∧ so M2 g n ≠ 13) → gdt (so M2 g n) k u ∧ t = tyt (so M2 g n) u))
def laX (co : Int) (M M2 : mM) (a g N T K n L k : Nat) (u E rv : Nat → Int) (M5 : mM) : Prop := LO M a g N T K M5 ∧ sameN M2 M5 (a + 95) ∧ ln M5 (a + 93) = (L + 1 : Nat) ∧ (∀ j, j < L → nt M5 (a + 93) j = nt M2 (a + 93) j) ∧ (nt M5 (a + 93) L = 0 ∨ nt M5 (a + 93) L = 1) ∧ laF co M M2 a g n k u E rv (nt M5 (a + 93) L) M5
theorem la386x {co : Int} {k : Nat} {u E rv : Nat → Int} {x : Int} (hx : x = 0 ∨ x = 1) (h : LO M a g N T K M4) (s93 : sameN M2 M4 (a + 93)) (s95 : sameN M2 M4 (a + 95)) (e : laF co M M2 a g n k u E rv x M4) (hL : ln M2 (a + 93) = (L + k : Nat)) (hb : L + k ≤ 65000) : h_MM_lookAt_386 G d a L x M4 (laX co M M2 a g N T K n L k u E rv) := by
  obtain ⟨hO, hw, -, -, -, hg, -, -⟩ := id h.2.1
  have w := hw.1.1
  have r19 : ∀ {M3 : mM}, Wd M3 a → mR M3 a 19 = a + 93 := fun w => w.1.2.2.2.2.1.2.2.2.2.1
  refine k_MM_lookAt_386 hO (i32s (by omega) (by omega)) (i32s (by omega) (by omega)) ?_
  rw [r19 w]
  refine ⟨w.1.1, (w.nu n93).1, fun M5 e5 => ?_⟩
  obtain ⟨m5, l5, t5, -⟩ := mv_set hO w n93 (v := (L : Int)) (by omega) (by rw [s93.1, hL]; omega) e5
  have w5 := m5.2.1
  have g7 : g + 7 ∈ nums a := tL_in hg (by omega)
  have f5 := (m5.fld w (fun q hq => by rw [hq]; exact n93) (fun hq => hq)).1
  have L5 : LO M a g N T K M5 := h.step m5 (fun q hq => Or.inl hq) (fun x hx => hx.elim) (m5.lst g7 (by omega)).1 (fun i _ _ => by rw [f5])
  rw [r19 w5]
  refine ⟨(w5.nu n93).1, (s_MN_addB (B := 65536) (i32s (by omega) (by omega)) m5.1 (w5.nu n93) (by rw [l5]; omega) (by decide)).mono (fun M6 t6 => ?_)⟩
  have m6 := mv_addB w5 n93 (Or.inr (Or.inl rfl)) t6
  have f6 := (m6.fld w5 (fun q hq => by rw [hq]; exact n93) (fun hq => hq)).1
  have L6 : LO M a g N T K M6 := L5.step m6 (fun q hq => Or.inl hq) (fun x hx => hx.elim) (m6.lst g7 (by omega)).1 (fun i _ _ => by rw [f6])
  obtain ⟨-, -, -, t1, t2, t3, -⟩ := t6
  rw [l5] at t1 t2 t3
  rw [Int.toNat_natCast] at t3
  have v6 : ∀ k, va M6 g k = va M4 g k := fun k => ((m6.lst g7 (by omega)).2.1 k).trans ((m5.lst g7 (by omega)).2.1 k)
  refine ⟨m6.1, L6, ?_, by rw [t1]; omega, fun j hj => by rw [t2 j (by omega), t5, s93.2.1], by rw [t3]; exact hx, ?_⟩
  · exact sameN.trans s95 (sameN.trans (m5.lst n95 (by omega)) (m6.lst n95 (by omega)))
  · unfold laF laE at e ⊢
    rw [f6, f5, t3]
    simp only [v6]
    exact e
theorem su_all1 {u : Nat → Int} : ∀ {k : Nat}, (∀ j, j < k → u j = 1) → su u k = k
  | 0, _ => rfl
  | k + 1, h => by rw [su, su_all1 (fun j hj => h j (by omega)), h k (by omega)]; omega
theorem su_all0 {u : Nat → Int} : ∀ {k : Nat}, (∀ j, j < k → u j = 0) → su u k = 0
  | 0, _ => rfl
  | k + 1, h => by rw [su, su_all0 (fun j hj => h j (by omega)), h k (by omega)]; rfl
theorem x_MM_lookAt {nm : Int → Prop} {k : Nat} {u E rv : Nat → Int} {co : Int} (hU : URq M a g N K co E rv) (hco : i32 co) (hw0 : Wd M a) (h : LO M a g N T K M2) (hn : n < T) (hk : pks nm M2 g T n k) (hv : so M2 g n = 1 → (0 ≤ va M2 g n ∧ va M2 g n < N) ∧ wk M a (va M2 g n).toNat = 1) (hL : ln M2 (a + 93) = (L + k : Nat)) (hb : L + k ≤ 65000) (hu : ∀ j, j < k → nt M2 (a + 93) (L + j) = u j) (h01 : ∀ j, j < k → u j = 0 ∨ u j = 1) : Cv G y_MM_lookAt (d + 5) [vr a, vi n, vi co] M2 (fun M5 => mOk M5 ∧ laX co M M2 a g N T K n L k u E rv M5) := by
  refine Cv.mono (Q := laX co M M2 a g N T K n L k u E rv) ?_ (fun M5 h5 => ⟨h5.1.2.1.1, h5⟩)
  obtain ⟨hO, hx, -, hd, h10, hg, -, hT⟩ := id h.2.1
  have w := hx.1.1
  have gp := w.gp hg
  have r0 : mR M2 g 0 = g + 1 := gp.2.1.1
  have r1 : mR M2 g 1 = g + 3 := gp.2.1.2.1
  have r19 : mR M2 a 19 = a + 93 := w.1.2.2.2.2.1.2.2.2.2.1
  have u1 := w.nu (tL_in (a := a) (q := g + 1) hg (tLk1 g))
  have u3 := w.nu (tL_in (a := a) (q := g + 3) hg (tLk3 g))
  have l1 := hd (g + 1) (by first | exact tLk1 g | exact gLk1 g | omega)
  have l3 := hd (g + 3) (by first | exact tLk3 g | exact gLk3 g | omega)
  have l93 : mI M2 (a + 93) 1 = (L + k : Nat) := hL
  have rd : ∀ {p j : Nat} {Q : Int → mM → Prop}, p ∈ nums a → (j : Int) < ln M2 p → (∀ z, z = nt M2 p j → i32 z → Q z M2) → Ci G y_MN_at (d + 4) [vr p, vi j] M2 Q := fun hp hk hQ => by
    refine (s_MN_at hO (w.nu hp) hk).mono (fun z M1 e1 => ?_)
    obtain ⟨e1, hz⟩ := e1
    subst e1
    exact hQ z hz (by rw [hz]; exact (hO _ _).1)
  have ok : ∀ (x : Int), (x = 0 ∨ x = 1) → so M2 g n ≠ 1 → tyn (tn M g) (so M2 g n) (va M2 g n) k u x → ((so M2 g n ≠ 1 ∧ so M2 g n ≠ 2 ∧ so M2 g n ≠ 12 ∧ so M2 g n ≠ 13) → gdt (so M2 g n) k u ∧ x = tyt (so M2 g n) u) → h_MM_lookAt_386 G (d + 4) a L x M2 (laX co M M2 a g N T K n L k u E rv) := fun x hx hs ht hgd => la386x hx h sameN.refl sameN.refl (Or.inr (Or.inr ⟨Or.inr ⟨rfl, fun z => absurd z hs, fun _ _ => rfl, ht⟩, rfl, fun z => absurd z hs, hgd⟩)) hL hb
  have flt : ∀ (p x : Int), i32 p → (x = 0 ∨ x = 1) → p = pm M2 g n → (so M2 g n ≠ 1 ∧ so M2 g n ≠ 2 ∧ so M2 g n ≠ 12 ∧ so M2 g n ≠ 13) → ¬ gdt (so M2 g n) k u → Cv G y_MM_stop (d + 4) [vr a, vi 3, vi p] M2 (fun M4 => mOk M4 ∧ h_MM_lookAt_386 G (d + 4) a L x M4 (laX co M M2 a g N T K n L k u E rv)) := fun p x hp hx pp ps pg => by
    refine (s_MM_stop (i32s (by omega) (by omega)) hp hO w).mono (fun M4 h4 => ?_)
    obtain ⟨m4, f1, f2, f3⟩ := h4
    have s7 := m4.lst (tL_in (a := a) (q := g + 7) hg (tLk7 g)) (fun z => z)
    exact ⟨m4.1, la386x hx (h.step m4 (fun q hq => hq.elim) (fun x hx => hx) s7.1 f3) (m4.lst n93 (fun z => z)) (m4.lst n95 (fun z => z)) (Or.inr (Or.inl ⟨f1, by rw [f2, pp]; exact h.pm hw0 n, ps, pg⟩)) hL hb⟩
  refine k_MM_lookAt hO (i32s (by omega) (by omega)) hco ?_
  rw [h10, r0]
  refine ⟨w.1.1, gp.1, u1.1, rd (tL_in hg (by omega)) (by omega) (fun s es is => ⟨is, hO, w.1.1, ?_⟩)⟩
  rw [h10, r1]
  refine ⟨gp.1, u3.1, rd (tL_in hg (by omega)) (by omega) (fun p ep ip => ⟨ip, hO, w.1.1, (s_MM_parts (d := d + 3) h hn hk).mono (fun r M3 e3 => ?_)⟩)⟩
  obtain ⟨e3, hr⟩ := e3
  subst e3
  subst hr
  have es' : s = so M3 g n := es
  rw [← es'] at hv ok flt
  have hkb : k ≤ 30000 := by rcases hk with q | q <;> omega
  rw [r19, l93, show ((L + k : Nat) : Int) - (k : Int) = (L : Int) by omega]
  refine ⟨i32s (by omega) (by omega), hO, w.1.1, (w.nu n93).1, ?_⟩
  suffices H : ∀ (c j : Nat), c + j = k → h_MM_lookAt_51 G (d + 4) a n co s p k L (su u j) (L + j : Nat) M3 (laX co M M3 a g N T K n L k u E rv) by
    have := H k 0 (by omega)
    rw [show L + 0 = L by omega] at this
    exact this
  intro c
  induction c with
  | succ c ih =>
    intro j hj
    have sb := su_b (k := j) (fun i hi => h01 i (by omega))
    refine k_MM_lookAt_51 hO (i32s (by omega) (by omega)) hco is ip (i32s (by omega) (by omega)) (i32s (by omega) (by omega)) (i32s (by omega) (by omega)) ⟨by omega, by omega⟩ ?_
    rw [r19, l93]
    refine ⟨w.1.1, (w.nu n93).1, fun q => by omega, fun _ => rd n93 (by rw [hL]; omega) (fun z hz iz => ⟨iz, hO, ?_⟩)⟩
    rw [hu j (by omega)] at hz
    have := ih (j + 1) (by omega)
    rw [show ((L + (j + 1) : Nat) : Int) = ((L + j : Nat) : Int) + 1 by omega, su, ← hz] at this
    exact this
  | zero =>
    intro j hj
    have hjk : j = k := by omega
    subst hjk
    obtain ⟨sb1, sb2, sb3, sb4⟩ := su_b (k := j) h01
    have ny : ∀ {t : Int}, s ≠ 1 → s ≠ 2 → ¬ (s = 12 ∨ s = 13) → tyr s j u t → tyn (tn M g) s (va M3 g n) j u t := fun y1 y2 y3 y4 => by
      unfold tyn
      rw [if_neg y1, if_neg y2, if_neg y3]
      exact y4
    have hk2 : s = 18 ∨ s = 23 → j = 2 := fun y => by
      rcases hk with ⟨-, -, z⟩ | ⟨-, -, z, -⟩
      · omega
      · unfold ari at z; omega
    refine k_MM_lookAt_51 hO (i32s (by omega) (by omega)) hco is ip (i32s (by omega) (by omega)) (i32s (by omega) (by omega)) (i32s (by omega) (by omega)) ⟨by omega, by omega⟩ ?_
    rw [r19, l93]
    have ep' : p = pm M3 g n := ep
    refine ⟨w.1.1, (w.nu n93).1, fun _ => ⟨fun q1 => ?_, fun q1 => ⟨fun q2 => ⟨fun z => absurd z (by decide), fun _ => ok 0 (Or.inl rfl) q1 (by unfold tyn; rw [if_neg q1, if_pos q2]) (fun z => absurd q2 z.2.1)⟩, fun q2 => ⟨fun q3 => ⟨fun z => absurd z (by decide), fun _ => ok 1 (Or.inr rfl) q1 (by unfold tyn; rw [if_neg q1, if_neg q2, if_pos q3]) (fun z => absurd q3 (by omega))⟩, fun q3 => ⟨fun q4 v hv => ⟨fun z => flt p 1 ip (Or.inr rfl) ep' ⟨q1, q2, by omega, by omega⟩ ?_, fun z => ok 1 (Or.inr rfl) q1 (ny q1 q2 q3 ?_) (fun _ => ?_)⟩, fun q4 => ⟨fun q5 v hv => ⟨fun z => flt p 1 ip (Or.inr rfl) ep' ⟨q1, q2, by omega, by omega⟩ ?_, fun z => ok 1 (Or.inr rfl) q1 (ny q1 q2 q3 ?_) (fun _ => ?_)⟩, fun q5 => ⟨fun q6 => ?_, fun q6 v hv => k_MM_isComparison hO is (fun v7 h7 => ⟨i32s (by split at h7 <;> omega) (by split at h7 <;> omega), hO, fun x hx => ⟨fun z => ⟨w.1.1, flt p x ip (by split at hx <;> omega) ep' ⟨q1, q2, by omega, by omega⟩ ?_⟩, fun z => ok x (by split at hx <;> omega) q1 (ny q1 q2 q3 ?_) (fun _ => ?_)⟩⟩)⟩⟩⟩⟩⟩⟩, fun q => absurd (Int.le_refl _) q⟩
    · refine (x_MM_lookUp (d := d) hU hco hw0 h hn (hv q1).1 (hv q1).2).mono (fun x M4 h4 => ?_)
      obtain ⟨h4, x01, t93, t95, t⟩ := h4
      refine ⟨i32s (by omega) (by omega), h4.2.1.1, fun z => absurd z (by decide), fun _ => la386x x01 h4 t93 t95 ?_ hL hb⟩
      rcases t with ⟨t, ⟨t5, t6⟩, -⟩ | ⟨t1, ⟨t2, t4, t7, t8⟩, t3⟩
      · exact Or.inl ⟨t, t5, es'.symm.trans q1, t6⟩
      · refine Or.inr (Or.inr ⟨Or.inr ⟨t1, fun _ => t2, fun i hi => t3 i (by rcases hi with z | z; exact z; exact absurd (es'.symm.trans q1) z), ?_⟩, t1, fun _ => ⟨t7, t8, by omega⟩, fun z => absurd (es'.symm.trans q1) z.1⟩)
        unfold tyn
        rw [← es', if_pos q1]
        exact t4
    · -- the same: bad
      have j2 := hk2 q4
      have sm1 : su u j = 1 := by
        by_cases y : su u j = 1
        · exact y
        · rw [if_neg y] at hv; rw [hv] at z; exact absurd z (by decide)
      subst j2
      have : su u 2 = 0 + u 0 + u 1 := rfl
      unfold gdt
      rw [if_neg (by omega), if_pos q4]
      omega
    · have j2 := hk2 q4
      have sm1 : su u j ≠ 1 := fun y => by rw [if_pos y] at hv; exact z hv
      subst j2
      have u0 := h01 0 (by omega)
      have u1 := h01 1 (by omega)
      have : su u 2 = 0 + u 0 + u 1 := rfl
      unfold tyr
      rw [if_neg (by omega), if_pos q4]
      exact ⟨by omega, rfl⟩
    · have j2 := hk2 q4
      have sm1 : su u j ≠ 1 := fun y => by rw [if_pos y] at hv; exact z hv
      subst j2
      have u0 := h01 0 (by omega)
      have u1 := h01 1 (by omega)
      have : su u 2 = 0 + u 0 + u 1 := rfl
      unfold gdt tyt
      rw [if_neg (by omega), if_pos q4, if_pos (by omega)]
      exact ⟨by omega, rfl⟩
    · unfold gdt
      rw [if_pos q5]
      intro y
      have y2 := su_all1 y
      rw [if_pos y2] at hv
      rw [hv] at z
      exact absurd z (by decide)
    · unfold tyr
      rw [if_pos q5]
      refine ⟨sb3 ?_, rfl⟩
      by_cases y : su u j = (j : Int)
      · exact y
      · rw [if_neg y] at hv; exact absurd hv z
    · unfold gdt tyt
      rw [if_pos q5, if_pos (by omega)]
      refine ⟨sb3 ?_, rfl⟩
      by_cases y : su u j = (j : Int)
      · exact y
      · rw [if_neg y] at hv; exact absurd hv z
    · have k3 : j = 3 := by
        rcases hk with ⟨-, -, z⟩ | ⟨-, -, z, -⟩
        · omega
        · unfold ari at z; omega
      subst k3
      have g334 : ∀ (b : Int), (b = 0 ∨ b = 1) → (b = 1 ↔ u 0 = 1 ∧ u 1 = u 2) → h_MM_lookAt_334 G (d + 4) a p L b M3 (laX co M M3 a g N T K n L 3 u E rv) := fun b hb2 hb3 => by
        refine k_MM_lookAt_334 hO ip (i32s (by omega) (by omega)) (i32s (by omega) (by omega)) ?_
        rw [r19]
        refine ⟨w.1.1, (w.nu n93).1, (s_MN_last hO (w.nu n93) (by rw [hL]; omega)).mono (fun z M1 e1 => ?_)⟩
        obtain ⟨e1, hz⟩ := e1
        subst e1
        have z01 := h01 2 (by omega)
        rw [hL, show (((L + 3 : Nat) : Int) - 1).toNat = L + 2 by omega, hu 2 (by omega)] at hz
        rw [← hz] at z01
        refine ⟨i32s (by omega) (by omega), hO, fun y => ⟨w.1.1, flt p z ip z01 ep' ⟨q1, q2, by omega, by omega⟩ (by unfold gdt; rw [if_neg q5, if_neg q4, if_pos q6]; exact fun qq => by have := hb3.mpr qq; omega)⟩, fun y => ok z z01 q1 (ny q1 q2 q3 ?_) (fun _ => by unfold gdt tyt; rw [if_neg q5, if_neg q4, if_pos q6, if_neg (by omega), if_pos q6]; exact ⟨hb3.mp (by omega), hz⟩)⟩
        obtain ⟨y1, y2⟩ := hb3.mp (by omega)
        unfold tyr
        rw [if_neg q5, if_neg q4, if_pos q6]
        exact ⟨y1, y2.trans hz.symm, hz.symm⟩
      refine rd n93 (by rw [hL]; omega) (fun z hz iz => ⟨iz, hO, fun c1 => ?_, fun c1 => g334 0 (Or.inl rfl) ⟨fun y => by omega, fun y => absurd (by rw [hz]; exact (hu 0 (by omega)).trans y.1) c1⟩⟩)
      have hz0 : z = u 0 := hz.trans (hu 0 (by omega))
      rw [r19]
      refine ⟨w.1.1, (w.nu n93).1, ?_⟩
      rw [show (L : Int) + 1 = ((L + 1 : Nat) : Int) by omega]
      refine rd n93 (by rw [hL]; omega) (fun z2 hz2 iz2 => ⟨iz2, hO, w.1.1, ?_⟩)
      rw [hu 1 (by omega)] at hz2
      rw [r19]
      refine ⟨(w.nu n93).1, ?_⟩
      rw [show (L : Int) + 2 = ((L + 2 : Nat) : Int) by omega]
      exact rd n93 (by rw [hL]; omega) (fun z3 hz3 iz3 => ⟨iz3, hO, fun y => g334 1 (Or.inr rfl) ⟨fun _ => by rw [hu 2 (by omega)] at hz3; omega, fun _ => rfl⟩, fun y => g334 0 (Or.inl rfl) ⟨fun y => by omega, fun yy => absurd (by rw [hu 2 (by omega)] at hz3; omega) y⟩⟩)
    · unfold gdt
      rw [if_neg q5, if_neg q4, if_neg q6]
      intro y
      have y2 := su_all0 y
      rw [if_pos y2] at hv
      rw [hv] at z
      exact absurd z (by decide)
    · unfold tyr
      rw [if_neg q5, if_neg q4, if_neg q6]
      refine ⟨sb4 ?_, ?_⟩
      · by_cases y : su u j = 0
        · exact y
        · rw [if_neg y] at hv; exact absurd hv z
      · rw [hx, h7]
        by_cases y : 19 ≤ s ∧ s ≤ 22
        · rw [if_pos y, if_pos (show s = 23 ∨ s = 18 ∨ s = 21 ∨ s = 19 ∨ s = 22 ∨ s = 20 by omega)]; rfl
        · rw [if_neg y, if_neg (show ¬ (s = 23 ∨ s = 18 ∨ s = 21 ∨ s = 19 ∨ s = 22 ∨ s = 20) by omega)]; rfl
    · unfold gdt tyt
      rw [if_neg q5, if_neg q4, if_neg q6, if_neg (by omega), if_neg q6]
      refine ⟨sb4 ?_, ?_⟩
      · by_cases y : su u j = 0
        · exact y
        · rw [if_neg y] at hv; exact absurd hv z
      · rw [hx, h7]
        by_cases y : 19 ≤ s ∧ s ≤ 22
        · rw [if_pos y, if_pos (show s = 23 ∨ s = 18 ∨ s = 21 ∨ s = 19 ∨ s = 22 ∨ s = 20 by omega)]; rfl
        · rw [if_neg y, if_neg (show ¬ (s = 23 ∨ s = 18 ∨ s = 21 ∨ s = 19 ∨ s = 22 ∨ s = 20) by omega)]; rfl
end LAX
