/-! The reference: a node is begun. -/
section BG
variable {G : mG} {F : Prop} {d a g R W T V X n : Nat} {M : mM}
theorem Ev.rd {p j : Nat} {Q : Int → mM → Prop} (h : Ev F M a g R W T) (hp : p ∈ nums a) (hk : (j : Int) < ln M p) (hQ : ∀ z, z = nt M p j → i32 z → Q z M) : Ci G y_MN_at d [vr p, vi j] M Q := by
  refine (s_MN_at h.1 (h.2.1.nu hp) hk).mono (fun z M1 e1 => ?_)
  obtain ⟨e1, hz⟩ := e1
  subst e1
  exact hQ z hz (by rw [hz]; exact (h.1 _ _).1)
theorem s_bg {Q : mM → Prop} (h : Ev F M a g R W T) (hn : n < T)
    (h1 : so M g n = 1 → Cv G y_MM_name (d + 2) [vr a, vr g, vi (va M g n)] M (fun M' => mOk M' ∧ Q M'))
    (h2 : so M g n = 2 → Cv G y_MM_push (d + 2) [vr a, vl (va M g n), vl 1] M (fun M' => mOk M' ∧ Q M'))
    (h3 : so M g n = 12 ∨ so M g n = 13 → Cv G y_MM_pushTruth (d + 2) [vr a, vi (if so M g n = 12 then 1 else 0)] M (fun M' => mOk M' ∧ Q M'))
    (h4 : so M g n = 29 ∨ so M g n = 30 ∨ so M g n = 32 → Cv G y_MM_todo (d + 2) [vr a, vi 2, vi n] M (fun M1 => mOk M1 ∧ (mK M1 a = 14 ∧ Cv G y_MM_todo (d + 2) [vr a, vi 0, vi (fp M g n)] M1 (fun M2 => mOk M2 ∧ Q M2))))
    (h5 : ¬ (so M g n = 1 ∨ so M g n = 2 ∨ so M g n = 12 ∨ so M g n = 13 ∨ so M g n = 29 ∨ so M g n = 30 ∨ so M g n = 32) → Cv G y_MM_todo (d + 2) [vr a, vi 1, vi n] M (fun M1 => mOk M1 ∧ (mK M1 a = 14 ∧ mK M1 (mR M1 a 24) = 15 ∧ h_MM_begin_166 G (d + 2) a g (mI M1 (mR M1 a 24) 1) (fp M g n) M1 Q))) : Cv G y_MM_begin (d + 3) [vr a, vr g, vi n] M Q := by
  obtain ⟨hO, w, hg, hd, hB, -, -⟩ := id h
  have gp := w.gp hg
  have r0 : mR M g 0 = g + 1 := gp.2.1.1
  have r3 : mR M g 3 = g + 7 := gp.2.1.2.2.2.1
  have r4 : mR M g 4 = g + 9 := gp.2.1.2.2.2.2.1
  have i1 := tL_in (a := a) (q := g + 1) hg (tLk1 g)
  have i7 := tL_in (a := a) (q := g + 7) hg (tLk7 g)
  have i9 := tL_in (a := a) (q := g + 9) hg (tLk9 g)
  have l1 := hd (g + 1) (by first | exact tLk1 g | omega)
  have l7 := hd (g + 7) (by first | exact tLk7 g | omega)
  have l9 := hd (g + 9) (by first | exact tLk9 g | omega)
  refine k_MM_begin hO (i32s (by omega) (by omega)) ?_
  rw [r0]
  refine ⟨gp.1, (w.nu i1).1, h.rd i1 (by omega) (fun s hs is => ⟨is, hO, gp.1, ?_⟩)⟩
  have hs' : s = so M g n := hs
  rw [← hs'] at h1 h2 h3 h4 h5
  rw [r4]
  refine ⟨(w.nu i9).1, h.rd i9 (by omega) (fun x hx ix => ⟨ix, hO, fun q1 => ⟨gp.1, ?_⟩, fun q1 => ⟨fun q2 => ⟨gp.1, ?_⟩, fun q2 => ⟨fun q3 v hv => ⟨w.1.1, ?_⟩, fun q3 => ⟨fun q4 => ⟨w.1.1, ?_⟩, fun q4 => ⟨w.1.1, ?_⟩⟩⟩⟩⟩)⟩
  · rw [r3]
    refine ⟨(w.nu i7).1, h.rd i7 (by omega) (fun y hy iy => ⟨iy, hO, w.1.1, ?_⟩)⟩
    rw [show y = va M g n from hy]
    exact h1 q1
  · rw [r3]
    refine ⟨(w.nu i7).1, h.rd i7 (by omega) (fun y hy iy => ⟨iy, hO, w.1.1, ?_⟩)⟩
    rw [show y = va M g n from hy]
    exact h2 q2
  · rw [hv]
    exact h3 q3
  · rw [show x = fp M g n from hx]
    exact h4 q4
  · rw [show x = fp M g n from hx]
    exact h5 (by omega)
/-- a leaf's value is pushed, or its formula is to be worked out -/
def lfQ (F : Prop) (M : mM) (a g V X n : Nat) (t : Int) (M' : mM) : Prop := (∃ A B : Int, vok t A B ∧ psQ M a V A B M') ∨ (so M g n = 1 ∧ t = tn M g (va M g n) ∧ nfQ F M a g X (va M g n) M')
theorem s_bg_leaf {t : Int} (h : Ev F M a g R W T) (hn : n < T) (hs : so M g n = 1 ∨ so M g n = 2 ∨ so M g n = 12 ∨ so M g n = 13) (h2 : so M g n = 2 → 0 ≤ va M g n ∧ va M g n < 1000000000) (h1 : so M g n = 1 → nme F M g R W (va M g n)) (ht : tyn (tn M g) (so M g n) (va M g n) 0 (fun _ => 0) t) (hV : mI M a 23 = (V : Int)) (hb : V < 16400) (hl : ln M (a + 99) = (X : Int)) (hX : X ≤ 64000) : Cv G y_MM_begin (d + 3) [vr a, vr g, vi n] M (fun M' => mOk M' ∧ lfQ F M a g V X n t M') := by
  obtain ⟨hO, w, -⟩ := id h
  unfold tyn at ht
  refine s_bg h hn (fun q => ?_) (fun q => ?_) (fun q => ?_) (fun q => by omega) (fun q => by omega)
  · rw [if_pos q] at ht
    refine (s_MM_name (d := d) h (h1 q) hV hb hl hX).mono (fun M' t' => ⟨t'.1, t'.1, ?_⟩)
    rcases t'.2 with ⟨A, B, y1, y2⟩ | y
    · exact Or.inl ⟨A, B, by rw [ht]; exact y1, y2⟩
    · exact Or.inr ⟨q, ht, y⟩
  · rw [if_neg (by omega), if_pos q] at ht
    have := h2 q
    exact (s_MM_push ⟨by omega, by omega⟩ ⟨by omega, by omega⟩ hO w hV hb).mono (fun M' t' => ⟨t'.1, t'.1, Or.inl ⟨_, _, Or.inl ⟨ht, by omega, by omega, by omega, by omega⟩, t'.2⟩⟩)
  · rw [if_neg (by omega), if_neg (by omega), if_pos q] at ht
    refine (s_MM_pushTruth (d := d + 1) ⟨by split <;> omega, by split <;> omega⟩ hO w hV hb).mono (fun M' t' => ⟨t'.1, t'.1, Or.inl ⟨_, _, Or.inr ⟨ht, ?_, rfl⟩, t'.2⟩⟩)
    generalize (if so M g n = 12 then (1 : Int) else 0) = b
    by_cases z : b = 0
    · rw [if_pos z]; exact Or.inl rfl
    · rw [if_neg z]; exact Or.inr rfl
/-- and, or, ask begin with their first part -/
theorem s_bg_first (h : Ev F M a g R W T) (hn : n < T) (hs : so M g n = 29 ∨ so M g n = 30 ∨ so M g n = 32) (hl : ln M (a + 99) = (X : Int)) (hX : X ≤ 64000) : Cv G y_MM_begin (d + 3) [vr a, vr g, vi n] M (fun M' => mOk M' ∧ Mv (fun x => x = a + 99) (fun _ => False) M a M' ∧ ln M' (a + 99) = (X + 4 : Nat) ∧ (∀ j, j < X → nt M' (a + 99) j = nt M (a + 99) j) ∧ nt M' (a + 99) X = 2 ∧ nt M' (a + 99) (X + 1) = n ∧ nt M' (a + 99) (X + 2) = 0 ∧ nt M' (a + 99) (X + 3) = fp M g n) := by
  obtain ⟨hO, w, hg, hd, hB, -, -⟩ := id h
  refine s_bg h hn (fun q => by omega) (fun q => by omega) (fun q => by omega) (fun q => ?_) (fun q => by omega)
  refine (s_MM_todo (d := d + 1) ⟨by omega, by omega⟩ (i32s (by omega) (by omega)) hO w hl (by omega)).mono (fun M1 t => ?_)
  obtain ⟨o1, m1, l1, e1, x1, y1⟩ := t
  refine ⟨o1, m1.2.1.1.1, (s_MM_todo (d := d + 1) ⟨by omega, by omega⟩ (hO _ _).1 o1 m1.2.1 l1 (by omega)).mono (fun M2 t => ?_)⟩
  obtain ⟨o2, m2, l2, e2, x2, y2⟩ := t
  exact ⟨o2, o2, m1.trans m2, l2, fun j hj => by rw [e2 j (by omega), e1 j hj], by rw [e2 X (by omega)]; exact x1, by rw [e2 (X + 1) (by omega)]; exact y1, x2, y2⟩
/-- the parts are put on the pile -/
theorem s_bg166 {nm : Int → Prop} {Q : mM → Prop} {L : Int} (hL : i32 L) (h : Ev F M a g R W T) : ∀ (k f c e Y : Nat) (M3 : mM), 1 ≤ k → Tn nm M g f k c e → e ≤ T → Mv (fun x => x = a + 99) (fun _ => False) M a M3 → ln M3 (a + 99) = (Y : Int) → Y + 2 * k ≤ 65000 → (∀ M4, Mv (fun x => x = a + 99) (fun _ => False) M a M4 → ln M4 (a + 99) = (Y + 2 * k : Nat) → (∀ j, j < Y → nt M4 (a + 99) j = nt M3 (a + 99) j) → (∀ j, j < k → nt M4 (a + 99) (Y + 2 * j) = 0 ∧ nt M4 (a + 99) (Y + 2 * j + 1) = ci M g c j) → h_MM_begin_166 G (d + 2) a g L (-1) M4 Q) → h_MM_begin_166 G (d + 2) a g L c M3 Q := by
  obtain ⟨hO, w, hg, hd, hB, -, -⟩ := id h
  have i11 := tL_in (a := a) (q := g + 11) hg (tLk11 g)
  have l11 := hd (g + 11) (by first | exact tLk11 g | omega)
  intro k
  induction k with
  | zero => intro f c e Y M3 hk; omega
  | succ k ih =>
    intro f c e Y M3 hk ht he m3 l3 hY hQ
    have hlt := ht.lt
    have w3 := m3.2.1
    refine k_MM_begin_166 m3.1 hL (i32s (by omega) (by omega)) ⟨fun q => by omega, fun _ => ⟨w3.1.1, (s_MM_todo (d := d + 1) ⟨by omega, by omega⟩ (i32s (by omega) (by omega)) m3.1 w3 l3 (by omega)).mono (fun M4 t => ?_)⟩⟩
    obtain ⟨o4, m4, l4, e4, x4, y4⟩ := t
    have w4 := m4.2.1
    have gp := w4.gp hg
    have m34 := m3.trans m4
    have s11 := m34.lst i11 (by omega)
    rw [show mR M4 g 5 = g + 11 from gp.2.1.2.2.2.2.2.1]
    refine ⟨o4, gp.1, (w4.nu i11).1, (s_MN_at o4 (w4.nu i11) (by rw [s11.1]; omega)).mono (fun z M5 e5 => ?_)⟩
    obtain ⟨e5, hz⟩ := e5
    subst e5
    rw [s11.2.1] at hz
    refine ⟨by rw [hz]; exact (hO _ _).1, o4, ?_⟩
    cases f with
    | zero => exact ht.elim
    | succ f =>
      rw [Tn, if_neg (by omega)] at ht
      by_cases k0 : k + 1 = 1
      · rw [if_pos k0] at ht
        have : z = -1 := hz.trans ht.1
        rw [this]
        refine hQ M5 m34 (by rw [l4]; omega) (fun j hj => e4 j hj) (fun j hj => ?_)
        have : j = 0 := by omega
        subst this
        exact ⟨x4, y4⟩
      · rw [if_neg k0] at ht
        obtain ⟨m, q1, q2, q3⟩ := ht
        have hzm : z = (m : Int) := hz.trans q1
        rw [hzm]
        refine ih f m e (Y + 2) M5 (by omega) q3 he m34 (by rw [l4]) (by omega) (fun M7 m7 l7 e7 v7 => ?_)
        refine hQ M7 m7 (by rw [l7]; omega) (fun j hj => (e7 j (by omega)).trans (e4 j hj)) (fun j hj => ?_)
        cases j with
        | zero => exact ⟨(e7 Y (by omega)).trans x4, (e7 (Y + 1) (by omega)).trans y4⟩
        | succ j =>
          have := v7 j (by omega)
          rw [ci_succ q1, show Y + 2 * (j + 1) = Y + 2 + 2 * j by omega]
          exact this
/-- a node with parts puts itself and them on the pile -/
theorem s_bg_parts {nm : Int → Prop} {k f e : Nat} (h : Ev F M a g R W T) (hn : n < T) (hk : 1 ≤ k) (hs : ¬ (so M g n = 1 ∨ so M g n = 2 ∨ so M g n = 12 ∨ so M g n = 13 ∨ so M g n = 29 ∨ so M g n = 30 ∨ so M g n = 32)) (hf : fp M g n = ((n + 1 : Nat) : Int)) (ht : Tn nm M g f k (n + 1) e) (he : e ≤ T) (hl : ln M (a + 99) = (X : Int)) (hX : X + 2 * k ≤ 64000) : Cv G y_MM_begin (d + 3) [vr a, vr g, vi n] M (fun M' => mOk M' ∧ Mv (fun x => x = a + 99) (fun _ => False) M a M' ∧ ln M' (a + 99) = (X + 2 + 2 * k : Nat) ∧ (∀ j, j < X → nt M' (a + 99) j = nt M (a + 99) j) ∧ nt M' (a + 99) X = 1 ∧ nt M' (a + 99) (X + 1) = n ∧ ∀ j, j < k → nt M' (a + 99) (X + 2 + 2 * (k - 1 - j)) = 0 ∧ nt M' (a + 99) (X + 2 + 2 * (k - 1 - j) + 1) = ci M g (n + 1) j) := by
  obtain ⟨hO, w, hg, hd, hB, -, -⟩ := id h
  have hge := ht.ge
  refine s_bg h hn (fun q => absurd (by omega) hs) (fun q => absurd (by omega) hs) (fun q => absurd (by omega) hs) (fun q => absurd (by omega) hs) (fun q => ?_)
  refine (s_MM_todo (d := d + 1) ⟨by omega, by omega⟩ (i32s (by omega) (by omega)) hO w hl (by omega)).mono (fun M1 t => ?_)
  obtain ⟨o1, m1, l1, e1, x1, y1⟩ := t
  have w1 := m1.2.1
  have l1' : mI M1 (a + 99) 1 = (X + 2 : Nat) := l1
  rw [r24w w1, l1', hf]
  refine ⟨o1, w1.1.1, (w1.nu n99).1, s_bg166 (i32s (by omega) (by omega)) h k f (n + 1) e (X + 2) M1 hk ht he m1 l1 (by omega) (fun M4 m4 l4 e4 v4 => ?_)⟩
  have w4 := m4.2.1
  refine k_MM_begin_166 m4.1 (i32s (by omega) (by omega)) (i32s (by omega) (by omega)) ⟨fun _ => ⟨w4.1.1, (s_MM_turnTodo (d := d + 1) m4.1 w4 l4 (by omega) hk).mono (fun M5 t => ?_)⟩, fun q => absurd (by decide) q⟩
  obtain ⟨m5, l5, t5, u5⟩ := t
  have low : ∀ j, j < X + 2 → nt M5 (a + 99) j = nt M1 (a + 99) j := fun j hj => by rw [u5 j (fun i hi => by omega), e4 j hj]
  refine ⟨m5.1, m5.1, m4.trans m5, by rw [l5, l4], fun j hj => by rw [low j (by omega), e1 j hj], by rw [low X (by omega)]; exact x1, by rw [low (X + 1) (by omega)]; exact y1, fun j hj => ⟨?_, ?_⟩⟩
  · rw [u5 _ (fun i hi => by omega)]
    exact (v4 (k - 1 - j) (by omega)).1
  · rw [t5 (k - 1 - j) (by omega), show k - 1 - (k - 1 - j) = j by omega]
    exact (v4 j hj).2
end BG
