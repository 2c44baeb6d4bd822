section
/-! The class's words, exactly. -/
/-- the number that l digits from p on tell -/
def numq (c : Nat → Int) (p : Nat) : Nat → Int
  | 0 => 0
  | l + 1 => 10 * numq c p l + (c (p + l) - 48)
/-- a word as it stands in the class's tables -/
def wdx (kw : (Nat → Int) → Nat → Nat → Int) (c : Nat → Int) (N : Nat) (s st am : Int) (p : Nat) : Prop := s = csq (wkq (kw c) c N p) ∧ st = p ∧ (isL (c p) → am = (weq c N p : Int) - p) ∧ (isDq (c p) → wkq (kw c) c N p ≠ 39 → am = numq c p (weq c N p - p))
/-- what nameSort answers -/
def NSx (G : mG) (kw : (Nat → Int) → Nat → Nat → Int) : Prop := ∀ (d w T A B D N C p n : Nat) (M : mM), mOk M → WA M w T A B D N C → p + n ≤ N → 1 ≤ n → n ≤ 40 → Ci G y_Wo_nameSort (d + 5) [vr w, vi p, vi n] M (fun r M' => M' = M ∧ (2 ≤ r ∧ r ≤ 16 ∧ r ≠ 3) ∧ r = csq (kw (mI M T) p (p + n)))
/-- a word has been taken from place p on -/
def twX (kw : (Nat → Int) → Nat → Nat → Int) (M : mM) (w T A B D N C k p : Nat) (r : Int) (M' : mM) : Prop := twQ M w T A B D N C k p r M' ∧ (∃ s am : Int, wdx kw (mI M T) N s p am p ∧ (∀ i, mI M' A i = if i = k then s else mI M A i) ∧ (∀ i, mI M' B i = if i = k then (p : Int) else mI M B i) ∧ (∀ i, mI M' D i = if i = k then am else mI M D i)) ∧ (wkq (kw (mI M T)) (mI M T) N p = 39 → r = N) ∧ (wkq (kw (mI M T)) (mI M T) N p ≠ 39 → r = weq (mI M T) N p)
/-- long and short signs, by the class's numbers -/
def lsg (x y : Int) : Int := if x = 46 ∧ y = 46 then 17 else if x = 45 ∧ y = 62 then 18 else if y = 61 then (if x = 33 then 19 else if x = 60 then 20 else if x = 62 then 21 else 1) else 1
def ssg (x : Int) : Int := if x = 33 then 32 else if x = 37 then 29 else if x = 38 then 30 else if x = 39 then 39 else if x = 40 then 37 else if x = 41 then 38 else if x = 42 then 27 else if x = 43 then 25 else if x = 44 then 36 else if x = 45 then 26 else if x = 47 then 28 else if x = 58 then 34 else if x = 59 then 35 else if x = 60 then 22 else if x = 61 then 24 else if x = 62 then 23 else if x = 63 then 33 else if x = 124 then 31 else 1
theorem sgn_two {x y y' : Int} (h : y' = y ∨ (y' = 32 ∧ y = 0)) : (lsg x y' ≠ 1 → csq (sgk x y) = lsg x y' ∧ 16 ≤ sgk x y ∧ sgk x y ≤ 20) ∧ (lsg x y' = 1 → csq (sgk x y) = ssg x ∧ ¬ (16 ≤ sgk x y ∧ sgk x y ≤ 20)) := by
  have hy : y = 46 ↔ y' = 46 := by omega
  have hy2 : y = 62 ↔ y' = 62 := by omega
  have hy3 : y = 61 ↔ y' = 61 := by omega
  unfold lsg ssg sgk csq
  by_cases e1 : x = 46
  · subst e1
    by_cases z : y' = 46
    · simp [hy.mpr z, z]
    · have : ¬ y = 46 := fun q => z (hy.mp q)
      simp [z, this]
  · by_cases e2 : x = 45
    · subst e2
      by_cases z : y' = 62
      · simp [hy2.mpr z, z]
      · have : ¬ y = 62 := fun q => z (hy2.mp q)
        simp [z, this]
    · by_cases e3 : x = 33
      · subst e3
        by_cases z : y' = 61
        · simp [hy3.mpr z, z]
        · have : ¬ y = 61 := fun q => z (hy3.mp q)
          simp [z, this]
      · by_cases e4 : x = 60
        · subst e4
          by_cases z : y' = 61
          · simp [hy3.mpr z, z]
          · have : ¬ y = 61 := fun q => z (hy3.mp q)
            simp [z, this]
        · by_cases e5 : x = 62
          · subst e5
            by_cases z : y' = 61
            · simp [hy3.mpr z, z]
            · have : ¬ y = 61 := fun q => z (hy3.mp q)
              simp [z, this]
          · simp only [e1, e2, e3, e4, e5, false_and, if_false, if_true]
            refine ⟨fun q => absurd (by split <;> rfl) q, fun _ => ?_⟩
            (repeat' split) <;> first | omega | (refine ⟨?_, ?_⟩ <;> omega)
section WXA
variable {G : mG} {d w T A B D N C k : Nat} {M M' M1 : mM} {kw : (Nat → Int) → Nat → Nat → Int}

theorem x_Wo_isLetter {x : Int} (hO : mOk M) (hx : i32 x) : Ci G y_Wo_isLetter d [vi x] M (fun r M' => M' = M ∧ (r = 0 ∨ r = 1) ∧ (r ≠ 0 ↔ isL x)) :=
  k_Wo_isLetter hO hx (fun v e => ⟨rfl, by rw [e]; split <;> omega, by rw [e]; unfold isL; split <;> omega⟩)
theorem x_Wo_longSign {x z : Int} (hO : mOk M) (hx : i32 x) (hz : i32 z) : Ci G y_Wo_longSign d [vi x, vi z] M (fun r M' => M' = M ∧ (r = 1 ∨ (17 ≤ r ∧ r ≤ 21 ∧ z ≠ 32)) ∧ r = lsg x z) := by
  refine k_Wo_longSign hO hx hz ⟨fun q => ⟨rfl, Or.inr (by omega), by unfold lsg; rw [if_pos q]⟩, fun q1 => ⟨fun q => ⟨rfl, Or.inr (by omega), by unfold lsg; rw [if_neg q1, if_pos q]⟩, fun q2 => ⟨fun q v e => ⟨rfl, ?_, by unfold lsg; rw [if_neg q1, if_neg q2, if_pos q]; exact e⟩, fun q => ⟨rfl, Or.inl rfl, by unfold lsg; rw [if_neg q1, if_neg q2, if_neg q]⟩⟩⟩⟩
  rw [e]
  (repeat' split) <;> omega
theorem x_Wo_shortSign {x : Int} (hO : mOk M) (hx : i32 x) : Ci G y_Wo_shortSign d [vi x] M (fun r M' => M' = M ∧ (1 ≤ r ∧ r ≤ 39 ∧ r ≠ 2 ∧ r ≠ 3) ∧ r = ssg x) := by
  refine k_Wo_shortSign hO hx ?_
  unfold ssg
  (repeat' first | (refine ⟨fun e => ⟨rfl, by omega, by rw [if_pos e]⟩, fun e => ?_⟩; rw [if_neg e]) | exact ⟨rfl, by omega, rfl⟩)
theorem x_Wo_afterBlanks {q : Nat} (hO : mOk M) (h : WA M w T A B D N C) (hq : q ≤ N) : Ci G y_Wo_afterBlanks d [vr w, vi q] M (fun r M' => M' = M ∧ r = (skp (mI M T) N q : Int)) := by
  obtain ⟨h1, ⟨p0, p3, p4, p5⟩, ⟨kT, nT⟩, -, -, h6, h7, h8, -⟩ := id h
  refine k_Wo_afterBlanks hO (i32s (by omega) (by omega)) ?_
  suffices H : ∀ (t j : Nat) (b : Int) (bb : Bool), N ≤ j + t → q ≤ j → j ≤ N → (b = 0 ∨ b = 1) → Hid (b ≠ 0 ↔ bb = true) → skp (mI M T) N q = skq (mI M T) (N - j) bb j → h_Wo_afterBlanks_4 G d w b j M (fun r M' => M' = M ∧ r = (skp (mI M T) N q : Int)) from H N q 0 false (by omega) (Nat.le_refl _) hq (Or.inl rfl) ⟨fun z => absurd rfl z, fun z => by cases z⟩ rfl
  intro t
  induction t with
  | zero =>
    intro j b bb hj hqj hjN hb hbb hX
    have e : j = N := by omega
    subst e
    rw [Nat.sub_self] at hX
    refine k_Wo_afterBlanks_4 hO (i32s (by omega) (by omega)) (i32s (by omega) (by omega)) ⟨h1, fun _ => ⟨rfl, by rw [hX, h6]; rfl⟩, fun z => absurd (by omega) z⟩
  | succ t ih =>
    intro j b bb hj hqj hjN hb hbb hX
    refine k_Wo_afterBlanks_4 hO (i32s (by omega) (by omega)) (i32s (by omega) (by omega)) ⟨h1, fun z => ?_, fun z => ?_⟩
    · have e : j = N := by omega
      subst e
      rw [Nat.sub_self] at hX
      exact ⟨rfl, by rw [hX, h6]; rfl⟩
    rw [p0, Int.toNat_natCast]
    have ej : N - j = (N - (j + 1)) + 1 := by omega
    rw [ej] at hX
    refine ⟨kT, by omega, fun v e => ?_⟩
    have key : (mI M T j = 35 ∨ (¬ b = 0 ∧ ¬ mI M T j = 10)) ↔ (mI M T j = 35 ∨ (bb = true ∧ mI M T j ≠ 10)) := by
      have := (show _ ↔ _ from hbb)
      exact or_congr Iff.rfl (and_congr this Iff.rfl)
    by_cases y : mI M T j = 35 ∨ (¬ b = 0 ∧ ¬ mI M T j = 10)
    · rw [if_pos y] at e
      rw [skq_rem (key.mp y)] at hX
      refine ⟨fun _ => ?_, fun z2 => absurd (Or.inl (by omega)) z2⟩
      rw [e]
      exact ih (j + 1) 1 true (by omega) (by omega) (by omega) (Or.inr rfl) ⟨fun _ => rfl, fun _ => by decide⟩ hX
    · rw [if_neg y] at e
      have y2 : ¬ (mI M T j = 35 ∨ (bb = true ∧ mI M T j ≠ 10)) := fun q2 => y (key.mpr q2)
      refine ⟨fun z2 => ?_, fun z2 => ?_⟩
      · have bl : blq (mI M T j) := by
          rcases z2 with z2 | z2
          · exact absurd e z2
          · exact z2
        rw [skq_bl y2 bl] at hX
        rw [e]
        exact ih (j + 1) 0 false (by omega) (by omega) (by omega) (Or.inl rfl) ⟨fun z3 => absurd rfl z3, fun z3 => by cases z3⟩ hX
      · have bl : ¬ blq (mI M T j) := fun q2 => z2 (Or.inr q2)
        rw [skq_end y2 bl] at hX
        exact ⟨rfl, by rw [hX]⟩
end WXA
end
section
/-! The class's words, exactly: a number, a name, a word. -/
section WXB
variable {G : mG} {d w T A B D N C k : Nat} {M M' M1 : mM} {kw : (Nat → Int) → Nat → Nat → Int}
theorem x_Wo_add2 {s st am : Int} (hs : i32 s) (hst : i32 st) (ham : i32 am) (hO : mOk M) (h : WA M w T A B D N C) (hi : WI M w A B D N k) (hkN : k < N) (hC2 : C ≤ 16777216) (hw : wdk N s st am) : Cv G y_Wo_add d [vr w, vi s, vi st, vi am] M (fun M' => (mOk M' ∧ FI (woA w A B D) M M' ∧ WA M' w T A B D N C ∧ WI M' w A B D N (k + 1)) ∧ (∀ i, mI M' A i = if i = k then s else mI M A i) ∧ (∀ i, mI M' B i = if i = k then st else mI M B i) ∧ (∀ i, mI M' D i = if i = k then am else mI M D i)) := by
  have h8 := h.2.2.2.2.2.2.2.1
  refine (s_Wo_add hs hst ham hO h hi.1 (by omega) hC2).mono (fun M' q => ?_)
  obtain ⟨o, f, h', e2, eA, eB, eD⟩ := q
  exact ⟨⟨o, f, h', hi.add hw e2 eA eB eD⟩, eA, eB, eD⟩
theorem weq_dg {c : Nat → Int} {n i : Nat} (h : isDq (c i)) : weq c n i = enq isDq c (n - i) i := by
  have : ¬ isL (c i) := by unfold isL isDq at *; omega
  unfold weq
  rw [if_neg this, if_pos h]
theorem wkq_dg {c : Nat → Int} {n i : Nat} {k1 : Nat → Nat → Int} (h : isDq (c i)) : wkq k1 c n i = if 9 < weq c n i - i then 39 else 2 := by
  have : ¬ isL (c i) := by unfold isL isDq at *; omega
  unfold wkq
  rw [if_neg this, if_pos h]
theorem weq_lt {c : Nat → Int} {n i : Nat} (h : isL (c i)) : weq c n i = enq nmq c (n - i) i := by
  unfold weq
  rw [if_pos h]
theorem wkq_lt {c : Nat → Int} {n i : Nat} {k1 : Nat → Nat → Int} (h : isL (c i)) : wkq k1 c n i = if 40 < weq c n i - i then 39 else k1 i (weq c n i) := by
  unfold wkq
  rw [if_pos h]
theorem weq_sg {c : Nat → Int} {n i : Nat} (h : ¬ isL (c i)) (h2 : ¬ isDq (c i)) : weq c n i = if 16 ≤ sgk (c i) (lq c n (i + 1)) ∧ sgk (c i) (lq c n (i + 1)) ≤ 20 then i + 2 else i + 1 := by
  unfold weq
  rw [if_neg h, if_neg h2]
theorem wkq_sg {c : Nat → Int} {n i : Nat} {k1 : Nat → Nat → Int} (h : ¬ isL (c i)) (h2 : ¬ isDq (c i)) : wkq k1 c n i = sgk (c i) (lq c n (i + 1)) := by
  unfold wkq
  rw [if_neg h, if_neg h2]
theorem x_Wo_takeNumber {p : Nat} (hO : mOk M) (h : WA M w T A B D N C) (hi : WI M w A B D N k) (hkN : k < N) (hC2 : C ≤ 16777216) (hp : p < N) (hc : 48 ≤ mI M T p ∧ mI M T p ≤ 57) : Ci G y_Wo_takeNumber (d + 1) [vr w, vi p] M (twX kw M w T A B D N C k p) := by
  obtain ⟨h1, ⟨p0, p3, p4, p5⟩, ⟨kT, nT⟩, -, -, h6, h7, h8, -⟩ := id h
  refine k_Wo_takeNumber hO (i32s (by omega) (by omega)) ?_
  have pw : ∀ n, n ≤ 9 → (10 : Int) ^ n ≤ 1000000000 := by decide
  have hdg : isDq (mI M T p) := hc
  have hnl : ¬ isL (mI M T p) := by unfold isL; omega
  have hwk := wkq_dg (n := N) (k1 := kw (mI M T)) hdg
  have hwe := weq_dg (n := N) hdg
  -- the end
  have fin : ∀ {v : Int} {j : Nat}, p < j → j ≤ N → 0 ≤ v → v ≤ 999999999 → weq (mI M T) N p = j → Hid (j - p ≤ 9 → v = numq (mI M T) p (j - p)) → i32 ((j : Int) - p) ∧ ∀ v6 : Int, v6 = (if (9 < (j : Int) - p) then 0 else 1) → ∀ v12 : Int, v12 = (if (v6 = 0) then 1 else 3) → Cv G y_Wo_add d [vr w, vi v12, vi p, vi v] M (fun M16 => mOk M16 ∧ (((v6 = 0) → mK M16 w = 2) ∧ ∀ v21 : Int, v21 = (if (v6 = 0) then mI M16 w 1 else j) → twX kw M w T A B D N C k p v21 M16)) := fun {v j} hj hjN v0 v1 ew hv => by
    refine ⟨i32s (by omega) (by omega), fun v6 e6 v12 e12 => ?_⟩
    have b12 : v12 = 1 ∨ v12 = 3 := by rw [e12]; split <;> omega
    refine (x_Wo_add2 (i32s (by omega) (by omega)) (i32s (by omega) (by omega)) ⟨by omega, by omega⟩ hO h hi hkN hC2 ⟨by omega, by omega, by omega, by omega⟩).mono (fun M16 q => ?_)
    obtain ⟨⟨o, f, h', i'⟩, eA, eB, eD⟩ := q
    refine ⟨o, fun _ => h'.1, fun v21 e21 => ⟨⟨o, f, h', i', ?_⟩, ⟨v12, v, ⟨?_, rfl, fun q => absurd q hnl, fun _ q => ?_⟩, eA, eB, eD⟩, ?_⟩⟩
    · by_cases y : v6 = 0
      · rw [if_pos y, h'.2.2.2.2.2.1] at e21
        exact ⟨N, e21, by omega, Nat.le_refl _⟩
      · rw [if_neg y] at e21
        exact ⟨j, e21, hj, hjN⟩
    · by_cases y : 9 < j - p
      · have z6 : v6 = 0 := by rw [e6, if_pos (by omega)]
        rw [hwk, ew, if_pos y, e12, if_pos z6]; decide
      · have z6 : ¬ v6 = 0 := by rw [e6, if_neg (by omega)]; decide
        rw [hwk, ew, if_neg y, e12, if_neg z6]; decide
    · rw [hwk, ew] at q
      have y : ¬ 9 < j - p := fun z => q (by rw [if_pos z])
      rw [ew]
      exact (show _ → _ from hv) (by omega)
    · rw [hwk, ew]
      by_cases y : 9 < j - p
      · rw [if_pos y]
        rw [if_pos (by omega)] at e6
        rw [if_pos e6, h'.2.2.2.2.2.1] at e21
        exact ⟨fun _ => e21, fun q => absurd rfl q⟩
      · rw [if_neg y]
        rw [if_neg (by omega)] at e6
        rw [if_neg (by omega)] at e21
        exact ⟨fun q => absurd q (by decide), fun _ => e21⟩
  suffices H : ∀ (t j : Nat) (v : Int), N ≤ j + t → p ≤ j → j ≤ N → (p < j ∨ j = p) → 0 ≤ v → v ≤ 999999999 → (j - p ≤ 9 → v + 1 ≤ (10 : Int) ^ (j - p)) → enq isDq (mI M T) (N - p) p = enq isDq (mI M T) (N - j) j → Hid (j - p ≤ 9 → v = numq (mI M T) p (j - p)) → h_Wo_takeNumber_4 G d w p v j M (twX kw M w T A B D N C k p) from H N p 0 (by omega) (Nat.le_refl _) (by omega) (Or.inr rfl) (by omega) (by omega) (fun _ => by rw [Nat.sub_self]; decide) rfl (fun _ => by rw [Nat.sub_self]; rfl)
  intro t
  induction t with
  | zero =>
    intro j v hj hpj hjN hd v0 v1 hv hX hV
    have ejN : j = N := by omega
    have ew : weq (mI M T) N p = j := by rw [hwe, hX, ejN, Nat.sub_self]; rfl
    exact k_Wo_takeNumber_4 hO (i32s (by omega) (by omega)) ⟨by omega, by omega⟩ (i32s (by omega) (by omega)) ⟨h1, fun _ => fin (by omega) hjN v0 v1 ew hV, fun z => absurd (by omega) z⟩
  | succ t ih =>
    intro j v hj hpj hjN hd v0 v1 hv hX hV
    refine k_Wo_takeNumber_4 hO (i32s (by omega) (by omega)) ⟨by omega, by omega⟩ (i32s (by omega) (by omega)) ⟨h1, fun z => ?_, fun z => ?_⟩
    · have ejN : j = N := by omega
      have ew : weq (mI M T) N p = j := by rw [hwe, hX, ejN, Nat.sub_self]; rfl
      exact fin (by omega) hjN v0 v1 ew hV
    have ej : N - j = (N - (j + 1)) + 1 := by omega
    rw [ej] at hX
    rw [p0, Int.toNat_natCast]
    refine ⟨kT, by omega, (s_Wo_isDigit hO (hO _ _).1).mono (fun x M2 q => ?_)⟩
    obtain ⟨e2, hx, ex⟩ := q
    subst e2
    rw [p0]
    refine ⟨i32s (by omega) (by omega), hO, fun x0 => ?_, fun x0 => ?_⟩
    · have pj : p < j := by
        rcases hd with y | y
        · exact y
        · subst y
          exact absurd (ex.2 hc) (fun z => z x0)
      have nd : ¬ isDq (mI M2 T j) := fun q => ex.2 q x0
      rw [enq_n nd] at hX
      obtain ⟨f1, f2⟩ := fin pj hjN v0 v1 (by rw [hwe, hX]) hV
      exact ⟨f1, fun v42 e42 v48 e48 => ⟨h1, f2 v42 e42 v48 e48⟩⟩
    · have dg := ex.1 x0
      clear ex
      rw [enq_y (P := isDq) dg] at hX
      refine ⟨i32s (by omega) (by omega), fun _ => ⟨h1, kT, by omega⟩, fun v70 e70 => ?_⟩
      have st : h_Wo_takeNumber_4 G d w p v70 ((j + 1 : Nat) : Int) M2 (twX kw M2 w T A B D N C k p) := by
        by_cases y : (9 : Int) ≤ (j : Int) - p
        · rw [if_pos y] at e70
          subst e70
          exact ih (j + 1) 0 (by omega) (by omega) (by omega) (Or.inl (by omega)) (by omega) (by omega) (fun z => by omega) hX (fun z => by omega)
        · rw [if_neg y] at e70
          have a1 := hv (by omega)
          have a2 := pw (j + 1 - p) (by omega)
          have a3 : (10 : Int) ^ (j + 1 - p) = 10 ^ (j - p) * 10 := by rw [show j + 1 - p = (j - p) + 1 by omega, Int.pow_succ]
          have a4 : v = numq (mI M2 T) p (j - p) := (show _ → _ from hV) (by omega)
          have a5 : Hid (j + 1 - p ≤ 9 → v70 = numq (mI M2 T) p (j + 1 - p)) := fun _ => by
            rw [show j + 1 - p = (j - p) + 1 by omega]
            show v70 = 10 * numq (mI M2 T) p (j - p) + (mI M2 T (p + (j - p)) - 48)
            rw [← a4, show p + (j - p) = j by omega]
            exact e70
          exact ih (j + 1) v70 (by omega) (by omega) (by omega) (Or.inl (by omega)) (by omega) (by omega) (fun _ => by omega) hX a5
      exact st
theorem x_Wo_takeName {p : Nat} (hNS : NSx G kw) (hO : mOk M) (h : WA M w T A B D N C) (hi : WI M w A B D N k) (hkN : k < N) (hC2 : C ≤ 16777216) (hp : p < N) (hlt : isL (mI M T p)) : Ci G y_Wo_takeName (d + 6) [vr w, vi p] M (twX kw M w T A B D N C k p) := by
  obtain ⟨h1, ⟨p0, p3, p4, p5⟩, ⟨kT, nT⟩, -, -, h6, h7, h8, -⟩ := id h
  refine k_Wo_takeName hO (i32s (by omega) (by omega)) ?_
  have hnd : ¬ isDq (mI M T p) := by unfold isL isDq at *; omega
  have hwk := wkq_lt (n := N) (k1 := kw (mI M T)) hlt
  have hwe := weq_lt (n := N) hlt
  have fin : ∀ {v s : Int} {j : Nat}, p < j → j ≤ N → (v = 0 ∧ s = 1 ∨ v = 1 ∧ j ≤ p + 40 ∧ 2 ≤ s ∧ s ≤ 16 ∧ s ≠ 3) → weq (mI M T) N p = j → s = csq (wkq (kw (mI M T)) (mI M T) N p) → Hid (v = 0 ↔ 40 < j - p) → h_Wo_takeName_84 G (d + 5) w p j v w s M (twX kw M w T A B D N C k p) := fun {v s j} hj hjN hv ew es hv0 => by
    refine k_Wo_takeName_84 hO (i32s (by omega) (by omega)) (i32s (by omega) (by omega)) (i32s (by omega) (by omega)) (i32s (by omega) (by omega)) ⟨h1, ?_⟩
    refine (x_Wo_add2 (i32s (by omega) (by omega)) (i32s (by omega) (by omega)) (i32s (by omega) (by omega)) hO h hi hkN hC2 ⟨by omega, by omega, by omega, by omega⟩).mono (fun M16 q => ?_)
    obtain ⟨⟨o, f, h', i'⟩, eA, eB, eD⟩ := q
    refine ⟨o, fun _ => h'.1, fun v21 e21 => ⟨⟨o, f, h', i', ?_⟩, ⟨s, (j : Int) - p, ⟨es, rfl, fun _ => by rw [ew], fun q => absurd q hnd⟩, eA, eB, eD⟩, ?_⟩⟩
    · by_cases y : v = 0
      · rw [if_pos y, h'.2.2.2.2.2.1] at e21
        exact ⟨N, e21, by omega, Nat.le_refl _⟩
      · rw [if_neg y] at e21
        exact ⟨j, e21, hj, hjN⟩
    · rw [hwk] at es ⊢
      rw [ew] at es ⊢
      have hv1 := (show _ ↔ _ from hv0)
      by_cases y : 40 < j - p
      · rw [if_pos y]
        rw [if_pos (hv1.mpr y), h'.2.2.2.2.2.1] at e21
        exact ⟨fun _ => e21, fun q => absurd rfl q⟩
      · rw [if_neg y] at es ⊢
        have vn : ¬ v = 0 := fun q => y (hv1.mp q)
        rw [if_neg vn] at e21
        refine ⟨fun q => ?_, fun _ => e21⟩
        rw [q] at es
        have : csq 39 = 1 := by decide
        rw [this] at es
        omega
  have sor : ∀ {j : Nat}, p < j → j ≤ N → weq (mI M T) N p = j → i32 ((j : Int) - p) ∧ ∀ v6 : Int, v6 = (if (40 < (j : Int) - p) then 0 else 1) → ((v6 = 0) → (h_Wo_takeName_84 G (d + 5) w p j v6 w 1 M (twX kw M w T A B D N C k p))) ∧ (¬ (v6 = 0) → (Ci G y_Wo_nameSort (d + 5) [vr w, vi p, vi ((j : Int) - p)] M (fun x14 M13 => i32 x14 ∧ mOk M13 ∧ (h_Wo_takeName_84 G (d + 5) w p j v6 w x14 M13 (twX kw M w T A B D N C k p))))) := fun {j} hj hjN ew => by
    refine ⟨i32s (by omega) (by omega), fun v6 e6 => ⟨fun z => ?_, fun z => ?_⟩⟩
    · have y : (40 : Int) < (j : Int) - p := Classical.byContradiction (fun y => by rw [if_neg y] at e6; omega)
      refine fin hj hjN (Or.inl ⟨z, rfl⟩) ew ?_ ⟨fun _ => by omega, fun _ => z⟩
      rw [hwk, ew, if_pos (by omega)]
      decide
    have j40 : j ≤ p + 40 ∧ v6 = 1 := by
      by_cases y : (40 : Int) < (j : Int) - p
      · rw [if_pos y] at e6
        exact absurd e6 z
      · rw [if_neg y] at e6
        exact ⟨by omega, e6⟩
    have t := hNS d w T A B D N C p (j - p) M hO h (by omega) (by omega) (by omega)
    rw [show ((j - p : Nat) : Int) = (j : Int) - p by omega, show p + (j - p) = j by omega] at t
    refine t.mono (fun x M2 q => ?_)
    obtain ⟨e2, ⟨x1, x2, x3⟩, x4⟩ := q
    subst e2
    refine ⟨i32s (by omega) (by omega), hO, fin hj hjN (Or.inr ⟨j40.2, j40.1, x1, x2, x3⟩) ew ?_ ⟨fun q => absurd q z, fun q => by omega⟩⟩
    rw [hwk, ew, if_neg (by omega)]
    exact x4
  suffices H : ∀ (t j : Nat), N ≤ j + t → p < j → j ≤ N → enq nmq (mI M T) (N - p) p = enq nmq (mI M T) (N - j) j → h_Wo_takeName_4 G (d + 5) w p j M (twX kw M w T A B D N C k p) from H N (p + 1) (by omega) (by omega) (by omega) (by
    rw [show N - p = (N - (p + 1)) + 1 by omega]
    exact enq_y (P := nmq) (Or.inl hlt))
  intro t
  induction t with
  | zero =>
    intro j hj hpj hjN hX
    have ejN : j = N := by omega
    have ew : weq (mI M T) N p = j := by rw [hwe, hX, ejN, Nat.sub_self]; rfl
    exact k_Wo_takeName_4 hO (i32s (by omega) (by omega)) (i32s (by omega) (by omega)) ⟨h1, fun _ => sor hpj hjN ew, fun z => absurd (by omega) z⟩
  | succ t ih =>
    intro j hj hpj hjN hX
    refine k_Wo_takeName_4 hO (i32s (by omega) (by omega)) (i32s (by omega) (by omega)) ⟨h1, fun z => ?_, fun z => ?_⟩
    · have ejN : j = N := by omega
      have ew : weq (mI M T) N p = j := by rw [hwe, hX, ejN, Nat.sub_self]; rfl
      exact sor hpj hjN ew
    have ej : N - j = (N - (j + 1)) + 1 := by omega
    rw [ej] at hX
    rw [p0, Int.toNat_natCast]
    have go : nmq (mI M T j) → h_Wo_takeName_4 G (d + 5) w p ((j : Int) + 1) M (twX kw M w T A B D N C k p) := fun q => ih (j + 1) (by omega) (by omega) (by omega) (by rw [hX]; exact enq_y (P := nmq) q)
    refine ⟨kT, by omega, (x_Wo_isLetter hO (hO _ _).1).mono (fun x M2 q => ?_)⟩
    obtain ⟨e2, hx, hxl⟩ := q
    subst e2
    rw [p0]
    refine ⟨i32s (by omega) (by omega), hO, fun x0 => ⟨h1, kT, by omega, (s_Wo_isDigit hO (hO _ _).1).mono (fun x M3 q => ?_)⟩, fun x0 => go (Or.inl (hxl.mp x0))⟩
    obtain ⟨e3, hx', hxd⟩ := q
    subst e3
    rw [p0]
    refine ⟨i32s (by omega) (by omega), hO, fun _ => ⟨h1, kT, by omega⟩, fun q => go ?_, fun q => ?_⟩
    · rcases q with q | q
      · exact Or.inr (Or.inl (hxd.mp q))
      · exact Or.inr (Or.inr q)
    · have nn : ¬ nmq (mI M3 T j) := fun q2 => by
        rcases q2 with q2 | q2 | q2
        · exact hxl.mpr q2 x0
        · exact q (Or.inl (hxd.mpr q2))
        · exact q (Or.inr q2)
      rw [enq_n nn] at hX
      obtain ⟨f1, f2⟩ := sor hpj hjN (by rw [hwe, hX])
      exact ⟨f1, fun v40 e40 => ⟨(f2 v40 e40).1, fun z => ⟨h1, (f2 v40 e40).2 z⟩⟩⟩
end WXB
end
section
/-! The class's words, exactly: split. -/
/-- the class's n words -/
def spx (kw : (Nat → Int) → Nat → Nat → Int) (c : Nat → Int) (N : Nat) (M : mM) (A B D n : Nat) : Prop := (∀ i, i < n → pwq c N i < N ∧ wdx kw c N (mI M A i) (mI M B i) (mI M D i) (pwq c N i)) ∧ (∀ i, i + 1 < n → wkq (kw c) c N (pwq c N i) ≠ 39) ∧ ((pwq c N n = N ∧ ∀ i, i < n → wkq (kw c) c N (pwq c N i) ≠ 39) ∨ (1 ≤ n ∧ wkq (kw c) c N (pwq c N (n - 1)) = 39))
/-- k words have been taken, at place j -/
def spI (kw : (Nat → Int) → Nat → Nat → Int) (c : Nat → Int) (N : Nat) (M : mM) (A B D k j : Nat) : Prop := (∀ i, i < k → pwq c N i < N ∧ wdx kw c N (mI M A i) (mI M B i) (mI M D i) (pwq c N i)) ∧ (∀ i, i + 1 < k → wkq (kw c) c N (pwq c N i) ≠ 39) ∧ ((j = pwq c N k ∧ ∀ i, i < k → wkq (kw c) c N (pwq c N i) ≠ 39) ∨ (j = N ∧ 1 ≤ k ∧ wkq (kw c) c N (pwq c N (k - 1)) = 39))
section WXC
variable {G : mG} {d w T A B D N C k n j : Nat} {M M' M1 M2 M3 : mM} {kw : (Nat → Int) → Nat → Nat → Int} {c : Nat → Int}
theorem spI.fin (h : spI kw c N M A B D k j) (hj : j = N) (eA : ∀ i, i < k → mI M' A i = mI M A i) (eB : ∀ i, i < k → mI M' B i = mI M B i) (eD : ∀ i, i < k → mI M' D i = mI M D i) : spx kw c N M' A B D k := by
  obtain ⟨h1, h2, h3⟩ := h
  refine ⟨fun i hi => ?_, h2, ?_⟩
  · rw [eA i hi, eB i hi, eD i hi]; exact h1 i hi
  · rcases h3 with ⟨h3, h4⟩ | ⟨-, h4, h5⟩
    · exact Or.inl ⟨by rw [← h3]; exact hj, h4⟩
    · exact Or.inr ⟨h4, h5⟩
theorem spI.step {s am : Int} {r r' : Nat} (h : spI kw c N M A B D k j) (hj : j < N) (hw : wdx kw c N s j am j) (eA : ∀ i, mI M' A i = if i = k then s else mI M A i) (eB : ∀ i, mI M' B i = if i = k then (j : Int) else mI M B i) (eD : ∀ i, mI M' D i = if i = k then am else mI M D i) (h39 : wkq (kw c) c N j = 39 → r = N) (hn : wkq (kw c) c N j ≠ 39 → r = weq c N j) (hr : r' = skp c N r) : spI kw c N M' A B D (k + 1) r' := by
  obtain ⟨h1, h2, h3⟩ := h
  rcases h3 with ⟨h3, h4⟩ | ⟨h3, -⟩
  · subst h3
    refine ⟨fun i hi => ?_, fun i hi => h4 i (by omega), ?_⟩
    · rw [eA, eB, eD]
      by_cases y : i = k
      · rw [if_pos y, if_pos y, if_pos y, y]; exact ⟨hj, hw⟩
      · rw [if_neg y, if_neg y, if_neg y]; exact h1 i (by omega)
    · by_cases y : wkq (kw c) c N (pwq c N k) = 39
      · right
        have e := h39 y
        subst e
        refine ⟨by rw [hr]; unfold skp; rw [Nat.sub_self]; rfl, by omega, ?_⟩
        rw [show k + 1 - 1 = k by omega]; exact y
      · left
        refine ⟨by rw [hr, hn y]; rfl, fun i hi => ?_⟩
        by_cases z : i = k
        · rw [z]; exact y
        · exact h4 i (by omega)
  · omega
theorem x_Wo_takeWord {p : Nat} (hNS : NSx G kw) (hO : mOk M) (h : WA M w T A B D N C) (hi : WI M w A B D N k) (hkN : k < N) (hC2 : C ≤ 16777216) (hp : p < N) : Ci G y_Wo_takeWord (d + 7) [vr w, vi p] M (twX kw M w T A B D N C k p) := by
  obtain ⟨h1, ⟨p0, p3, p4, p5⟩, ⟨kT, nT⟩, -, -, h6, h7, h8, -⟩ := id h
  refine k_Wo_takeWord hO (i32s (by omega) (by omega)) ?_
  rw [p0, Int.toNat_natCast]
  have fin : ∀ {s : Int} {j : Nat}, ¬ isL (mI M T p) → ¬ isDq (mI M T p) → p < j → (s = 1 ∨ j ≤ N) → 1 ≤ s → s ≤ 39 → s ≠ 2 → s ≠ 3 → j ≤ N + 2 → s = csq (sgk (mI M T p) (lq (mI M T) N (p + 1))) → weq (mI M T) N p = j → h_Wo_takeWord_86 G (d + 6) w p s j M (twX kw M w T A B D N C k p) := fun {s j} nl nd hj hjN s1 s2 s3 s4 j2 es ew => by
    refine k_Wo_takeWord_86 hO (i32s (by omega) (by omega)) (i32s (by omega) (by omega)) (i32s (by omega) (by omega)) ⟨h1, ?_⟩
    refine (x_Wo_add2 (i32s (by omega) (by omega)) (i32s (by omega) (by omega)) (i32s (by omega) (by omega)) hO h hi hkN hC2 ⟨⟨s1, s2⟩, by omega, by omega, by omega⟩).mono (fun M16 q => ?_)
    obtain ⟨⟨o, f, h', i'⟩, eA, eB, eD⟩ := q
    have hwk := wkq_sg (n := N) (k1 := kw (mI M T)) nl nd
    have c1 : s = 1 ↔ wkq (kw (mI M T)) (mI M T) N p = 39 := by
      rw [hwk, es]
      generalize sgk (mI M T p) (lq (mI M T) N (p + 1)) = y at *
      have hy : s = csq y := es
      clear es
      constructor
      · intro q
        unfold csq at q
        (repeat' split at q) <;> omega
      · intro q; rw [q]; decide
    refine ⟨o, fun _ => h'.1, fun v21 e21 => ⟨⟨o, f, h', i', ?_⟩, ⟨s, 0, ⟨by rw [hwk]; exact es, rfl, fun q => absurd q nl, fun q => absurd q nd⟩, eA, eB, eD⟩, fun q => ?_, fun q => ?_⟩⟩
    · by_cases y : s = 1
      · rw [if_pos y, h'.2.2.2.2.2.1] at e21
        exact ⟨N, e21, by omega, Nat.le_refl _⟩
      · rw [if_neg y] at e21
        exact ⟨j, e21, hj, by omega⟩
    · rw [if_pos (c1.mpr q), h'.2.2.2.2.2.1] at e21
      exact e21
    · rw [if_neg (fun z => q (c1.mp z))] at e21
      rw [ew]; exact e21
  refine ⟨h1, kT, by omega, (x_Wo_isLetter hO (hO _ _).1).mono (fun x M2 q => ?_)⟩
  obtain ⟨e2, hx, hxl⟩ := q
  subst e2
  refine ⟨i32s (by omega) (by omega), hO, fun x0 => (s_Wo_isDigit hO (hO _ _).1).mono (fun x' M3 q => ?_), fun x0 => ⟨h1, (x_Wo_takeName hNS hO h hi hkN hC2 hp (hxl.mp x0)).mono (fun r M4 q => ?_)⟩⟩
  · obtain ⟨e3, hx', ex⟩ := q
    subst e3
    have nl : ¬ isL (mI M3 T p) := fun q => hxl.mpr q x0
    refine ⟨i32s (by omega) (by omega), hO, fun y0 => ?_, fun y0 => ⟨h1, (x_Wo_takeNumber (kw := kw) hO h hi hkN hC2 hp (ex.1 y0)).mono (fun r M4 q => ?_)⟩⟩
    · have nd : ¬ isDq (mI M3 T p) := fun q => ex.2 q y0
      clear ex hxl
      rw [p0]
      refine ⟨h1, i32s (by omega) (by omega), fun _ => ⟨kT, by omega⟩, fun v22 e22 => ?_⟩
      have i22 : i32 v22 := by
        rw [e22]
        split
        · exact ⟨by decide, by decide⟩
        · exact (hO _ _).1
      have nxt : v22 = lq (mI M3 T) N (p + 1) ∨ (v22 = 32 ∧ lq (mI M3 T) N (p + 1) = 0) := by
        unfold lq
        by_cases y : p + 1 < N
        · rw [if_pos y]
          rw [if_neg (by omega), show ((p : Int) + 1).toNat = p + 1 by omega] at e22
          exact Or.inl e22
        · rw [if_neg y]
          rw [if_pos (by omega)] at e22
          exact Or.inr ⟨e22, rfl⟩
      have two := sgn_two (x := mI M3 T p) nxt
      have hwe := weq_sg (n := N) nl nd
      refine (x_Wo_longSign hO (hO _ _).1 i22).mono (fun s M4 q => ?_)
      obtain ⟨e4, hs, es⟩ := q
      subst e4
      refine ⟨i32s (by omega) (by omega), hO, fun s1 => (x_Wo_shortSign hO (hO _ _).1).mono (fun s' M5 q => ?_), fun s1 => ?_⟩
      · obtain ⟨e5, ⟨b1, b2, b3, b4⟩, es'⟩ := q
        subst e5
        obtain ⟨t1, t2⟩ := two.2 (by rw [← es]; exact s1)
        rw [if_neg t2] at hwe
        exact ⟨i32s (by omega) (by omega), hO, fin (j := p + 1) nl nd (by omega) (Or.inr (by omega)) b1 b2 b3 b4 (by omega) (by rw [t1]; exact es') hwe⟩
      · obtain ⟨t1, t2⟩ := two.1 (by rw [← es]; exact s1)
        rw [if_pos t2] at hwe
        have pN : p + 2 ≤ N := by
          have := (weq_b (c := mI M4 T) hp).2
          omega
        clear two t2
        exact fin (j := p + 2) nl nd (by omega) (Or.inr pN) (by omega) (by omega) (by omega) (by omega) (by omega) (by rw [t1]; exact es) hwe
    · obtain ⟨⟨o, f, h', i', j, ej, j1, j2⟩, -⟩ := id q
      exact ⟨i32s (by omega) (by omega), o, q⟩
  · obtain ⟨⟨o, f, h', i', j, ej, j1, j2⟩, -⟩ := id q
    exact ⟨i32s (by omega) (by omega), o, q⟩
theorem x_Wo_split (hNS : NSx G kw) (hO : mOk M) (h : WB M w A B D C) (kT : mK M T = 32) (nT : N ≤ mN M T) (hN : N ≤ 16384) (zT : T < mZ M) : Cv G y_Wo_split (d + 8) [vr w, vr T, vi N] M (fun M' => ∃ A' B' D' C' n, mOk M' ∧ Wf M' w T A' B' D' N C' n ∧ WB M' w A' B' D' C' ∧ C' ≤ C + 2 * (N + 2) ∧ FA (woA w A B D) (fun x => x = w) M M' ∧ grw M A B D C M' A' B' D' C' ∧ spx kw (mI M T) N M' A' B' D' n) := by
  have nw : T ≠ w := fun e => by have := h.1; rw [← e, kT] at this; omega
  have z0 := h.2.2.2.2.2.1
  refine k_Wo_split hO (i32s (by omega) (by omega)) ⟨h.1, fun M2 e2 M4 e4 M6 e6 => ?_⟩
  have hw3 : ∀ i, i ≠ 0 → mR M6 w i = mR M w i := fun i hi => by rw [e6, mR_UI, e4, mR_UI, e2, mR_UR, if_neg (fun z => hi z.2)]
  have K6 : mK M6 = mK M := by rw [e6, e4, e2]; rfl
  have N6 : mN M6 = mN M := by rw [e6, e4, e2]; rfl
  have Z6 : mZ M6 = mZ M := by rw [e6, e4, e2]; rfl
  have S6 : mS M6 = mS M := by rw [e6, e4, e2]; rfl
  have T6 : mR M6 w 0 = T := by rw [e6, mR_UI, e4, mR_UI, e2, mR_UR, if_pos ⟨rfl, rfl⟩]
  have i1 : mI M6 w 1 = N := by rw [e6, mI_UI, if_neg (fun z => absurd z.2 (by decide)), e4, mI_UI, if_pos ⟨rfl, rfl⟩]
  have i2 : mI M6 w 2 = 0 := by rw [e6, mI_UI, if_pos ⟨rfl, rfl⟩]
  have o2 : mOk M2 := by rw [e2]; exact mOk_UR hO
  have o4 : mOk M4 := by rw [e4]; exact mOk_UI o2 (i32s (by omega) (by omega))
  have o6 : mOk M6 := by rw [e6]; exact mOk_UI o4 (i32s (by omega) (by omega))
  have B6 : WB M6 w A B D C := by
    unfold WB at h ⊢
    rw [K6, N6, Z6, hw3 3 (by decide), hw3 4 (by decide), hw3 5 (by decide)]
    exact h
  have g2 : FA (woA w A B D) (fun x => x = w) M M2 := FA.ur rfl e2
  have g4 : FA (woA w A B D) (fun x => x = w) M2 M4 := FI.fa (by rw [e4]; exact FI.ui (Or.inl rfl))
  have g6' : FA (woA w A B D) (fun x => x = w) M4 M6 := FI.fa (by rw [e6]; exact FI.ui (Or.inl rfl))
  have g6 := (g2.trans g4).trans g6'
  have t6 := s_Wo_reserve (G := G) (d := d + 7) (q := N + 2) o6 B6 (by omega)
  rw [show ((N + 2 : Nat) : Int) = (N : Int) + 2 by omega] at t6
  rw [i1]
  refine t6.mono (fun M8 q => ?_)
  obtain ⟨A', B', D', C', o8, B8, q1, q2, g8, r8, gr⟩ := q
  have w6 : w < mZ M6 := by omega
  have c8 := g8.2 w w6
  have cT := g8.2 T (by omega)
  have h8 : WA M8 w T A' B' D' N C' := B8.wa (by rw [r8 0 (by decide) (by decide) (by decide)]; exact T6) (by rw [cT.1, K6]; exact kT) (by rw [cT.2.1, N6]; exact nT) (by rw [c8.2.2.2.2 (fun z => z)]; exact i1) hN (by omega)
  have w8 : WI M8 w A' B' D' N 0 := ⟨by rw [c8.2.2.2.2 (fun z => z)]; exact i2, fun i hi => absurd hi (by omega)⟩
  have C2 : C' ≤ 16777216 := by have := B8.2.2.2.2.2.2; omega
  have G8 : FA (woA w A B D) (fun x => x = w) M M8 := g6.trans2 g8 (fun _ _ z => z.elim) (fun _ _ z => z)
  have gr0 : grw M A B D C M8 A' B' D' C' := by
    unfold grw at gr ⊢
    rw [Z6, S6] at gr
    exact gr
  have TA : T ≠ A ∧ T ≠ B ∧ T ≠ D := by
    obtain ⟨-, -, ⟨a1, a2, a3⟩, -⟩ := h
    refine ⟨fun e => ?_, fun e => ?_, fun e => ?_⟩ <;> rw [e] at kT <;> omega
  have T8 : mI M8 T = mI M T := (G8.2 T zT).2.2.2.2 (fun z => by
    have z' : T = w ∨ T = A ∨ T = B ∨ T = D := z
    omega)
  have TA8 := h8.ne.2.2.2
  -- later steps
  have fin : ∀ {M9 : mM} {n : Nat}, mOk M9 → FI (woA w A' B' D') M8 M9 → Wf M9 w T A' B' D' N C' n → spx kw (mI M T) N M9 A' B' D' n → ∃ A' B' D' C' n, mOk M9 ∧ Wf M9 w T A' B' D' N C' n ∧ WB M9 w A' B' D' C' ∧ C' ≤ C + 2 * (N + 2) ∧ FA (woA w A B D) (fun x => x = w) M M9 ∧ grw M A B D C M9 A' B' D' C' ∧ spx kw (mI M T) N M9 A' B' D' n := fun {M9 n} o f hf hsp => by
    refine ⟨A', B', D', C', n, o, hf, B8.fi f, by omega, G8.trans2 (FI.fa (R := fun x => x = w) f) (fun x hx z => ?_) (fun _ _ z => z), ?_, hsp⟩
    · rcases gr0 with ⟨y1, y2, y3, -⟩ | ⟨y1, y2, y3, -⟩
      · rw [y1, y2, y3] at z
        exact z
      · have z' : x = w ∨ x = A' ∨ x = B' ∨ x = D' := z
        exact Or.inl (by omega)
    · unfold grw at gr0 ⊢
      rw [f.2.2.2.2.1, f.2.2.2.2.2.1]
      exact gr0
  refine ⟨o8, B8.1, (x_Wo_afterBlanks (q := 0) o8 h8 (by omega)).mono (fun x M9 q => ?_)⟩
  obtain ⟨e9, ex⟩ := q
  subst e9
  rw [T8] at ex
  have j0 := skp_b (c := mI M T) (n := N) (i := 0) (by omega)
  have ej : pwq (mI M T) N 0 = skp (mI M T) N 0 := rfl
  generalize skp (mI M T) N 0 = j at *
  have jN : j ≤ N := j0.2
  subst ex
  refine ⟨i32s (by omega) (by omega), o8, ?_⟩
  suffices H : ∀ (t k j : Nat) (M2 : mM), N ≤ j + t → k ≤ j → j ≤ N → mOk M2 → FI (woA w A' B' D') M9 M2 → WA M2 w T A' B' D' N C' → WI M2 w A' B' D' N k → spI kw (mI M T) N M2 A' B' D' k j → h_Wo_split_34 G (d + 7) w j k M2 (fun M' => ∃ A' B' D' C' n, mOk M' ∧ Wf M' w T A' B' D' N C' n ∧ WB M' w A' B' D' C' ∧ C' ≤ C + 2 * (N + 2) ∧ FA (woA w A B D) (fun x => x = w) M M' ∧ grw M A B D C M' A' B' D' C' ∧ spx kw (mI M T) N M' A' B' D' n) from H N 0 j M9 (by omega) (by omega) jN o8 FI.refl h8 w8 ⟨fun i hi => absurd hi (by omega), fun i hi => absurd hi (by omega), Or.inl ⟨ej.symm, fun i hi => absurd hi (by omega)⟩⟩
  intro t
  induction t with
  | zero =>
    intro k j M2 hj hkj hjN o f hA hI hS
    refine k_Wo_split_34 o (i32s (by omega) (by omega)) (i32s (by omega) (by omega)) ⟨hA.1, fun _ => ?_, fun y => absurd (Or.inr (by rw [hA.2.2.2.2.2.1]; omega)) y⟩
    rw [hA.2.2.2.2.2.1]
    refine (s_Wo_add (i32s (by omega) (by omega)) (i32s (by omega) (by omega)) (i32s (by omega) (by omega)) o hA hI.1 (by omega) C2).mono (fun M3 q => ?_)
    obtain ⟨o3, f3, A3, e3, eA, eB, eD⟩ := q
    refine ⟨o3, fin (n := k) o3 (f.trans f3) ⟨A3, e3, by omega, fun i hi => ?_, by rw [eA, if_pos rfl], by rw [eB, if_pos rfl]⟩ (hS.fin (by omega) (fun i hi => by rw [eA, if_neg (Nat.ne_of_lt hi)]) (fun i hi => by rw [eB, if_neg (Nat.ne_of_lt hi)]) (fun i hi => by rw [eD, if_neg (Nat.ne_of_lt hi)]))⟩
    rw [eA, eB, eD, if_neg (by omega), if_neg (by omega), if_neg (by omega)]
    exact hI.2 i hi
  | succ t ih =>
    intro k j M2 hj hkj hjN o f hA hI hS
    have e1 := hA.2.2.2.2.2.1
    refine k_Wo_split_34 o (i32s (by omega) (by omega)) (i32s (by omega) (by omega)) ⟨hA.1, fun yj => ?_, fun y => ?_⟩
    · rw [e1]
      refine (s_Wo_add (i32s (by omega) (by omega)) (i32s (by omega) (by omega)) (i32s (by omega) (by omega)) o hA hI.1 (by omega) C2).mono (fun M3 q => ?_)
      obtain ⟨o3, f3, A3, e3, eA, eB, eD⟩ := q
      refine ⟨o3, fin (n := k) o3 (f.trans f3) ⟨A3, e3, by omega, fun i hi => ?_, by rw [eA, if_pos rfl], by rw [eB, if_pos rfl]⟩ (hS.fin (by omega) (fun i hi => by rw [eA, if_neg (Nat.ne_of_lt hi)]) (fun i hi => by rw [eB, if_neg (Nat.ne_of_lt hi)]) (fun i hi => by rw [eD, if_neg (Nat.ne_of_lt hi)]))⟩
      rw [eA, eB, eD, if_neg (by omega), if_neg (by omega), if_neg (by omega)]
      exact hI.2 i hi
    · have jN' : j < N ∧ k < N := by
        constructor
        · exact Nat.lt_of_not_le (fun z => y (Or.inr (by omega)))
        · exact Nat.lt_of_not_le (fun z => y (Or.inl (by omega)))
      refine (x_Wo_takeWord hNS o hA hI jN'.2 C2 jN'.1).mono (fun r M3 q => ?_)
      obtain ⟨⟨o3, f3, A3, I3, j3, ej3, l3, u3⟩, ⟨s9, am9, q1', eA, eB, eD⟩, q39, qn⟩ := q
      subst ej3
      have T2 : mI M2 T = mI M T := by
        rw [← T8]
        exact f.2.2.2.2.2.2 T (fun z => by
          have z' : T = w ∨ T = A' ∨ T = B' ∨ T = D' := z
          omega)
      have T3 : mI M3 T = mI M T := by
        rw [← T2]
        exact f3.2.2.2.2.2.2 T (fun z => by
          have z' : T = w ∨ T = A' ∨ T = B' ∨ T = D' := z
          omega)
      rw [T2] at q1' q39 qn
      refine ⟨i32s (by omega) (by omega), o3, A3.1, (x_Wo_afterBlanks (q := j3) o3 A3 u3).mono (fun r M4 q => ?_)⟩
      obtain ⟨e4, ex4⟩ := q
      subst e4
      rw [T3] at ex4
      have b4 := skp_b (c := mI M T) u3
      have S4 := hS.step (r := j3) jN'.1 q1' eA eB eD (fun z => Int.ofNat_inj.mp (q39 z)) (fun z => Int.ofNat_inj.mp (qn z)) rfl
      clear q39 qn q1' eA eB eD
      generalize skp (mI M T) N j3 = j4 at *
      obtain ⟨l4, u4⟩ := b4
      subst ex4
      refine ⟨i32s (by omega) (by omega), o3, ?_⟩
      have := ih (k + 1) j4 M4 (by omega) (by omega) u4 o3 (f.trans f3) A3 I3 S4
      rw [show ((k + 1 : Nat) : Int) = (k : Int) + 1 by omega] at this
      exact this
end WXC
end
