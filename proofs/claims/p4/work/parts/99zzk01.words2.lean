/-! The class's words: a number, a name, a word. -/
section WO2
variable {G : mG} {d w T A B D N C k : Nat} {M M' M1 : mM}
/-- what nameSort answers -/
def NSs (G : mG) : Prop := ∀ (d w T A B D N C p n : Nat) (M : mM), mOk M → WA M w T A B D N C → p + n ≤ N → 1 ≤ n → n ≤ 40 → Ci G y_Wo_nameSort (d + 5) [vr w, vi p, vi n] M (fun r M' => M' = M ∧ 2 ≤ r ∧ r ≤ 16 ∧ r ≠ 3)
/-- a word has been taken from place p on -/
def twQ (M : mM) (w T A B D N C k p : Nat) (r : Int) (M' : mM) : Prop := mOk M' ∧ FI (woA w A B D) M M' ∧ WA M' w T A B D N C ∧ WI M' w A B D N (k + 1) ∧ ∃ j : Nat, r = j ∧ p < j ∧ j ≤ N
theorem s_Wo_add2 {s st am : Int} (hs : i32 s) (hst : i32 st) (ham : i32 am) (hO : mOk M) (h : WA M w T A B D N C) (hi : WI M w A B D N k) (hkN : k < N) (hC2 : C ≤ 16777216) (hw : wdk N s st am) : Cv G y_Wo_add d [vr w, vi s, vi st, vi am] M (fun M' => mOk M' ∧ FI (woA w A B D) M M' ∧ WA M' w T A B D N C ∧ WI M' w A B D N (k + 1)) := by
  have h8 := h.2.2.2.2.2.2.2.1
  refine (s_Wo_add hs hst ham hO h hi.1 (by omega) hC2).mono (fun M' q => ?_)
  obtain ⟨o, f, h', e2, eA, eB, eD⟩ := q
  exact ⟨o, f, h', hi.add hw e2 eA eB eD⟩
theorem s_Wo_takeNumber {p : Nat} (hO : mOk M) (h : WA M w T A B D N C) (hi : WI M w A B D N k) (hkN : k < N) (hC2 : C ≤ 16777216) (hp : p < N) (hc : 48 ≤ mI M T p ∧ mI M T p ≤ 57) : Ci G y_Wo_takeNumber (d + 1) [vr w, vi p] M (twQ M w T A B D N C k p) := by
  obtain ⟨h1, ⟨p0, p3, p4, p5⟩, ⟨kT, nT⟩, -, -, h6, h7, h8, -⟩ := id h
  refine k_Wo_takeNumber hO (i32s (by omega) (by omega)) ?_
  have pw : ∀ n, n ≤ 9 → (10 : Int) ^ n ≤ 1000000000 := by decide
  -- the end
  have fin : ∀ {v : Int} {j : Nat}, p < j → j ≤ N → 0 ≤ v → v ≤ 999999999 → i32 ((j : Int) - p) ∧ ∀ v6 : Int, v6 = (if (9 < (j : Int) - p) then 0 else 1) → ∀ v12 : Int, v12 = (if (v6 = 0) then 1 else 3) → Cv G y_Wo_add d [vr w, vi v12, vi p, vi v] M (fun M16 => mOk M16 ∧ (((v6 = 0) → mK M16 w = 2) ∧ ∀ v21 : Int, v21 = (if (v6 = 0) then mI M16 w 1 else j) → twQ M w T A B D N C k p v21 M16)) := fun {v j} hj hjN v0 v1 => by
    refine ⟨i32s (by omega) (by omega), fun v6 e6 v12 e12 => ?_⟩
    have b12 : v12 = 1 ∨ v12 = 3 := by rw [e12]; split <;> omega
    refine (s_Wo_add2 (i32s (by omega) (by omega)) (i32s (by omega) (by omega)) ⟨by omega, by omega⟩ hO h hi hkN hC2 ⟨by omega, by omega, by omega, by omega⟩).mono (fun M16 q => ?_)
    obtain ⟨o, f, h', i'⟩ := q
    refine ⟨o, fun _ => h'.1, fun v21 e21 => ⟨o, f, h', i', ?_⟩⟩
    by_cases y : v6 = 0
    · rw [if_pos y, h'.2.2.2.2.2.1] at e21
      exact ⟨N, e21, by omega, Nat.le_refl _⟩
    · rw [if_neg y] at e21
      exact ⟨j, e21, hj, hjN⟩
  suffices H : ∀ (t j : Nat) (v : Int), N ≤ j + t → p ≤ j → j ≤ N → (p < j ∨ j = p) → 0 ≤ v → v ≤ 999999999 → (j - p ≤ 9 → v + 1 ≤ (10 : Int) ^ (j - p)) → h_Wo_takeNumber_4 G d w p v j M (twQ M w T A B D N C k p) from H N p 0 (by omega) (Nat.le_refl _) (by omega) (Or.inr rfl) (by omega) (by omega) (fun _ => by rw [Nat.sub_self]; decide)
  intro t
  induction t with
  | zero =>
    intro j v hj hpj hjN hd v0 v1 hv
    exact k_Wo_takeNumber_4 hO (i32s (by omega) (by omega)) ⟨by omega, by omega⟩ (i32s (by omega) (by omega)) ⟨h1, fun _ => fin (by omega) hjN v0 v1, fun z => absurd (by omega) z⟩
  | succ t ih =>
    intro j v hj hpj hjN hd v0 v1 hv
    refine k_Wo_takeNumber_4 hO (i32s (by omega) (by omega)) ⟨by omega, by omega⟩ (i32s (by omega) (by omega)) ⟨h1, fun z => fin (by omega) hjN v0 v1, fun z => ?_⟩
    rw [p0, Int.toNat_natCast]
    refine ⟨kT, by omega, (s_Wo_isDigit hO (hO _ _).1).mono (fun x M2 q => ?_)⟩
    obtain ⟨e2, hx, ex⟩ := q
    subst e2
    rw [p0]
    refine ⟨i32s (by omega) (by omega), hO, fun x0 => ?_, fun x0 => ?_⟩
    · have pj : p < j := by
        rcases hd with y | y
        · exact y
        · subst y
          exact absurd (ex.2 hc) (fun z => z x0)
      obtain ⟨f1, f2⟩ := fin pj hjN v0 v1
      exact ⟨f1, fun v42 e42 v48 e48 => ⟨h1, f2 v42 e42 v48 e48⟩⟩
    · have dg := ex.1 x0
      clear ex
      refine ⟨i32s (by omega) (by omega), fun _ => ⟨h1, kT, by omega⟩, fun v70 e70 => ?_⟩
      have st : h_Wo_takeNumber_4 G d w p v70 ((j + 1 : Nat) : Int) M2 (twQ M2 w T A B D N C k p) := by
        by_cases y : (9 : Int) ≤ (j : Int) - p
        · rw [if_pos y] at e70
          subst e70
          exact ih (j + 1) 0 (by omega) (by omega) (by omega) (Or.inl (by omega)) (by omega) (by omega) (fun z => by omega)
        · rw [if_neg y] at e70
          have a1 := hv (by omega)
          have a2 := pw (j + 1 - p) (by omega)
          have a3 : (10 : Int) ^ (j + 1 - p) = 10 ^ (j - p) * 10 := by rw [show j + 1 - p = (j - p) + 1 by omega, Int.pow_succ]
          exact ih (j + 1) v70 (by omega) (by omega) (by omega) (Or.inl (by omega)) (by omega) (by omega) (fun _ => by omega)
      exact st
theorem s_Wo_takeName {p : Nat} (hNS : NSs G) (hO : mOk M) (h : WA M w T A B D N C) (hi : WI M w A B D N k) (hkN : k < N) (hC2 : C ≤ 16777216) (hp : p < N) : Ci G y_Wo_takeName (d + 6) [vr w, vi p] M (twQ M w T A B D N C k p) := by
  obtain ⟨h1, ⟨p0, p3, p4, p5⟩, ⟨kT, nT⟩, -, -, h6, h7, h8, -⟩ := id h
  refine k_Wo_takeName hO (i32s (by omega) (by omega)) ?_
  have fin : ∀ {v s : Int} {j : Nat}, p < j → j ≤ N → (v = 0 ∧ s = 1 ∨ v = 1 ∧ j ≤ p + 40 ∧ 2 ≤ s ∧ s ≤ 16 ∧ s ≠ 3) → h_Wo_takeName_84 G (d + 5) w p j v w s M (twQ M w T A B D N C k p) := fun {v s j} hj hjN hv => by
    refine k_Wo_takeName_84 hO (i32s (by omega) (by omega)) (i32s (by omega) (by omega)) (i32s (by omega) (by omega)) (i32s (by omega) (by omega)) ⟨h1, ?_⟩
    refine (s_Wo_add2 (i32s (by omega) (by omega)) (i32s (by omega) (by omega)) (i32s (by omega) (by omega)) hO h hi hkN hC2 ⟨by omega, by omega, by omega, by omega⟩).mono (fun M16 q => ?_)
    obtain ⟨o, f, h', i'⟩ := q
    refine ⟨o, fun _ => h'.1, fun v21 e21 => ⟨o, f, h', i', ?_⟩⟩
    by_cases y : v = 0
    · rw [if_pos y, h'.2.2.2.2.2.1] at e21
      exact ⟨N, e21, by omega, Nat.le_refl _⟩
    · rw [if_neg y] at e21
      exact ⟨j, e21, hj, hjN⟩
  have sor : ∀ {j : Nat}, p < j → j ≤ N → i32 ((j : Int) - p) ∧ ∀ v6 : Int, v6 = (if (40 < (j : Int) - p) then 0 else 1) → ((v6 = 0) → (h_Wo_takeName_84 G (d + 5) w p j v6 w 1 M (twQ M w T A B D N C k p))) ∧ (¬ (v6 = 0) → (Ci G y_Wo_nameSort (d + 5) [vr w, vi p, vi ((j : Int) - p)] M (fun x14 M13 => i32 x14 ∧ mOk M13 ∧ (h_Wo_takeName_84 G (d + 5) w p j v6 w x14 M13 (twQ M w T A B D N C k p))))) := fun {j} hj hjN => by
    refine ⟨i32s (by omega) (by omega), fun v6 e6 => ⟨fun z => fin hj hjN (Or.inl ⟨z, rfl⟩), fun z => ?_⟩⟩
    have j40 : j ≤ p + 40 ∧ v6 = 1 := by
      by_cases y : (40 : Int) < (j : Int) - p
      · rw [if_pos y] at e6
        exact absurd e6 z
      · rw [if_neg y] at e6
        exact ⟨by omega, e6⟩
    have t := hNS d w T A B D N C p (j - p) M hO h (by omega) (by omega) (by omega)
    rw [show ((j - p : Nat) : Int) = (j : Int) - p by omega] at t
    refine t.mono (fun x M2 q => ?_)
    obtain ⟨e2, x1, x2, x3⟩ := q
    subst e2
    exact ⟨i32s (by omega) (by omega), hO, fin hj hjN (Or.inr ⟨j40.2, j40.1, x1, x2, x3⟩)⟩
  suffices H : ∀ (t j : Nat), N ≤ j + t → p < j → j ≤ N → h_Wo_takeName_4 G (d + 5) w p j M (twQ M w T A B D N C k p) from H N (p + 1) (by omega) (by omega) (by omega)
  intro t
  induction t with
  | zero =>
    intro j hj hpj hjN
    exact k_Wo_takeName_4 hO (i32s (by omega) (by omega)) (i32s (by omega) (by omega)) ⟨h1, fun _ => sor hpj hjN, fun z => absurd (by omega) z⟩
  | succ t ih =>
    intro j hj hpj hjN
    refine k_Wo_takeName_4 hO (i32s (by omega) (by omega)) (i32s (by omega) (by omega)) ⟨h1, fun z => sor hpj hjN, fun z => ?_⟩
    rw [p0, Int.toNat_natCast]
    have go : h_Wo_takeName_4 G (d + 5) w p ((j : Int) + 1) M (twQ M w T A B D N C k p) := ih (j + 1) (by omega) (by omega) (by omega)
    refine ⟨kT, by omega, (s_Wo_isLetter hO (hO _ _).1).mono (fun x M2 q => ?_)⟩
    obtain ⟨e2, hx⟩ := q
    subst e2
    rw [p0]
    refine ⟨i32s (by omega) (by omega), hO, fun x0 => ⟨h1, kT, by omega, (s_Wo_isDigit hO (hO _ _).1).mono (fun x M3 q => ?_)⟩, fun x0 => go⟩
    obtain ⟨e3, hx', -⟩ := q
    subst e3
    rw [p0]
    refine ⟨i32s (by omega) (by omega), hO, fun _ => ⟨h1, kT, by omega⟩, fun _ => go, fun _ => ?_⟩
    obtain ⟨f1, f2⟩ := sor hpj hjN
    exact ⟨f1, fun v40 e40 => ⟨(f2 v40 e40).1, fun z => ⟨h1, (f2 v40 e40).2 z⟩⟩⟩
theorem s_Wo_takeWord {p : Nat} (hNS : NSs G) (hO : mOk M) (h : WA M w T A B D N C) (hi : WI M w A B D N k) (hkN : k < N) (hC2 : C ≤ 16777216) (hp : p < N) : Ci G y_Wo_takeWord (d + 7) [vr w, vi p] M (twQ M w T A B D N C k p) := by
  obtain ⟨h1, ⟨p0, p3, p4, p5⟩, ⟨kT, nT⟩, -, -, h6, h7, h8, -⟩ := id h
  refine k_Wo_takeWord hO (i32s (by omega) (by omega)) ?_
  rw [p0, Int.toNat_natCast]
  have fin : ∀ {s : Int} {j : Nat}, p < j → (s = 1 ∨ j ≤ N) → 1 ≤ s → s ≤ 39 → s ≠ 2 → s ≠ 3 → j ≤ N + 2 → h_Wo_takeWord_86 G (d + 6) w p s j M (twQ M w T A B D N C k p) := fun {s j} hj hjN s1 s2 s3 s4 j2 => by
    refine k_Wo_takeWord_86 hO (i32s (by omega) (by omega)) (i32s (by omega) (by omega)) (i32s (by omega) (by omega)) ⟨h1, ?_⟩
    refine (s_Wo_add2 (i32s (by omega) (by omega)) (i32s (by omega) (by omega)) (i32s (by omega) (by omega)) hO h hi hkN hC2 ⟨⟨s1, s2⟩, by omega, by omega, by omega⟩).mono (fun M16 q => ?_)
    obtain ⟨o, f, h', i'⟩ := q
    refine ⟨o, fun _ => h'.1, fun v21 e21 => ⟨o, f, h', i', ?_⟩⟩
    by_cases y : s = 1
    · rw [if_pos y, h'.2.2.2.2.2.1] at e21
      exact ⟨N, e21, by omega, Nat.le_refl _⟩
    · rw [if_neg y] at e21
      exact ⟨j, e21, hj, by omega⟩
  refine ⟨h1, kT, by omega, (s_Wo_isLetter hO (hO _ _).1).mono (fun x M2 q => ?_)⟩
  obtain ⟨e2, hx⟩ := q
  subst e2
  refine ⟨i32s (by omega) (by omega), hO, fun x0 => (s_Wo_isDigit hO (hO _ _).1).mono (fun x' M3 q => ?_), fun x0 => ⟨h1, (s_Wo_takeName hNS hO h hi hkN hC2 hp).mono (fun r M4 q => ?_)⟩⟩
  · obtain ⟨e3, hx', ex⟩ := q
    subst e3
    refine ⟨i32s (by omega) (by omega), hO, fun y0 => ?_, fun y0 => ⟨h1, (s_Wo_takeNumber hO h hi hkN hC2 hp (ex.1 y0)).mono (fun r M4 q => ?_)⟩⟩
    · clear ex
      rw [p0]
      refine ⟨h1, i32s (by omega) (by omega), fun _ => ⟨kT, by omega⟩, fun v22 e22 => ?_⟩
      have i22 : i32 v22 := by
        rw [e22]
        split
        · exact ⟨by decide, by decide⟩
        · exact (hO _ _).1
      refine (s_Wo_longSign hO (hO _ _).1 i22).mono (fun s M4 q => ?_)
      obtain ⟨e4, hs⟩ := q
      subst e4
      refine ⟨i32s (by omega) (by omega), hO, fun s1 => (s_Wo_shortSign hO (hO _ _).1).mono (fun s' M5 q => ?_), fun s1 => ?_⟩
      · obtain ⟨e5, b1, b2, b3, b4⟩ := q
        subst e5
        exact ⟨i32s (by omega) (by omega), hO, fin (j := p + 1) (by omega) (Or.inr (by omega)) b1 b2 b3 b4 (by omega)⟩
      · have pN : p + 2 ≤ N := by
          by_cases y : mI M4 w 1 ≤ (p : Int) + 1
          · rw [if_pos y] at e22
            omega
          · omega
        exact fin (j := p + 2) (by omega) (Or.inr pN) (by omega) (by omega) (by omega) (by omega) (by omega)
    · obtain ⟨o, f, h', i', j, ej, j1, j2⟩ := id q
      exact ⟨i32s (by omega) (by omega), o, q⟩
  · obtain ⟨o, f, h', i', j, ej, j1, j2⟩ := id q
    exact ⟨i32s (by omega) (by omega), o, q⟩
end WO2
