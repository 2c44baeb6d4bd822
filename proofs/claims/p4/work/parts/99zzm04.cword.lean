/-! The class's words, exactly: a number, a name, a word. -/
section WXB
variable {G : mG} {d w T A B D N C k : Nat} {M M' M1 : mM} {kw : (Nat → Int) → Nat → Nat → Int}
theorem x_Wo_add2 {s st am : Int} (hs : i32 s) (hst : i32 st) (ham : i32 am) (hO : mOk M) (h : WA M w T A B D N C) (hi : WI M w A B D N k) (hkN : k < N) (hC2 : C ≤ 16777216) (hw : wdk N s st am) : Cv G y_Wo_add d [vr w, vi s, vi st, vi am] M (fun M' => (mOk M' ∧ FI (woA w A B D) M M' ∧ WA M' w T A B D N C ∧ WI M' w A B D N (k + 1)) ∧ (∀ i, mI M' A i = if i = k then s else mI M A i) ∧ (∀ i, mI M' B i = if i = k then st else mI M B i) ∧ (∀ i, mI M' D i = if i = k then am else mI M D i)) := by
  have h8 := h.2.2.2.2.2.2.2.1
  refine (s_Wo_add hs hst ham hO h hi.1 (by omega) hC2).mono (fun M' q => ?_)
  obtain ⟨o, f, h', e2, eA, eB, eD⟩ := q
  exact ⟨⟨o, f, h', hi.add hw e2 eA eB eD⟩, eA, eB, eD⟩
theorem weq_dg {c : Nat → Int} {n i : Nat} (h : isDq (c i)) : weq c n i = enq isDq c (n - i) i := by
  have : ¬ isL (c i) := by unfold isL isDq at *; omega
  unfold weq
  rw [if_neg this, if_pos h]
theorem wkq_dg {c : Nat → Int} {n i : Nat} {k1 : Nat → Nat → Int} (h : isDq (c i)) : wkq k1 c n i = if 9 < weq c n i - i then 39 else 2 := by
  have : ¬ isL (c i) := by unfold isL isDq at *; omega
  unfold wkq
  rw [if_neg this, if_pos h]
theorem weq_lt {c : Nat → Int} {n i : Nat} (h : isL (c i)) : weq c n i = enq nmq c (n - i) i := by
  unfold weq
  rw [if_pos h]
theorem wkq_lt {c : Nat → Int} {n i : Nat} {k1 : Nat → Nat → Int} (h : isL (c i)) : wkq k1 c n i = if 40 < weq c n i - i then 39 else k1 i (weq c n i) := by
  unfold wkq
  rw [if_pos h]
theorem weq_sg {c : Nat → Int} {n i : Nat} (h : ¬ isL (c i)) (h2 : ¬ isDq (c i)) : weq c n i = if 16 ≤ sgk (c i) (lq c n (i + 1)) ∧ sgk (c i) (lq c n (i + 1)) ≤ 20 then i + 2 else i + 1 := by
  unfold weq
  rw [if_neg h, if_neg h2]
theorem wkq_sg {c : Nat → Int} {n i : Nat} {k1 : Nat → Nat → Int} (h : ¬ isL (c i)) (h2 : ¬ isDq (c i)) : wkq k1 c n i = sgk (c i) (lq c n (i + 1)) := by
  unfold wkq
  rw [if_neg h, if_neg h2]
theorem x_Wo_takeNumber {p : Nat} (hO : mOk M) (h : WA M w T A B D N C) (hi : WI M w A B D N k) (hkN : k < N) (hC2 : C ≤ 16777216) (hp : p < N) (hc : 48 ≤ mI M T p ∧ mI M T p ≤ 57) : Ci G y_Wo_takeNumber (d + 1) [vr w, vi p] M (twX kw M w T A B D N C k p) := by
  obtain ⟨h1, ⟨p0, p3, p4, p5⟩, ⟨kT, nT⟩, -, -, h6, h7, h8, -⟩ := id h
  refine k_Wo_takeNumber hO (i32s (by omega) (by omega)) ?_
  have pw : ∀ n, n ≤ 9 → (10 : Int) ^ n ≤ 1000000000 := by decide
  have hdg : isDq (mI M T p) := hc
  have hnl : ¬ isL (mI M T p) := by unfold isL; omega
  have hwk := wkq_dg (n := N) (k1 := kw (mI M T)) hdg
  have hwe := weq_dg (n := N) hdg
  -- the end
  have fin : ∀ {v : Int} {j : Nat}, p < j → j ≤ N → 0 ≤ v → v ≤ 999999999 → weq (mI M T) N p = j → Hid (j - p ≤ 9 → v = numq (mI M T) p (j - p)) → i32 ((j : Int) - p) ∧ ∀ v6 : Int, v6 = (if (9 < (j : Int) - p) then 0 else 1) → ∀ v12 : Int, v12 = (if (v6 = 0) then 1 else 3) → Cv G y_Wo_add d [vr w, vi v12, vi p, vi v] M (fun M16 => mOk M16 ∧ (((v6 = 0) → mK M16 w = 2) ∧ ∀ v21 : Int, v21 = (if (v6 = 0) then mI M16 w 1 else j) → twX kw M w T A B D N C k p v21 M16)) := fun {v j} hj hjN v0 v1 ew hv => by
    refine ⟨i32s (by omega) (by omega), fun v6 e6 v12 e12 => ?_⟩
    have b12 : v12 = 1 ∨ v12 = 3 := by rw [e12]; split <;> omega
    refine (x_Wo_add2 (i32s (by omega) (by omega)) (i32s (by omega) (by omega)) ⟨by omega, by omega⟩ hO h hi hkN hC2 ⟨by omega, by omega, by omega, by omega⟩).mono (fun M16 q => ?_)
    obtain ⟨⟨o, f, h', i'⟩, eA, eB, eD⟩ := q
    refine ⟨o, fun _ => h'.1, fun v21 e21 => ⟨⟨o, f, h', i', ?_⟩, ⟨v12, v, ⟨?_, rfl, fun q => absurd q hnl, fun _ q => ?_⟩, eA, eB, eD⟩, ?_⟩⟩
    · by_cases y : v6 = 0
      · rw [if_pos y, h'.2.2.2.2.2.1] at e21
        exact ⟨N, e21, by omega, Nat.le_refl _⟩
      · rw [if_neg y] at e21
        exact ⟨j, e21, hj, hjN⟩
    · by_cases y : 9 < j - p
      · have z6 : v6 = 0 := by rw [e6, if_pos (by omega)]
        rw [hwk, ew, if_pos y, e12, if_pos z6]; decide
      · have z6 : ¬ v6 = 0 := by rw [e6, if_neg (by omega)]; decide
        rw [hwk, ew, if_neg y, e12, if_neg z6]; decide
    · rw [hwk, ew] at q
      have y : ¬ 9 < j - p := fun z => q (by rw [if_pos z])
      rw [ew]
      exact (show _ → _ from hv) (by omega)
    · rw [hwk, ew]
      by_cases y : 9 < j - p
      · rw [if_pos y]
        rw [if_pos (by omega)] at e6
        rw [if_pos e6, h'.2.2.2.2.2.1] at e21
        exact ⟨fun _ => e21, fun q => absurd rfl q⟩
      · rw [if_neg y]
        rw [if_neg (by omega)] at e6
        rw [if_neg (by omega)] at e21
        exact ⟨fun q => absurd q (by decide), fun _ => e21⟩
  suffices H : ∀ (t j : Nat) (v : Int), N ≤ j + t → p ≤ j → j ≤ N → (p < j ∨ j = p) → 0 ≤ v → v ≤ 999999999 → (j - p ≤ 9 → v + 1 ≤ (10 : Int) ^ (j - p)) → enq isDq (mI M T) (N - p) p = enq isDq (mI M T) (N - j) j → Hid (j - p ≤ 9 → v = numq (mI M T) p (j - p)) → h_Wo_takeNumber_4 G d w p v j M (twX kw M w T A B D N C k p) from H N p 0 (by omega) (Nat.le_refl _) (by omega) (Or.inr rfl) (by omega) (by omega) (fun _ => by rw [Nat.sub_self]; decide) rfl (fun _ => by rw [Nat.sub_self]; rfl)
  intro t
  induction t with
  | zero =>
    intro j v hj hpj hjN hd v0 v1 hv hX hV
    have ejN : j = N := by omega
    have ew : weq (mI M T) N p = j := by rw [hwe, hX, ejN, Nat.sub_self]; rfl
    exact k_Wo_takeNumber_4 hO (i32s (by omega) (by omega)) ⟨by omega, by omega⟩ (i32s (by omega) (by omega)) ⟨h1, fun _ => fin (by omega) hjN v0 v1 ew hV, fun z => absurd (by omega) z⟩
  | succ t ih =>
    intro j v hj hpj hjN hd v0 v1 hv hX hV
    refine k_Wo_takeNumber_4 hO (i32s (by omega) (by omega)) ⟨by omega, by omega⟩ (i32s (by omega) (by omega)) ⟨h1, fun z => ?_, fun z => ?_⟩
    · have ejN : j = N := by omega
      have ew : weq (mI M T) N p = j := by rw [hwe, hX, ejN, Nat.sub_self]; rfl
      exact fin (by omega) hjN v0 v1 ew hV
    have ej : N - j = (N - (j + 1)) + 1 := by omega
    rw [ej] at hX
    rw [p0, Int.toNat_natCast]
    refine ⟨kT, by omega, (s_Wo_isDigit hO (hO _ _).1).mono (fun x M2 q => ?_)⟩
    obtain ⟨e2, hx, ex⟩ := q
    subst e2
    rw [p0]
    refine ⟨i32s (by omega) (by omega), hO, fun x0 => ?_, fun x0 => ?_⟩
    · have pj : p < j := by
        rcases hd with y | y
        · exact y
        · subst y
          exact absurd (ex.2 hc) (fun z => z x0)
      have nd : ¬ isDq (mI M2 T j) := fun q => ex.2 q x0
      rw [enq_n nd] at hX
      obtain ⟨f1, f2⟩ := fin pj hjN v0 v1 (by rw [hwe, hX]) hV
      exact ⟨f1, fun v42 e42 v48 e48 => ⟨h1, f2 v42 e42 v48 e48⟩⟩
    · have dg := ex.1 x0
      clear ex
      rw [enq_y (P := isDq) dg] at hX
      refine ⟨i32s (by omega) (by omega), fun _ => ⟨h1, kT, by omega⟩, fun v70 e70 => ?_⟩
      have st : h_Wo_takeNumber_4 G d w p v70 ((j + 1 : Nat) : Int) M2 (twX kw M2 w T A B D N C k p) := by
        by_cases y : (9 : Int) ≤ (j : Int) - p
        · rw [if_pos y] at e70
          subst e70
          exact ih (j + 1) 0 (by omega) (by omega) (by omega) (Or.inl (by omega)) (by omega) (by omega) (fun z => by omega) hX (fun z => by omega)
        · rw [if_neg y] at e70
          have a1 := hv (by omega)
          have a2 := pw (j + 1 - p) (by omega)
          have a3 : (10 : Int) ^ (j + 1 - p) = 10 ^ (j - p) * 10 := by rw [show j + 1 - p = (j - p) + 1 by omega, Int.pow_succ]
          have a4 : v = numq (mI M2 T) p (j - p) := (show _ → _ from hV) (by omega)
          have a5 : Hid (j + 1 - p ≤ 9 → v70 = numq (mI M2 T) p (j + 1 - p)) := fun _ => by
            rw [show j + 1 - p = (j - p) + 1 by omega]
            show v70 = 10 * numq (mI M2 T) p (j - p) + (mI M2 T (p + (j - p)) - 48)
            rw [← a4, show p + (j - p) = j by omega]
            exact e70
          exact ih (j + 1) v70 (by omega) (by omega) (by omega) (Or.inl (by omega)) (by omega) (by omega) (fun _ => by omega) hX a5
      exact st
theorem x_Wo_takeName {p : Nat} (hNS : NSx G kw) (hO : mOk M) (h : WA M w T A B D N C) (hi : WI M w A B D N k) (hkN : k < N) (hC2 : C ≤ 16777216) (hp : p < N) (hlt : isL (mI M T p)) : Ci G y_Wo_takeName (d + 6) [vr w, vi p] M (twX kw M w T A B D N C k p) := by
  obtain ⟨h1, ⟨p0, p3, p4, p5⟩, ⟨kT, nT⟩, -, -, h6, h7, h8, -⟩ := id h
  refine k_Wo_takeName hO (i32s (by omega) (by omega)) ?_
  have hnd : ¬ isDq (mI M T p) := by unfold isL isDq at *; omega
  have hwk := wkq_lt (n := N) (k1 := kw (mI M T)) hlt
  have hwe := weq_lt (n := N) hlt
  have fin : ∀ {v s : Int} {j : Nat}, p < j → j ≤ N → (v = 0 ∧ s = 1 ∨ v = 1 ∧ j ≤ p + 40 ∧ 2 ≤ s ∧ s ≤ 16 ∧ s ≠ 3) → weq (mI M T) N p = j → s = csq (wkq (kw (mI M T)) (mI M T) N p) → Hid (v = 0 ↔ 40 < j - p) → h_Wo_takeName_84 G (d + 5) w p j v w s M (twX kw M w T A B D N C k p) := fun {v s j} hj hjN hv ew es hv0 => by
    refine k_Wo_takeName_84 hO (i32s (by omega) (by omega)) (i32s (by omega) (by omega)) (i32s (by omega) (by omega)) (i32s (by omega) (by omega)) ⟨h1, ?_⟩
    refine (x_Wo_add2 (i32s (by omega) (by omega)) (i32s (by omega) (by omega)) (i32s (by omega) (by omega)) hO h hi hkN hC2 ⟨by omega, by omega, by omega, by omega⟩).mono (fun M16 q => ?_)
    obtain ⟨⟨o, f, h', i'⟩, eA, eB, eD⟩ := q
    refine ⟨o, fun _ => h'.1, fun v21 e21 => ⟨⟨o, f, h', i', ?_⟩, ⟨s, (j : Int) - p, ⟨es, rfl, fun _ => by rw [ew], fun q => absurd q hnd⟩, eA, eB, eD⟩, ?_⟩⟩
    · by_cases y : v = 0
      · rw [if_pos y, h'.2.2.2.2.2.1] at e21
        exact ⟨N, e21, by omega, Nat.le_refl _⟩
      · rw [if_neg y] at e21
        exact ⟨j, e21, hj, hjN⟩
    · rw [hwk] at es ⊢
      rw [ew] at es ⊢
      have hv1 := (show _ ↔ _ from hv0)
      by_cases y : 40 < j - p
      · rw [if_pos y]
        rw [if_pos (hv1.mpr y), h'.2.2.2.2.2.1] at e21
        exact ⟨fun _ => e21, fun q => absurd rfl q⟩
      · rw [if_neg y] at es ⊢
        have vn : ¬ v = 0 := fun q => y (hv1.mp q)
        rw [if_neg vn] at e21
        refine ⟨fun q => ?_, fun _ => e21⟩
        rw [q] at es
        have : csq 39 = 1 := by decide
        rw [this] at es
        omega
  have sor : ∀ {j : Nat}, p < j → j ≤ N → weq (mI M T) N p = j → i32 ((j : Int) - p) ∧ ∀ v6 : Int, v6 = (if (40 < (j : Int) - p) then 0 else 1) → ((v6 = 0) → (h_Wo_takeName_84 G (d + 5) w p j v6 w 1 M (twX kw M w T A B D N C k p))) ∧ (¬ (v6 = 0) → (Ci G y_Wo_nameSort (d + 5) [vr w, vi p, vi ((j : Int) - p)] M (fun x14 M13 => i32 x14 ∧ mOk M13 ∧ (h_Wo_takeName_84 G (d + 5) w p j v6 w x14 M13 (twX kw M w T A B D N C k p))))) := fun {j} hj hjN ew => by
    refine ⟨i32s (by omega) (by omega), fun v6 e6 => ⟨fun z => ?_, fun z => ?_⟩⟩
    · have y : (40 : Int) < (j : Int) - p := Classical.byContradiction (fun y => by rw [if_neg y] at e6; omega)
      refine fin hj hjN (Or.inl ⟨z, rfl⟩) ew ?_ ⟨fun _ => by omega, fun _ => z⟩
      rw [hwk, ew, if_pos (by omega)]
      decide
    have j40 : j ≤ p + 40 ∧ v6 = 1 := by
      by_cases y : (40 : Int) < (j : Int) - p
      · rw [if_pos y] at e6
        exact absurd e6 z
      · rw [if_neg y] at e6
        exact ⟨by omega, e6⟩
    have t := hNS d w T A B D N C p (j - p) M hO h (by omega) (by omega) (by omega)
    rw [show ((j - p : Nat) : Int) = (j : Int) - p by omega, show p + (j - p) = j by omega] at t
    refine t.mono (fun x M2 q => ?_)
    obtain ⟨e2, ⟨x1, x2, x3⟩, x4⟩ := q
    subst e2
    refine ⟨i32s (by omega) (by omega), hO, fin hj hjN (Or.inr ⟨j40.2, j40.1, x1, x2, x3⟩) ew ?_ ⟨fun q => absurd q z, fun q => by omega⟩⟩
    rw [hwk, ew, if_neg (by omega)]
    exact x4
  suffices H : ∀ (t j : Nat), N ≤ j + t → p < j → j ≤ N → enq nmq (mI M T) (N - p) p = enq nmq (mI M T) (N - j) j → h_Wo_takeName_4 G (d + 5) w p j M (twX kw M w T A B D N C k p) from H N (p + 1) (by omega) (by omega) (by omega) (by
    rw [show N - p = (N - (p + 1)) + 1 by omega]
    exact enq_y (P := nmq) (Or.inl hlt))
  intro t
  induction t with
  | zero =>
    intro j hj hpj hjN hX
    have ejN : j = N := by omega
    have ew : weq (mI M T) N p = j := by rw [hwe, hX, ejN, Nat.sub_self]; rfl
    exact k_Wo_takeName_4 hO (i32s (by omega) (by omega)) (i32s (by omega) (by omega)) ⟨h1, fun _ => sor hpj hjN ew, fun z => absurd (by omega) z⟩
  | succ t ih =>
    intro j hj hpj hjN hX
    refine k_Wo_takeName_4 hO (i32s (by omega) (by omega)) (i32s (by omega) (by omega)) ⟨h1, fun z => ?_, fun z => ?_⟩
    · have ejN : j = N := by omega
      have ew : weq (mI M T) N p = j := by rw [hwe, hX, ejN, Nat.sub_self]; rfl
      exact sor hpj hjN ew
    have ej : N - j = (N - (j + 1)) + 1 := by omega
    rw [ej] at hX
    rw [p0, Int.toNat_natCast]
    have go : nmq (mI M T j) → h_Wo_takeName_4 G (d + 5) w p ((j : Int) + 1) M (twX kw M w T A B D N C k p) := fun q => ih (j + 1) (by omega) (by omega) (by omega) (by rw [hX]; exact enq_y (P := nmq) q)
    refine ⟨kT, by omega, (x_Wo_isLetter hO (hO _ _).1).mono (fun x M2 q => ?_)⟩
    obtain ⟨e2, hx, hxl⟩ := q
    subst e2
    rw [p0]
    refine ⟨i32s (by omega) (by omega), hO, fun x0 => ⟨h1, kT, by omega, (s_Wo_isDigit hO (hO _ _).1).mono (fun x M3 q => ?_)⟩, fun x0 => go (Or.inl (hxl.mp x0))⟩
    obtain ⟨e3, hx', hxd⟩ := q
    subst e3
    rw [p0]
    refine ⟨i32s (by omega) (by omega), hO, fun _ => ⟨h1, kT, by omega⟩, fun q => go ?_, fun q => ?_⟩
    · rcases q with q | q
      · exact Or.inr (Or.inl (hxd.mp q))
      · exact Or.inr (Or.inr q)
    · have nn : ¬ nmq (mI M3 T j) := fun q2 => by
        rcases q2 with q2 | q2 | q2
        · exact hxl.mpr q2 x0
        · exact q (Or.inl (hxd.mpr q2))
        · exact q (Or.inr q2)
      rw [enq_n nn] at hX
      obtain ⟨f1, f2⟩ := sor hpj hjN (by rw [hwe, hX])
      exact ⟨f1, fun v40 e40 => ⟨(f2 v40 e40).1, fun z => ⟨h1, (f2 v40 e40).2 z⟩⟩⟩
end WXB
