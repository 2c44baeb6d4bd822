section
/-! The reference's values, exactly: finish, names, leaves, choose. -/
section FNX
variable {G : mG} {F : Prop} {d a g R W T V n X : Nat} {M : mM}
theorem rkX.pre {t : Int} {v : vrs} {M2 M' : mM} (m : Mv (fun _ => False) (fun x => x = a) M a M2) (f : ∀ i, i ≠ 23 → mI M2 a i = mI M a i) (w : Wd M a) (h : rkX M2 a V t v M') : rkX M a V t v M' := by
  refine ⟨h.1.pre m f w, ?_⟩
  rw [← f 16 (by omega)]
  exact h.2
/-- what a node's value is, from its parts' values -/
def fnv (s p : Int) (k : Nat) (u : Nat → vrs) : vrs := if s = 31 then (0, 1 - (u 0).2.1, (u 0).2.2) else if s = 45 then (0, -(u 0).2.1, (u 0).2.2) else if s = 14 ∨ s = 15 then bsq s (fun j => (u j).2.1) (fun j => (u j).2.2) 0 (k - 1) else vop s (u 0).2.1 (u 0).2.2 (u 1).2.1 (u 1).2.2 p
theorem bsq_cg {x : Int} {A B A' B' : Nat → Int} {k k' : Nat} : ∀ n : Nat, (∀ j, j ≤ n → A (k + j) = A' (k' + j) ∧ B (k + j) = B' (k' + j)) → bsq x A B k n = bsq x A' B' k' n
  | 0, h => by
    have := h 0 (by omega)
    show (0, A (k + 0), B (k + 0)) = (0, A' (k' + 0), B' (k' + 0))
    rw [this.1, this.2]
  | n + 1, h => by
    have := h (n + 1) (by omega)
    rw [bsq, bsq, bsq_cg n (fun j hj => h j (by omega)), show k + n + 1 = k + (n + 1) by omega, show k' + n + 1 = k' + (n + 1) by omega, this.1, this.2]
theorem cmpv {s u b p a b1 c d : Int} (hs : 18 ≤ s ∧ s ≤ 23) (hu : u = a * d - c * b1) (hb : b = (if (((s = 23) ∧ (cmpL u 0 = 0)) ∨ ((¬ (s = 23)) ∧ (((s = 18) ∧ (¬ (cmpL u 0 = 0))) ∨ ((¬ (s = 18)) ∧ (((s = 21) ∧ (¬ (0 ≤ cmpL u 0))) ∨ ((¬ (s = 21)) ∧ (((s = 19) ∧ (¬ (0 < cmpL u 0))) ∨ ((¬ (s = 19)) ∧ (((s = 22) ∧ (¬ (cmpL u 0 ≤ 0))) ∨ ((¬ (s = 22)) ∧ (¬ (cmpL u 0 < 0)))))))))))) then 1 else 0)) : vop s a b1 c d p = (0, (if b = 0 then 0 else 1), 1) := by
  have cz := cmpz u 0
  have fin : ∀ (q : Prop) [Decidable q], (b = if q then 1 else 0) → vtr q = (0, (if b = 0 then 0 else 1), 1) := fun q _ e => by
    unfold vtr
    by_cases c : q
    · rw [if_pos c] at e ⊢
      rw [e]; rfl
    · rw [if_neg c] at e ⊢
      rw [e]; rfl
  have cg : ∀ (q : Prop) [Decidable q], ((((s = 23) ∧ (cmpL u 0 = 0)) ∨ ((¬ (s = 23)) ∧ (((s = 18) ∧ (¬ (cmpL u 0 = 0))) ∨ ((¬ (s = 18)) ∧ (((s = 21) ∧ (¬ (0 ≤ cmpL u 0))) ∨ ((¬ (s = 21)) ∧ (((s = 19) ∧ (¬ (0 < cmpL u 0))) ∨ ((¬ (s = 19)) ∧ (((s = 22) ∧ (¬ (cmpL u 0 ≤ 0))) ∨ ((¬ (s = 22)) ∧ (¬ (cmpL u 0 < 0)))))))))))) ↔ q) → vtr q = (0, (if b = 0 then 0 else 1), 1) := fun q _ e => fin q (by
      rw [hb]
      by_cases c : q
      · rw [if_pos c, if_pos (e.mpr c)]
      · rw [if_neg c, if_neg (fun z => c (e.mp z))])
  have s6 : s = 18 ∨ s = 19 ∨ s = 20 ∨ s = 21 ∨ s = 22 ∨ s = 23 := by omega
  unfold vop
  rcases s6 with e | e | e | e | e | e
  · rw [if_neg (by omega), if_neg (by omega), if_neg (by omega), if_neg (by omega), if_neg (by omega), if_pos e]
    exact cg _ (by constructor <;> intro h <;> omega)
  · rw [if_neg (by omega), if_neg (by omega), if_neg (by omega), if_neg (by omega), if_neg (by omega), if_neg (by omega), if_pos e]
    exact cg _ (by constructor <;> intro h <;> omega)
  · rw [if_neg (by omega), if_neg (by omega), if_neg (by omega), if_neg (by omega), if_neg (by omega), if_neg (by omega), if_neg (by omega), if_pos e]
    exact cg _ (by constructor <;> intro h <;> omega)
  · rw [if_neg (by omega), if_neg (by omega), if_neg (by omega), if_neg (by omega), if_neg (by omega), if_neg (by omega), if_neg (by omega), if_neg (by omega), if_pos e]
    exact cg _ (by constructor <;> intro h <;> omega)
  · rw [if_neg (by omega), if_neg (by omega), if_neg (by omega), if_neg (by omega), if_neg (by omega), if_neg (by omega), if_neg (by omega), if_neg (by omega), if_neg (by omega), if_pos e]
    exact cg _ (by constructor <;> intro h <;> omega)
  · rw [if_neg (by omega), if_neg (by omega), if_neg (by omega), if_neg (by omega), if_neg (by omega), if_neg (by omega), if_neg (by omega), if_neg (by omega), if_neg (by omega), if_neg (by omega)]
    exact cg _ (by constructor <;> intro h <;> omega)
theorem x_MM_finish {nm : Int → Prop} {k f e : Nat} {c : Nat → Int} {t : Int} (h : Ev F M a g R W T) (hn : n < T) (hk : 1 ≤ k) (ha : ari (so M g n) k) (hne : so M g n ≠ 29 ∧ so M g n ≠ 30 ∧ so M g n ≠ 32) (hf : fp M g n = ((n + 1 : Nat) : Int)) (ht : Tn nm M g f k (n + 1) e) (he : e ≤ T) (hty : tyr (so M g n) k c t) (hv : ∀ j, j < k → vok (c j) (mL M (a + 97) (V + j)) (mL M (a + 98) (V + j))) (hV : mI M a 23 = (V + k : Nat)) (hb : V + k ≤ 16400) : Cv G y_MM_finish (d + 3) [vr a, vr g, vi n] M (fun M' => mOk M' ∧ rkX M a V t (fnv (so M g n) (pm M g n) k (fun j => vr9 (c j) (mL M (a + 97) (V + j)) (mL M (a + 98) (V + j)))) M') := by
  generalize ev : (fnv (so M g n) (pm M g n) k (fun j => vr9 (c j) (mL M (a + 97) (V + j)) (mL M (a + 98) (V + j)))) = vv
  obtain ⟨hO, w, hg, hd, hB, -, -⟩ := id h
  have gp := w.gp hg
  have r0 : mR M g 0 = g + 1 := gp.2.1.1
  have r1 : mR M g 1 = g + 3 := gp.2.1.2.1
  have r4 : mR M g 4 = g + 9 := gp.2.1.2.2.2.2.1
  have i1 := tL_in (a := a) (q := g + 1) hg (tLk1 g)
  have i3 := tL_in (a := a) (q := g + 3) hg (tLk3 g)
  have i9 := tL_in (a := a) (q := g + 9) hg (tLk9 g)
  have l1 := hd (g + 1) (by first | exact tLk1 g | exact gLk1 g | omega)
  have l3 := hd (g + 3) (by first | exact tLk3 g | exact gLk3 g | omega)
  have l9 := hd (g + 9) (by first | exact tLk9 g | exact gLk9 g | omega)
  have rd : ∀ {p j : Nat} {Q : Int → mM → Prop}, p ∈ nums a → (j : Int) < ln M p → (∀ z, z = nt M p j → i32 z → Q z M) → Ci G y_MN_at (d + 2) [vr p, vi j] M Q := fun hp hk hQ => by
    refine (s_MN_at hO (w.nu hp) hk).mono (fun z M1 e1 => ?_)
    obtain ⟨e1, hz⟩ := e1
    subst e1
    exact hQ z hz (by rw [hz]; exact (hO _ _).1)
  refine k_MM_finish hO (i32s (by omega) (by omega)) ?_
  rw [r0]
  refine ⟨gp.1, (w.nu i1).1, rd i1 (by omega) (fun s hs is => ⟨is, hO, gp.1, ?_⟩)⟩
  have hs' : s = so M g n := hs
  rw [← hs'] at ha hne hty ev
  rw [r1]
  refine ⟨(w.nu i3).1, rd i3 (by omega) (fun p hp ip => ⟨ip, hO, gp.1, ?_⟩)⟩
  have hp' : p = pm M g n := hp
  rw [← hp'] at ev
  rw [r4]
  refine ⟨(w.nu i9).1, rd i9 (by omega) (fun x hx ix => ⟨ix, hO, ?_⟩)⟩
  rw [show x = ((n + 1 : Nat) : Int) from hx.trans hf]
  have hge := ht.ge
  refine s_fin32 is ip h k f (n + 1) e 0 hk ht he (by omega) ?_
  refine k_MM_finish_32 hO is ip (i32s (by omega) (by omega)) (i32s (by omega) (by omega)) ⟨fun _ => ?_, fun q => absurd (by decide) q⟩
  rw [hV, show ((V + k : Nat) : Int) - ((0 + k : Nat) : Int) = (V : Int) by omega]
  refine ⟨w.1.1, i32s (by omega) (by omega), fun M2 e2 => ?_⟩
  obtain ⟨m2, f2⟩ := mv_fld (v := (V : Int)) (i32s (by omega) (by omega)) hO w e2
  have o2 := m2.1
  have w2 := m2.2.1
  have z := w.2.2.2
  have cl : ∀ x, x < mZ M → x ≠ a → mL M2 x = mL M x := fun x hx hne => (m2.2.2.2.1.2.2.2.1 x hx (fun y => y) (fun p y => y.elim) hne).2
  have r21 : mR M2 a 21 = a + 97 := w2.1.2.2.2.2.1.2.2.2.2.2.2.1
  have r22 : mR M2 a 22 = a + 98 := w2.1.2.2.2.2.1.2.2.2.2.2.2.2.1
  have n97 : mK M2 (a + 97) = 33 ∧ mN M2 (a + 97) = 16400 := w2.1.2.2.2.2.2.2.2.1.1
  have n98 : mK M2 (a + 98) = 33 ∧ mN M2 (a + 98) = 16400 := w2.1.2.2.2.2.2.2.2.1.2.1
  have hV2 : mI M2 a 23 = (V : Int) := by rw [f2, if_pos rfl]
  have fin : ∀ M', mOk M' ∧ rkX M2 a V t vv M' → mOk M' ∧ h_MM_finish_400 G (d + 2) M' (fun M' => mOk M' ∧ rkX M a V t vv M') := fun M' y => ⟨y.1, k_MM_finish_400 y.1 ⟨y.1, y.2.pre m2 (fun i hi => by rw [f2, if_neg hi]) w⟩⟩
  have tr : ∀ {b : Int}, i32 b → t = 1 → vv = (0, (if b = 0 then 0 else 1), 1) → Cv G y_MM_pushTruth (d + 2) [vr a, vi b] M2 (fun M' => mOk M' ∧ h_MM_finish_400 G (d + 2) M' (fun M' => mOk M' ∧ rkX M a V t vv M')) := fun {b} ib t1 eb => (s_MM_pushTruth (d := d + 1) ib o2 w2 hV2 (by omega)).mono (fun M' y => fin M' ⟨y.1, y.2.rkx (Or.inr ⟨t1, by by_cases q : b = 0; exact Or.inl (if_pos q); exact Or.inr (if_neg q), rfl⟩) (by rw [eb]; unfold vr9; rw [if_pos t1])⟩)
  have v0 := hv 0 (by omega)
  rw [show V + 0 = V by omega] at v0
  unfold tyr at hty
  rw [r21, r22, cl (a + 97) (by omega) (by omega), cl (a + 98) (by omega) (by omega), n97.2, n98.2, Int.toNat_natCast, show ((V : Int) + 1).toNat = V + 1 by omega]
  refine ⟨fun q1 => ⟨n97.1, by omega, fun b hb2 => tr (by split at hb2 <;> exact ⟨by omega, by omega⟩) ?_ ?_⟩, fun q1 => ?_⟩
  · rw [if_pos (by omega)] at hty; exact hty.2
  · rw [if_pos (by omega)] at hty
    rw [hty.1 0 (by omega)] at v0
    have cz := (cmpz (mL M (a + 97) V) 0).2.2.2.1
    unfold fnv vr9 at ev
    rw [if_pos q1] at ev
    rw [← ev]
    show (0, 1 - mL M (a + 97) (V + 0), (if c 0 = 1 then (1 : Int) else mL M (a + 98) (V + 0))) = _
    rw [show V + 0 = V by omega, hty.1 0 (by omega), if_pos rfl]
    unfold vok at v0
    rcases v0 with v0 | ⟨-, v0 | v0, -⟩
    · omega
    · rw [if_pos (cz.mpr v0)] at hb2
      rw [v0, hb2]; rfl
    · rw [if_neg (fun z => by have := cz.mp z; omega)] at hb2
      rw [v0, hb2]; rfl
  rw [if_neg (by omega)] at hty
  refine ⟨fun q2 => ?_, fun q2 => ⟨fun q3 b hb2 => ?_, fun q3 => k_MM_isComparison o2 is (fun v7 h7 => ⟨i32s (by split at h7 <;> omega) (by split at h7 <;> omega), o2, fun y => ?_, fun y => ?_⟩)⟩⟩
  · rw [if_neg (by omega), if_neg (by omega), if_neg (show ¬ (19 ≤ s ∧ s ≤ 22) by omega)] at hty
    have c0 := hty.1 0 (by omega)
    rw [c0] at v0
    unfold vok at v0
    refine ⟨n97.1, by omega, n98.1, by omega, (s_MM_push ⟨by omega, by omega⟩ ⟨by omega, by omega⟩ o2 w2 hV2 (by omega)).mono (fun M' y => fin M' ⟨y.1, y.2.rkx (Or.inl ⟨hty.2, by omega, by omega, by omega, by omega⟩) (by
      unfold fnv at ev
      rw [if_neg q1, if_pos q2] at ev
      rw [← ev]; dsimp only; rw [c0]
      unfold vr9
      rw [hty.2]
      rfl)⟩)⟩
  · rw [if_neg (by omega), if_neg (by omega), if_neg (show ¬ (19 ≤ s ∧ s ≤ 22) by omega)] at hty
    have t0 := hty.2
    subst t0
    rw [show (0 + k : Nat) = k by omega]
    have eb : bsq (if b = 0 then 15 else 14) (mL M2 (a + 97)) (mL M2 (a + 98)) V (k - 1) = vv := by
      unfold fnv at ev
      rw [if_neg q1, if_neg q2, if_pos q3] at ev
      rw [← ev, cl (a + 97) (by omega) (by omega), cl (a + 98) (by omega) (by omega)]
      have e14 : (if b = 0 then (15 : Int) else 14) = s := by
        rcases q3 with q3 | q3
        · rw [if_pos q3] at hb2
          rw [if_neg (by omega), q3]
        · rw [if_neg (by omega)] at hb2
          rw [if_pos hb2, q3]
      rw [e14]
      refine bsq_cg (k - 1) (fun j hj => ?_)
      show _ = mL M (a + 97) (V + (0 + j)) ∧ _ = (if c (0 + j) = 1 then (1 : Int) else mL M (a + 98) (V + (0 + j)))
      rw [show 0 + j = j by omega, hty.1 j (by omega)]
      exact ⟨rfl, rfl⟩
    rw [← eb] at fin
    refine (x_MM_best (d := d + 1) (by split at hb2 <;> exact ⟨by omega, by omega⟩) hk o2 w2 hV2 (by omega) hb (fun j j1 j2 => ?_)).mono (fun M' y => by rw [← eb]; exact fin M' y)
    have := hv (j - V) (by omega)
    rw [show V + (j - V) = j by omega, hty.1 (j - V) (by omega)] at this
    rw [cl (a + 97) (by omega) (by omega), cl (a + 98) (by omega) (by omega)]
    exact this
  · have s5 : 24 ≤ s ∧ s ≤ 28 ∧ k = 2 := by unfold ari at ha; split at h7 <;> omega
    rw [if_neg (by omega), if_neg (by omega), if_neg (show ¬ (19 ≤ s ∧ s ≤ 22) by omega)] at hty
    have v1 := hv 1 (by omega)
    rw [hty.1 1 (by omega)] at v1
    rw [hty.1 0 (by omega)] at v0
    have t0 := hty.2
    subst t0
    rw [r21, r22, cl (a + 97) (by omega) (by omega), cl (a + 98) (by omega) (by omega), n97.2, n98.2]
    exact ⟨w2.1.1, n97.1, by omega, n98.1, by omega, by omega, by omega, (x_MM_reckon (d := d) ⟨s5.1, s5.2.1⟩ v0 v1 ip o2 w2 hV2 (by omega)).mono (fun M' y => fin M' (by
      have e9 : vop s (mL M (a + 97) V) (mL M (a + 98) V) (mL M (a + 97) (V + 1)) (mL M (a + 98) (V + 1)) p = vv := by
        unfold fnv vr9 at ev
        rw [if_neg q1, if_neg q2, if_neg q3] at ev
        rw [← ev]
        show _ = vop s (mL M (a + 97) (V + 0)) (if c 0 = 1 then (1 : Int) else mL M (a + 98) (V + 0)) (mL M (a + 97) (V + 1)) (if c 1 = 1 then (1 : Int) else mL M (a + 98) (V + 1)) p
        rw [hty.1 0 (by omega), hty.1 1 (by omega), show V + 0 = V by omega]
        rfl
      rw [e9] at y
      exact y))⟩
  · have s5 : 18 ≤ s ∧ s ≤ 23 ∧ k = 2 := by unfold ari at ha; split at h7 <;> omega
    have v1 := hv 1 (by omega)
    have c01 : c 0 = c 1 ∧ t = 1 := by
      by_cases q : s = 18 ∨ s = 23
      · rw [if_pos q] at hty; exact hty
      · rw [if_neg q, if_neg (by omega), if_pos (show 19 ≤ s ∧ s ≤ 22 by omega)] at hty
        exact ⟨(hty.1 0 (by omega)).trans (hty.1 1 (by omega)).symm, hty.2⟩
    rw [c01.1] at v0
    rw [r21, r22, cl (a + 97) (by omega) (by omega), cl (a + 98) (by omega) (by omega), n97.2, n98.2]
    refine ⟨w2.1.1, n98.1, by omega, ⟨fun _ => ⟨n97.1, by omega, by omega⟩, fun _ => ⟨n97.1, by omega, by omega, by omega, by omega⟩⟩, fun u hu => ?_⟩
    have iu : i64 u := by
      by_cases q : cmpL (mL M (a + 98) V) 0 = 0
      · rw [if_pos q] at hu
        unfold vok at v0 v1
        exact ⟨by omega, by omega⟩
      · rw [if_neg q] at hu
        have q' : mL M (a + 98) V ≠ 0 := fun y => q ((cmpz _ 0).2.2.2.1.2 y)
        unfold vok at v0 v1
        have m1 := mul9 (x := mL M (a + 97) V) (y := mL M (a + 98) (V + 1)) ⟨by omega, by omega⟩ ⟨by omega, by omega⟩
        have m3 := mul9 (x := mL M (a + 97) (V + 1)) (y := mL M (a + 98) V) ⟨by omega, by omega⟩ ⟨by omega, by omega⟩
        exact ⟨by omega, by omega⟩
    exact ⟨⟨fun _ => iu, fun _ => ⟨fun _ => iu, fun _ => ⟨fun _ => iu, fun _ => ⟨fun _ => iu, fun _ => ⟨fun _ => iu, fun _ => iu⟩⟩⟩⟩⟩, fun b hb2 => tr (by rw [hb2]; split <;> exact ⟨by decide, by decide⟩) c01.2 (by
      unfold fnv vr9 at ev
      rw [if_neg q1, if_neg q2, if_neg q3] at ev
      rw [← ev]
      show vop s (mL M (a + 97) (V + 0)) (if c 0 = 1 then (1 : Int) else mL M (a + 98) (V + 0)) (mL M (a + 97) (V + 1)) (if c 1 = 1 then (1 : Int) else mL M (a + 98) (V + 1)) p = _
      refine cmpv (u := u) ⟨s5.1, s5.2.1⟩ ?_ hb2
      rw [c01.1, show V + 0 = V by omega]
      unfold vok at v0 v1
      rcases v0 with ⟨t0, v0⟩ | ⟨t0, v0, v02⟩
      · rw [t0, if_neg (by decide), if_neg (by decide)]
        rw [if_neg (fun y => by have := (cmpz _ 0).2.2.2.1.1 y; omega)] at hu
        exact hu
      · rw [t0, if_pos rfl, if_pos rfl]
        rw [if_pos ((cmpz _ 0).2.2.2.1.2 v02)] at hu
        rw [hu]; omega)⟩
theorem x_MM_name {v : Int} (hF9 : ¬ F) (h : Ev F M a g R W T) (hvn : nme F M g R W v) (hV : mI M a 23 = (V : Int)) (hb : V < 16400) (hl : ln M (a + 99) = (X : Int)) (hX : X ≤ 64000) : Cv G y_MM_name (d + 2) [vr a, vr g, vi v] M (fun M' => mOk M' ∧ vok (tn M g v) (mL M (g + 16) v.toNat) (mL M (g + 17) v.toNat) ∧ psQ M a V (mL M (g + 16) v.toNat) (mL M (g + 17) v.toNat) M') := by
  have hv : (0 ≤ v ∧ v < R) ∨ (100 ≤ v ∧ v < 100 + W) := hvn.elim (fun z => Or.inl ⟨z.1, z.2.1⟩) (fun z => Or.inr z.2)
  obtain ⟨hO, w, hg, hn, hB, hr, hw⟩ := h
  have gp := w.gp hg
  have r7 : mR M g 7 = g + 13 := gp.2.1.2.2.2.2.2.2.1
  have r9 : mR M g 9 = g + 15 := gp.2.1.2.2.2.2.2.2.2.2.1
  have r10 : mR M g 10 = g + 16 := gp.2.1.2.2.2.2.2.2.2.2.2.1
  have r11 : mR M g 11 = g + 17 := gp.2.1.2.2.2.2.2.2.2.2.2.2
  have r13 : mR M g 13 = g + 18 := gp.2.2.1.1
  have B := w.1.2.2.2.2.1.2.2.2.2.2.2.2.2.2
  have r25 : mR M a 25 = a + 101 := B.1
  have r26 : mR M a 26 = a + 102 := B.2.1
  have r27 : mR M a 27 = a + 103 := B.2.2.1
  have r28 : mR M a 28 = a + 104 := B.2.2.2
  have A8 := w.1.2.2.2.2.2.2.2.1
  have g13 := gp.2.2.2.1.1
  have g15 := gp.2.2.2.1.2.2.1
  have g16 := gp.2.2.2.1.2.2.2.1
  have g17 := gp.2.2.2.1.2.2.2.2
  have g18 := gp.2.2.2.2.1.1
  refine k_MM_name hO ⟨by omega, by omega⟩ ?_
  rw [r7, r10, r11, r13, r25, r26, r27, r28]
  refine ⟨fun q => ?_, fun q => ?_⟩
  · have hvr : v.toNat < R := by omega
    obtain ⟨b1, b2⟩ := hr v.toNat hvr
    have hF : mI M (g + 13) v.toNat ≠ 0 → F := fun z => hvn.elim (fun y => y.2.2.elim (fun x => x) (fun x => absurd x z)) (fun y => y.1)
    rw [show ((v.toNat : Nat) : Int) = v by omega] at b1 b2
    refine ⟨gp.1, g13.1, by rw [g13.2]; omega, fun z => ⟨g16.1, by rw [g16.2]; omega, g17.1, by rw [g17.2]; omega, w.1.1, (s_MM_push (hO _ _).2 (hO _ _).2 hO w hV hb).mono (fun M' t => ⟨t.1, t.1, b1 z, t.2⟩)⟩, fun z => absurd (hF z) hF9⟩
  · exact absurd (hvn.elim (fun y => absurd y.2.1 (by omega)) (fun y => y.1)) hF9
theorem x_bg_leaf {t : Int} (hF9 : ¬ F) (h : Ev F M a g R W T) (hn : n < T) (hs : so M g n = 1 ∨ so M g n = 2 ∨ so M g n = 12 ∨ so M g n = 13) (h2 : so M g n = 2 → 0 ≤ va M g n ∧ va M g n < 1000000000) (h1 : so M g n = 1 → nme F M g R W (va M g n)) (ht : tyn (tn M g) (so M g n) (va M g n) 0 (fun _ => 0) t) (hV : mI M a 23 = (V : Int)) (hb : V < 16400) (hl : ln M (a + 99) = (X : Int)) (hX : X ≤ 64000) : Cv G y_MM_begin (d + 3) [vr a, vr g, vi n] M (fun M' => mOk M' ∧ ∃ A B : Int, vok t A B ∧ psQ M a V A B M' ∧ vr9 t A B = (if so M g n = 1 then vr9 t (mL M (g + 16) (va M g n).toNat) (mL M (g + 17) (va M g n).toNat) else if so M g n = 2 then (0, va M g n, 1) else if so M g n = 12 then (0, 1, 1) else (0, 0, 1))) := by
  obtain ⟨hO, w, -⟩ := id h
  unfold tyn at ht
  refine s_bg h hn (fun q => ?_) (fun q => ?_) (fun q => ?_) (fun q => by omega) (fun q => by omega)
  · rw [if_pos q] at ht
    refine (x_MM_name (d := d) hF9 h (h1 q) hV hb hl hX).mono (fun M' t' => ⟨t'.1, t'.1, _, _, by rw [ht]; exact t'.2.1, t'.2.2, by rw [if_pos q]⟩)
  · rw [if_neg (by omega), if_pos q] at ht
    have := h2 q
    exact (s_MM_push ⟨by omega, by omega⟩ ⟨by omega, by omega⟩ hO w hV hb).mono (fun M' t' => ⟨t'.1, t'.1, _, _, Or.inl ⟨ht, by omega, by omega, by omega, by omega⟩, t'.2, by rw [if_neg (by omega), if_pos q]; unfold vr9; rw [ht]; rfl⟩)
  · rw [if_neg (by omega), if_neg (by omega), if_pos q] at ht
    refine (s_MM_pushTruth (d := d + 1) ⟨by split <;> omega, by split <;> omega⟩ hO w hV hb).mono (fun M' t' => ⟨t'.1, t'.1, _, _, Or.inr ⟨ht, ?_, rfl⟩, t'.2, ?_⟩)
    · generalize (if so M g n = 12 then (1 : Int) else 0) = b
      by_cases z : b = 0
      · rw [if_pos z]; exact Or.inl rfl
      · rw [if_neg z]; exact Or.inr rfl
    · rw [if_neg (show ¬ so M g n = 1 by omega), if_neg (show ¬ so M g n = 2 by omega)]
      unfold vr9
      rw [ht]
      by_cases z : so M g n = 12
      · simp [z]
      · simp [z]
/-- the first part's value stays, or it is taken and another part is begun: which -/
def coX (M : mM) (a g V X n c2 : Nat) (M' : mM) : Prop := (so M g n ≠ 32 ∧ ¬ (so M g n = 29 ↔ mL M (a + 97) V = 1) ∧ M' = M) ∨ ∃ c : Int, ((c = c2 ∧ ((so M g n = 32 ∧ mL M (a + 97) V = 1) ∨ (so M g n ≠ 32 ∧ (so M g n = 29 ↔ mL M (a + 97) V = 1)))) ∨ (so M g n = 32 ∧ c = np M g c2 ∧ mL M (a + 97) V ≠ 1)) ∧ Mv (fun x => x = a + 99) (fun x => x = a) M a M' ∧ mI M' a 23 = (V : Int) ∧ (∀ i, i ≠ 23 → mI M' a i = mI M a i) ∧ ln M' (a + 99) = (X + 2 : Nat) ∧ (∀ j, j < X → nt M' (a + 99) j = nt M (a + 99) j) ∧ nt M' (a + 99) X = 0 ∧ nt M' (a + 99) (X + 1) = c
theorem x_MM_choose0 {c1 c2 : Nat} (h : Ev F M a g R W T) (hn : n < T) (h1 : fp M g n = (c1 : Int)) (h1T : c1 < T) (h2 : np M g c1 = (c2 : Int)) (h2T : c2 < T) (hV : mI M a 23 = (V + 1 : Nat)) (hb : V < 16400) (hl : ln M (a + 99) = (X : Int)) (hX : X ≤ 64000) : Cv G y_MM_choose0 (d + 2) [vr a, vr g, vi n] M (fun M' => mOk M' ∧ coX M a g V X n c2 M') := by
  obtain ⟨hO, w, hg, hd, hB, -, -⟩ := h
  have gp := w.gp hg
  have r0 : mR M g 0 = g + 1 := gp.2.1.1
  have r4 : mR M g 4 = g + 9 := gp.2.1.2.2.2.2.1
  have r5 : mR M g 5 = g + 11 := gp.2.1.2.2.2.2.2.1
  have r21 : mR M a 21 = a + 97 := w.1.2.2.2.2.1.2.2.2.2.2.2.1
  have n97 : mK M (a + 97) = 33 ∧ mN M (a + 97) = 16400 := w.1.2.2.2.2.2.2.2.1.1
  have i1 := tL_in (a := a) (q := g + 1) hg (tLk1 g)
  have i9 := tL_in (a := a) (q := g + 9) hg (tLk9 g)
  have i11 := tL_in (a := a) (q := g + 11) hg (tLk11 g)
  have l1 := hd (g + 1) (by first | exact tLk1 g | exact gLk1 g | omega)
  have l9 := hd (g + 9) (by first | exact tLk9 g | exact gLk9 g | omega)
  have l11 := hd (g + 11) (by first | exact tLk11 g | exact gLk11 g | omega)
  have rd : ∀ {p j : Nat} {Q : Int → mM → Prop}, p ∈ nums a → (j : Int) < ln M p → (∀ z, z = nt M p j → i32 z → Q z M) → Ci G y_MN_at (d + 1) [vr p, vi j] M Q := fun hp hk hQ => by
    refine (s_MN_at hO (w.nu hp) hk).mono (fun z M1 e1 => ?_)
    obtain ⟨e1, hz⟩ := e1
    subst e1
    exact hQ z hz (by rw [hz]; exact (hO _ _).1)
  -- the value is taken
  have go : ∀ (M2 : mM) (c : Int), i32 c → M2 = mUI M a 23 (V : Int) → ((c = c2 ∧ ((so M g n = 32 ∧ mL M (a + 97) V = 1) ∨ (so M g n ≠ 32 ∧ (so M g n = 29 ↔ mL M (a + 97) V = 1)))) ∨ (so M g n = 32 ∧ c = np M g c2 ∧ mL M (a + 97) V ≠ 1)) → Cv G y_MM_todo (d + 1) [vr a, vi 0, vi c] M2 (fun M' => mOk M' ∧ (mOk M' ∧ coX M a g V X n c2 M')) := fun M2 c hc e2 hcc => by
    obtain ⟨m2, f2⟩ := mv_fld (v := (V : Int)) ⟨by omega, by omega⟩ hO w e2
    have s2 := m2.lst (n99 (a := a)) (fun z => z)
    refine (s_MM_todo (d := d) ⟨by omega, by omega⟩ hc m2.1 m2.2.1 (by rw [s2.1]; exact hl) (by omega)).mono (fun M3 t => ?_)
    obtain ⟨o3, m3, l3, e3, x3, y3⟩ := t
    have f3 := (m3.fld m2.2.1 (fun q hq => by rw [hq]; exact n99) (fun z => z)).1
    have lt : ∀ {M5 : mM}, Wd M5 a → ∀ q, q = a + 99 → q < mZ M5 := fun w q hq => by rw [hq]; exact w.lt n99
    refine ⟨o3, o3, Or.inr ⟨c, hcc, (m2.mono (fun _ z => z.elim) (fun x hx => hx) (lt w)).trans (m3.mono (fun x hx => hx) (fun x hx => hx.elim) (lt m2.2.1)), by rw [f3, f2, if_pos rfl], fun i hi => by rw [f3, f2, if_neg hi], l3, fun j hj => by rw [e3 j hj, s2.2.1], x3, y3⟩⟩
  have eV : ((V + 1 : Nat) : Int) - 1 = (V : Int) := by omega
  refine k_MM_choose0 hO (i32s (by omega) (by omega)) ?_
  rw [r0]
  refine ⟨gp.1, (w.nu i1).1, rd i1 (by omega) (fun s hs is => ⟨is, hO, w.1.1, ?_⟩)⟩
  have hs' : s = so M g n := hs
  rw [r21, hV, r4, r5, eV]
  refine ⟨n97.1, by rw [n97.2]; omega, fun v10 h10 => ⟨gp.1, (w.nu i9).1, rd i9 (by omega) (fun x18 h18 i18 => ⟨i18, hO, (w.nu i11).1, ?_⟩)⟩⟩
  have cz := (cmpz (mL M (a + 97) (V : Int).toNat) 1).2.2.2.1
  rw [Int.toNat_natCast] at cz h10
  have t10 : v10 = 1 ↔ mL M (a + 97) V = 1 := by split at h10 <;> omega
  have t11 : v10 = 0 ∨ v10 = 1 := by split at h10 <;> omega
  have e18 : x18 = (c1 : Int) := h18.trans h1
  subst e18
  refine rd i11 (by omega) (fun x22 h22 i22 => ⟨i22, hO, fun q => ⟨w.1.1, ?_⟩, fun q v54 h54 => ⟨fun q9 => ⟨w.1.1, ?_⟩, fun q9 => ⟨hO, Or.inl ⟨by rw [← hs']; exact q, by rw [← hs']; split at h54 <;> omega, rfl⟩⟩⟩⟩)
  · have e22 : x22 = (c2 : Int) := h22.trans h2
    subst e22
    rw [hV, eV]
    refine ⟨⟨by omega, by omega⟩, fun M2 e2 => ⟨fun q0 => ?_, fun q0 => go M2 _ i22 e2 (Or.inl ⟨rfl, Or.inl ⟨by rw [← hs']; exact q, by omega⟩⟩)⟩⟩
    obtain ⟨m2, f2⟩ := mv_fld (v := (V : Int)) ⟨by omega, by omega⟩ hO w e2
    have w2 := m2.2.1
    have gp2 := w2.gp hg
    have s11 := m2.lst i11 (fun z => z)
    rw [show mR M2 g 5 = g + 11 from gp2.2.1.2.2.2.2.2.1]
    refine ⟨gp2.1, (w2.nu i11).1, (s_MN_at m2.1 (w2.nu i11) (by rw [s11.1]; omega)).mono (fun z M3 e3 => ?_)⟩
    obtain ⟨e3, hz⟩ := e3
    subst e3
    have iz : i32 z := by rw [hz]; exact (m2.1 _ _).1
    exact ⟨iz, m2.1, w2.1.1, go M3 z iz e2 (Or.inr ⟨by rw [← hs']; exact q, by rw [hz, s11.2.1], by omega⟩)⟩
  · have e22 : x22 = (c2 : Int) := h22.trans h2
    subst e22
    rw [hV, eV]
    exact ⟨⟨by omega, by omega⟩, fun M2 e2 => go M2 _ i22 e2 (Or.inl ⟨rfl, Or.inr ⟨by rw [← hs']; exact q, by rw [← hs']; split at h54 <;> omega⟩⟩)⟩
end FNX
end
section
/-! What the parts of a node are worth. -/
section PTV
variable {w pl nv S A V F B : Nat → Int} {cv : Nat → vrs}
noncomputable abbrev vlr (w : Nat → Int) (cv : Nat → vrs) (pl : Nat → Int) (r : Nat × Nat) : vrs := vlq w cv pl 0 0 r.1 r.2
/-- the first of some rules that has a fault; (0, 0, 1): none -/
noncomputable def vft (w : Nat → Int) (cv : Nat → vrs) (pl : Nat → Int) : List (Nat × Nat) → vrs
  | [] => (0, 0, 1)
  | r :: rs => if (vlr w cv pl r).1 = 0 then vft w cv pl rs else vlr w cv pl r
/-- all of them, one after another, and then f -/
noncomputable def vsq (w : Nat → Int) (cv : Nat → vrs) (pl : Nat → Int) (rs : List (Nat × Nat)) (f : (Nat → vrs) → vrs) : vrs := if (vft w cv pl rs).1 = 0 then f (fun j => vlr w cv pl (rs.getD j (0, 0))) else vft w cv pl rs
theorem vft_app : ∀ (rs rs' : List (Nat × Nat)), vft w cv pl (rs ++ rs') = if (vft w cv pl rs).1 = 0 then vft w cv pl rs' else vft w cv pl rs
  | [], rs' => by show _ = if (0 : Int) = 0 then _ else _; rw [if_pos rfl]; rfl
  | r :: rs, rs' => by
    show (if (vlr w cv pl r).1 = 0 then vft w cv pl (rs ++ rs') else vlr w cv pl r) = if (if (vlr w cv pl r).1 = 0 then vft w cv pl rs else vlr w cv pl r).1 = 0 then vft w cv pl rs' else if (vlr w cv pl r).1 = 0 then vft w cv pl rs else vlr w cv pl r
    rw [vft_app rs rs']
    by_cases c : (vlr w cv pl r).1 = 0
    · rw [if_pos c, if_pos c]
    · rw [if_neg c, if_neg c, if_neg c]
theorem vr_eta {v : vrs} (h : v.1 = 0) : v = (0, v.2.1, v.2.2) := by rw [← h]
theorem vft_1 {r : Nat × Nat} : vft w cv pl [r] = if (vlr w cv pl r).1 = 0 then (0, 0, 1) else vlr w cv pl r := rfl
theorem bsq_0 {x : Int} {A B : Nat → Int} {k : Nat} : ∀ n, (bsq x A B k n).1 = 0
  | 0 => rfl
  | n + 1 => by
    rw [bsq]
    unfold vbs
    split <;> split <;> rfl
theorem tv_list {y : Int} : ∀ (f c i j : Nat), 2 * (j - i) + c ≤ f → Eoc w c i j → c = 1 → ∀ (x : Int) (n e : Nat), Td w pl nv S A V F B c x i j n e → ∃ rs : List (Nat × Nat), rs ≠ [] ∧ (∀ r, r ∈ rs → Eo w 6 r.1 r.2) ∧ Tbq w pl nv S A V F B x rs n e ∧ vlq w cv pl 1 y i j = vsq w cv pl rs (fun u => bsq y (fun j => (u j).2.1) (fun j => (u j).2.2) 0 (rs.length - 1)) := by
  refine Eo_ind (P := fun c i j => c = 1 → ∀ (x : Int) (n e : Nat), Td w pl nv S A V F B c x i j n e → ∃ rs : List (Nat × Nat), rs ≠ [] ∧ (∀ r, r ∈ rs → Eo w 6 r.1 r.2) ∧ Tbq w pl nv S A V F B x rs n e ∧ vlq w cv pl 1 y i j = vsq w cv pl rs (fun u => bsq y (fun j => (u j).2.1) (fun j => (u j).2.2) 0 (rs.length - 1))) ?_ ?_ ?_ ?_ ?_ ?_ ?_ ?_
  · intros; omega
  · intros; omega
  · intros; omega
  · intros; omega
  · intros; omega
  · intros; omega
  · intro i j h1 h2 he i1 _ x n e ht
    rw [Td_l1 h1 h2] at ht
    refine ⟨[(i, j)], by simp, fun r hr => by rw [List.mem_singleton.1 hr]; exact he, ht, ?_⟩
    rw [vl_l1 h1 h2]
    unfold vsq
    rw [vft_1]
    by_cases c : (vlr w cv pl (i, j)).1 = 0
    · rw [if_pos c, if_pos rfl]
      exact vr_eta c
    · rw [if_neg c, if_neg c]
  · intro i m j h1 h2 h3 h4 h5 o1 o2 i1 i2 _ x n e ht
    rw [Td_ln h1 h4 h2] at ht
    obtain ⟨k, t1, t2, b1⟩ := ht
    obtain ⟨rs, r1, r2, r3, r4⟩ := i1 rfl _ _ _ t1
    refine ⟨rs ++ [(m + 1, j)], by simp, fun r hr => ?_, r3.app rs t2 b1, ?_⟩
    · rcases List.mem_append.1 hr with q | q
      · exact r2 r q
      · rw [List.mem_singleton.1 q]; exact o2
    · rw [vl_ln h1 h4 h2, r4]
      have l1 : 1 ≤ rs.length := by
        cases rs with
        | nil => exact absurd rfl r1
        | cons r rs => simp
      have gl : ∀ t, t < rs.length → (rs ++ [(m + 1, j)]).getD t (0, 0) = rs.getD t (0, 0) := fun t h => by
        rw [List.getD_eq_getElem?_getD, List.getD_eq_getElem?_getD, List.getElem?_append_left h]
      have gr : (rs ++ [(m + 1, j)]).getD rs.length (0, 0) = (m + 1, j) := by
        rw [List.getD_eq_getElem?_getD, List.getElem?_append_right (Nat.le_refl _), Nat.sub_self]
        rfl
      unfold vsq
      rw [vft_app, vft_1]
      by_cases c : (vft w cv pl rs).1 = 0
      · rw [if_pos c, if_pos c]
        rw [vbd, if_pos (bsq_0 _)]
        show vbd (vlr w cv pl (m + 1, j)) _ = _
        by_cases c2 : (vlr w cv pl (m + 1, j)).1 = 0
        · rw [if_pos c2, if_pos rfl, vbd, if_pos c2]
          have e1 : (rs ++ [(m + 1, j)]).length - 1 = (rs.length - 1) + 1 := by simp; omega
          show vbs y _ _ _ _ = bsq y _ _ 0 ((rs ++ [(m + 1, j)]).length - 1)
          rw [e1, bsq]
          have e2 : 0 + (rs.length - 1) + 1 = rs.length := by omega
          rw [e2]
          simp only [gr]
          have e3 : bsq y (fun j' => (vlr w cv pl ((rs ++ [(m + 1, j)]).getD j' (0, 0))).2.1) (fun j' => (vlr w cv pl ((rs ++ [(m + 1, j)]).getD j' (0, 0))).2.2) 0 (rs.length - 1) = bsq y (fun j' => (vlr w cv pl (rs.getD j' (0, 0))).2.1) (fun j' => (vlr w cv pl (rs.getD j' (0, 0))).2.2) 0 (rs.length - 1) := bsq_cg _ (fun j' hj => by
            show (vlr w cv pl ((rs ++ [(m + 1, j)]).getD (0 + j') (0, 0))).2.1 = (vlr w cv pl (rs.getD (0 + j') (0, 0))).2.1 ∧ _
            rw [gl (0 + j') (by omega)]
            exact ⟨rfl, rfl⟩)
          rw [e3]
        · rw [if_neg c2, if_neg c2, vbd, if_neg c2]
      · rw [if_neg c, if_neg c, if_neg c, vbd, if_neg c]
/-- a leaf, or a node with parts: what it is worth -/
theorem tv_node : ∀ (f c i j : Nat), 2 * (j - i) + c ≤ f → Eoc w c i j → c = 0 → ∀ (x x' : Int) (n e : Nat), Td w pl nv S A V F B c x i j n e →
    (F n = -1 ∧ e = n + 1 ∧ ∃ k, (w k = 1 ∨ w k = 2 ∨ w k = 12 ∨ w k = 13) ∧ S n = w k ∧ V n = nv k ∧ vlq w cv pl 0 x' i j = cv k)
    ∨ (F n = ((n + 1 : Nat) : Int) ∧ ∃ rs : List (Nat × Nat), rs ≠ [] ∧ (∀ r, r ∈ rs → Eo w 6 r.1 r.2) ∧ Tbq w pl nv S A V F B (-1) rs (n + 1) e ∧ (S n ≠ 1 ∧ S n ≠ 2 ∧ S n ≠ 12 ∧ S n ≠ 13) ∧ (((S n ≠ 29 ∧ S n ≠ 30 ∧ S n ≠ 32) ∧ vlq w cv pl 0 x' i j = vsq w cv pl rs (fnv (S n) (A n) rs.length)) ∨ ((S n = 29 ∨ S n = 30) ∧ ∃ r1 r2, rs = [r1, r2] ∧ vlq w cv pl 0 x' i j = vbd (vlr w cv pl r1) (fun a b => if S n = 29 ↔ a = 0 then (0, a, b) else vlr w cv pl r2)) ∨ (S n = 32 ∧ ∃ r1 r2 r3, rs = [r1, r2, r3] ∧ vlq w cv pl 0 x' i j = vbd (vlr w cv pl r1) (fun a _ => if a = 0 then vlr w cv pl r3 else vlr w cv pl r2)))) := by
  refine Eo_ind (P := fun c i j => c = 0 → ∀ (x x' : Int) (n e : Nat), Td w pl nv S A V F B c x i j n e → (F n = -1 ∧ e = n + 1 ∧ ∃ k, (w k = 1 ∨ w k = 2 ∨ w k = 12 ∨ w k = 13) ∧ S n = w k ∧ V n = nv k ∧ vlq w cv pl 0 x' i j = cv k) ∨ (F n = ((n + 1 : Nat) : Int) ∧ ∃ rs : List (Nat × Nat), rs ≠ [] ∧ (∀ r, r ∈ rs → Eo w 6 r.1 r.2) ∧ Tbq w pl nv S A V F B (-1) rs (n + 1) e ∧ (S n ≠ 1 ∧ S n ≠ 2 ∧ S n ≠ 12 ∧ S n ≠ 13) ∧ (((S n ≠ 29 ∧ S n ≠ 30 ∧ S n ≠ 32) ∧ vlq w cv pl 0 x' i j = vsq w cv pl rs (fnv (S n) (A n) rs.length)) ∨ ((S n = 29 ∨ S n = 30) ∧ ∃ r1 r2, rs = [r1, r2] ∧ vlq w cv pl 0 x' i j = vbd (vlr w cv pl r1) (fun a b => if S n = 29 ↔ a = 0 then (0, a, b) else vlr w cv pl r2)) ∨ (S n = 32 ∧ ∃ r1 r2 r3, rs = [r1, r2, r3] ∧ vlq w cv pl 0 x' i j = vbd (vlr w cv pl r1) (fun a _ => if a = 0 then vlr w cv pl r3 else vlr w cv pl r2))))) ?_ ?_ ?_ ?_ ?_ ?_ ?_ ?_
  · intro i m q j h1 h2 h3 h4 h5 h6 h7 h8 o1 o2 o3 _ _ _ _ x x' n e ht
    rw [Td_ask h1 h2 h3 h6 h8] at ht
    obtain ⟨a, b, ⟨s1, s2, s3⟩, t1, b1, t2, b2, t3, b3⟩ := ht
    refine Or.inr ⟨s3, [(i, m), (m + 1, q), (q + 1, j)], by simp, fun r hr => ?_, ⟨a, t1, b1, b, t2, b2, t3, b3⟩, by omega, Or.inr (Or.inr ⟨by rw [s1]; exact h6, _, _, _, rfl, vl_ask h1 h2 h3 h6 h8⟩)⟩
    simp at hr
    rcases hr with hr | hr | hr <;> subst hr
    · exact o1
    · exact o2
    · exact o3
  · intro i m j h1 h2 h3 h4 o1 o2 _ _ _ x x' n e ht
    rw [Td_bin h1 h2 h3 (by omega)] at ht
    obtain ⟨a, ⟨s1, s2, s3⟩, t1, b1, t2, b2⟩ := ht
    refine Or.inr ⟨s3, [(i, m), (m + 1, j)], by simp, fun r hr => ?_, ⟨a, t1, b1, t2, b2⟩, by omega, ?_⟩
    · simp at hr
      rcases hr with hr | hr <;> subst hr
      · exact o1
      · exact o2
    · by_cases c29 : w m = 29
      · refine Or.inr (Or.inl ⟨by omega, _, _, rfl, ?_⟩)
        rw [vl_and h1 h2 h3 c29]
        congr 1
        funext a b
        have : S n = 29 := by omega
        simp [this]
      · by_cases c30 : w m = 30
        · refine Or.inr (Or.inl ⟨by omega, _, _, rfl, ?_⟩)
          rw [vl_or h1 h2 h3 c30]
          congr 1
          funext a b
          have : ¬ S n = 29 := by omega
          by_cases a0 : a = 0 <;> simp [this, a0]
        · refine Or.inl ⟨by omega, ?_⟩
          rw [vl_bin h1 h2 h3 (by omega) c29 c30]
          unfold vsq
          show _ = if (if (vlr w cv pl (i, m)).1 = 0 then (if (vlr w cv pl (m + 1, j)).1 = 0 then ((0, 0, 1) : vrs) else vlr w cv pl (m + 1, j)) else vlr w cv pl (i, m)).1 = 0 then _ else (if (vlr w cv pl (i, m)).1 = 0 then (if (vlr w cv pl (m + 1, j)).1 = 0 then ((0, 0, 1) : vrs) else vlr w cv pl (m + 1, j)) else vlr w cv pl (i, m))
          by_cases c1 : (vlr w cv pl (i, m)).1 = 0
          · rw [vbd, if_pos c1, if_pos c1]
            by_cases c2 : (vlr w cv pl (m + 1, j)).1 = 0
            · rw [vbd, if_pos c2, if_pos c2, if_pos rfl]
              unfold fnv
              rw [if_neg (by omega), if_neg (by omega), if_neg (by omega), s1, s2]
              rfl
            · rw [vbd, if_neg c2, if_neg c2, if_neg c2]
          · rw [vbd, if_neg c1, if_neg c1, if_neg c1]
  · intro i j h1 h2 h3 _ _ i1 _ x x' n e ht
    rw [Td_par h1 h2 h3] at ht
    rw [vl_par h1 h2 h3]
    exact i1 rfl _ 0 _ _ ht
  · intro i j h1 h2 h3 o1 _ _ x x' n e ht
    rw [Td_pre h1 h2 h3] at ht
    obtain ⟨⟨s1, s2, s3⟩, t1, b1⟩ := ht
    have s4 : S n = 45 ∨ S n = 31 := by rw [s1]; split <;> simp
    refine Or.inr ⟨s3, [(i + 1, j)], by simp, fun r hr => by rw [List.mem_singleton.1 hr]; exact o1, ⟨t1, b1⟩, by omega, Or.inl ⟨by omega, ?_⟩⟩
    unfold vsq
    rw [vft_1]
    rcases h3 with h3 | h3
    · rw [if_pos h3] at s1
      rw [vl_neg h1 h2 h3]
      by_cases c1 : (vlr w cv pl (i + 1, j)).1 = 0
      · rw [vbd, if_pos c1, if_pos c1, if_pos rfl]
        unfold fnv
        rw [if_neg (by omega), if_pos s1]
        rfl
      · rw [vbd, if_neg c1, if_neg c1, if_neg c1]
    · rw [if_neg (by omega)] at s1
      rw [vl_not h1 h2 h3]
      by_cases c1 : (vlr w cv pl (i + 1, j)).1 = 0
      · rw [vbd, if_pos c1, if_pos c1, if_pos rfl]
        unfold fnv
        rw [if_pos s1]
        rfl
      · rw [vbd, if_neg c1, if_neg c1, if_neg c1]
  · intro i h1 h3 _ x x' n e ht
    rw [Td_leaf h1 (by omega) h3] at ht
    obtain ⟨rfl, s1, s2, s3, s4⟩ := ht
    exact Or.inl ⟨s3, rfl, i, h3, s1, s4, vl_leaf h1 (by omega) h3⟩
  · intro i j h1 h2 h3 _ o7 _ _ x x' n e ht
    rw [Td_lst h1 h2 h3] at ht
    obtain ⟨⟨s1, s2, s3⟩, t1⟩ := ht
    obtain ⟨rs, r1, r2, r3, r4⟩ := tv_list (cv := cv) (y := w i) _ 1 (i + 2) (j - 1) (Nat.le_refl _) (Or.inr ⟨rfl, o7⟩) rfl _ _ _ t1
    refine Or.inr ⟨s3, rs, r1, r2, r3, by omega, Or.inl ⟨by omega, ?_⟩⟩
    rw [vl_lst h1 h2 h3, r4]
    unfold vsq fnv
    rw [if_neg (show ¬ S n = 31 by omega), if_neg (show ¬ S n = 45 by omega), if_pos (show S n = 14 ∨ S n = 15 by omega), s1]
  · intros; omega
  · intros; omega
end PTV
end
