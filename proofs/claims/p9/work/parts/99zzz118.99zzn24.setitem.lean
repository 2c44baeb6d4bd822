/-! The reference's sets of a branch, exactly. -/
section SNX
variable {G : mG} {d a g R W C T Z T2 T3 Z2 Z0 N K : Nat} {M M2 M3 : mM} {E : Eg9} {tg : Int} {nms : List nm9} {seen : List Nat}
theorem smx_rf (x : Nat) : smx M a x x := ⟨rfl, fun _ _ => rfl⟩
/-- which vars the branch has set -/
def SNq (M2 : mM) (a g K : Nat) (nms : List nm9) (Z0 Z2 : Nat) (seen : List Nat) : Prop := ∀ (q : Nat) (e : nm9), q < K → nms[q]? = some e → e.2.1 = 3 → (e.1 ∈ seen ↔ ∃ i : Nat, Z0 ≤ i ∧ i < Z2 ∧ nt M2 (g + 30) i = nt M2 (a + 89) q)
theorem SNq.nil : SNq M2 a g K nms Z2 Z2 [] := fun q e _ _ _ => ⟨fun z => absurd z (by simp), fun ⟨i, h1, h2, _⟩ => by omega⟩
theorem SNq.cons {q : Nat} {e : nm9} (sn : SNq M2 a g K nms Z0 Z2 seen) (rs : RSq M2 a g K nms) (hZ : Z0 ≤ Z2) (hq : q < K) (he : nms[q]? = some e) (h3 : e.2.1 = 3) (h30 : nt M3 (g + 30) Z2 = nt M2 (a + 89) q) (hi : ∀ i : Nat, i < Z2 → nt M3 (g + 30) i = nt M2 (g + 30) i) (h89 : ∀ q, q < K → nt M3 (a + 89) q = nt M2 (a + 89) q) : SNq M3 a g K nms Z0 (Z2 + 1) (e.1 :: seen) := by
  intro q' e' hq' he' h3'
  obtain ⟨x1, f1, f2, f3, -⟩ := rs.2.1 q hq
  obtain ⟨x2, k1, k2, k3, -⟩ := rs.2.1 q' hq'
  have ex1 : x1 = e := by rw [he] at f1; exact (Option.some.inj f1).symm
  have ex2 : x2 = e' := by rw [he'] at k1; exact (Option.some.inj k1).symm
  subst ex1 ex2
  have s3 : nt M2 (a + 87) q = 3 := by rw [f3, h3]; rfl
  have s3' : nt M2 (a + 87) q' = 3 := by rw [k3, h3']; rfl
  have same : q' = q ∨ nt M2 (a + 89) q' ≠ nt M2 (a + 89) q := by
    rcases Nat.lt_trichotomy q' q with z | z | z
    · exact Or.inr (rs.2.2.2 q' q z hq s3' s3)
    · exact Or.inl z
    · exact Or.inr (fun y => rs.2.2.2 q q' z hq' s3 s3' y.symm)
  have word : x2.1 = x1.1 → q' = q := fun y => by
    have e85 : nt M2 (a + 85) q' = nt M2 (a + 85) q := by rw [k2, f2, y]
    rcases Nat.lt_trichotomy q' q with z | z | z
    · have := rs.2.2.1 q' q z hq
      rw [e85] at this
      exact absurd (smx_rf _) this
    · exact z
    · have := rs.2.2.1 q q' z hq'
      rw [e85] at this
      exact absurd (smx_rf _) this
  rw [h89 q' hq', List.mem_cons]
  constructor
  · rintro (y | y)
    · have := word y
      subst this
      exact ⟨Z2, hZ, by omega, h30⟩
    · obtain ⟨i, i1, i2, i3⟩ := (sn q' x2 hq' he' h3').1 y
      exact ⟨i, i1, by omega, by rw [hi i i2]; exact i3⟩
  · rintro ⟨i, i1, i2, i3⟩
    by_cases c : i = Z2
    · subst c
      rcases same with z | z
      · subst z
        rw [he] at he'
        exact Or.inl (by rw [Option.some.inj he'])
      · exact absurd (i3.symm.trans h30) z
    · exact Or.inr ((sn q' x2 hq' he' h3').2 ⟨i, i1, by omega, by rw [← hi i (by omega)]; exact i3⟩)
/-- a set item has been read, exactly -/
def seX (M : mM) (a g N K R W C : Nat) (E : Eg9) (tg : Int) (p c T2 Z0 Z2 Tm : Nat) (nms : List nm9) (seen : List Nat) (M2 : mM) (x : Int) (M3 : mM) : Prop := siQ M a g N K R W C E tg c T2 Z2 Tm M2 x M3 ∧ (((stf (wk M a) (nt M (a + 7)) (smx M a) nms p c seen).1 ≠ 0 ∧ fpw M3 a (stf (wk M a) (nt M (a + 7)) (smx M a) nms p c seen)) ∨ ((stf (wk M a) (nt M (a + 7)) (smx M a) nms p c seen).1 = 0 ∧ mI M3 a 16 = 0 ∧ RSq M3 a g K nms ∧ ln M3 (g + 30) = (Z2 + 1 : Nat) ∧ (∃ e, fnd9 (smx M a) nms (p + 1) = some e ∧ SNq M3 a g K nms Z0 (Z2 + 1) (e.1 :: seen)) ∧ ∀ T3, Lc M3 a g N T3 K → RSs E.2 M3 g R W T3 E.1 Z2 (vix9 (smx M a) nms (p + 1), p + 4, c, p)))
theorem x_MM_setItem {gm : gm9} {p c Tm : Nat} (eγ : E.2 = txg M a N nms gm) (wM : Wd M a) (hc : cI M a g N K R W C E tg T2 Z2 M2) (rs : RSq M2 a g K nms) (sn : SNq M2 a g K nms Z0 Z2 seen) (z2 : mI M2 a 16 = 0) (w0 : wk M a p = 36) (w1 : wk M a (p + 1) = 1) (w2' : wk M a (p + 2) = 38) (w3 : wk M a (p + 3) = 23) (he : Eo (wk M a) 6 (p + 4) c) (w4 : wk M a c = 37) (hcN : c < N) (hT2 : T2 ≤ p) (hZ2 : Z2 ≤ 16384) (hZ0 : Z0 ≤ Z2) (hTm : c - (p + 4) ≤ Tm) : Ci G y_MM_setItem (d + 8) [vr a, vi p, vi Z0] M2 (fun x M3 => i32 x ∧ mOk M3 ∧ seX M a g N K R W C E tg p c T2 Z0 Z2 Tm nms seen M2 x M3) := by
  obtain ⟨L2, I2, ⟨g2, g6, g12⟩, ⟨z30, z32, z34⟩, D2⟩ := id hc
  have hN := L2.2.1.1.2.2
  have w2 := L2.2.1.1.1
  have hg := L2.2.2.2.2.2.1
  have sx2 := I2.sx wM hg
  have hlt := he.pr.1
  have hB := (D2 z2).1
  have hnm := L2.2.2.1
  have hK := hnm.2.2.2.1
  have l87 := hnm.2.1
  have l89 := hnm.2.2.1
  obtain ⟨-, s1, s2⟩ := Sg.set w0 w1 w2' w3 he w4
  have p1N : p + 1 < N := by omega
  have ic : i32 (c : Int) := i32s (by omega) (by omega)
  refine k_MM_setItem L2.1 (i32s (by omega) (by omega)) (i32s (by omega) (by omega)) ⟨w2.1.1, L2.co (d := d + 5) (by omega) hcN (by rw [sx2.1]; exact s1) (by rw [sx2.1]; exact s2) ⟨ic, L2.1, w2.1.1, ?_⟩⟩
  rw [show (p : Int) + 1 = ((p + 1 : Nat) : Int) by omega]
  have flt : stf (wk M a) (nt M (a + 7)) (smx M a) nms p c seen = (2, nt M (a + 7) (p + 1)) → Ci G y_MM_place0 (d + 7) [vr a, vi ((p + 1 : Nat) : Int)] M2 (fun x13 M12 => i32 x13 ∧ mOk M12 ∧ (mK M12 a = 14 ∧ Cv G y_MM_stop (d + 7) [vr a, vi 2, vi x13] M12 (fun M16 => mOk M16 ∧ (i32 (c : Int) ∧ mOk M16 ∧ seX M a g N K R W C E tg p c T2 Z0 Z2 Tm nms seen M2 c M16)))) := fun ef => by
    refine (s_MM_place0 (d := d + 6) L2.1 L2.2.1 p1N).mono (fun y M5 h5 => ?_)
    obtain ⟨e5, hy⟩ := h5
    subst e5
    have hy32 : i32 y := by rw [hy]; exact (L2.1 _ _).1
    refine ⟨hy32, L2.1, w2.1.1, (s_MM_stop ⟨by decide, by decide⟩ hy32 L2.1 w2).mono (fun M6 h6 => ⟨h6.1.1, ic, h6.1.1, si_stop hc (by decide) h6, Or.inl ?_⟩)⟩
    rw [ef]
    exact ⟨by simp, h6.2.1, by rw [h6.2.2.1, hy, sx2.2.1]⟩
  refine L2.fdx (d := d + 4) p1N (fun r r0 r1 rf => ⟨i32s (by omega) (by omega), L2.1, fun q => ⟨w2.1.1, flt ?_⟩, fun q => ⟨w2.1.1, ?_⟩⟩)
  · have hnone := (rs.kw rf).1 (by omega)
    rw [sx2.sm] at hnone
    unfold stf
    rw [hnone]
  rcases rs.fnd (p + 1) with ⟨y1, -⟩ | ⟨n, e, y1, hnK, y3, y4⟩
  · rw [← fdn_un rf] at y1; omega
  have hn : r = (n : Int) := by rw [fdn_un rf]; exact y1
  subst hn
  rw [sx2.sm] at y4
  obtain ⟨e', f1, f2, f3, f4, f5, -⟩ := rs.2.1 n hnK
  have ee : e' = e := by rw [y3] at f1; exact (Option.some.inj f1).symm
  subst ee
  obtain ⟨-, hk, -⟩ := hnm.2.2.2.2 n hnK
  rw [show mR M2 a 14 = a + 87 from w2.1.2.2.2.2.1.2.1]
  refine ⟨(w2.nu n87).1, L2.rd n87 (by rw [l87]; omega) (fun s hs is => ⟨is, L2.1, fun q3 => ⟨w2.1.1, ?_⟩, fun q3 => ⟨w2.1.1, flt ?_⟩⟩)⟩
  rotate_left
  · unfold stf
    rw [y4]
    have : e'.2.1 ≠ 3 := fun z => q3 (by rw [hs, f3, z]; rfl)
    simp only []
    rw [if_pos this]
  rw [show mR M2 a 15 = a + 89 from w2.1.2.2.2.2.1.2.2.1]
  refine ⟨(w2.nu n89).1, L2.rd n89 (by rw [l89]; omega) (fun x hx ix => ⟨ix, L2.1, ?_⟩)⟩
  have s3 : nt M2 (a + 87) n = 3 := by rw [← hs]; exact q3
  have e3 : e'.2.1 = 3 := by rw [f3] at s3; omega
  rw [← hs, ← hx, g12] at hk
  obtain ⟨v, hv, hvW⟩ : ∃ v : Nat, x = (v : Int) ∧ v < W := ⟨x.toNat, by omega, by omega⟩
  subst hv
  have kd : e'.2.2.1 = mI M2 (g + 18) v := by
    rw [f5, if_pos s3, ← hx]
    have b01 := ((D2 z2).2.2.2.1 v hvW).2.2.2.2.2
    unfold tn
    rw [if_pos (show (100 : Int) ≤ 100 + (v : Int) by omega), show (100 + (v : Int) - 100).toNat = v by omega]
    rcases b01 with y | y <;> rw [y] <;> rfl
  have hsn := sn n e' hnK y3 e3
  rw [← hx] at hsn
  have ef : stf (wk M a) (nt M (a + 7)) (smx M a) nms p c seen = if e'.1 ∈ seen then (4, nt M (a + 7) (p + 1)) else rf9 (wk M a) (nt M (a + 7)) (smx M a) nms 0 e'.2.2.1 (p + 4) c := by
    unfold stf
    rw [y4]
    simp only []
    rw [if_neg (fun z => z e3)]
  have hvx : v = vix9 (smx M a) nms (p + 1) := by
    have := rs.vix y1 hnK y3 e3
    rw [← hx, sx2.sm] at this
    omega
  refine x_si61 (F := stf (wk M a) (nt M (a + 7)) (smx M a) nms p c seen) (Z0 := Z0) (fun x M3 h3 => ?_) eγ wM hc rs z2 hvW he hcN hT2 hZ2 hTm (fun z => ?_) (fun z => ?_) (Z2 - Z0) Z0 (by omega) (Nat.le_refl _) (fun j _ _ => by omega)
  · obtain ⟨u1, u2, u3, u4⟩ := h3
    refine ⟨u1, u2, u3, ?_⟩
    rcases u4 with u4 | ⟨k1, k2, k3, k4, k5, k6, k7, k8⟩
    · exact Or.inl u4
    · exact Or.inr ⟨k1, k2, k3, k4, ⟨e', y4, sn.cons rs hZ0 hnK y3 e3 (by rw [k5]; exact hx) k6 k7⟩, by rw [← hvx]; exact k8⟩
  · rw [ef, if_pos (hsn.2 z)]
  · rw [ef, if_neg (fun y => by
      obtain ⟨i, i1, i2, i3⟩ := hsn.1 y
      exact z i i1 i2 i3), kd]
/-- one step of the sets -/
theorem sef_s {w pl : Nat → Int} {sm : Nat → Nat → Prop} {f k c : Nat} (hc : cpq w (k + 4) N = c) : sef w pl sm N nms (f + 1) k seen = if (stf w pl sm nms k c seen).1 ≠ 0 then (stf w pl sm nms k c seen, k) else match fnd9 sm nms (k + 1) with
  | none => ((0, 0), k)
  | some e => if w (c + 1) = 29 then sef w pl sm N nms f (c + 2) (e.1 :: seen) else ((0, 0), c + 1) := by
  rw [sef, hc]
  unfold stf
  cases h : fnd9 sm nms (k + 1) with
  | none => simp
  | some e =>
    simp only []
    by_cases c1 : e.2.1 ≠ 3
    · rw [if_pos c1, if_pos c1, if_pos (by simp)]
    · rw [if_neg c1, if_neg c1]
      by_cases c2 : e.1 ∈ seen
      · rw [if_pos c2, if_pos c2, if_pos (by simp)]
      · rw [if_neg c2, if_neg c2]
end SNX
