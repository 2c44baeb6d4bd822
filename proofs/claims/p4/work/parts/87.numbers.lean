/-! Frames with new cells; the reference's growing lists. -/
/-- P: lists that may have grown; S: other cells whose numbers may have changed -/
def FN (P S : Nat → Prop) (M M' : mM) : Prop := (mZ M ≤ mZ M' ∧ ∀ p, P p → p < mZ M) ∧ (∀ x, x < mZ M → mK M' x = mK M x ∧ mN M' x = mN M x) ∧ (∀ x, x < mZ M → ¬ P x → mR M' x = mR M x) ∧ (∀ x, x < mZ M → ¬ P x → (∀ p, P p → x ≠ mR M p 0) → ¬ S x → mI M' x = mI M x ∧ mL M' x = mL M x) ∧ (∀ p, P p → mR M' p 0 = mR M p 0 ∨ mZ M ≤ mR M' p 0)
section FN
variable {P S P' S' : Nat → Prop} {M M1 M2 : mM}
theorem FN.refl (h : ∀ p, P p → p < mZ M) : FN P S M M := ⟨⟨Nat.le_refl _, h⟩, fun _ _ => ⟨rfl, rfl⟩, fun _ _ _ => rfl, fun _ _ _ _ _ => ⟨rfl, rfl⟩, fun _ _ => Or.inl rfl⟩
theorem FN.trans (h : FN P S M M1) (k : FN P S M1 M2) : FN P S M M2 := by
  obtain ⟨⟨h1, h0⟩, h2, h3, h4, h5⟩ := h
  obtain ⟨⟨k1, k0⟩, k2, k3, k4, k5⟩ := k
  refine ⟨⟨by omega, h0⟩, fun x hx => ⟨((k2 x (by omega)).1).trans (h2 x hx).1, ((k2 x (by omega)).2).trans (h2 x hx).2⟩, fun x hx hp => (k3 x (by omega) hp).trans (h3 x hx hp), fun x hx hp hq hs => ?_, fun p hp => ?_⟩
  · have a := h4 x hx hp hq hs
    have b := k4 x (by omega) hp (fun p hp2 e => by
      rcases h5 p hp2 with w | w
      · exact hq p hp2 (e.trans w)
      · omega) hs
    exact ⟨b.1.trans a.1, b.2.trans a.2⟩
  · rcases h5 p hp with w | w
    · rcases k5 p hp with u | u
      · exact Or.inl (u.trans w)
      · exact Or.inr (by omega)
    · rcases k5 p hp with u | u
      · exact Or.inr (by omega)
      · exact Or.inr (by omega)
theorem FN.mono (h : FN P S M M1) (hp : ∀ p, P p → P' p) (hs : ∀ x, S x → S' x) (h0 : ∀ p, P' p → p < mZ M) : FN P' S' M M1 := by
  obtain ⟨⟨h1, -⟩, h2, h3, h4, h5⟩ := h
  refine ⟨⟨h1, h0⟩, h2, fun x hx hq => h3 x hx (fun w => hq (hp x w)), fun x hx hq hr hs' => h4 x hx (fun w => hq (hp x w)) (fun p w => hr p (hp p w)) (fun w => hs' (hs x w)), fun p hq => ?_⟩
  by_cases z : P p
  · exact h5 p z
  · exact Or.inl (by rw [h3 p (h0 p hq) z])
theorem FI.fn (h : FI S M M1) : FN (fun _ => False) S M M1 := by
  obtain ⟨h1, h2, h3, h4, h5, h6, h7⟩ := h
  exact ⟨⟨by rw [h5]; exact Nat.le_refl _, fun p q => q.elim⟩, fun x _ => ⟨by rw [h1], by rw [h2]⟩, fun x _ _ => by rw [h3], fun x _ _ _ q => ⟨h7 x q, by rw [h4]⟩, fun p q => q.elim⟩
end FN
/-- how much a list holds, at most -/
def cp (M : mM) (p : Nat) : Nat := mN M (mR M p 0)
/-- a growing list -/
def Nu (M : mM) (p : Nat) : Prop := mK M p = 15 ∧ mK M (mR M p 0) = 30 ∧ (p < mZ M ∧ mR M p 0 < mZ M) ∧ (0 ≤ mI M p 1 ∧ mI M p 1 ≤ cp M p) ∧ (16 ≤ cp M p ∧ cp M p % 16 = 0 ∧ cp M p ≤ 2097152)
/-- the list's length, and what stands at j -/
def ln (M : mM) (p : Nat) : Int := mI M p 1
def nt (M : mM) (p j : Nat) : Int := mI M (mR M p 0) j
def psum (f : Nat → Nat) : List Nat → Nat
  | [] => 0
  | a :: l => f a + psum f l
theorem psum_congr {f g : Nat → Nat} : ∀ (l : List Nat), (∀ q, q ∈ l → f q = g q) → psum f l = psum g l
  | [], _ => rfl
  | a :: l, h => by rw [psum, psum, h a (List.mem_cons_self ..), psum_congr l (fun q hq => h q (List.mem_cons_of_mem _ hq))]
theorem psum_one {f g : Nat → Nat} {p : Nat} : ∀ (l : List Nat), l.Nodup → p ∈ l → (∀ q, q ∈ l → q ≠ p → g q = f q) → psum g l + f p = psum f l + g p
  | [], _, hp, _ => by simp at hp
  | a :: l, hn, hp, h => by
    rw [psum, psum]
    have hn' := List.nodup_cons.1 hn
    by_cases z : a = p
    · subst z
      rw [psum_congr l (fun q hq => h q (List.mem_cons_of_mem _ hq) (fun w => hn'.1 (by rw [← w]; exact hq)))]
      omega
    · have hp' : p ∈ l := by
        rcases List.mem_cons.1 hp with w | w
        · exact absurd w.symm z
        · exact w
      have a1 := psum_one (f := f) (g := g) l hn'.2 hp' (fun q hq => h q (List.mem_cons_of_mem _ hq))
      rw [h a (List.mem_cons_self ..) z]
      omega
/-- the room that the lists of L have taken -/
def RmL (L : List Nat) (M M' : mM) : Prop := mS M' + 2 * psum (cp M) L ≤ mS M + 2 * psum (cp M') L ∧ mZ M' + psum (fun p => cp M p / 16) L ≤ mZ M + psum (fun p => cp M' p / 16) L
theorem RmL.trans {L : List Nat} {M M1 M2 : mM} (h : RmL L M M1) (k : RmL L M1 M2) : RmL L M M2 := by
  obtain ⟨h1, h2⟩ := h
  obtain ⟨k1, k2⟩ := k
  exact ⟨by omega, by omega⟩
theorem RmL.fi {S : Nat → Prop} {L : List Nat} {M M' : mM} (h : FI S M M') : RmL L M M' := by
  obtain ⟨h1, h2, h3, h4, h5, h6, h7⟩ := h
  have e : cp M' = cp M := by funext p; unfold cp; rw [h2, h3]
  unfold RmL
  rw [e, h5, h6]
  omega
/-- the lists of L lie apart -/
def Apt (L : List Nat) (M : mM) : Prop := ∀ p q, p ∈ L → q ∈ L → p ≠ q → mR M p 0 ≠ mR M q 0
section NU
variable {G : mG} {d p : Nat} {M : mM}
theorem Nu.fn {P S : Nat → Prop} {M' : mM} (h : Nu M p) (f : FN P S M M') (hp : ¬ P p) (ha : ∀ q, P q → mR M p 0 ≠ mR M q 0) (ha2 : ¬ P (mR M p 0)) (hq : ∀ q, P q → p ≠ mR M q 0) (hs : ¬ S p) (hs2 : ¬ S (mR M p 0)) : Nu M' p ∧ ln M' p = ln M p ∧ (∀ j, nt M' p j = nt M p j) ∧ cp M' p = cp M p ∧ mR M' p = mR M p := by
  obtain ⟨h1, h2, ⟨h3, h4⟩, h5, h6⟩ := h
  obtain ⟨⟨f1, f0⟩, f2, f3, f4, f5⟩ := f
  have e1 := f3 p h3 hp
  have e2 := f4 p h3 hp (fun q w => hq q w) hs
  have e3 := f4 (mR M p 0) h4 ha2 ha hs2
  have e4 := f2 p h3
  have e5 := f2 (mR M p 0) h4
  have ec : cp M' p = cp M p := by unfold cp; rw [e1, e5.2]
  refine ⟨⟨by rw [e4.1]; exact h1, by rw [e1, e5.1]; exact h2, ⟨by omega, by rw [e1]; omega⟩, by rw [e2.1, ec]; exact h5, by rw [ec]; exact h6⟩, by unfold ln; rw [e2.1], fun j => by unfold nt; rw [e1, e3.1], ec, e1⟩
/-- what adding leaves behind -/
def adB (B : Nat) (M : mM) (p : Nat) (v : Int) (M' : mM) : Prop := mOk M' ∧ Nu M' p ∧ FN (fun x => x = p) (fun _ => False) M M' ∧ ln M' p = ln M p + 1 ∧ (∀ j : Nat, (j : Int) < ln M p → nt M' p j = nt M p j) ∧ nt M' p (ln M p).toNat = v ∧ (mS M' + 2 * cp M p = mS M + 2 * cp M' p ∧ mZ M' + cp M p / 16 ≤ mZ M + cp M' p / 16) ∧ (cp M' p = cp M p ∨ cp M' p ≤ 2 * B)
def adQ (M : mM) (p : Nat) (v : Int) (M' : mM) : Prop := adB 32768 M p v M'
theorem s_MN_addB {v : Int} {B : Nat} (hv : i32 v) (hO : mOk M) (hN : Nu M p) (hsz : ln M p ≤ B) (hB : B ≤ 65536) : Cv G y_MN_add d [vr p, vi v] M (adB B M p v) := by
  obtain ⟨h1, h2, ⟨h3, h4⟩, ⟨h5, h5'⟩, ⟨h6, h7, h8⟩⟩ := id hN
  unfold ln at hsz
  have hne : p ≠ mR M p 0 := fun w => by rw [← w, h1] at h2; omega
  have ecp : mN M (mR M p 0) = cp M p := rfl
  refine k_MN_add hO hv ⟨h1, h2, ⟨by omega, by omega⟩, fun e => ⟨⟨by omega, by omega⟩, fun M1 e1 => ?_⟩, fun e => ⟨⟨h5, by omega⟩, fun M1 e1 => ?_⟩⟩
  · have o1 : mOk M1 := by rw [e1]; exact mOk_New hO
    have z1 : mZ M1 = mZ M + 1 := by rw [e1]; rfl
    have c1 : mS M1 = mS M + (2 * mI M p 1).toNat := by rw [e1]; rfl
    have k1 : ∀ x, mK M1 x = if x = mZ M then 30 else mK M x := fun x => by rw [e1]; rfl
    have n1 : ∀ x, mN M1 x = if x = mZ M then (2 * mI M p 1).toNat else mN M x := fun x => by rw [e1]; rfl
    have r1 : ∀ x, x < mZ M → mR M1 x = mR M x := fun x hx => by funext j; rw [e1, mR_New, if_neg (by omega)]
    have i1 : ∀ x, x < mZ M → mI M1 x = mI M x := fun x hx => by funext j; rw [e1, mI_New, if_neg (by omega)]
    have l1 : ∀ x, x < mZ M → mL M1 x = mL M x := fun x hx => by funext j; rw [e1, mL_New, if_neg (by omega)]
    clear e1
    suffices H : ∀ (c l : Nat) (M2 : mM), (l : Int) + c = mI M p 1 → mOk M2 → FI (fun x => x = mZ M) M1 M2 → (∀ j, j < l → mI M2 (mZ M) j = mI M (mR M p 0) j) → h_MN_add_23 G d p v (mZ M) l M2 (adB B M p v) from
      H (mI M p 1).toNat 0 M1 (by omega) o1 FI.refl (fun j hj => by omega)
    intro c
    induction c with
    | zero =>
      intro l M2 hl o2 f2 h2'
      obtain ⟨f2k, f2n, f2r, f2l, f2z, f2s, f2i⟩ := f2
      have el : (mI M p 1).toNat = l := by omega
      have ip : mI M2 p = mI M p := by rw [f2i p (by omega)]; exact i1 p h3
      have kp : mK M2 p = 15 := by rw [f2k, k1, if_neg (by omega)]; exact h1
      refine k_MN_add_23 o2 hv ⟨by omega, by omega⟩ ?_
      rw [ip]
      refine ⟨kp, fun _ M3 e3 => ?_, fun w => by omega⟩
      have r3 : ∀ x j, mR M3 x j = if x = p ∧ j = 0 then mZ M else mR M2 x j := fun x j => by rw [e3, mR_UR]
      have o3 : mOk M3 := by rw [e3]; exact mOk_UR o2
      have i3 : mI M3 = mI M2 := by rw [e3]; rfl
      have rp3 : mR M3 p 0 = mZ M := by rw [r3, if_pos ⟨rfl, rfl⟩]
      have k3 : mK M3 = mK M2 := by rw [e3]; rfl
      have n3 : mN M3 = mN M2 := by rw [e3]; rfl
      have kz : mK M3 (mZ M) = 30 := by rw [k3, f2k, k1, if_pos rfl]
      have nz : mN M3 (mZ M) = (2 * mI M p 1).toNat := by rw [n3, f2n, n1, if_pos rfl]
      rw [rp3, i3, ip, el]
      refine ⟨kz, by omega, fun M4 e4 => ?_⟩
      have o4 : mOk M4 := by rw [e4]; exact mOk_UI o3 hv
      have i4 : ∀ x j, mI M4 x j = if x = mZ M ∧ j = l then v else mI M2 x j := fun x j => by rw [e4, mI_UI, i3]
      have ip4 : mI M4 p 1 = mI M p 1 := by rw [i4, if_neg (fun w => by have := w.1; omega), ip]
      refine ⟨by rw [ip4]; exact ⟨by omega, by omega⟩, fun M5 e5 => ?_⟩
      rw [ip4] at e5
      have o5 : mOk M5 := by rw [e5]; exact mOk_UI o4 ⟨by omega, by omega⟩
      have i5 : ∀ x j, mI M5 x j = if x = p ∧ j = 1 then mI M p 1 + 1 else if x = mZ M ∧ j = l then v else mI M2 x j := fun x j => by rw [e5, mI_UI, i4]
      have k5 : ∀ x, mK M5 x = if x = mZ M then 30 else mK M x := fun x => by rw [e5, mK_UI, e4, mK_UI, k3, f2k, k1]
      have n5 : ∀ x, mN M5 x = if x = mZ M then (2 * mI M p 1).toNat else mN M x := fun x => by rw [e5, mN_UI, e4, mN_UI, n3, f2n, n1]
      have r5 : ∀ x j, mR M5 x j = if x = p ∧ j = 0 then mZ M else mR M2 x j := fun x j => by rw [e5, mR_UI, e4, mR_UI, r3]
      have l5 : mL M5 = mL M2 := by rw [e5, mL_UI, e4, mL_UI, e3]; rfl
      have z5 : mZ M5 = mZ M + 1 := by rw [e5, mZ_UI, e4, mZ_UI, e3, mZ_UR, f2z, z1]
      have c5 : mS M5 = mS M + (2 * mI M p 1).toNat := by rw [e5, mS_UI, e4, mS_UI, e3, mS_UR, f2s, c1]
      have rp5 : mR M5 p 0 = mZ M := by rw [r5, if_pos ⟨rfl, rfl⟩]
      have ec : cp M5 p = (2 * mI M p 1).toNat := by unfold cp; rw [rp5, n5, if_pos rfl]
      have il : mI M5 p 1 = mI M p 1 + 1 := by rw [i5, if_pos ⟨rfl, rfl⟩]
      refine ⟨o5, ⟨by rw [k5, if_neg (by omega)]; exact h1, by rw [rp5, k5, if_pos rfl], ⟨by omega, by omega⟩, ⟨by omega, by omega⟩, ⟨by omega, by omega, by omega⟩⟩, ⟨⟨by omega, fun q w => by omega⟩, fun x hx => ⟨by rw [k5, if_neg (by omega)], by rw [n5, if_neg (by omega)]⟩, fun x hx w => ?_, fun x hx w1 w2 _ => ⟨?_, by rw [l5, f2l]; exact l1 x hx⟩, fun q w => Or.inr (by rw [w, rp5]; omega)⟩, il, fun j hj => ?_, ?_, ⟨by omega, by omega⟩, Or.inr (by omega)⟩
      · funext j
        rw [r5, if_neg (fun q => w q.1), f2r, r1 x hx]
      · funext j
        rw [i5, if_neg (fun w => w1 w.1), if_neg (fun w => by have := w.1; omega), f2i x (by omega), i1 x hx]
      · unfold nt
        unfold ln at hj
        rw [rp5, i5, if_neg (fun w => by have := w.1; omega), if_neg (fun w => by have := w.2; omega)]
        exact h2' j (by omega)
      · unfold nt ln
        rw [rp5, i5, if_neg (fun w => by have := w.1; omega), if_pos ⟨rfl, el⟩]
    | succ c ih =>
      intro l M2 hl o2 f2 h2'
      obtain ⟨f2k, f2n, f2r, f2l, f2z, f2s, f2i⟩ := id f2
      have ip : mI M2 p = mI M p := by rw [f2i p (by omega)]; exact i1 p h3
      have rp : mR M2 p 0 = mR M p 0 := by rw [f2r, r1 p h3]
      have ia : mI M2 (mR M p 0) = mI M (mR M p 0) := by rw [f2i _ (by omega)]; exact i1 _ h4
      refine k_MN_add_23 o2 hv ⟨by omega, by omega⟩ ?_
      rw [ip, rp, ia, f2k, f2n, k1, k1, k1, n1, n1, if_neg (show ¬ p = mZ M by omega), if_neg (show ¬ mR M p 0 = mZ M by omega), if_pos rfl, if_neg (show ¬ mR M p 0 = mZ M by omega), if_pos rfl, Int.toNat_natCast]
      refine ⟨h1, fun w => by omega, fun _ => ⟨h2, by omega, rfl, by omega, fun M3 e3 => ?_⟩⟩
      have f3 : FI (fun x => x = mZ M) M2 M3 := by rw [e3]; exact FI.ui rfl
      have o3 : mOk M3 := by rw [e3]; exact mOk_UI o2 (hO _ _).1
      refine ih (l + 1) M3 (by omega) o3 (f2.trans f3) (fun j hj => ?_)
      rw [e3, mI_UI]
      by_cases z : j = l
      · rw [if_pos ⟨rfl, z⟩, z]
      · rw [if_neg (fun w => z w.2)]
        exact h2' j (by omega)
  · have o1 : mOk M1 := by rw [e1]; exact mOk_UI hO hv
    have s1 : mI M1 p 1 = mI M p 1 := by rw [e1, mI_UI, if_neg (fun w => hne w.1)]
    refine ⟨by rw [s1]; exact ⟨by omega, by omega⟩, fun M2 e2 => ?_⟩
    rw [s1] at e2
    have o2 : mOk M2 := by rw [e2]; exact mOk_UI o1 ⟨by omega, by omega⟩
    have k2 : mK M2 = mK M := by rw [e2, e1]; rfl
    have n2 : mN M2 = mN M := by rw [e2, e1]; rfl
    have r2 : mR M2 = mR M := by rw [e2, e1]; rfl
    have l2 : mL M2 = mL M := by rw [e2, e1]; rfl
    have z2 : mZ M2 = mZ M := by rw [e2, e1]; rfl
    have c2 : mS M2 = mS M := by rw [e2, e1]; rfl
    have i2 : ∀ x j, mI M2 x j = if x = p ∧ j = 1 then mI M p 1 + 1 else if x = mR M p 0 ∧ j = (mI M p 1).toNat then v else mI M x j := fun x j => by rw [e2, mI_UI, e1, mI_UI]
    have ec : cp M2 p = cp M p := by unfold cp; rw [n2, r2]
    have il : mI M2 p 1 = mI M p 1 + 1 := by rw [i2, if_pos ⟨rfl, rfl⟩]
    refine ⟨o2, ⟨by rw [k2]; exact h1, by rw [k2, r2]; exact h2, ⟨by omega, by rw [r2]; omega⟩, ⟨by omega, by rw [ec]; omega⟩, by rw [ec]; exact ⟨h6, h7, h8⟩⟩, ⟨⟨by omega, fun q w => by omega⟩, fun x _ => ⟨by rw [k2], by rw [n2]⟩, fun x _ _ => by rw [r2], fun x hx w1 w2 _ => ⟨?_, by rw [l2]⟩, fun q _ => Or.inl (by rw [r2])⟩, il, fun j hj => ?_, ?_, by rw [c2, z2, ec]; omega, Or.inl ec⟩
    · funext j
      rw [i2, if_neg (fun w => w1 w.1), if_neg (fun w => w2 p rfl w.1)]
    · unfold nt
      unfold ln at hj
      rw [r2, i2, if_neg (fun w => hne w.1.symm), if_neg (fun w => by have := w.2; omega)]
    · unfold nt ln
      rw [r2, i2, if_neg (fun w => hne w.1.symm), if_pos ⟨rfl, rfl⟩]
theorem s_MN_add {v : Int} (hv : i32 v) (hO : mOk M) (hN : Nu M p) (hsz : ln M p ≤ 32768) : Cv G y_MN_add d [vr p, vi v] M (adQ M p v) := s_MN_addB (B := 32768) hv hO hN hsz (by decide)
theorem s_MN_at {j : Nat} (hO : mOk M) (hN : Nu M p) (hj : (j : Int) < ln M p) : Ci G y_MN_at d [vr p, vi j] M (fun x M' => M' = M ∧ x = nt M p j) := by
  obtain ⟨h1, h2, -, ⟨h5, h5'⟩, ⟨h6, h7, h8⟩⟩ := id hN
  unfold ln at hj
  have ecp : mN M (mR M p 0) = cp M p := rfl
  refine k_MN_at hO ⟨by omega, by omega⟩ ⟨h1, h2, by omega, rfl, ?_⟩
  rw [Int.toNat_natCast]
  rfl
theorem s_MN_last (hO : mOk M) (hN : Nu M p) (hj : 0 < ln M p) : Ci G y_MN_last d [vr p] M (fun x M' => M' = M ∧ x = nt M p (ln M p - 1).toNat) := by
  obtain ⟨h1, h2, -, ⟨h5, h5'⟩, ⟨h6, h7, h8⟩⟩ := id hN
  unfold ln at hj ⊢
  have ecp : mN M (mR M p 0) = cp M p := rfl
  exact k_MN_last hO ⟨h1, h2, by omega, rfl, rfl⟩
/-- what taking leaves behind -/
def tkQ (M : mM) (p : Nat) (x : Int) (M' : mM) : Prop := mOk M' ∧ Nu M' p ∧ FI (fun y => y = p) M M' ∧ ln M' p = ln M p - 1 ∧ (∀ j, nt M' p j = nt M p j) ∧ x = nt M p (ln M p - 1).toNat
theorem nu_set {M' : mM} {v : Int} (hN : Nu M p) (h0 : 0 ≤ v) (h1 : v ≤ mI M p 1) (e : M' = mUI M p 1 v) : Nu M' p ∧ FI (fun y => y = p) M M' ∧ ln M' p = v ∧ (∀ j, nt M' p j = nt M p j) ∧ cp M' p = cp M p := by
  obtain ⟨g1, g2, g3, ⟨h5, h5'⟩, h6⟩ := id hN
  have f : FI (fun y => y = p) M M' := by rw [e]; exact FI.ui rfl
  have hne : mR M p 0 ≠ p := fun w => by rw [w, g1] at g2; omega
  have er : mR M' p 0 = mR M p 0 := by rw [e]; rfl
  have ec : cp M' p = cp M p := by unfold cp; rw [er, e]; rfl
  have il : mI M' p 1 = v := by rw [e, mI_UI, if_pos ⟨rfl, rfl⟩]
  refine ⟨⟨by rw [f.1]; exact g1, by rw [er, f.1]; exact g2, by rw [er, f.2.2.2.2.1]; exact g3, by rw [il, ec]; omega, by rw [ec]; exact h6⟩, f, il, fun j => ?_, ec⟩
  unfold nt
  rw [er, f.2.2.2.2.2.2 _ hne]
theorem s_MN_take (hO : mOk M) (hN : Nu M p) (hj : 0 < ln M p) : Ci G y_MN_take d [vr p] M (tkQ M p) := by
  obtain ⟨h1, h2, -, ⟨h5, h5'⟩, ⟨h6, h7, h8⟩⟩ := id hN
  unfold ln at hj
  have ecp : mN M (mR M p 0) = cp M p := rfl
  refine k_MN_take hO ⟨h1, ⟨by omega, by omega⟩, fun M1 e1 => ?_⟩
  obtain ⟨a1, a2, a3, a4, a5⟩ := nu_set hN (v := mI M p 1 - 1) (by omega) (by omega) e1
  have o1 : mOk M1 := by rw [e1]; exact mOk_UI hO ⟨by omega, by omega⟩
  have hl : mI M1 p 1 = mI M p 1 - 1 := a3
  have ecp1 : mN M1 (mR M1 p 0) = cp M1 p := rfl
  rw [hl]
  exact ⟨a1.2.1, by omega, o1, a1, a2, a3, a4, (a4 _)⟩
end NU
