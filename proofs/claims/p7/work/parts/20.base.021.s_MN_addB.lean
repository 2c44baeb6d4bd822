section
section
variable {G : mG} {d p : Nat} {M : mM}
theorem s_MN_addB {v : Int} {B : Nat} (hv : i32 v) (hO : mOk M) (hN : Nu M p) (hsz : ln M p ≤ B) (hB : B ≤ 65536) : Cv G y_MN_add d [vr p, vi v] M (adB B M p v) := by
  obtain ⟨h1, h2, ⟨h3, h4⟩, ⟨h5, h5'⟩, ⟨h6, h7, h8⟩⟩ := id hN
  unfold ln at hsz
  have hne : p ≠ mR M p 0 := fun w => by rw [← w, h1] at h2; omega
  have ecp : mN M (mR M p 0) = cp M p := rfl
  refine k_MN_add hO hv ⟨h1, h2, ⟨by omega, by omega⟩, fun e => ⟨⟨by omega, by omega⟩, fun M1 e1 => ?_⟩, fun e => ⟨⟨h5, by omega⟩, fun M1 e1 => ?_⟩⟩
  · have o1 : mOk M1 := by rw [e1]; exact mOk_New hO
    have z1 : mZ M1 = mZ M + 1 := by rw [e1]; rfl
    have c1 : mS M1 = mS M + (2 * mI M p 1).toNat := by rw [e1]; rfl
    have k1 : ∀ x, mK M1 x = if x = mZ M then 30 else mK M x := fun x => by rw [e1]; rfl
    have n1 : ∀ x, mN M1 x = if x = mZ M then (2 * mI M p 1).toNat else mN M x := fun x => by rw [e1]; rfl
    have r1 : ∀ x, x < mZ M → mR M1 x = mR M x := fun x hx => by funext j; rw [e1, mR_New, if_neg (by omega)]
    have i1 : ∀ x, x < mZ M → mI M1 x = mI M x := fun x hx => by funext j; rw [e1, mI_New, if_neg (by omega)]
    have l1 : ∀ x, x < mZ M → mL M1 x = mL M x := fun x hx => by funext j; rw [e1, mL_New, if_neg (by omega)]
    clear e1
    suffices H : ∀ (c l : Nat) (M2 : mM), (l : Int) + c = mI M p 1 → mOk M2 → FI (fun x => x = mZ M) M1 M2 → (∀ j, j < l → mI M2 (mZ M) j = mI M (mR M p 0) j) → h_MN_add_23 G d p v (mZ M) l M2 (adB B M p v) from
      H (mI M p 1).toNat 0 M1 (by omega) o1 FI.refl (fun j hj => by omega)
    intro c
    induction c with
    | zero =>
      intro l M2 hl o2 f2 h2'
      obtain ⟨f2k, f2n, f2r, f2l, f2z, f2s, f2i⟩ := f2
      have el : (mI M p 1).toNat = l := by omega
      have ip : mI M2 p = mI M p := by rw [f2i p (by omega)]; exact i1 p h3
      have kp : mK M2 p = 15 := by rw [f2k, k1, if_neg (by omega)]; exact h1
      refine k_MN_add_23 o2 hv ⟨by omega, by omega⟩ ?_
      rw [ip]
      refine ⟨kp, fun _ M3 e3 => ?_, fun w => by omega⟩
      have r3 : ∀ x j, mR M3 x j = if x = p ∧ j = 0 then mZ M else mR M2 x j := fun x j => by rw [e3, mR_UR]
      have o3 : mOk M3 := by rw [e3]; exact mOk_UR o2
      have i3 : mI M3 = mI M2 := by rw [e3]; rfl
      have rp3 : mR M3 p 0 = mZ M := by rw [r3, if_pos ⟨rfl, rfl⟩]
      have k3 : mK M3 = mK M2 := by rw [e3]; rfl
      have n3 : mN M3 = mN M2 := by rw [e3]; rfl
      have kz : mK M3 (mZ M) = 30 := by rw [k3, f2k, k1, if_pos rfl]
      have nz : mN M3 (mZ M) = (2 * mI M p 1).toNat := by rw [n3, f2n, n1, if_pos rfl]
      rw [rp3, i3, ip, el]
      refine ⟨kz, by omega, fun M4 e4 => ?_⟩
      have o4 : mOk M4 := by rw [e4]; exact mOk_UI o3 hv
      have i4 : ∀ x j, mI M4 x j = if x = mZ M ∧ j = l then v else mI M2 x j := fun x j => by rw [e4, mI_UI, i3]
      have ip4 : mI M4 p 1 = mI M p 1 := by rw [i4, if_neg (fun w => by have := w.1; omega), ip]
      refine ⟨by rw [ip4]; exact ⟨by omega, by omega⟩, fun M5 e5 => ?_⟩
      rw [ip4] at e5
      have o5 : mOk M5 := by rw [e5]; exact mOk_UI o4 ⟨by omega, by omega⟩
      have i5 : ∀ x j, mI M5 x j = if x = p ∧ j = 1 then mI M p 1 + 1 else if x = mZ M ∧ j = l then v else mI M2 x j := fun x j => by rw [e5, mI_UI, i4]
      have k5 : ∀ x, mK M5 x = if x = mZ M then 30 else mK M x := fun x => by rw [e5, mK_UI, e4, mK_UI, k3, f2k, k1]
      have n5 : ∀ x, mN M5 x = if x = mZ M then (2 * mI M p 1).toNat else mN M x := fun x => by rw [e5, mN_UI, e4, mN_UI, n3, f2n, n1]
      have r5 : ∀ x j, mR M5 x j = if x = p ∧ j = 0 then mZ M else mR M2 x j := fun x j => by rw [e5, mR_UI, e4, mR_UI, r3]
      have l5 : mL M5 = mL M2 := by rw [e5, mL_UI, e4, mL_UI, e3]; rfl
      have z5 : mZ M5 = mZ M + 1 := by rw [e5, mZ_UI, e4, mZ_UI, e3, mZ_UR, f2z, z1]
      have c5 : mS M5 = mS M + (2 * mI M p 1).toNat := by rw [e5, mS_UI, e4, mS_UI, e3, mS_UR, f2s, c1]
      have rp5 : mR M5 p 0 = mZ M := by rw [r5, if_pos ⟨rfl, rfl⟩]
      have ec : cp M5 p = (2 * mI M p 1).toNat := by unfold cp; rw [rp5, n5, if_pos rfl]
      have il : mI M5 p 1 = mI M p 1 + 1 := by rw [i5, if_pos ⟨rfl, rfl⟩]
      refine ⟨o5, ⟨by rw [k5, if_neg (by omega)]; exact h1, by rw [rp5, k5, if_pos rfl], ⟨by omega, by omega⟩, ⟨by omega, by omega⟩, ⟨by omega, by omega, by omega⟩⟩, ⟨⟨by omega, fun q w => by omega⟩, fun x hx => ⟨by rw [k5, if_neg (by omega)], by rw [n5, if_neg (by omega)]⟩, fun x hx w => ?_, fun x hx w1 w2 _ => ⟨?_, by rw [l5, f2l]; exact l1 x hx⟩, fun q w => Or.inr (by rw [w, rp5]; omega)⟩, il, fun j hj => ?_, ?_, ⟨by omega, by omega⟩, Or.inr (by omega)⟩
      · funext j
        rw [r5, if_neg (fun q => w q.1), f2r, r1 x hx]
      · funext j
        rw [i5, if_neg (fun w => w1 w.1), if_neg (fun w => by have := w.1; omega), f2i x (by omega), i1 x hx]
      · unfold nt
        unfold ln at hj
        rw [rp5, i5, if_neg (fun w => by have := w.1; omega), if_neg (fun w => by have := w.2; omega)]
        exact h2' j (by omega)
      · unfold nt ln
        rw [rp5, i5, if_neg (fun w => by have := w.1; omega), if_pos ⟨rfl, el⟩]
    | succ c ih =>
      intro l M2 hl o2 f2 h2'
      obtain ⟨f2k, f2n, f2r, f2l, f2z, f2s, f2i⟩ := id f2
      have ip : mI M2 p = mI M p := by rw [f2i p (by omega)]; exact i1 p h3
      have rp : mR M2 p 0 = mR M p 0 := by rw [f2r, r1 p h3]
      have ia : mI M2 (mR M p 0) = mI M (mR M p 0) := by rw [f2i _ (by omega)]; exact i1 _ h4
      refine k_MN_add_23 o2 hv ⟨by omega, by omega⟩ ?_
      rw [ip, rp, ia, f2k, f2n, k1, k1, k1, n1, n1, if_neg (show ¬ p = mZ M by first | rfl | omega), if_neg (show ¬ mR M p 0 = mZ M by first | rfl | omega), if_pos rfl, if_neg (show ¬ mR M p 0 = mZ M by first | rfl | omega), if_pos rfl, Int.toNat_natCast]
      refine ⟨h1, fun w => by omega, fun _ => ⟨h2, by omega, rfl, by omega, fun M3 e3 => ?_⟩⟩
      have f3 : FI (fun x => x = mZ M) M2 M3 := by rw [e3]; exact FI.ui rfl
      have o3 : mOk M3 := by rw [e3]; exact mOk_UI o2 (hO _ _).1
      refine ih (l + 1) M3 (by omega) o3 (f2.trans f3) (fun j hj => ?_)
      rw [e3, mI_UI]
      by_cases z : j = l
      · rw [if_pos ⟨rfl, z⟩, z]
      · rw [if_neg (fun w => z w.2)]
        exact h2' j (by omega)
  · have o1 : mOk M1 := by rw [e1]; exact mOk_UI hO hv
    have s1 : mI M1 p 1 = mI M p 1 := by rw [e1, mI_UI, if_neg (fun w => hne w.1)]
    refine ⟨by rw [s1]; exact ⟨by omega, by omega⟩, fun M2 e2 => ?_⟩
    rw [s1] at e2
    have o2 : mOk M2 := by rw [e2]; exact mOk_UI o1 ⟨by omega, by omega⟩
    have k2 : mK M2 = mK M := by rw [e2, e1]; rfl
    have n2 : mN M2 = mN M := by rw [e2, e1]; rfl
    have r2 : mR M2 = mR M := by rw [e2, e1]; rfl
    have l2 : mL M2 = mL M := by rw [e2, e1]; rfl
    have z2 : mZ M2 = mZ M := by rw [e2, e1]; rfl
    have c2 : mS M2 = mS M := by rw [e2, e1]; rfl
    have i2 : ∀ x j, mI M2 x j = if x = p ∧ j = 1 then mI M p 1 + 1 else if x = mR M p 0 ∧ j = (mI M p 1).toNat then v else mI M x j := fun x j => by rw [e2, mI_UI, e1, mI_UI]
    have ec : cp M2 p = cp M p := by unfold cp; rw [n2, r2]
    have il : mI M2 p 1 = mI M p 1 + 1 := by rw [i2, if_pos ⟨rfl, rfl⟩]
    refine ⟨o2, ⟨by rw [k2]; exact h1, by rw [k2, r2]; exact h2, ⟨by omega, by rw [r2]; omega⟩, ⟨by omega, by rw [ec]; omega⟩, by rw [ec]; exact ⟨h6, h7, h8⟩⟩, ⟨⟨by omega, fun q w => by omega⟩, fun x _ => ⟨by rw [k2], by rw [n2]⟩, fun x _ _ => by rw [r2], fun x hx w1 w2 _ => ⟨?_, by rw [l2]⟩, fun q _ => Or.inl (by rw [r2])⟩, il, fun j hj => ?_, ?_, by rw [c2, z2, ec]; omega, Or.inl ec⟩
    · funext j
      rw [i2, if_neg (fun w => w1 w.1), if_neg (fun w => w2 p rfl w.1)]
    · unfold nt
      unfold ln at hj
      rw [r2, i2, if_neg (fun w => hne w.1.symm), if_neg (fun w => by have := w.2; omega)]
    · unfold nt ln
      rw [r2, i2, if_neg (fun w => hne w.1.symm), if_pos ⟨rfl, rfl⟩]
end
end
