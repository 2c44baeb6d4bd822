section
/-! The reference: the pile of values. -/
section PU
variable {G : mG} {d a : Nat} {M M1 : mM}
/-- a long of a cell that is no list -/
theorem mv_ul {x j : Nat} {v : Int} (hv : i64 v) (hO : mOk M) (h : Wd M a) (e : M1 = mUL M x j v) : Mv (fun _ => False) (fun y => y = x) M a M1 ∧ (∀ y k, mL M1 y k = if y = x ∧ k = j then v else mL M y k) ∧ mI M1 = mI M := by
  subst e
  refine ⟨⟨mOk_UL hO hv, h, ⟨Nat.le_refl _, Nat.le_refl _⟩, ⟨⟨Nat.le_refl _, fun _ z => z.elim⟩, fun _ _ => ⟨rfl, rfl⟩, fun _ _ _ => rfl, fun y _ _ _ hy => ⟨rfl, ?_⟩, fun _ z => z.elim⟩, fun q _ _ => ⟨rfl, fun _ => rfl, rfl, rfl⟩⟩, fun y k => mL_UL .., rfl⟩
  funext k
  rw [mL_UL, if_neg (fun z => hy z.1)]
abbrev vS (a : Nat) : Nat → Prop := fun x => x = a ∨ x = a + 97 ∨ x = a + 98
/-- a value has been pushed: V were there -/
def psQ (M : mM) (a V : Nat) (A B : Int) (M' : mM) : Prop := Mv (fun _ => False) (vS a) M a M' ∧ mI M' a 23 = (V + 1 : Nat) ∧ (∀ i, i ≠ 23 → mI M' a i = mI M a i) ∧ (∀ k, mL M' (a + 97) k = if k = V then A else mL M (a + 97) k) ∧ ∀ k, mL M' (a + 98) k = if k = V then B else mL M (a + 98) k
theorem s_MM_push {V : Nat} {A B : Int} (hA : i64 A) (hB : i64 B) (hO : mOk M) (h : Wd M a) (hV : mI M a 23 = (V : Int)) (hb : V < 16400) : Cv G y_MM_push d [vr a, vl A, vl B] M (fun M' => mOk M' ∧ psQ M a V A B M') := by
  refine Cv.mono (Q := psQ M a V A B) ?_ (fun M' t => ⟨t.1.1, t⟩)
  have r21 : ∀ {M3 : mM}, Wd M3 a → mR M3 a 21 = a + 97 := fun w => w.1.2.2.2.2.1.2.2.2.2.2.2.1
  have r22 : ∀ {M3 : mM}, Wd M3 a → mR M3 a 22 = a + 98 := fun w => w.1.2.2.2.2.1.2.2.2.2.2.2.2.1
  refine k_MM_push hO hA hB ?_
  rw [r21 h, hV]
  have n97 : mK M (a + 97) = 33 ∧ mN M (a + 97) = 16400 := h.1.2.2.2.2.2.2.2.1.1
  have n98 : mK M (a + 98) = 33 ∧ mN M (a + 98) = 16400 := h.1.2.2.2.2.2.2.2.1.2.1
  refine ⟨h.1.1, n97.1, by rw [n97.2]; omega, fun M2 e2 => ?_⟩
  obtain ⟨m2, l2, i2⟩ := mv_ul hA hO h e2
  rw [r22 m2.2.1, i2, hV]
  have z := h.2.2.2
  have f2 := m2.2.2.2.1.2.1 (a + 98) (by omega)
  refine ⟨f2.1.trans n98.1, by rw [f2.2, n98.2]; omega, fun M3 e3 => ?_⟩
  obtain ⟨m3, l3, i3⟩ := mv_ul hB m2.1 m2.2.1 e3
  rw [i3, i2, hV]
  refine ⟨⟨by omega, by omega⟩, fun M4 e4 => ?_⟩
  obtain ⟨m4, i4⟩ := mv_fld (v := (V : Int) + 1) ⟨by omega, by omega⟩ m3.1 m3.2.1 e4
  have o4 := m4.2.2.2.1
  have c4 : ∀ x, x < mZ M3 → x ≠ a → mL M4 x = mL M3 x := fun x hx hne => (o4.2.2.2.1 x hx (fun w => w) (fun p w => w.elim) hne).2
  have z3 := m3.2.1.2.2.2
  have no : ∀ q : Nat, False → q < mZ M := fun _ w => w.elim
  refine ⟨((m2.mono (S' := vS a) (fun _ w => w) (fun x w => Or.inr (Or.inl w)) no).trans (m3.mono (S' := vS a) (fun _ w => w) (fun x w => Or.inr (Or.inr w)) (fun _ w => w.elim))).trans (m4.mono (S' := vS a) (fun _ w => w) (fun x w => Or.inl w) (fun _ w => w.elim)), by rw [i4, if_pos rfl]; omega, fun i hi => by rw [i4, if_neg hi, i3, i2], fun k => ?_, fun k => ?_⟩
  · rw [c4 _ (by omega) (by omega), l3, if_neg (fun w => by omega), l2, Int.toNat_natCast]
    by_cases y : k = V
    · rw [if_pos ⟨rfl, y⟩, if_pos y]
    · rw [if_neg (fun w => y w.2), if_neg y]
  · rw [c4 _ (by omega) (by omega), l3, Int.toNat_natCast]
    by_cases y : k = V
    · rw [if_pos ⟨rfl, y⟩, if_pos y]
    · rw [if_neg (fun w => y w.2), l2, if_neg (fun w => by omega), if_neg y]
theorem s_MM_pushTruth {V : Nat} {t : Int} (ht : i32 t) (hO : mOk M) (h : Wd M a) (hV : mI M a 23 = (V : Int)) (hb : V < 16400) : Cv G y_MM_pushTruth (d + 1) [vr a, vi t] M (fun M' => mOk M' ∧ psQ M a V (if t = 0 then 0 else 1) 0 M') := by
  refine k_MM_pushTruth hO ht (fun v hv => ⟨h.1.1, ?_⟩)
  rw [← hv]
  refine (s_MM_push (d := d) ⟨by split at hv <;> omega, by split at hv <;> omega⟩ ⟨by omega, by omega⟩ hO h hV hb).mono (fun M' t => ⟨t.1, t⟩)
end PU
end
section
/-! The reference: fractions are reckoned. -/
section RK
variable {G : mG} {d a V : Nat} {M : mM}
/-- a value of type t: a fraction, or a truth with 0 below -/
def vok (t A B : Int) : Prop := (t = 0 ∧ -1000000000 < A ∧ A < 1000000000 ∧ 1 ≤ B ∧ B < 1000000000) ∨ (t = 1 ∧ (A = 0 ∨ A = 1) ∧ B = 0)
/-- a value has been reckoned, or a fault told -/
def rkQ (M : mM) (a V : Nat) (t : Int) (M' : mM) : Prop := Mv (fun _ => False) (vS a) M a M' ∧ (∀ i, i ≠ 16 → i ≠ 17 → i ≠ 23 → mI M' a i = mI M a i) ∧ (∀ k, k < V → mL M' (a + 97) k = mL M (a + 97) k ∧ mL M' (a + 98) k = mL M (a + 98) k) ∧ (mI M' a 16 ≠ 0 ∨ (mI M' a 16 = mI M a 16 ∧ mI M' a 23 = (V + 1 : Nat) ∧ vok t (mL M' (a + 97) V) (mL M' (a + 98) V)))
theorem cmpz (z b : Int) : (0 ≤ cmpL z b ↔ b ≤ z) ∧ (cmpL z b ≤ 0 ↔ z ≤ b) ∧ (cmpL z b < 0 ↔ z < b) ∧ (cmpL z b = 0 ↔ z = b) ∧ (0 < cmpL z b ↔ b < z) := by unfold cmpL; split <;> (try split) <;> omega
theorem psQ.rk {t A B : Int} {M' : mM} (h : psQ M a V A B M') (hv : vok t A B) : rkQ M a V t M' := by
  obtain ⟨h1, h2, h3, h4, h5⟩ := h
  exact ⟨h1, fun i _ _ i3 => h3 i i3, fun k hk => ⟨by rw [h4, if_neg (by omega)], by rw [h5, if_neg (by omega)]⟩, Or.inr ⟨h3 16 (by omega), h2, by rw [h4, h5, if_pos rfl, if_pos rfl]; exact hv⟩⟩
/-- a fault, and nothing else -/
theorem st_rk {t c p : Int} {M' : mM} (hc : c ≠ 0) (h : Mv (fun _ => False) (fun x => x = a) M a M' ∧ mI M' a 16 = c ∧ mI M' a 17 = p ∧ ∀ i, i ≠ 16 → i ≠ 17 → mI M' a i = mI M a i) (w : Wd M a) : rkQ M a V t M' := by
  obtain ⟨m, f1, f2, f3⟩ := h
  have z := w.2.2.2
  have cl : ∀ x, x < mZ M → x ≠ a → mL M' x = mL M x := fun x hx hne => (m.2.2.2.1.2.2.2.1 x hx (fun y => y) (fun p y => y.elim) hne).2
  exact ⟨m.mono (fun _ y => y) (fun x y => Or.inl y) (fun _ y => y.elim), fun i i1 i2 _ => f3 i i1 i2, fun k _ => ⟨by rw [cl _ (by omega) (by omega)], by rw [cl _ (by omega) (by omega)]⟩, Or.inl (by rw [f1]; exact hc)⟩
end RK
end
section
/-! The reference: reckon and best. -/
section RB
variable {G : mG} {d a V : Nat} {M : mM}
theorem mul9 {x y : Int} (hx : -1000000000 < x ∧ x < 1000000000) (hy : -1000000000 < y ∧ y < 1000000000) : -1000000000000000000 < x * y ∧ x * y < 1000000000000000000 := by
  have h1 : x.natAbs ≤ 999999999 := by omega
  have h2 : y.natAbs ≤ 999999999 := by omega
  have h3 := Nat.mul_le_mul h1 h2
  rw [← Int.natAbs_mul] at h3
  omega
theorem tmod9 {x y : Int} (hy : 0 < y) : -y < Int.tmod x y ∧ Int.tmod x y < y := by
  by_cases hx : 0 ≤ x
  · rw [Int.tmod_eq_emod_of_nonneg hx]
    have b1 := Int.emod_nonneg x (show y ≠ 0 by omega)
    have b2 := Int.emod_lt_of_pos x hy
    omega
  · have e : Int.tmod x y = -(Int.tmod (-x) y) := by rw [Int.neg_tmod]; omega
    rw [e, Int.tmod_eq_emod_of_nonneg (show 0 ≤ -x by omega)]
    have b1 := Int.emod_nonneg (-x) (show y ≠ 0 by omega)
    have b2 := Int.emod_lt_of_pos (-x) hy
    omega
end RB
end
section
/-! The reference: a long is cut to an int. -/
section W32
variable {G : mG} {y : mY} {d pc : Nat} {L st : List mV} {M : mM} {Q : Option mV → mM → Prop}
def w32 (x : Int) : Int := (Int32.ofInt x).toInt
theorem w32_id {x : Int} (h : i32 x) : w32 x = x := i32_toInt h
theorem i32_w32 {x : Int} : i32 (w32 x) := by
  have h1 := Int32.le_toInt (Int32.ofInt x)
  have h2 := Int32.toInt_lt (Int32.ofInt x)
  unfold w32
  exact ⟨by omega, by omega⟩
theorem wm_l2iw {x : Int} (hd : decode y.2.1 pc = .ok (.l2i, 1)) (h : mWm G y d (pc + 1) L (vi (w32 x) :: st) M Q) : mWm G y d pc L (vl x :: st) M Q := wm_st (fun p e R s m args below meth c H locs cells slots ls Qf hA hR hL k => lv_l2i hA.1 hA.2.1 hd ((m_l2i x).trans (Int32.ofInt_toInt _).symm) k) h
theorem wm_w {x : Int} (h : mWm G y d pc L (vi (w32 x) :: st) M Q) : mWm G y d pc L (vi x :: st) M Q := by
  have e : (vi (w32 x) :: st).map mcv = (vi x :: st).map mcv := by
    show Value.int (Int32.ofInt (w32 x)) :: st.map mcv = Value.int (Int32.ofInt x) :: st.map mcv
    rw [show Int32.ofInt (w32 x) = Int32.ofInt x from Int32.ofInt_toInt _]
  obtain ⟨r, M', h1, h2⟩ := h
  refine ⟨r, M', ⟨h1.1, ?_⟩, h2⟩
  rw [← e]
  exact h1.2
end W32
theorem k_MM_wholeOf2 {G : mG} {d : Nat} {a0 : Nat} {l1 : Int} {l2 : Int} {M : mM} {Q : Int → mM → Prop} (hO : mOk M) (hi_l1 : i32 l1) (hi_l2 : i32 l2)
    (h : mK M a0 = 14 ∧ ((mI M a0 16 = 0) → (Cv G y_MM_workOut d [vr a0, vr (mR M a0 10), vi l1] M (fun M4 => mOk M4 ∧ (mK M4 a0 = 14 ∧ ((mI M4 a0 16 = 0) → (mK M4 (mR M4 a0 22) = 33 ∧ ((0 : Int) ≤ 0 ∧ 0 < (mN M4 (mR M4 a0 22) : Int)))) ∧ (((¬ (mI M4 a0 16 = 0)) ∨ (cmpL (mL M4 (mR M4 a0 22) 0) 1 = 0)) → (mK M4 (mR M4 a0 21) = 33 ∧ ((0 : Int) ≤ 0 ∧ 0 < (mN M4 (mR M4 a0 21) : Int)) ∧ Q (w32 (mL M4 (mR M4 a0 21) 0)) M4)) ∧ (¬ ((¬ (mI M4 a0 16 = 0)) ∨ (cmpL (mL M4 (mR M4 a0 22) 0) 1 = 0)) → (Ci G y_MM_place0 d [vr a0, vi l2] M4 (fun x22 M21 => i32 x22 ∧ mOk M21 ∧ (mK M21 a0 = 14 ∧ Cv G y_MM_stop d [vr a0, vi 8, vi x22] M21 (fun M25 => mOk M25 ∧ (mK M25 a0 = 14 ∧ mK M25 (mR M25 a0 21) = 33 ∧ ((0 : Int) ≤ 0 ∧ 0 < (mN M25 (mR M25 a0 21) : Int)) ∧ Q (w32 (mL M25 (mR M25 a0 21) 0)) M25)))))))))) ∧ (¬ (mI M a0 16 = 0) → (Q 0 M))) :
    Ci G y_MM_wholeOf (d + 1) [vr a0, vi l1, vi l2] M Q := by
  refine wm_open (y := y_MM_wholeOf) rfl (Nat.le_of_ble_eq_true rfl) (L := [vr a0, vi l1, vi l2]) rfl ?_
  obtain ⟨h1, h⟩ := h
  refine wm_aload_n d_MM_wholeOf_0 rfl rfl ?_
  refine gf_MM_267 rfl d_MM_wholeOf_1 h1 ?_
  refine wm_if_eq (tgt := 9) d_MM_wholeOf_4 rfl (hO _ _).1 (fun c3 => ?_) (fun c3 => ?_)
  · replace h := h.1 c3
    refine wm_aload_n d_MM_wholeOf_9 rfl rfl ?_
    refine wm_aload_n d_MM_wholeOf_10 rfl rfl ?_
    refine gf_MM_38 rfl d_MM_wholeOf_11 h1 ?_
    refine wm_iload_n d_MM_wholeOf_14 rfl rfl ?_
    refine cf_MM_450 rfl d_MM_wholeOf_15 h1 (Nat.le_of_ble_eq_true rfl) (Cv.mono h (fun M4 h => ?_))
    obtain ⟨hOM4, h⟩ := h
    obtain ⟨h7, h⟩ := h
    refine wm_aload_n d_MM_wholeOf_18 rfl rfl ?_
    refine gf_MM_267 rfl d_MM_wholeOf_19 h7 ?_
    obtain ⟨s16, h⟩ := h
    have hE0 : ((¬ (mI M4 a0 16 = 0)) ∨ (cmpL (mL M4 (mR M4 a0 22) 0) 1 = 0)) → mWm G y_MM_wholeOf (d + 1) 47 [vr a0, vi l1, vi l2] [] M4 (fun r9 M9 => ∃ x9, r9 = some (vi x9) ∧ Q x9 M9) := by
      intro q17
      have h := h.1 q17
      obtain ⟨h18, h⟩ := h
      obtain ⟨h19, h⟩ := h
      refine wm_aload_n d_MM_wholeOf_47 rfl rfl ?_
      refine gf_MM_63 rfl d_MM_wholeOf_48 h7 ?_
      refine wm_iconst d_MM_wholeOf_51 ?_
      refine wm_lald d_MM_wholeOf_52 h18 h19 ?_
      refine wm_l2iw d_MM_wholeOf_53 ?_
      refine wm_ireturn d_MM_wholeOf_54 rfl rfl ?_
      exact ⟨_, rfl, h⟩
    have hE1 : ¬ ((¬ (mI M4 a0 16 = 0)) ∨ (cmpL (mL M4 (mR M4 a0 22) 0) 1 = 0)) → mWm G y_MM_wholeOf (d + 1) 36 [vr a0, vi l1, vi l2] [] M4 (fun r9 M9 => ∃ x9, r9 = some (vi x9) ∧ Q x9 M9) := by
      intro q20
      have h := h.2 q20
      refine wm_aload_n d_MM_wholeOf_36 rfl rfl ?_
      refine wm_bipush d_MM_wholeOf_37 (by decide) ?_
      refine wm_aload_n d_MM_wholeOf_39 rfl rfl ?_
      refine wm_iload_n d_MM_wholeOf_40 rfl rfl ?_
      refine cf_MM_279 rfl d_MM_wholeOf_41 h7 (Nat.le_of_ble_eq_true rfl) (Ci.mono h (fun x22 M21 h => ?_))
      obtain ⟨h23, hOM21, h⟩ := h
      obtain ⟨h24, h⟩ := h
      refine cf_MM_351 rfl d_MM_wholeOf_44 h24 (Nat.le_of_ble_eq_true rfl) (Cv.mono h (fun M25 h => ?_))
      obtain ⟨hOM25, h⟩ := h
      obtain ⟨h28, h⟩ := h
      obtain ⟨h29, h⟩ := h
      obtain ⟨h30, h⟩ := h
      refine wm_aload_n d_MM_wholeOf_47 rfl rfl ?_
      refine gf_MM_63 rfl d_MM_wholeOf_48 h28 ?_
      refine wm_iconst d_MM_wholeOf_51 ?_
      refine wm_lald d_MM_wholeOf_52 h29 h30 ?_
      refine wm_l2iw d_MM_wholeOf_53 ?_
      refine wm_ireturn d_MM_wholeOf_54 rfl rfl ?_
      exact ⟨_, rfl, h⟩
    clear h
    have s31 := s16
    refine wm_if_ne (tgt := 47) d_MM_wholeOf_22 rfl (hOM4 _ _).1 (fun c15 => ?_) (fun c15 => ?_)
    · exact hE0 (Or.inl c15)
    · replace c15 := Classical.not_not.mp c15
      have s31 := s31 c15
      obtain ⟨h12, h13⟩ := s31
      refine wm_aload_n d_MM_wholeOf_25 rfl rfl ?_
      refine gf_MM_67 rfl d_MM_wholeOf_26 h7 ?_
      refine wm_iconst d_MM_wholeOf_29 ?_
      refine wm_lald d_MM_wholeOf_30 h12 h13 ?_
      refine wm_lconst (x := 1) d_MM_wholeOf_31 rfl ?_
      refine wm_lcmp d_MM_wholeOf_32 (hOM4 _ _).2 ⟨by decide, by decide⟩ ?_
      refine wm_if_eq (tgt := 47) d_MM_wholeOf_33 rfl (m_cmp32 _ _) (fun c14 => ?_) (fun c14 => ?_)
      · exact hE0 (Or.inr c14)
      · exact hE1 (fun z32 => Or.elim z32 (fun w => w c15) c14)
  · replace h := h.2 c3
    refine wm_iconst d_MM_wholeOf_7 ?_
    refine wm_ireturn d_MM_wholeOf_8 rfl rfl ?_
    exact ⟨_, rfl, h⟩
theorem k_MM_begins2 {G : mG} {d : Nat} {a0 : Nat} {l1 : Int} {l2 : Int} {l3 : Int} {M : mM} {Q : mM → Prop} (hO : mOk M) (hi_l1 : i32 l1) (hi_l2 : i32 l2) (hi_l3 : i32 l3)
    (h : mK M a0 = 14 ∧ mK M (mR M a0 10) = 16 ∧ mK M (mR M (mR M a0 10) 13) = 31 ∧ ((0 : Int) ≤ l1 ∧ l1 < (mN M (mR M (mR M a0 10) 13) : Int)) ∧ ((mI M (mR M (mR M a0 10) 13) (Int.toNat l1) = 0) → (Ci G y_MM_wholeOf d [vr a0, vi l2, vi l3] M (fun x8 M7 => i32 x8 ∧ mOk M7 ∧ (mK M7 a0 = 14 ∧ ((mI M7 a0 16 = 0) → (mK M7 (mR M7 a0 10) = 16 ∧ mK M7 (mR M7 (mR M7 a0 10) 14) = 30 ∧ ((0 : Int) ≤ l1 ∧ l1 < (mN M7 (mR M7 (mR M7 a0 10) 14) : Int)) ∧ (¬ (x8 < mI M7 (mR M7 (mR M7 a0 10) 14) (Int.toNat l1)) → (mK M7 (mR M7 (mR M7 a0 10) 15) = 30 ∧ ((0 : Int) ≤ l1 ∧ l1 < (mN M7 (mR M7 (mR M7 a0 10) 15) : Int)))))) ∧ (((mI M7 a0 16 = 0) ∧ ((x8 < mI M7 (mR M7 (mR M7 a0 10) 14) (Int.toNat l1)) ∨ (¬ (x8 ≤ mI M7 (mR M7 (mR M7 a0 10) 15) (Int.toNat l1))))) → (Ci G y_MM_place0 d [vr a0, vi l3] M7 (fun x27 M26 => i32 x27 ∧ mOk M26 ∧ (mK M26 a0 = 14 ∧ Cv G y_MM_stop d [vr a0, vi 9, vi x27] M26 (fun M30 => mOk M30 ∧ (mK M30 a0 = 14 ∧ mK M30 (mR M30 a0 10) = 16 ∧ mK M30 (mR M30 (mR M30 a0 10) 16) = 30 ∧ ((0 : Int) ≤ l1 ∧ l1 < (mN M30 (mR M30 (mR M30 a0 10) 16) : Int)) ∧ ∀ M37, M37 = mUI M30 (mR M30 (mR M30 a0 10) 16) (Int.toNat l1) x8 → Q M37)))))) ∧ (¬ ((mI M7 a0 16 = 0) ∧ ((x8 < mI M7 (mR M7 (mR M7 a0 10) 14) (Int.toNat l1)) ∨ (¬ (x8 ≤ mI M7 (mR M7 (mR M7 a0 10) 15) (Int.toNat l1))))) → (mK M7 (mR M7 a0 10) = 16 ∧ mK M7 (mR M7 (mR M7 a0 10) 16) = 30 ∧ ((0 : Int) ≤ l1 ∧ l1 < (mN M7 (mR M7 (mR M7 a0 10) 16) : Int)) ∧ ∀ M43, M43 = mUI M7 (mR M7 (mR M7 a0 10) 16) (Int.toNat l1) x8 → Q M43)))))) ∧ (¬ (mI M (mR M (mR M a0 10) 13) (Int.toNat l1) = 0) → (Cv G y_MM_workOut d [vr a0, vr (mR M a0 10), vi l2] M (fun M51 => mOk M51 ∧ (mK M51 a0 = 14 ∧ mK M51 (mR M51 a0 10) = 16 ∧ mK M51 (mR M51 a0 21) = 33 ∧ ((0 : Int) ≤ 0 ∧ 0 < (mN M51 (mR M51 a0 21) : Int)) ∧ mK M51 (mR M51 (mR M51 a0 10) 16) = 30 ∧ ((0 : Int) ≤ l1 ∧ l1 < (mN M51 (mR M51 (mR M51 a0 10) 16) : Int)) ∧ ∀ M61, M61 = mUI M51 (mR M51 (mR M51 a0 10) 16) (Int.toNat l1) (w32 (mL M51 (mR M51 a0 21) 0)) → Q M61))))) :
    Cv G y_MM_begins (d + 1) [vr a0, vi l1, vi l2, vi l3] M Q := by
  refine wm_open (y := y_MM_begins) rfl (Nat.le_of_ble_eq_true rfl) (L := [vr a0, vi l1, vi l2, vi l3, vd]) rfl ?_
  obtain ⟨h1, h⟩ := h
  obtain ⟨h2, h⟩ := h
  obtain ⟨h3, h⟩ := h
  obtain ⟨h4, h⟩ := h
  refine wm_aload_n d_MM_begins_0 rfl rfl ?_
  refine gf_MM_38 rfl d_MM_begins_1 h1 ?_
  refine gf_MM_357 rfl d_MM_begins_4 h2 ?_
  refine wm_iload_n d_MM_begins_7 rfl rfl ?_
  refine wm_zald d_MM_begins_8 h3 h4 ?_
  refine wm_if_eq (tgt := 38) d_MM_begins_9 rfl (hO _ _).1 (fun c6 => ?_) (fun c6 => ?_)
  · replace h := h.1 c6
    refine wm_aload_n d_MM_begins_38 rfl rfl ?_
    refine wm_iload_n d_MM_begins_39 rfl rfl ?_
    refine wm_iload_n d_MM_begins_40 rfl rfl ?_
    refine cf_MM_466 rfl d_MM_begins_41 h1 (Nat.le_of_ble_eq_true rfl) (Ci.mono h (fun x8 M7 h => ?_))
    obtain ⟨h9, hOM7, h⟩ := h
    obtain ⟨h10, h⟩ := h
    refine wm_istore d_MM_begins_44 (by decide) (L' := [vr a0, vi l1, vi l2, vi l3, vi x8]) rfl ?_
    refine wm_aload_n d_MM_begins_46 rfl rfl ?_
    refine gf_MM_267 rfl d_MM_begins_47 h10 ?_
    obtain ⟨s24, h⟩ := h
    have hE0 : ((mI M7 a0 16 = 0) ∧ ((x8 < mI M7 (mR M7 (mR M7 a0 10) 14) (Int.toNat l1)) ∨ (¬ (x8 ≤ mI M7 (mR M7 (mR M7 a0 10) 15) (Int.toNat l1))))) → mWm G y_MM_begins (d + 1) 81 [vr a0, vi l1, vi l2, vi l3, vi x8] [] M7 (fun r9 M9 => r9 = none ∧ Q M9) := by
      intro q25
      have h := h.1 q25
      refine wm_aload_n d_MM_begins_81 rfl rfl ?_
      refine wm_bipush d_MM_begins_82 (by decide) ?_
      refine wm_aload_n d_MM_begins_84 rfl rfl ?_
      refine wm_iload_n d_MM_begins_85 rfl rfl ?_
      refine cf_MM_279 rfl d_MM_begins_86 h10 (Nat.le_of_ble_eq_true rfl) (Ci.mono h (fun x27 M26 h => ?_))
      obtain ⟨h28, hOM26, h⟩ := h
      obtain ⟨h29, h⟩ := h
      refine cf_MM_351 rfl d_MM_begins_89 h29 (Nat.le_of_ble_eq_true rfl) (Cv.mono h (fun M30 h => ?_))
      obtain ⟨hOM30, h⟩ := h
      obtain ⟨h33, h⟩ := h
      obtain ⟨h34, h⟩ := h
      obtain ⟨h35, h⟩ := h
      obtain ⟨h36, h⟩ := h
      obtain ⟨M37, e38⟩ : ∃ M37, M37 = mUI M30 (mR M30 (mR M30 a0 10) 16) (Int.toNat l1) x8 := ⟨_, rfl⟩
      replace h := h M37 e38
      refine wm_aload_n d_MM_begins_92 rfl rfl ?_
      refine gf_MM_38 rfl d_MM_begins_93 h33 ?_
      refine gf_MM_469 rfl d_MM_begins_96 h34 ?_
      refine wm_iload_n d_MM_begins_99 rfl rfl ?_
      refine wm_iload d_MM_begins_100 rfl ?_
      have hOM37 : mOk M37 := by rw [e38]; exact mOk_UI hOM30 h9
      refine wm_iastE d_MM_begins_102 h35 h36 h9 e38 ?_
      refine wm_return d_MM_begins_103 rfl ?_
      exact ⟨rfl, h⟩
    have hE1 : ¬ ((mI M7 a0 16 = 0) ∧ ((x8 < mI M7 (mR M7 (mR M7 a0 10) 14) (Int.toNat l1)) ∨ (¬ (x8 ≤ mI M7 (mR M7 (mR M7 a0 10) 15) (Int.toNat l1))))) → mWm G y_MM_begins (d + 1) 92 [vr a0, vi l1, vi l2, vi l3, vi x8] [] M7 (fun r9 M9 => r9 = none ∧ Q M9) := by
      intro q39
      have h := h.2 q39
      obtain ⟨h40, h⟩ := h
      obtain ⟨h41, h⟩ := h
      obtain ⟨h42, h⟩ := h
      obtain ⟨M43, e44⟩ : ∃ M43, M43 = mUI M7 (mR M7 (mR M7 a0 10) 16) (Int.toNat l1) x8 := ⟨_, rfl⟩
      replace h := h M43 e44
      refine wm_aload_n d_MM_begins_92 rfl rfl ?_
      refine gf_MM_38 rfl d_MM_begins_93 h10 ?_
      refine gf_MM_469 rfl d_MM_begins_96 h40 ?_
      refine wm_iload_n d_MM_begins_99 rfl rfl ?_
      refine wm_iload d_MM_begins_100 rfl ?_
      have hOM43 : mOk M43 := by rw [e44]; exact mOk_UI hOM7 h9
      refine wm_iastE d_MM_begins_102 h41 h42 h9 e44 ?_
      refine wm_return d_MM_begins_103 rfl ?_
      exact ⟨rfl, h⟩
    clear h
    have s45 := s24
    refine wm_if_ne (tgt := 92) d_MM_begins_50 rfl (hOM7 _ _).1 (fun c23 => ?_) (fun c23 => ?_)
    · exact hE1 (fun z50 => c23 z50.1)
    · replace c23 := Classical.not_not.mp c23
      have s45 := s45 c23
      obtain ⟨h16, h17, h18, s46⟩ := s45
      refine wm_iload d_MM_begins_53 rfl ?_
      refine wm_aload_n d_MM_begins_55 rfl rfl ?_
      refine gf_MM_38 rfl d_MM_begins_56 h10 ?_
      refine gf_MM_461 rfl d_MM_begins_59 h16 ?_
      refine wm_iload_n d_MM_begins_62 rfl rfl ?_
      refine wm_iald d_MM_begins_63 h17 h18 ?_
      refine wm_icmp_lt (tgt := 81) d_MM_begins_64 rfl h9 (hOM7 _ _).1 (fun c22 => ?_) (fun c22 => ?_)
      · exact hE0 ⟨c23, (Or.inl c22)⟩
      · have s46 := s46 c22
        obtain ⟨h19, h20⟩ := s46
        refine wm_iload d_MM_begins_67 rfl ?_
        refine wm_aload_n d_MM_begins_69 rfl rfl ?_
        refine gf_MM_38 rfl d_MM_begins_70 h10 ?_
        refine gf_MM_463 rfl d_MM_begins_73 h16 ?_
        refine wm_iload_n d_MM_begins_76 rfl rfl ?_
        refine wm_iald d_MM_begins_77 h19 h20 ?_
        refine wm_icmp_le (tgt := 92) d_MM_begins_78 rfl h9 (hOM7 _ _).1 (fun c21 => ?_) (fun c21 => ?_)
        · exact hE1 (fun z47 => (fun z48 => Or.elim z48 c22 (fun z49 => z49 c21)) z47.2)
        · exact hE0 ⟨c23, (Or.inr c21)⟩
  · replace h := h.2 c6
    refine wm_aload_n d_MM_begins_12 rfl rfl ?_
    refine wm_aload_n d_MM_begins_13 rfl rfl ?_
    refine gf_MM_38 rfl d_MM_begins_14 h1 ?_
    refine wm_iload_n d_MM_begins_17 rfl rfl ?_
    refine cf_MM_450 rfl d_MM_begins_18 h1 (Nat.le_of_ble_eq_true rfl) (Cv.mono h (fun M51 h => ?_))
    obtain ⟨hOM51, h⟩ := h
    obtain ⟨h54, h⟩ := h
    obtain ⟨h55, h⟩ := h
    obtain ⟨h56, h⟩ := h
    obtain ⟨h57, h⟩ := h
    obtain ⟨h58, h⟩ := h
    obtain ⟨h59, h⟩ := h
    have h60 := i32_w32 (x := mL M51 (mR M51 a0 21) 0)
    obtain ⟨M61, e62⟩ : ∃ M61, M61 = mUI M51 (mR M51 (mR M51 a0 10) 16) (Int.toNat l1) (w32 (mL M51 (mR M51 a0 21) 0)) := ⟨_, rfl⟩
    replace h := h M61 e62
    refine wm_aload_n d_MM_begins_21 rfl rfl ?_
    refine gf_MM_38 rfl d_MM_begins_22 h54 ?_
    refine gf_MM_469 rfl d_MM_begins_25 h55 ?_
    refine wm_iload_n d_MM_begins_28 rfl rfl ?_
    refine wm_aload_n d_MM_begins_29 rfl rfl ?_
    refine gf_MM_63 rfl d_MM_begins_30 h54 ?_
    refine wm_iconst d_MM_begins_33 ?_
    refine wm_lald d_MM_begins_34 h56 h57 ?_
    refine wm_l2iw d_MM_begins_35 ?_
    have hOM61 : mOk M61 := by rw [e62]; exact mOk_UI hOM51 h60
    refine wm_iastE d_MM_begins_36 h58 h59 h60 e62 ?_
    refine wm_return d_MM_begins_37 rfl ?_
    exact ⟨rfl, h⟩

theorem k_MM_varItem_215w {G : mG} {d : Nat} {a0 : Nat} {l1 : Int} {l3 : Int} {l4 : Int} {l5 : Int} {l6 : Int} {l7 : Int} {l8 : Int} {l9 : Int} {k0 : Int} {M : mM} {Q : mM → Prop} (hO : mOk M) (hi_l1 : i32 l1) (hi_l3 : i32 l3) (hi_l4 : i32 l4) (hi_l5 : i32 l5) (hi_l6 : i32 l6) (hi_l7 : i32 l7) (hi_l8 : i32 l8) (hi_l9 : i32 l9) (hi_k0 : i32 k0)
    (h : mK M a0 = 14 ∧ ((mI M a0 16 = 0) → (((l4 = 0) → (mK M (mR M a0 10) = 16 ∧ Ci G y_MM_wholeOf d [vr a0, vi l7, vi (l1 + 3)] M (fun x107 M106 => i32 x107 ∧ mOk M106 ∧ (mK M106 (mR M (mR M a0 10) 14) = 30 ∧ ((0 : Int) ≤ l3 ∧ l3 < (mN M106 (mR M (mR M a0 10) 14) : Int)) ∧ ∀ M111, M111 = mUI M106 (mR M (mR M a0 10) 14) (Int.toNat l3) x107 → mK M111 a0 = 14 ∧ mK M111 (mR M111 a0 10) = 16 ∧ Ci G y_MM_wholeOf d [vr a0, vi l8, vi (l9 + 1)] M111 (fun x116 M115 => i32 x116 ∧ mOk M115 ∧ (mK M115 (mR M111 (mR M111 a0 10) 15) = 30 ∧ ((0 : Int) ≤ l3 ∧ l3 < (mN M115 (mR M111 (mR M111 a0 10) 15) : Int)) ∧ ∀ M120, M120 = mUI M115 (mR M111 (mR M111 a0 10) 15) (Int.toNat l3) x116 → mK M120 a0 = 14 ∧ mK M120 (mR M120 a0 10) = 16 ∧ mK M120 (mR M120 (mR M120 a0 10) 14) = 30 ∧ ((0 : Int) ≤ l3 ∧ l3 < (mN M120 (mR M120 (mR M120 a0 10) 14) : Int)) ∧ mK M120 (mR M120 (mR M120 a0 10) 15) = 30 ∧ ((0 : Int) ≤ l3 ∧ l3 < (mN M120 (mR M120 (mR M120 a0 10) 15) : Int)) ∧ (¬ (mI M120 (mR M120 (mR M120 a0 10) 15) (Int.toNat l3) < mI M120 (mR M120 (mR M120 a0 10) 14) (Int.toNat l3)) → (((0 : Int) ≤ l3 ∧ l3 < (mN M120 (mR M120 (mR M120 a0 10) 15) : Int)) ∧ ((0 : Int) ≤ l3 ∧ l3 < (mN M120 (mR M120 (mR M120 a0 10) 14) : Int)) ∧ True)) ∧ ∀ v133 : Int, v133 = (if ((mI M120 (mR M120 (mR M120 a0 10) 15) (Int.toNat l3) < mI M120 (mR M120 (mR M120 a0 10) 14) (Int.toNat l3)) ∨ (10000 ≤ w32 ((mI M120 (mR M120 (mR M120 a0 10) 15) (Int.toNat l3)) - (mI M120 (mR M120 (mR M120 a0 10) 14) (Int.toNat l3))))) then 0 else 1) → (((mI M120 a0 16 = 0) ∧ (v133 = 0)) → (Ci G y_MM_place0 d [vr a0, vi (l9 + 1)] M120 (fun x143 M142 => i32 x143 ∧ mOk M142 ∧ (mK M142 a0 = 14 ∧ Cv G y_MM_stop d [vr a0, vi 9, vi x143] M142 (fun M146 => mOk M146 ∧ (h_MM_varItem_369 G d a0 l1 l3 l5 l6 k0 M146 Q)))))) ∧ (¬ ((mI M120 a0 16 = 0) ∧ (v133 = 0)) → (h_MM_varItem_369 G d a0 l1 l3 l5 l6 k0 M120 Q)))))))) ∧ (¬ (l4 = 0) → (mK M (mR M a0 10) = 16 ∧ mK M (mR M (mR M a0 10) 14) = 30 ∧ ((0 : Int) ≤ l3 ∧ l3 < (mN M (mR M (mR M a0 10) 14) : Int)) ∧ ∀ M159, M159 = mUI M (mR M (mR M a0 10) 14) (Int.toNat l3) 0 → mK M159 (mR M159 a0 10) = 16 ∧ mK M159 (mR M159 (mR M159 a0 10) 15) = 30 ∧ ((0 : Int) ≤ l3 ∧ l3 < (mN M159 (mR M159 (mR M159 a0 10) 15) : Int)) ∧ ∀ M164, M164 = mUI M159 (mR M159 (mR M159 a0 10) 15) (Int.toNat l3) 1 → h_MM_varItem_369 G d a0 l1 l3 l5 l6 k0 M164 Q)))) ∧ (¬ (mI M a0 16 = 0) → (Q M))) :
    h_MM_varItem_215 G d a0 l1 l3 l4 l5 l6 l7 l8 l9 k0 M Q := by
  unfold h_MM_varItem_215
  obtain ⟨h99, h⟩ := h
  refine wm_istore d_MM_varItem_215 (by decide) (L' := [vr a0, vi l1, vd, vi l3, vi l4, vi l5, vi l6, vi l7, vi l8, vi l9, vi k0, vd]) rfl ?_
  refine wm_aload_n d_MM_varItem_217 rfl rfl ?_
  refine gf_MM_267 rfl d_MM_varItem_218 h99 ?_
  refine wm_if_eq (tgt := 225) d_MM_varItem_221 rfl (hO _ _).1 (fun c102 => ?_) (fun c102 => ?_)
  · replace h := h.1 c102
    refine wm_iload d_MM_varItem_225 rfl ?_
    refine wm_if_eq (tgt := 253) d_MM_varItem_227 rfl hi_l4 (fun c104 => ?_) (fun c104 => ?_)
    · replace h := h.1 c104
      obtain ⟨h105, h⟩ := h
      refine wm_aload_n d_MM_varItem_253 rfl rfl ?_
      refine gf_MM_38 rfl d_MM_varItem_254 h99 ?_
      refine gf_MM_461 rfl d_MM_varItem_257 h105 ?_
      refine wm_iload_n d_MM_varItem_260 rfl rfl ?_
      refine wm_aload_n d_MM_varItem_261 rfl rfl ?_
      refine wm_iload d_MM_varItem_262 rfl ?_
      refine wm_iload_n d_MM_varItem_264 rfl rfl ?_
      refine wm_iconst d_MM_varItem_265 ?_
      refine wm_iadd d_MM_varItem_266 ?_
      refine cf_MM_466 rfl d_MM_varItem_267 h99 (Nat.le_of_ble_eq_true rfl) (Ci.mono h (fun x107 M106 h => ?_))
      obtain ⟨h108, hOM106, h⟩ := h
      obtain ⟨h109, h⟩ := h
      obtain ⟨h110, h⟩ := h
      obtain ⟨M111, e112⟩ : ∃ M111, M111 = mUI M106 (mR M (mR M a0 10) 14) (Int.toNat l3) x107 := ⟨_, rfl⟩
      replace h := h M111 e112
      obtain ⟨h113, h⟩ := h
      obtain ⟨h114, h⟩ := h
      have hOM111 : mOk M111 := by rw [e112]; exact mOk_UI hOM106 h108
      refine wm_iastE d_MM_varItem_270 h109 h110 h108 e112 ?_
      refine wm_aload_n d_MM_varItem_271 rfl rfl ?_
      refine gf_MM_38 rfl d_MM_varItem_272 h113 ?_
      refine gf_MM_463 rfl d_MM_varItem_275 h114 ?_
      refine wm_iload_n d_MM_varItem_278 rfl rfl ?_
      refine wm_aload_n d_MM_varItem_279 rfl rfl ?_
      refine wm_iload d_MM_varItem_280 rfl ?_
      refine wm_iload d_MM_varItem_282 rfl ?_
      refine wm_iconst d_MM_varItem_284 ?_
      refine wm_iadd d_MM_varItem_285 ?_
      refine cf_MM_466 rfl d_MM_varItem_286 h113 (Nat.le_of_ble_eq_true rfl) (Ci.mono h (fun x116 M115 h => ?_))
      obtain ⟨h117, hOM115, h⟩ := h
      obtain ⟨h118, h⟩ := h
      obtain ⟨h119, h⟩ := h
      obtain ⟨M120, e121⟩ : ∃ M120, M120 = mUI M115 (mR M111 (mR M111 a0 10) 15) (Int.toNat l3) x116 := ⟨_, rfl⟩
      replace h := h M120 e121
      obtain ⟨h122, h⟩ := h
      obtain ⟨h123, h⟩ := h
      obtain ⟨h124, h⟩ := h
      obtain ⟨h125, h⟩ := h
      obtain ⟨h126, h⟩ := h
      obtain ⟨h127, h⟩ := h
      have hOM120 : mOk M120 := by rw [e121]; exact mOk_UI hOM115 h117
      refine wm_iastE d_MM_varItem_289 h118 h119 h117 e121 ?_
      refine wm_aload_n d_MM_varItem_290 rfl rfl ?_
      refine gf_MM_38 rfl d_MM_varItem_291 h122 ?_
      refine gf_MM_461 rfl d_MM_varItem_294 h123 ?_
      refine wm_iload_n d_MM_varItem_297 rfl rfl ?_
      refine wm_iald d_MM_varItem_298 h124 h125 ?_
      refine wm_aload_n d_MM_varItem_299 rfl rfl ?_
      refine gf_MM_38 rfl d_MM_varItem_300 h122 ?_
      refine gf_MM_463 rfl d_MM_varItem_303 h123 ?_
      refine wm_iload_n d_MM_varItem_306 rfl rfl ?_
      refine wm_iald d_MM_varItem_307 h126 h127 ?_
      obtain ⟨s134, h⟩ := h
      have hJ : ∀ v133 : Int, v133 = (if ((mI M120 (mR M120 (mR M120 a0 10) 15) (Int.toNat l3) < mI M120 (mR M120 (mR M120 a0 10) 14) (Int.toNat l3)) ∨ (10000 ≤ w32 ((mI M120 (mR M120 (mR M120 a0 10) 15) (Int.toNat l3)) - (mI M120 (mR M120 (mR M120 a0 10) 14) (Int.toNat l3))))) then 0 else 1) → mWm G y_MM_varItem (d + 1) 341 [vr a0, vi l1, vd, vi l3, vd, vi l5, vi l6, vd, vd, vi l9, vi k0, vd] [vi v133] M120 (fun r9 M9 => r9 = none ∧ Q M9) := by
        intro v133 e135
        have h := h v133 e135
        have h136 : i32 v133 := by rw [e135]; (repeat' split) <;> first | exact ⟨by decide, by decide⟩ | exact ⟨by decide, by decide⟩
        have h137 : (v133 = 0 ∨ v133 = 1) := by rw [e135]; (repeat' split) <;> decide
        refine wm_istore d_MM_varItem_341 (by decide) (L' := [vr a0, vi l1, vd, vi l3, vd, vi l5, vi l6, vd, vd, vi l9, vi k0, vi v133]) rfl ?_
        refine wm_aload_n d_MM_varItem_343 rfl rfl ?_
        refine gf_MM_267 rfl d_MM_varItem_344 h122 ?_
        have hE0 : ((mI M120 a0 16 = 0) ∧ (v133 = 0)) → mWm G y_MM_varItem (d + 1) 355 [vr a0, vi l1, vd, vi l3, vd, vi l5, vi l6, vd, vd, vi l9, vi k0, vi v133] [] M120 (fun r9 M9 => r9 = none ∧ Q M9) := by
          intro q141
          have h := h.1 q141
          refine wm_aload_n d_MM_varItem_355 rfl rfl ?_
          refine wm_bipush d_MM_varItem_356 (by decide) ?_
          refine wm_aload_n d_MM_varItem_358 rfl rfl ?_
          refine wm_iload d_MM_varItem_359 rfl ?_
          refine wm_iconst d_MM_varItem_361 ?_
          refine wm_iadd d_MM_varItem_362 ?_
          refine cf_MM_279 rfl d_MM_varItem_363 h122 (Nat.le_of_ble_eq_true rfl) (Ci.mono h (fun x143 M142 h => ?_))
          obtain ⟨h144, hOM142, h⟩ := h
          obtain ⟨h145, h⟩ := h
          refine cf_MM_351 rfl d_MM_varItem_366 h145 (Nat.le_of_ble_eq_true rfl) (Cv.mono h (fun M146 h => ?_))
          obtain ⟨hOM146, h⟩ := h
          refine wm_less (L' := [vr a0, vi l1, vd, vi l3, vd, vi l5, vi l6, vd, vd, vd, vi k0, vd]) ⟨Or.inr rfl, Or.inr rfl, Or.inl rfl, Or.inr rfl, Or.inl rfl, Or.inr rfl, Or.inr rfl, Or.inl rfl, Or.inl rfl, Or.inl rfl, Or.inr rfl, Or.inl rfl, trivial⟩ ?_
          exact h
        have hE1 : ¬ ((mI M120 a0 16 = 0) ∧ (v133 = 0)) → mWm G y_MM_varItem (d + 1) 369 [vr a0, vi l1, vd, vi l3, vd, vi l5, vi l6, vd, vd, vi l9, vi k0, vi v133] [] M120 (fun r9 M9 => r9 = none ∧ Q M9) := by
          intro q149
          have h := h.2 q149
          refine wm_less (L' := [vr a0, vi l1, vd, vi l3, vd, vi l5, vi l6, vd, vd, vd, vi k0, vd]) ⟨Or.inr rfl, Or.inr rfl, Or.inl rfl, Or.inr rfl, Or.inl rfl, Or.inr rfl, Or.inr rfl, Or.inl rfl, Or.inl rfl, Or.inl rfl, Or.inr rfl, Or.inl rfl, trivial⟩ ?_
          exact h
        clear h
        refine wm_if_ne (tgt := 369) d_MM_varItem_347 rfl (hOM120 _ _).1 (fun c139 => ?_) (fun c139 => ?_)
        · exact hE1 (fun z152 => c139 z152.1)
        · replace c139 := Classical.not_not.mp c139
          refine wm_iload d_MM_varItem_350 rfl ?_
          refine wm_if_ne (tgt := 369) d_MM_varItem_352 rfl h136 (fun c138 => ?_) (fun c138 => ?_)
          · exact hE1 (fun z150 => c138 z150.2)
          · replace c138 := Classical.not_not.mp c138
            exact hE0 ⟨c139, c138⟩
      clear h
      have s153 := s134
      refine wm_icmp_gt (tgt := 340) d_MM_varItem_308 rfl (hOM120 _ _).1 (hOM120 _ _).1 (fun c128 => ?_) (fun c128 => ?_)
      · refine wm_iconst d_MM_varItem_340 ?_
        refine wm_less (L' := [vr a0, vi l1, vd, vi l3, vd, vi l5, vi l6, vd, vd, vi l9, vi k0, vd]) ⟨Or.inr rfl, Or.inr rfl, Or.inl rfl, Or.inr rfl, Or.inl rfl, Or.inr rfl, Or.inr rfl, Or.inl rfl, Or.inl rfl, Or.inr rfl, Or.inr rfl, Or.inl rfl, trivial⟩ ?_
        exact hJ 0 (if_pos (Or.inl c128)).symm
      · have s153 := s153 c128
        obtain ⟨h129, h130, h131⟩ := s153
        refine wm_aload_n d_MM_varItem_311 rfl rfl ?_
        refine gf_MM_38 rfl d_MM_varItem_312 h122 ?_
        refine gf_MM_463 rfl d_MM_varItem_315 h123 ?_
        refine wm_iload_n d_MM_varItem_318 rfl rfl ?_
        refine wm_iald d_MM_varItem_319 h126 h129 ?_
        refine wm_aload_n d_MM_varItem_320 rfl rfl ?_
        refine gf_MM_38 rfl d_MM_varItem_321 h122 ?_
        refine gf_MM_461 rfl d_MM_varItem_324 h123 ?_
        refine wm_iload_n d_MM_varItem_327 rfl rfl ?_
        refine wm_iald d_MM_varItem_328 h124 h130 ?_
        refine wm_isub d_MM_varItem_329 ?_
        refine wm_w ?_
        refine wm_sipush d_MM_varItem_330 (by decide) ?_
        refine wm_icmp_ge (tgt := 340) d_MM_varItem_333 rfl i32_w32 ⟨by decide, by decide⟩ (fun c132 => ?_) (fun c132 => ?_)
        · refine wm_iconst d_MM_varItem_340 ?_
          refine wm_less (L' := [vr a0, vi l1, vd, vi l3, vd, vi l5, vi l6, vd, vd, vi l9, vi k0, vd]) ⟨Or.inr rfl, Or.inr rfl, Or.inl rfl, Or.inr rfl, Or.inl rfl, Or.inr rfl, Or.inr rfl, Or.inl rfl, Or.inl rfl, Or.inr rfl, Or.inr rfl, Or.inl rfl, trivial⟩ ?_
          exact hJ 0 (if_pos (Or.inr c132)).symm
        · refine wm_iconst d_MM_varItem_336 ?_
          refine wm_goto (tgt := 341) d_MM_varItem_337 rfl ?_
          refine wm_less (L' := [vr a0, vi l1, vd, vi l3, vd, vi l5, vi l6, vd, vd, vi l9, vi k0, vd]) ⟨Or.inr rfl, Or.inr rfl, Or.inl rfl, Or.inr rfl, Or.inl rfl, Or.inr rfl, Or.inr rfl, Or.inl rfl, Or.inl rfl, Or.inr rfl, Or.inr rfl, Or.inl rfl, trivial⟩ ?_
          exact hJ 1 (if_neg (fun z154 => Or.elim z154 c128 c132)).symm
    · replace h := h.2 c104
      obtain ⟨h156, h⟩ := h
      obtain ⟨h157, h⟩ := h
      obtain ⟨h158, h⟩ := h
      obtain ⟨M159, e160⟩ : ∃ M159, M159 = mUI M (mR M (mR M a0 10) 14) (Int.toNat l3) 0 := ⟨_, rfl⟩
      replace h := h M159 e160
      obtain ⟨h161, h⟩ := h
      obtain ⟨h162, h⟩ := h
      obtain ⟨h163, h⟩ := h
      obtain ⟨M164, e165⟩ : ∃ M164, M164 = mUI M159 (mR M159 (mR M159 a0 10) 15) (Int.toNat l3) 1 := ⟨_, rfl⟩
      replace h := h M164 e165
      refine wm_aload_n d_MM_varItem_230 rfl rfl ?_
      refine gf_MM_38 rfl d_MM_varItem_231 h99 ?_
      refine gf_MM_461 rfl d_MM_varItem_234 h156 ?_
      refine wm_iload_n d_MM_varItem_237 rfl rfl ?_
      refine wm_iconst d_MM_varItem_238 ?_
      have hOM159 : mOk M159 := by rw [e160]; exact mOk_UI hO ⟨by decide, by decide⟩
      refine wm_iastE d_MM_varItem_239 h157 h158 ⟨by decide, by decide⟩ e160 ?_
      refine wm_aload_n d_MM_varItem_240 rfl rfl ?_
      refine gf_MM_38 rfl d_MM_varItem_241 (by rw [e160]; exact h99) ?_
      refine gf_MM_463 rfl d_MM_varItem_244 h161 ?_
      refine wm_iload_n d_MM_varItem_247 rfl rfl ?_
      refine wm_iconst d_MM_varItem_248 ?_
      have hOM164 : mOk M164 := by rw [e165]; exact mOk_UI hOM159 ⟨by decide, by decide⟩
      refine wm_iastE d_MM_varItem_249 h162 h163 ⟨by decide, by decide⟩ e165 ?_
      refine wm_goto (tgt := 369) d_MM_varItem_250 rfl ?_
      refine wm_less (L' := [vr a0, vi l1, vd, vi l3, vd, vi l5, vi l6, vd, vd, vd, vi k0, vd]) ⟨Or.inr rfl, Or.inr rfl, Or.inl rfl, Or.inr rfl, Or.inl rfl, Or.inr rfl, Or.inr rfl, Or.inl rfl, Or.inl rfl, Or.inl rfl, Or.inr rfl, Or.inl rfl, trivial⟩ ?_
      exact h
  · replace h := h.2 c102
    refine wm_return d_MM_varItem_224 rfl ?_
    exact ⟨rfl, h⟩
end
section
/-! The grammar as a machine over words: its steps, what it reaches, what it refuses. -/
/-- levels that are open -/
def slv (st : List Int) : Int := (c75 st : Int) - c76 st
/-- one step before the word x: none if it is refused; else the pile, and how many words were taken -/
def mst (x : Int) : List Int → Option (List Int × Nat)
  | [] => none
  | y :: r => if y = 75 then some (r, 0) else if y < 50 then (if y = x then some (r, 1) else none) else
    match ex y x with
    | none => none
    | some u => if dlv y u.1 = 1 ∧ 40 ≤ slv (y :: r) then none else some (u.1 ++ r, u.2)
section MA
variable {w : Nat → Int} {x y : Int} {r st : List Int} {k : Nat}
theorem mst_c : mst x (y :: r) = if y = 75 then some (r, 0) else if y < 50 then (if y = x then some (r, 1) else none) else
    match ex y x with
    | none => none
    | some u => if dlv y u.1 = 1 ∧ 40 ≤ slv (y :: r) then none else some (u.1 ++ r, u.2) := rfl
theorem mst_75 : mst x (75 :: r) = some (r, 0) := by rw [mst_c, if_pos rfl]
theorem mst_t (h : y < 50) (e : y = x) : mst x (y :: r) = some (r, 1) := by rw [mst_c, if_neg (by omega), if_pos h, if_pos e]
theorem mst_tn (h : y < 50) (e : y ≠ x) : mst x (y :: r) = none := by rw [mst_c, if_neg (by omega), if_pos h, if_neg e]
theorem mst_n (h : 50 ≤ y) (h5 : y ≠ 75) {ys : List Int} {t : Nat} (he : ex y x = some (ys, t)) (hd : dlv y ys ≠ 1 ∨ slv (y :: r) < 40) : mst x (y :: r) = some (ys ++ r, t) := by
  rw [mst_c, if_neg h5, if_neg (by omega), he]
  show (if dlv y ys = 1 ∧ 40 ≤ slv (y :: r) then none else some (ys ++ r, t)) = some (ys ++ r, t)
  rw [if_neg (by omega)]
theorem mst_no (h : 50 ≤ y) (h5 : y ≠ 75) (he : ex y x = none) : mst x (y :: r) = none := by
  rw [mst_c, if_neg h5, if_neg (by omega), he]
theorem mst_deep (h : 50 ≤ y) (h5 : y ≠ 75) {ys : List Int} {t : Nat} (he : ex y x = some (ys, t)) (hd : dlv y ys = 1) (hl : 40 ≤ slv (y :: r)) : mst x (y :: r) = none := by
  rw [mst_c, if_neg h5, if_neg (by omega), he]
  show (if dlv y ys = 1 ∧ 40 ≤ slv (y :: r) then none else some (ys ++ r, t)) = none
  rw [if_pos ⟨hd, hl⟩]
/-- n steps from the pile st at word k -/
def mit (w : Nat → Int) : Nat → List Int → Nat → Option (List Int × Nat)
  | 0, st, k => some (st, k)
  | n + 1, st, k => match mst (w k) st with
    | none => none
    | some u => mit w n u.1 (k + u.2)
/-- the machine comes from here to there -/
def Rc (w : Nat → Int) (st : List Int) (k : Nat) (st' : List Int) (k' : Nat) : Prop := ∃ n, mit w n st k = some (st', k')
/-- it refuses word q -/
def Rf (w : Nat → Int) (st : List Int) (k q : Nat) : Prop := ∃ st', Rc w st k st' q ∧ st' ≠ [] ∧ mst (w q) st' = none
theorem mit_s {n : Nat} {st1 : List Int} {t : Nat} (h : mst (w k) st = some (st1, t)) : mit w (n + 1) st k = mit w n st1 (k + t) := by
  show (match mst (w k) st with | none => none | some u => mit w n u.1 (k + u.2)) = _
  rw [h]
theorem mit_add {m : Nat} : ∀ (n : Nat) {st st1 : List Int} {k k1 : Nat}, mit w n st k = some (st1, k1) → mit w (n + m) st k = mit w m st1 k1
  | 0, st, st1, k, k1, h => by
    have e : (some (st, k) : Option (List Int × Nat)) = some (st1, k1) := h
    injection e with e
    injection e with e1 e2
    rw [← e1, ← e2, Nat.zero_add]
  | n + 1, st, st1, k, k1, h => by
    rw [show n + 1 + m = (n + m) + 1 by omega]
    cases q : mst (w k) st with
    | none =>
      have : mit w (n + 1) st k = none := by
        show (match mst (w k) st with | none => none | some u => mit w n u.1 (k + u.2)) = _
        rw [q]
      rw [this] at h
      cases h
    | some u =>
      obtain ⟨a, b⟩ := u
      rw [mit_s q] at h ⊢
      exact mit_add n h
theorem Rc.refl : Rc w st k st k := ⟨0, rfl⟩
theorem Rc.one {st1 : List Int} {t : Nat} (h : mst (w k) st = some (st1, t)) : Rc w st k st1 (k + t) := ⟨1, by rw [mit_s h]; rfl⟩
theorem Rc.zero {st1 : List Int} (h : mst (w k) st = some (st1, 0)) : Rc w st k st1 k := Rc.one h
theorem Rc.trans {s1 s2 : List Int} {k1 k2 : Nat} (h1 : Rc w st k s1 k1) (h2 : Rc w s1 k1 s2 k2) : Rc w st k s2 k2 := by
  obtain ⟨n, h1⟩ := h1
  obtain ⟨m, h2⟩ := h2
  exact ⟨n + m, by rw [mit_add n h1]; exact h2⟩
theorem Rf.of (h : mst (w k) (y :: r) = none) : Rf w (y :: r) k k := ⟨y :: r, Rc.refl, by simp, h⟩
theorem Rc.rf {s1 : List Int} {k1 q : Nat} (h : Rc w st k s1 k1) (f : Rf w s1 k1 q) : Rf w st k q := by
  obtain ⟨s, a, b⟩ := f
  exact ⟨s, h.trans a, b⟩
theorem mit_stop {m : Nat} (h : mst (w k) st = none) {u : List Int × Nat} (q : mit w m st k = some u) : m = 0 := by
  cases m with
  | zero => rfl
  | succ m =>
    have : mit w (m + 1) st k = none := by
      show (match mst (w k) st with | none => none | some u => mit w m u.1 (k + u.2)) = _
      rw [h]
    rw [this] at q
    cases q
/-- where it stops is one place -/
theorem Rc.same {s1 s2 : List Int} {k1 k2 : Nat} (h1 : Rc w st k s1 k1) (e1 : mst (w k1) s1 = none) (h2 : Rc w st k s2 k2) (e2 : mst (w k2) s2 = none) : s1 = s2 ∧ k1 = k2 := by
  obtain ⟨n, h1⟩ := h1
  obtain ⟨m, h2⟩ := h2
  by_cases c : n ≤ m
  · have q := mit_add (m := m - n) n h1
    rw [show n + (m - n) = m by omega, h2] at q
    have z := mit_stop e1 q.symm
    rw [z] at q
    have e : (some (s2, k2) : Option (List Int × Nat)) = some (s1, k1) := q
    injection e with e
    injection e with a b
    exact ⟨a.symm, b.symm⟩
  · have q := mit_add (m := n - m) m h2
    rw [show m + (n - m) = n by omega, h1] at q
    have z := mit_stop e2 q.symm
    omega
theorem Rf.same {q1 q2 : Nat} (h1 : Rf w st k q1) (h2 : Rf w st k q2) : q1 = q2 := by
  obtain ⟨s1, a1, -, c1⟩ := h1
  obtain ⟨s2, a2, -, c2⟩ := h2
  exact (a1.same c1 a2 c2).2
theorem Rf.not {q k1 : Nat} (h1 : Rf w st k q) (h2 : Rc w st k [] k1) : False := by
  obtain ⟨s1, a1, b1, c1⟩ := h1
  exact b1 (a1.same c1 h2 rfl).1
end MA
/-! THE CLASS'S OPEN OPERATIONS, and the pile that belongs to them. Operations by the class's numbers, the latest first. -/
/-- how strong an operand may stand behind an operation -/
def rsq (o : Int) : Nat := if o = 40 ∨ (27 ≤ o ∧ o ≤ 29) then 0 else if o = 25 ∨ o = 26 then 1 else if 19 ≤ o ∧ o ≤ 24 then 2 else if o = 41 ∨ o = 30 then 3 else if o = 31 then 4 else 6
/-- how strong it makes what it joins -/
def cst (o : Int) : Nat := if 27 ≤ o ∧ o ≤ 29 then 1 else if o = 25 ∨ o = 26 then 2 else if (19 ≤ o ∧ o ≤ 24) ∨ o = 41 then 3 else if o = 30 then 4 else if o = 31 then 5 else if o = 33 ∨ o = 42 then 6 else 0
/-- what is wanted behind its operand -/
def hdT (o : Int) : List Int := if 27 ≤ o ∧ o ≤ 29 then [72] else if o = 25 ∨ o = 26 then [70] else if 19 ≤ o ∧ o ≤ 24 then [] else if o = 41 ∨ o = 40 ∨ o = 42 then [75] else if o = 30 then [66] else if o = 31 then [64] else if o = 37 then [37, 75] else if o = 15 ∨ o = 16 then [74, 37, 75] else [33, 61, 75]
def cdq (o : Int) : Nat := if o = 15 ∨ o = 16 ∨ o = 33 ∨ o = 37 ∨ o = 40 ∨ o = 41 ∨ o = 42 then 1 else 0
def opq (o : Int) : Prop := o = 15 ∨ o = 16 ∨ (19 ≤ o ∧ o ≤ 31) ∨ o = 33 ∨ o = 37 ∨ o = 40 ∨ o = 41 ∨ o = 42
def rsl (q : Nat) : List Int → Nat
  | [] => q
  | o :: _ => rsq o
/-- the rests from strength a up to b -/
def rst (a b : Nat) : List Int := ([72, 70, 68, 66, 64, 62].take b).drop a
/-- what stands below the operand that is read or wanted; z below the rule, q its strength -/
def gyT (z : List Int) (q : Nat) : List Int → List Int
  | [] => z
  | o :: t => hdT o ++ (rst (cst o) (rsl q t) ++ gyT z q t)
def gyR (z : List Int) (q c : Nat) (os : List Int) : List Int := rst c (rsl q os) ++ gyT z q os
def ntq (c : Nat) : Int := if c = 0 then 73 else if c = 1 then 71 else if c = 2 then 69 else if c = 3 then 67 else if c = 4 then 65 else if c = 5 then 63 else 61
/-- an operand is wanted -/
def gyW (z : List Int) (q : Nat) (os : List Int) : List Int := ntq (rsl q os) :: gyT z q os
/-- operations stand one above another as they may -/
def woq (q : Nat) : List Int → Prop
  | [] => True
  | o :: t => opq o ∧ cst o ≤ rsl q t ∧ woq q t
def lvs : List Int → Nat
  | [] => 0
  | o :: t => cdq o + lvs t
/-- how strong the operation of a word is -/
def lwx (x : Int) : Nat := if 26 ≤ x ∧ x ≤ 28 then 1 else if x = 24 ∨ x = 25 then 2 else if 18 ≤ x ∧ x ≤ 23 then 3 else if x = 29 then 4 else if x = 30 then 5 else if x = 32 then 6 else 0
def rsy (c : Nat) : Int := if c = 0 then 72 else if c = 1 then 70 else if c = 2 then 68 else if c = 3 then 66 else if c = 4 then 64 else 62
section MB
variable {w : Nat → Int} {S z : List Int} {k q : Nat} {os t : List Int} {o : Int}
theorem rst_cons {a b : Nat} (hb : b ≤ 6) (h : a < b) : rst a b = rsy a :: rst (a + 1) b := by
  have g : b = 1 ∨ b = 2 ∨ b = 3 ∨ b = 4 ∨ b = 5 ∨ b = 6 := by omega
  have e : a = 0 ∨ a = 1 ∨ a = 2 ∨ a = 3 ∨ a = 4 ∨ a = 5 := by omega
  rcases e with e | e | e | e | e | e <;> rcases g with g | g | g | g | g | g <;> first | omega | (rw [e, g]; rfl)
theorem rst_nil {a b : Nat} (h : b ≤ a) : rst a b = [] := by
  unfold rst
  exact List.drop_eq_nil_of_le (by rw [List.length_take]; omega)
theorem rsq_le (o : Int) : rsq o ≤ 6 := by unfold rsq; (repeat' split) <;> omega
theorem cst_le (o : Int) : cst o ≤ 6 := by unfold cst; (repeat' split) <;> omega
theorem rsl_le (hq : q ≤ 6) : rsl q os ≤ 6 := by
  cases os with
  | nil => exact hq
  | cons o t => exact rsq_le o
theorem gyT_c : gyT z q (o :: t) = hdT o ++ gyR z q (cst o) t := rfl
/-- a rest that no word goes on with -/
theorem rc_drop {c : Nat} (hc : c < 6) (h : lwx (w k) ≠ c + 1) : Rc w (rsy c :: S) k S k := by
  have e : c = 0 ∨ c = 1 ∨ c = 2 ∨ c = 3 ∨ c = 4 ∨ c = 5 := by omega
  unfold lwx at h
  rcases e with e | e | e | e | e | e <;> subst e
  · exact Rc.zero (mst_n (y := 72) (ys := []) (by decide) (by decide) (by rw [ex_72]; unfold ex72; rw [if_neg (by intro c; rw [if_pos (by omega)] at h; omega)]) (Or.inl (by decide)))
  · exact Rc.zero (mst_n (y := 70) (ys := []) (by decide) (by decide) (by rw [ex_70]; unfold ex70; rw [if_neg (by intro c; rw [if_neg (by omega), if_pos (by omega)] at h; omega)]) (Or.inl (by decide)))
  · exact Rc.zero (mst_n (y := 68) (ys := []) (by decide) (by decide) (by rw [ex_68]; unfold ex68; rw [if_neg (by intro c; rw [if_neg (by omega), if_neg (by omega), if_pos (by omega)] at h; omega)]) (Or.inl (by decide)))
  · exact Rc.zero (mst_n (y := 66) (ys := []) (by decide) (by decide) (by rw [ex_66]; unfold ex66; rw [if_neg (by intro c; rw [if_neg (by omega), if_neg (by omega), if_neg (by omega), if_pos (by omega)] at h; omega)]) (Or.inl (by decide)))
  · exact Rc.zero (mst_n (y := 64) (ys := []) (by decide) (by decide) (by rw [ex_64]; unfold ex64; rw [if_neg (by intro c; rw [if_neg (by omega), if_neg (by omega), if_neg (by omega), if_neg (by omega), if_pos (by omega)] at h; omega)]) (Or.inl (by decide)))
  · exact Rc.zero (mst_n (y := 62) (ys := []) (by decide) (by decide) (by rw [ex_62]; unfold ex62; rw [if_neg (by intro c; rw [if_neg (by omega), if_neg (by omega), if_neg (by omega), if_neg (by omega), if_neg (by omega), if_pos (by omega)] at h; omega)]) (Or.inl (by decide)))
theorem rc_drops {b : Nat} (hb : b ≤ 6) : ∀ (n a : Nat), b - a = n → (lwx (w k) ≤ a ∨ b < lwx (w k)) → Rc w (rst a b ++ S) k S k
  | 0, a, h, _ => by rw [rst_nil (by omega)]; exact Rc.refl
  | n + 1, a, h, hl => by
    rw [rst_cons hb (by omega)]
    exact (rc_drop (S := rst (a + 1) b ++ S) (by omega) (by omega)).trans (rc_drops hb n (a + 1) (by omega) (by omega))
theorem rc_to {a b c : Nat} (hb : b ≤ 6) (hac : a ≤ c) (hcb : c ≤ b) (hl : lwx (w k) ≤ a ∨ c < lwx (w k)) : Rc w (rst a b ++ S) k (rst c b ++ S) k := by
  have e : rst a b = rst a c ++ rst c b := by
    have h : ∀ n a, c - a = n → a ≤ c → rst a b = rst a c ++ rst c b := by
      intro n
      induction n with
      | zero => intro a h1 h2; rw [rst_nil (a := a) (b := c) (by omega), show a = c by omega]; rfl
      | succ n ih => intro a h1 h2; rw [rst_cons (a := a) hb (by omega), rst_cons (a := a) (b := c) (by omega) (by omega), ih (a + 1) (by omega) (by omega)]; rfl
    exact h _ a rfl hac
  rw [e, List.append_assoc]
  exact rc_drops (by omega) _ a rfl hl
/-- the wanted sign comes down -/
theorem rc_desc1 {c : Nat} (hc : c < 6) (h : w k ≠ 31 ∨ c ≠ 2) : Rc w (ntq (c + 1) :: S) k (ntq c :: rsy c :: S) k := by
  have e : c = 0 ∨ c = 1 ∨ c = 2 ∨ c = 3 ∨ c = 4 ∨ c = 5 := by omega
  rcases e with e | e | e | e | e | e <;> subst e
  · exact Rc.zero (mst_n (y := 71) (ys := [73, 72]) (by decide) (by decide) rfl (Or.inl (by decide)))
  · exact Rc.zero (mst_n (y := 69) (ys := [71, 70]) (by decide) (by decide) rfl (Or.inl (by decide)))
  · exact Rc.zero (mst_n (y := 67) (ys := [69, 68]) (by decide) (by decide) (by rw [ex_67]; unfold ex67; rw [if_neg (by omega)]) (Or.inl (by decide)))
  · exact Rc.zero (mst_n (y := 65) (ys := [67, 66]) (by decide) (by decide) rfl (Or.inl (by decide)))
  · exact Rc.zero (mst_n (y := 63) (ys := [65, 64]) (by decide) (by decide) rfl (Or.inl (by decide)))
  · exact Rc.zero (mst_n (y := 61) (ys := [63, 62]) (by decide) (by decide) rfl (Or.inl (by decide)))
theorem rc_desc {a : Nat} : ∀ (n b : Nat), b - a = n → a ≤ b → b ≤ 6 → (w k ≠ 31 ∨ 3 ≤ a ∨ b ≤ 2) → ∀ S, Rc w (ntq b :: S) k (ntq a :: (rst a b ++ S)) k
  | 0, b, h, h1, _, _, S => by rw [rst_nil (by omega), show b = a by omega]; exact Rc.refl
  | n + 1, b, h, h1, h6, hx, S => by
    have e := rc_desc1 (w := w) (k := k) (S := S) (c := b - 1) (by omega) (by omega)
    rw [show b - 1 + 1 = b by omega] at e
    refine e.trans ?_
    have r := rc_desc (a := a) n (b - 1) (by omega) (by omega) (by omega) (by omega) (rsy (b - 1) :: S)
    have hh : rst a (b - 1) ++ rsy (b - 1) :: S = rst a b ++ S := by
      have g : ∀ m a, b - 1 - a = m → a ≤ b - 1 → rst a b = rst a (b - 1) ++ [rsy (b - 1)] := by
        intro m
        induction m with
        | zero => intro a p1 p2; rw [rst_nil (a := a) (b := b - 1) (by omega), show a = b - 1 by omega, rst_cons h6 (by omega), rst_nil (by omega)]; rfl
        | succ m ih => intro a p1 p2; rw [rst_cons (a := a) h6 (by omega), rst_cons (a := a) (b := b - 1) (by omega) (by omega), ih (a + 1) (by omega) (by omega)]; rfl
      rw [g _ a rfl (by omega), List.append_assoc]
      rfl
    rw [hh] at r
    exact r
theorem slv_app (u v : List Int) : slv (u ++ v) = slv u + slv v := by unfold slv; rw [c75_app, c76_app]; omega
theorem slv_rst {b : Nat} (hb : b ≤ 6) : ∀ (n a : Nat), b - a = n → slv (rst a b) = 0
  | 0, a, h => by rw [rst_nil (by omega)]; rfl
  | n + 1, a, h => by
    rw [rst_cons hb (by omega), show rsy a :: rst (a + 1) b = [rsy a] ++ rst (a + 1) b from rfl, slv_app, slv_rst hb n (a + 1) (by omega)]
    have e : a = 0 ∨ a = 1 ∨ a = 2 ∨ a = 3 ∨ a = 4 ∨ a = 5 := by omega
    rcases e with e | e | e | e | e | e <;> subst e <;> decide
theorem slv_hdT {o : Int} (h : opq o) : slv (hdT o) = cdq o := by
  unfold opq at h
  unfold hdT cdq
  by_cases c1 : 27 ≤ o ∧ o ≤ 29
  · rw [if_pos c1, if_neg (by omega)]; decide
  · rw [if_neg c1]
    by_cases c2 : o = 25 ∨ o = 26
    · rw [if_pos c2, if_neg (by omega)]; decide
    · rw [if_neg c2]
      by_cases c3 : 19 ≤ o ∧ o ≤ 24
      · rw [if_pos c3, if_neg (by omega)]; decide
      · rw [if_neg c3]
        by_cases c4 : o = 41 ∨ o = 40 ∨ o = 42
        · rw [if_pos c4, if_pos (by omega)]; decide
        · rw [if_neg c4]
          by_cases c5 : o = 30
          · rw [if_pos c5, if_neg (by omega)]; decide
          · rw [if_neg c5]
            by_cases c6 : o = 31
            · rw [if_pos c6, if_neg (by omega)]; decide
            · rw [if_neg c6]
              by_cases c7 : o = 37
              · rw [if_pos c7, if_pos (by omega)]; decide
              · rw [if_neg c7]
                by_cases c8 : o = 15 ∨ o = 16
                · rw [if_pos c8, if_pos (by omega)]; decide
                · rw [if_neg c8, if_pos (by omega)]; decide
theorem slv_T (hq : q ≤ 6) : ∀ {os : List Int}, woq q os → slv (gyT z q os) = slv z + lvs os
  | [], _ => by show slv z = slv z + ((0 : Nat) : Int); omega
  | o :: t, h => by
    rw [gyT_c, slv_app, slv_hdT h.1]
    unfold gyR
    rw [slv_app, slv_rst (rsl_le hq) _ _ rfl, slv_T hq h.2.2]
    show _ = slv z + ((cdq o + lvs t : Nat) : Int)
    omega
theorem slv_R {c : Nat} (hq : q ≤ 6) (h : woq q os) : slv (gyR z q c os) = slv z + lvs os := by
  unfold gyR
  rw [slv_app, slv_rst (rsl_le hq) _ _ rfl, slv_T hq h]
  omega
theorem slv_nt {c : Nat} {S : List Int} : slv (ntq c :: S) = slv S := by
  rw [show ntq c :: S = [ntq c] ++ S from rfl, slv_app]
  have : slv [ntq c] = 0 := by unfold ntq; (repeat' split) <;> decide
  omega
end MB
end
section
/-! Steps of the class's reader as steps of the grammar's machine. -/
section SM
variable {w : Nat → Int} {S z : List Int} {k q c : Nat} {os t : List Int} {o : Int}
theorem ex73_0 {x : Int} (h : x = 1 ∨ x = 2 ∨ x = 12 ∨ x = 13) : ex 73 x = some ([], 1) := by rw [ex_73]; unfold ex73; rw [if_pos h]
theorem ex73_l {x : Int} (h : x = 14 ∨ x = 15) : ex 73 x = some ([76, 61, 74, 37, 75], 1) := by rw [ex_73]; unfold ex73; rw [if_neg (by omega), if_pos h]
theorem ex73_m {x : Int} (h : x = 25) : ex 73 x = some ([73, 75], 1) := by rw [ex_73]; unfold ex73; rw [if_neg (by omega), if_neg (by omega), if_pos h]
theorem ex73_p {x : Int} (h : x = 36) : ex 73 x = some ([61, 37, 75], 1) := by rw [ex_73]; unfold ex73; rw [if_neg (by omega), if_neg (by omega), if_neg (by omega), if_pos h]
theorem ex73_n {x : Int} (h : ¬ (x = 1 ∨ x = 2 ∨ x = 12 ∨ x = 13 ∨ x = 14 ∨ x = 15 ∨ x = 25 ∨ x = 36)) : ex 73 x = none := by rw [ex_73]; unfold ex73; rw [if_neg (by omega), if_neg (by omega), if_neg (by omega), if_neg (by omega)]
/-- down to the tightest -/
theorem rc_73 (hq : q ≤ 6) (h : w k ≠ 31 ∨ rsl q os ≤ 2) : Rc w (gyW z q os) k (73 :: gyR z q 0 os) k := by
  have := rc_desc (w := w) (k := k) (a := 0) _ (rsl q os) rfl (by omega) (rsl_le hq) (by omega) (gyT z q os)
  exact this
theorem slv_73 (hq : q ≤ 6) (hw : woq q os) : slv (73 :: gyR z q 0 os) = slv z + lvs os := by
  have := slv_nt (c := 0) (S := gyR z q 0 os)
  rw [slv_R hq hw] at this
  exact this
theorem sim_val (hq : q ≤ 6) (hx : w k = 1 ∨ w k = 2 ∨ w k = 12 ∨ w k = 13) : Rc w (gyW z q os) k (gyR z q 0 os) (k + 1) :=
  (rc_73 hq (Or.inl (by omega))).trans (Rc.one (mst_n (ys := []) (by decide) (by decide) (ex73_0 hx) (Or.inl (by decide))))
theorem sim_open (hq : q ≤ 6) (hw : woq q os) (hx : w k = 36) (hl : slv z + lvs os < 40) : Rc w (gyW z q os) k (gyW z q (37 :: os)) (k + 1) :=
  (rc_73 hq (Or.inl (by omega))).trans (Rc.one (mst_n (ys := [61, 37, 75]) (by decide) (by decide) (ex73_p hx) (Or.inr (by rw [slv_73 hq hw]; exact hl))))
theorem sim_open_no (hq : q ≤ 6) (hw : woq q os) (hx : w k = 36) (hl : ¬ slv z + lvs os < 40) : Rf w (gyW z q os) k k :=
  (rc_73 hq (Or.inl (by omega))).rf (Rf.of (mst_deep (ys := [61, 37, 75]) (t := 1) (by decide) (by decide) (ex73_p hx) (by decide) (by rw [slv_73 hq hw]; omega)))
theorem sim_neg (hq : q ≤ 6) (hw : woq q os) (hx : w k = 25) (hl : slv z + lvs os < 40) : Rc w (gyW z q os) k (gyW z q (40 :: os)) (k + 1) :=
  (rc_73 hq (Or.inl (by omega))).trans (Rc.one (mst_n (ys := [73, 75]) (by decide) (by decide) (ex73_m hx) (Or.inr (by rw [slv_73 hq hw]; exact hl))))
theorem sim_neg_no (hq : q ≤ 6) (hw : woq q os) (hx : w k = 25) (hl : ¬ slv z + lvs os < 40) : Rf w (gyW z q os) k k :=
  (rc_73 hq (Or.inl (by omega))).rf (Rf.of (mst_deep (ys := [73, 75]) (t := 1) (by decide) (by decide) (ex73_m hx) (by decide) (by rw [slv_73 hq hw]; omega)))
theorem rc_67 (hq : q ≤ 6) (h3 : 3 ≤ rsl q os) : Rc w (gyW z q os) k (67 :: gyR z q 3 os) k := rc_desc (w := w) (k := k) (a := 3) _ (rsl q os) rfl h3 (rsl_le hq) (by omega) (gyT z q os)
theorem slv_67 (hq : q ≤ 6) (hw : woq q os) : slv (67 :: gyR z q 3 os) = slv z + lvs os := by
  have := slv_nt (c := 3) (S := gyR z q 3 os)
  rw [slv_R hq hw] at this
  exact this
theorem ex67_n {x : Int} (h : x = 31) : ex 67 x = some ([67, 75], 1) := by rw [ex_67]; unfold ex67; rw [if_pos h]
theorem sim_not (hq : q ≤ 6) (hw : woq q os) (h3 : 3 ≤ rsl q os) (hx : w k = 31) (hl : slv z + lvs os < 40) : Rc w (gyW z q os) k (gyW z q (41 :: os)) (k + 1) :=
  (rc_67 hq h3).trans (Rc.one (mst_n (ys := [67, 75]) (by decide) (by decide) (ex67_n hx) (Or.inr (by rw [slv_67 hq hw]; exact hl))))
theorem sim_not_no (hq : q ≤ 6) (hw : woq q os) (hx : w k = 31) (hl : ¬ (3 ≤ rsl q os ∧ slv z + lvs os < 40)) : Rf w (gyW z q os) k k := by
  by_cases h3 : 3 ≤ rsl q os
  · exact (rc_67 hq h3).rf (Rf.of (mst_deep (ys := [67, 75]) (t := 1) (by decide) (by decide) (ex67_n hx) (by decide) (by rw [slv_67 hq hw]; omega)))
  · exact (rc_73 hq (Or.inr (by omega))).rf (Rf.of (mst_no (by decide) (by decide) (ex73_n (by omega))))
theorem sim_no (hq : q ≤ 6) (hx : ¬ (w k = 1 ∨ w k = 2 ∨ w k = 12 ∨ w k = 13 ∨ w k = 14 ∨ w k = 15 ∨ w k = 25 ∨ w k = 31 ∨ w k = 36)) : Rf w (gyW z q os) k k :=
  (rc_73 hq (Or.inl (by omega))).rf (Rf.of (mst_no (by decide) (by decide) (ex73_n (by omega))))
theorem rc_76 (hq : q ≤ 6) (hx : w k = 14 ∨ w k = 15) : Rc w (gyW z q os) k (76 :: 61 :: 74 :: 37 :: 75 :: gyR z q 0 os) (k + 1) :=
  (rc_73 hq (Or.inl (by omega))).trans (Rc.one (mst_n (ys := [76, 61, 74, 37, 75]) (by decide) (by decide) (ex73_l hx) (Or.inl (by decide))))
theorem slv_76 (hq : q ≤ 6) (hw : woq q os) : slv (76 :: 61 :: 74 :: 37 :: 75 :: gyR z q 0 os) = slv z + lvs os := by
  have : slv ([76, 61, 74, 37, 75] ++ gyR z q 0 os) = slv [76, 61, 74, 37, 75] + slv (gyR z q 0 os) := slv_app _ _
  rw [slv_R hq hw] at this
  rw [show slv [76, 61, 74, 37, 75] = 0 by decide, Int.zero_add] at this
  exact this
theorem ex76_p {x : Int} (h : x = 36) : ex 76 x = some ([], 1) := by rw [ex_76]; unfold ex76; rw [if_pos h]
theorem ex76_n {x : Int} (h : x ≠ 36) : ex 76 x = none := by rw [ex_76]; unfold ex76; rw [if_neg h]
theorem sim_list {o : Int} (ho : o = 15 ∨ o = 16) (hq : q ≤ 6) (hw : woq q os) (hx : w k = 14 ∨ w k = 15) (h1 : w (k + 1) = 36) (hl : slv z + lvs os < 40) : Rc w (gyW z q os) k (gyW z q (o :: os)) (k + 2) := by
  have e : gyW z q (o :: os) = 61 :: 74 :: 37 :: 75 :: gyR z q 0 os := by rcases ho with e | e <;> subst e <;> rfl
  rw [e]
  exact (rc_76 hq hx).trans (Rc.one (k := k + 1) (mst_n (ys := []) (by decide) (by decide) (ex76_p h1) (Or.inr (by rw [slv_76 hq hw]; exact hl))))
theorem sim_list_no (hq : q ≤ 6) (hw : woq q os) (hx : w k = 14 ∨ w k = 15) (h1 : ¬ (w (k + 1) = 36 ∧ slv z + lvs os < 40)) : Rf w (gyW z q os) k (k + 1) := by
  by_cases h : w (k + 1) = 36
  · exact (rc_76 hq hx).rf (Rf.of (mst_deep (ys := []) (t := 1) (by decide) (by decide) (ex76_p h) (by decide) (by rw [slv_76 hq hw]; omega)))
  · exact (rc_76 hq hx).rf (Rf.of (mst_no (by decide) (by decide) (ex76_n h)))
/-- how strong the operand counts when an operation has been grouped -/
def pst (o : Int) : Nat := if 25 ≤ o ∧ o ≤ 31 then rsq o else cst o
theorem rst_up {a b : Nat} (hb : b ≤ 6) (h : a + 1 ≤ b) : rsy a :: rst (a + 1) b = rst a b := (rst_cons hb (by omega)).symm
theorem gyR_c : gyR z q c (o :: t) = rst c (rsq o) ++ (hdT o ++ gyR z q (cst o) t) := rfl
theorem sim_pop (hq : q ≤ 6) (hw : woq q (o :: t)) (ho : (19 ≤ o ∧ o ≤ 31) ∨ o = 40 ∨ o = 41 ∨ o = 42) (hl : lwx (w k) ≤ c ∨ rsq o < lwx (w k)) : Rc w (gyR z q c (o :: t)) k (gyR z q (pst o) t) k := by
  rw [gyR_c]
  refine (rc_drops (rsq_le o) _ c rfl hl).trans ?_
  obtain ⟨-, h2, -⟩ := hw
  by_cases c1 : 25 ≤ o ∧ o ≤ 31
  · have e : o = 25 ∨ o = 26 ∨ o = 27 ∨ o = 28 ∨ o = 29 ∨ o = 30 ∨ o = 31 := by omega
    have hh : hdT o ++ gyR z q (cst o) t = gyR z q (pst o) t := by
      unfold gyR
      have r := rst_up (a := rsq o) (b := rsl q t) (rsl_le hq) (by
        rcases e with e | e | e | e | e | e | e <;> subst e <;> exact h2)
      rcases e with e | e | e | e | e | e | e <;> subst e <;> exact congrArg (fun u => u ++ gyT z q t) r
    rw [hh]
    exact Rc.refl
  · have ep : pst o = cst o := by unfold pst; rw [if_neg c1]
    rw [ep]
    by_cases c2 : 19 ≤ o ∧ o ≤ 24
    · have : hdT o = [] := by unfold hdT; rw [if_neg (by omega), if_neg (by omega), if_pos c2]
      rw [this]
      exact Rc.refl
    · have : hdT o = [75] := by unfold hdT; rw [if_neg (by omega), if_neg (by omega), if_neg (by omega), if_pos (by omega)]
      rw [this]
      exact Rc.zero mst_75
/-- a sign between two operands -/
theorem sim_sign {x : Int} (hq : q ≤ 6) (hx : w k = x) (h1 : 1 ≤ lwx x) (h5 : lwx x ≤ 5) (hc : c < lwx x) (hr : lwx x ≤ rsl q os) : Rc w (gyR z q c os) k (gyW z q ((x + 1) :: os)) (k + 1) := by
  unfold gyR
  have hb := rsl_le (os := os) hq
  refine (rc_to (c := lwx x - 1) hb (by omega) (by omega) (by rw [hx]; omega)).trans ?_
  rw [rst_cons hb (by omega), show lwx x - 1 + 1 = lwx x by omega]
  have hd : ∀ (l : Nat) (ys : List Int), lwx x = l → l - 1 < 6 → ex (rsy (l - 1)) x = some (ys, 1) → (dlv (rsy (l - 1)) ys ≠ 1) → gyW z q ((x + 1) :: os) = ys ++ (rst l (rsl q os) ++ gyT z q os) → Rc w (rsy (lwx x - 1) :: rst (lwx x) (rsl q os) ++ gyT z q os) k (gyW z q ((x + 1) :: os)) (k + 1) := fun l ys e l6 he hv eg => by
    rw [e, eg]
    refine Rc.one (mst_n ?_ ?_ (by rw [hx]; exact he) (Or.inl hv))
    · unfold rsy; (repeat' split) <;> decide
    · unfold rsy; (repeat' split) <;> decide
  have ul : lwx x = lwx x := rfl
  conv at ul => rhs; unfold lwx
  by_cases c1 : 26 ≤ x ∧ x ≤ 28
  · rw [if_pos c1] at ul
    refine hd 1 [73, 72] ul (by decide) ?_ (by decide) ?_
    · show ex 72 x = _; rw [ex_72]; unfold ex72; rw [if_pos (by omega)]
    · have : x = 26 ∨ x = 27 ∨ x = 28 := by omega
      rcases this with e | e | e <;> subst e <;> rfl
  · rw [if_neg c1] at ul
    by_cases c2 : x = 24 ∨ x = 25
    · rw [if_pos c2] at ul
      refine hd 2 [71, 70] ul (by decide) ?_ (by decide) ?_
      · show ex 70 x = _; rw [ex_70]; unfold ex70; rw [if_pos c2]
      · rcases c2 with e | e <;> subst e <;> rfl
    · rw [if_neg c2] at ul
      by_cases c3 : 18 ≤ x ∧ x ≤ 23
      · rw [if_pos c3] at ul
        refine hd 3 [69] ul (by decide) ?_ (by decide) ?_
        · show ex 68 x = _; rw [ex_68]; unfold ex68; rw [if_pos c3]
        · have : x = 18 ∨ x = 19 ∨ x = 20 ∨ x = 21 ∨ x = 22 ∨ x = 23 := by omega
          rcases this with e | e | e | e | e | e <;> subst e <;> rfl
      · rw [if_neg c3] at ul
        by_cases c4 : x = 29
        · rw [if_pos c4] at ul
          refine hd 4 [67, 66] ul (by decide) ?_ (by decide) ?_
          · show ex 66 x = _; rw [ex_66]; unfold ex66; rw [if_pos c4]
          · subst c4; rfl
        · rw [if_neg c4] at ul
          by_cases c5 : x = 30
          · rw [if_pos c5] at ul
            refine hd 5 [65, 64] ul (by decide) ?_ (by decide) ?_
            · show ex 64 x = _; rw [ex_64]; unfold ex64; rw [if_pos c5]
            · subst c5; rfl
          · rw [if_neg c5] at ul
            split at ul <;> omega
theorem slv_62 (hq : q ≤ 6) (hw : woq q os) : slv (62 :: gyT z q os) = slv z + lvs os := by
  rw [show (62 : Int) :: gyT z q os = [62] ++ gyT z q os from rfl, slv_app, slv_T hq hw, show slv [62] = 0 by decide]
  omega
theorem rc_62 (h6 : rsl q os = 6) (hx : w k = 32) (hc : c ≤ 5) : Rc w (gyR z q c os) k (62 :: gyT z q os) k := by
  unfold gyR
  rw [h6]
  exact rc_to (b := 6) (c := 5) (by decide) hc (by decide) (Or.inr (by rw [hx]; decide))
theorem ex62_a {x : Int} (h : x = 32) : ex 62 x = some ([61, 33, 61, 75], 1) := by rw [ex_62]; unfold ex62; rw [if_pos h]
theorem sim_ask (hq : q ≤ 6) (hw : woq q os) (h6 : rsl q os = 6) (hx : w k = 32) (hc : c ≤ 5) (hl : slv z + lvs os < 40) : Rc w (gyR z q c os) k (gyW z q (33 :: os)) (k + 1) := by
  have e : gyW z q (33 :: os) = [61, 33, 61, 75] ++ gyT z q os := by
    show (61 : Int) :: ([33, 61, 75] ++ (rst 6 (rsl q os) ++ gyT z q os)) = _
    rw [h6]
    rfl
  rw [e]
  exact (rc_62 h6 hx hc).trans (Rc.one (mst_n (by decide) (by decide) (ex62_a hx) (Or.inr (by rw [slv_62 hq hw]; exact hl))))
theorem sim_ask_no (hq : q ≤ 6) (hw : woq q os) (h6 : rsl q os = 6) (hx : w k = 32) (hc : c ≤ 5) (hl : ¬ slv z + lvs os < 40) : Rf w (gyR z q c os) k k :=
  (rc_62 h6 hx hc).rf (Rf.of (mst_deep (t := 1) (by decide) (by decide) (ex62_a hx) (by decide) (by rw [slv_62 hq hw]; omega)))
/-- no sign goes on: all rests go -/
theorem sim_end (hq : q ≤ 6) (hl : lwx (w k) ≤ c ∨ rsl q os < lwx (w k)) : Rc w (gyR z q c os) k (gyT z q os) k := rc_drops (rsl_le hq) _ c rfl hl
theorem sim_close {o : Int} (ho : o = 37 ∨ o = 15 ∨ o = 16) (hx : w k = 37) : Rc w (gyT z q (o :: t)) k (gyR z q 0 t) (k + 1) := by
  have a37 : Rc w (37 :: 75 :: gyR z q 0 t) k (gyR z q 0 t) (k + 1) := (Rc.one (mst_t (by decide) hx.symm)).trans (Rc.zero (k := k + 1) mst_75)
  rcases ho with e | e | e <;> subst e
  · exact a37
  · exact (Rc.zero (mst_n (y := 74) (ys := []) (by decide) (by decide) (by rw [ex_74]; unfold ex74; rw [if_neg (by omega)]) (Or.inl (by decide)))).trans a37
  · exact (Rc.zero (mst_n (y := 74) (ys := []) (by decide) (by decide) (by rw [ex_74]; unfold ex74; rw [if_neg (by omega)]) (Or.inl (by decide)))).trans a37
theorem sim_comma {o : Int} (ho : o = 15 ∨ o = 16) (hx : w k = 35) : Rc w (gyT z q (o :: t)) k (gyW z q (o :: t)) (k + 1) := by
  rcases ho with e | e <;> subst e
  · exact Rc.one (mst_n (y := 74) (ys := [61, 74]) (by decide) (by decide) (by rw [ex_74]; unfold ex74; rw [if_pos hx]) (Or.inl (by decide)))
  · exact Rc.one (mst_n (y := 74) (ys := [61, 74]) (by decide) (by decide) (by rw [ex_74]; unfold ex74; rw [if_pos hx]) (Or.inl (by decide)))
theorem sim_colon (hx : w k = 33) : Rc w (gyT z q (33 :: t)) k (gyW z q (42 :: t)) (k + 1) := Rc.one (mst_t (y := 33) (by decide) hx.symm)
theorem sim_close_no {o : Int} (ho : o = 37 ∨ o = 15 ∨ o = 16 ∨ o = 33) (h1 : o = 37 → w k ≠ 37) (h2 : o = 15 ∨ o = 16 → w k ≠ 37 ∧ w k ≠ 35) (h3 : o = 33 → w k ≠ 33) : Rf w (gyT z q (o :: t)) k k := by
  rcases ho with e | e | e | e
  · subst e
    exact Rf.of (mst_tn (y := 37) (by decide) (fun c => h1 rfl c.symm))
  · have h := h2 (Or.inl e)
    subst e
    exact (Rc.zero (mst_n (y := 74) (ys := []) (by decide) (by decide) (by rw [ex_74]; unfold ex74; rw [if_neg h.2]) (Or.inl (by decide)))).rf (Rf.of (mst_tn (y := 37) (by decide) (fun c => h.1 c.symm)))
  · have h := h2 (Or.inr e)
    subst e
    exact (Rc.zero (mst_n (y := 74) (ys := []) (by decide) (by decide) (by rw [ex_74]; unfold ex74; rw [if_neg h.2]) (Or.inl (by decide)))).rf (Rf.of (mst_tn (y := 37) (by decide) (fun c => h.1 c.symm)))
  · subst e
    exact Rf.of (mst_tn (y := 33) (by decide) (fun c => h3 rfl c.symm))
/-- a second comparison is refused wherever it stands -/
theorem sim_dead (hq : q ≤ 6) (hx : lwx (w k) = 3) (hz : Rf w z k k) : ∀ {os : List Int} {c : Nat}, woq q os → 3 ≤ c → c ≤ rsl q os → Rf w (gyR z q c os) k k
  | [], c, _, h3, hc => (sim_end (os := []) hq (Or.inl (by omega))).rf hz
  | o :: t, c, hw, h3, hc => by
    have hc : c ≤ rsq o := hc
    have hb := (sim_end (z := z) (os := o :: t) (w := w) (k := k) (c := c) hq (Or.inl (by omega)))
    have hx35 : w k ≠ 35 ∧ w k ≠ 37 ∧ w k ≠ 33 := by
      unfold lwx at hx
      refine ⟨?_, ?_, ?_⟩ <;> intro e <;> rw [e] at hx <;> exact absurd hx (by decide)
    obtain ⟨h1, h2, hw'⟩ := hw
    by_cases d1 : o = 37 ∨ o = 15 ∨ o = 16 ∨ o = 33
    · exact hb.rf (sim_close_no d1 (fun _ => hx35.2.1) (fun _ => ⟨hx35.2.1, hx35.1⟩) (fun _ => hx35.2.2))
    · have e : o = 41 ∨ o = 42 ∨ o = 30 ∨ o = 31 := by
        unfold opq at h1
        unfold rsq at hc
        (repeat' split at hc) <;> omega
      refine hb.rf ?_
      rcases e with e | e | e | e <;> subst e
      · exact (Rc.zero (st := 75 :: gyR z q 3 t) mst_75).rf (sim_dead hq hx hz hw' (by decide) h2)
      · exact (Rc.zero (st := 75 :: gyR z q 6 t) mst_75).rf (sim_dead hq hx hz hw' (by decide) h2)
      · exact (rc_drop (S := gyR z q 4 t) (c := 3) (by decide) (by omega)).rf (sim_dead hq hx hz hw' (by decide) h2)
      · exact (rc_drop (S := gyR z q 5 t) (c := 4) (by decide) (by omega)).rf (sim_dead hq hx hz hw' (by decide) h2)
end SM
end
section
/-! What a rule means: kinds, faults, orders, told by the words from i to j - 1. -/
section SE
variable {w : Nat → Int} {i j l m : Nat}
/-- behind a '?': where its ':' stands, seen from i on -/
def cl1 (w : Nat → Int) (i : Nat) : Nat → Nat → Nat
  | 0, m => m
  | f + 1, m => if dp w i m = 0 ∧ aq w i m = 0 ∧ w (i + m) = 33 then m else cl1 w i f (m + 1)
theorem cl1_b : ∀ f m, m ≤ cl1 w i f m ∧ cl1 w i f m ≤ m + f
  | 0, m => ⟨Nat.le_refl _, Nat.le_refl _⟩
  | f + 1, m => by
    have := cl1_b f (m + 1)
    unfold cl1
    split <;> omega
theorem cl1_at (b : Bl w i l) (h : w (i + l) = 33) : ∀ f m, m ≤ l → l ≤ m + f → cl1 w i f m = l
  | 0, m, h1, h2 => by show m = l; omega
  | f + 1, m, h1, h2 => by
    unfold cl1
    by_cases e : m = l
    · rw [if_pos ⟨by rw [e]; exact b.1, by rw [e]; exact b.2.1, by rw [e]; exact h⟩]; exact e
    · rw [if_neg (fun q => (b.2.2.2 m (by omega)).2 q.1 q.2.1 q.2.2)]
      exact cl1_at b h f (m + 1) (by omega) (by omega)
def clq (w : Nat → Int) (m j : Nat) : Nat := (m + 1) + cl1 w (m + 1) (j - (m + 1)) 0
theorem clq_b : m + 1 ≤ clq w m j ∧ clq w m j ≤ (m + 1) + (j - (m + 1)) := by
  have := cl1_b (w := w) (i := m + 1) (j - (m + 1)) 0
  unfold clq
  omega
theorem clq_at {q : Nat} (hm : m + 1 ≤ q) (hq : q < j) (b : Bl w (m + 1) (q - (m + 1))) (h : w q = 33) : clq w m j = q := by
  unfold clq
  rw [cl1_at b (by rw [show m + 1 + (q - (m + 1)) = q by omega]; exact h) _ _ (by omega) (by omega)]
  omega
/-- the last comma outside parentheses: 0 if there is none, else one more than its distance -/
def lcq (w : Nat → Int) (i : Nat) : Nat → Nat
  | 0 => 0
  | l + 1 => if dp w i l = 0 ∧ w (i + l) = 35 then l + 1 else lcq w i l
theorem lcq_le : ∀ l, lcq w i l ≤ l
  | 0 => Nat.le_refl _
  | l + 1 => by
    have := lcq_le l
    unfold lcq
    split <;> omega
theorem lcq_0 : ∀ l, Nx w 35 i l → lcq w i l = 0
  | 0, _ => rfl
  | l + 1, h => by
    unfold lcq
    rw [if_neg (fun q => h l (by omega) q.1 q.2)]
    exact lcq_0 l (fun m hm q => h m (by omega) q)
theorem lcq_at {p : Nat} (hp : dp w i p = 0) (h : w (i + p) = 35) : ∀ n, (∀ m, p < m → m < p + 1 + n → dp w i m = 0 → w (i + m) ≠ 35) → lcq w i (p + 1 + n) = p + 1
  | 0, _ => by show (if dp w i p = 0 ∧ w (i + p) = 35 then p + 1 else lcq w i p) = p + 1; rw [if_pos ⟨hp, h⟩]
  | n + 1, hn => by
    show (if dp w i (p + 1 + n) = 0 ∧ w (i + (p + 1 + n)) = 35 then p + 1 + n + 1 else lcq w i (p + 1 + n)) = p + 1
    rw [if_neg (fun q => hn (p + 1 + n) (by omega) (by omega) q.1 q.2)]
    exact lcq_at hp h n (fun m a b => hn m a (by omega))
/-- the loosest, as a place within -/
def loq (w : Nat → Int) (i j : Nat) : Nat := (lo w i j).toNat
def lin (w : Nat → Int) (i j : Nat) : Prop := 0 ≤ lo w i j ∧ i ≤ loq w i j ∧ loq w i j < j
/-- a sign between two operands that answers a truth -/
def tru (x : Int) : Prop := (18 ≤ x ∧ x ≤ 23) ∨ x = 29 ∨ x = 30
end SE
/-- the kind: 1 a truth, 0 a number; c = 1: of a list (1 if one of them is a truth) -/
noncomputable def kdq (w E : Nat → Int) (c i j : Nat) : Int :=
  haveI := Classical.propDecidable (lin w i j)
  haveI := Classical.propDecidable (tru (w (loq w i j)))
  if hij : i < j then
    if hc : c = 1 then
      if hp : lcq w i (j - i) = 0 then kdq w E 0 i j
      else if kdq w E 1 i (i + lcq w i (j - i) - 1) = 1 ∨ kdq w E 0 (i + lcq w i (j - i)) j = 1 then 1 else 0
    else if hm : lin w i j then
      if w (loq w i j) = 32 then kdq w E 0 (clq w (loq w i j) j + 1) j
      else if tru (w (loq w i j)) then 1 else 0
    else if w i = 36 then kdq w E 0 (i + 1) (j - 1)
    else if w i = 31 ∨ w i = 12 ∨ w i = 13 then 1
    else if w i = 1 ∧ E i = 1 then 1 else 0
  else 0
termination_by 2 * (j - i) + c
decreasing_by
  all_goals simp_wf
  all_goals have a1 := lcq_le (w := w) (i := i) (j - i)
  all_goals have a2 := clq_b (w := w) (m := loq w i j) (j := j)
  all_goals first | omega | (have a3 := hm.2; omega)
/-- the first of two faults -/
def fst9 (a b : Int × Int) : Int × Int := if a.1 = 0 then b else a
/-- a fault of kinds, if they don't fit -/
noncomputable def kft (p : Prop) (x : Int) : Int × Int := haveI := Classical.propDecidable p; if p then (0, 0) else (3, x)
/-- which kinds fit a sign -/
def okq (x a b : Int) : Prop := if x = 29 ∨ x = 30 then a = 1 ∧ b = 1 else if x = 23 ∨ x = 18 then a = b else a = 0 ∧ b = 0
/-- the first fault of kinds and names, in the order of reading; (0, 0): none -/
noncomputable def fl (w E pl : Nat → Int) (c i j : Nat) : Int × Int :=
  haveI := Classical.propDecidable (lin w i j)
  if hij : i < j then
    if hc : c = 1 then
      if hp : lcq w i (j - i) = 0 then fl w E pl 0 i j
      else fst9 (fl w E pl 1 i (i + lcq w i (j - i) - 1)) (fl w E pl 0 (i + lcq w i (j - i)) j)
    else if hm : lin w i j then
      if w (loq w i j) = 32 then fst9 (fst9 (fst9 (fl w E pl 0 i (loq w i j)) (fl w E pl 0 (loq w i j + 1) (clq w (loq w i j) j))) (fl w E pl 0 (clq w (loq w i j) j + 1) j)) (kft (kdq w E 0 i (loq w i j) = 1 ∧ kdq w E 0 (loq w i j + 1) (clq w (loq w i j) j) = kdq w E 0 (clq w (loq w i j) j + 1) j) (pl (loq w i j)))
      else fst9 (fst9 (fl w E pl 0 i (loq w i j)) (fl w E pl 0 (loq w i j + 1) j)) (kft (okq (w (loq w i j)) (kdq w E 0 i (loq w i j)) (kdq w E 0 (loq w i j + 1) j)) (pl (loq w i j)))
    else if w i = 36 then fl w E pl 0 (i + 1) (j - 1)
    else if w i = 25 then fst9 (fl w E pl 0 (i + 1) j) (kft (kdq w E 0 (i + 1) j = 0) (pl i))
    else if w i = 31 then fst9 (fl w E pl 0 (i + 1) j) (kft (kdq w E 0 (i + 1) j = 1) (pl i))
    else if w i = 14 ∨ w i = 15 then fst9 (fl w E pl 1 (i + 2) (j - 1)) (kft (kdq w E 1 (i + 2) (j - 1) = 0) (pl i))
    else if w i = 1 ∧ E i = -1 then (2, pl i) else (0, 0)
  else (0, 0)
termination_by 2 * (j - i) + c
decreasing_by
  all_goals simp_wf
  all_goals have a1 := lcq_le (w := w) (i := i) (j - i)
  all_goals have a2 := clq_b (w := w) (m := loq w i j) (j := j)
  all_goals first | omega | (have a3 := hm.2; omega)
/-- the orders of a rule lie from s to e - 1; c: 0 a rule, 1 a list with the order x (place y) -/
def Cd (w : Nat → Int) (ec : Nat → Int × Int) (pl O P : Nat → Int) (c : Nat) (x y : Int) (i j s e : Nat) : Prop :=
  haveI := Classical.propDecidable (lin w i j)
  if hij : i < j then
    if hc : c = 1 then
      if hp : lcq w i (j - i) = 0 then Cd w ec pl O P 0 0 0 i j s e
      else ∃ a b, Cd w ec pl O P 1 x y i (i + lcq w i (j - i) - 1) s a ∧ Cd w ec pl O P 0 0 0 (i + lcq w i (j - i)) j a b ∧ e = b + 1 ∧ O b = x ∧ P b = y
    else if hm : lin w i j then
      if w (loq w i j) = 32 then ∃ a b : Nat, Cd w ec pl O P 0 0 0 i (loq w i j) s a ∧ O a = 33 ∧ P a = (b : Int) + 1 ∧ Cd w ec pl O P 0 0 0 (loq w i j + 1) (clq w (loq w i j) j) (a + 1) b ∧ O b = 42 ∧ P b = e ∧ Cd w ec pl O P 0 0 0 (clq w (loq w i j) j + 1) j (b + 1) e
      else if w (loq w i j) = 29 ∨ w (loq w i j) = 30 then ∃ a, Cd w ec pl O P 0 0 0 i (loq w i j) s a ∧ O a = w (loq w i j) + 1 ∧ P a = e ∧ Cd w ec pl O P 0 0 0 (loq w i j + 1) j (a + 1) e
      else ∃ a b, Cd w ec pl O P 0 0 0 i (loq w i j) s a ∧ Cd w ec pl O P 0 0 0 (loq w i j + 1) j a b ∧ e = b + 1 ∧ O b = w (loq w i j) + 1 ∧ P b = pl (loq w i j)
    else if w i = 36 then Cd w ec pl O P 0 0 0 (i + 1) (j - 1) s e
    else if w i = 25 ∨ w i = 31 then ∃ b, Cd w ec pl O P 0 0 0 (i + 1) j s b ∧ e = b + 1 ∧ O b = (if w i = 25 then 40 else 41) ∧ P b = pl i
    else if w i = 14 ∨ w i = 15 then Cd w ec pl O P 1 (w i + 1) (pl i) (i + 2) (j - 1) s e
    else e = s + 1 ∧ O s = (ec i).1 ∧ P s = (ec i).2
  else False
termination_by 2 * (j - i) + c
decreasing_by
  all_goals simp_wf
  all_goals have a1 := lcq_le (w := w) (i := i) (j - i)
  all_goals have a2 := clq_b (w := w) (m := loq w i j) (j := j)
  all_goals first | omega | (have a3 := hm.2; omega)
section SF
variable {w E pl O P : Nat → Int} {ec : Nat → Int × Int} {i j m s e : Nat} {x y : Int}
theorem lin_of (h : lo w i j = (m : Int)) (h1 : i ≤ m) (h2 : m < j) : lin w i j ∧ loq w i j = m := by
  have : loq w i j = m := by unfold loq; rw [h]; rfl
  exact ⟨⟨by rw [h]; omega, by rw [this]; exact h1, by rw [this]; exact h2⟩, this⟩
theorem lin_no (h : lo w i j = -1) : ¬ lin w i j := fun q => by have := q.1; omega
/-! kinds -/
theorem kd_bin (h : lo w i j = (m : Int)) (h1 : i ≤ m) (h2 : m < j) (h3 : w m ≠ 32) : kdq w E 0 i j = haveI := Classical.propDecidable (tru (w m)); if tru (w m) then 1 else 0 := by
  obtain ⟨a, b⟩ := lin_of h h1 h2
  rw [kdq, dif_pos (by omega), dif_neg (by decide), dif_pos a, b, if_neg h3]
theorem kd_ask {q : Nat} (h : lo w i j = (m : Int)) (h1 : i ≤ m) (h2 : m < j) (h3 : w m = 32) (hq : clq w m j = q) : kdq w E 0 i j = kdq w E 0 (q + 1) j := by
  obtain ⟨a, b⟩ := lin_of h h1 h2
  rw [kdq, dif_pos (by omega), dif_neg (by decide), dif_pos a, b, if_pos h3, hq]
theorem kd_par (h : lo w i j = -1) (hij : i < j) (h3 : w i = 36) : kdq w E 0 i j = kdq w E 0 (i + 1) (j - 1) := by
  rw [kdq, dif_pos hij, dif_neg (by decide), dif_neg (lin_no h), if_pos h3]
theorem kd_tru (h : lo w i j = -1) (hij : i < j) (h3 : w i = 31 ∨ w i = 12 ∨ w i = 13) : kdq w E 0 i j = 1 := by
  rw [kdq, dif_pos hij, dif_neg (by decide), dif_neg (lin_no h), if_neg (by omega), if_pos h3]
theorem kd_num (h : lo w i j = -1) (hij : i < j) (h3 : w i = 25 ∨ w i = 2 ∨ w i = 14 ∨ w i = 15) : kdq w E 0 i j = 0 := by
  rw [kdq, dif_pos hij, dif_neg (by decide), dif_neg (lin_no h), if_neg (by omega), if_neg (by omega), if_neg (by omega)]
theorem kd_nam (h : lo w i j = -1) (hij : i < j) (h3 : w i = 1) : kdq w E 0 i j = if E i = 1 then 1 else 0 := by
  rw [kdq, dif_pos hij, dif_neg (by decide), dif_neg (lin_no h), if_neg (by omega), if_neg (by omega)]
  by_cases c : E i = 1
  · rw [if_pos ⟨h3, c⟩, if_pos c]
  · rw [if_neg (fun q => c q.2), if_neg c]
theorem kd_l1 (hij : i < j) (h : lcq w i (j - i) = 0) : kdq w E 1 i j = kdq w E 0 i j := by
  rw [kdq, dif_pos hij, dif_pos rfl, dif_pos h]
theorem kd_ln (hij : i < j) (h : lcq w i (j - i) = m - i + 1) (hm : i ≤ m) : kdq w E 1 i j = if kdq w E 1 i m = 1 ∨ kdq w E 0 (m + 1) j = 1 then 1 else 0 := by
  rw [kdq, dif_pos hij, dif_pos rfl, dif_neg (by omega), h, show i + (m - i + 1) - 1 = m by omega, show i + (m - i + 1) = m + 1 by omega]
/-! faults -/
theorem fl_bin (h : lo w i j = (m : Int)) (h1 : i ≤ m) (h2 : m < j) (h3 : w m ≠ 32) : fl w E pl 0 i j = fst9 (fst9 (fl w E pl 0 i m) (fl w E pl 0 (m + 1) j)) (kft (okq (w m) (kdq w E 0 i m) (kdq w E 0 (m + 1) j)) (pl m)) := by
  obtain ⟨a, b⟩ := lin_of h h1 h2
  rw [fl, dif_pos (by omega), dif_neg (by decide), dif_pos a, b, if_neg h3]
theorem fl_ask {q : Nat} (h : lo w i j = (m : Int)) (h1 : i ≤ m) (h2 : m < j) (h3 : w m = 32) (hq : clq w m j = q) : fl w E pl 0 i j = fst9 (fst9 (fst9 (fl w E pl 0 i m) (fl w E pl 0 (m + 1) q)) (fl w E pl 0 (q + 1) j)) (kft (kdq w E 0 i m = 1 ∧ kdq w E 0 (m + 1) q = kdq w E 0 (q + 1) j) (pl m)) := by
  obtain ⟨a, b⟩ := lin_of h h1 h2
  rw [fl, dif_pos (by omega), dif_neg (by decide), dif_pos a, b, if_pos h3, hq]
theorem fl_par (h : lo w i j = -1) (hij : i < j) (h3 : w i = 36) : fl w E pl 0 i j = fl w E pl 0 (i + 1) (j - 1) := by
  rw [fl, dif_pos hij, dif_neg (by decide), dif_neg (lin_no h), if_pos h3]
theorem fl_neg (h : lo w i j = -1) (hij : i < j) (h3 : w i = 25) : fl w E pl 0 i j = fst9 (fl w E pl 0 (i + 1) j) (kft (kdq w E 0 (i + 1) j = 0) (pl i)) := by
  rw [fl, dif_pos hij, dif_neg (by decide), dif_neg (lin_no h), if_neg (by omega), if_pos h3]
theorem fl_not (h : lo w i j = -1) (hij : i < j) (h3 : w i = 31) : fl w E pl 0 i j = fst9 (fl w E pl 0 (i + 1) j) (kft (kdq w E 0 (i + 1) j = 1) (pl i)) := by
  rw [fl, dif_pos hij, dif_neg (by decide), dif_neg (lin_no h), if_neg (by omega), if_neg (by omega), if_pos h3]
theorem fl_lst (h : lo w i j = -1) (hij : i < j) (h3 : w i = 14 ∨ w i = 15) : fl w E pl 0 i j = fst9 (fl w E pl 1 (i + 2) (j - 1)) (kft (kdq w E 1 (i + 2) (j - 1) = 0) (pl i)) := by
  rw [fl, dif_pos hij, dif_neg (by decide), dif_neg (lin_no h), if_neg (by omega), if_neg (by omega), if_neg (by omega), if_pos h3]
theorem fl_leaf (h : lo w i j = -1) (hij : i < j) (h3 : w i = 1 ∨ w i = 2 ∨ w i = 12 ∨ w i = 13) : fl w E pl 0 i j = if w i = 1 ∧ E i = -1 then (2, pl i) else (0, 0) := by
  rw [fl, dif_pos hij, dif_neg (by decide), dif_neg (lin_no h), if_neg (by omega), if_neg (by omega), if_neg (by omega), if_neg (by omega)]
theorem fl_l1 (hij : i < j) (h : lcq w i (j - i) = 0) : fl w E pl 1 i j = fl w E pl 0 i j := by
  rw [fl, dif_pos hij, dif_pos rfl, dif_pos h]
theorem fl_ln (hij : i < j) (h : lcq w i (j - i) = m - i + 1) (hm : i ≤ m) : fl w E pl 1 i j = fst9 (fl w E pl 1 i m) (fl w E pl 0 (m + 1) j) := by
  rw [fl, dif_pos hij, dif_pos rfl, dif_neg (by omega), h, show i + (m - i + 1) - 1 = m by omega, show i + (m - i + 1) = m + 1 by omega]
/-! orders -/
theorem Cd_bin (h : lo w i j = (m : Int)) (h1 : i ≤ m) (h2 : m < j) (h3 : w m ≠ 32) (h4 : w m ≠ 29) (h5 : w m ≠ 30) : Cd w ec pl O P 0 x y i j s e ↔ ∃ a b, Cd w ec pl O P 0 0 0 i m s a ∧ Cd w ec pl O P 0 0 0 (m + 1) j a b ∧ e = b + 1 ∧ O b = w m + 1 ∧ P b = pl m := by
  obtain ⟨a, b⟩ := lin_of h h1 h2
  rw [Cd, dif_pos (by omega), dif_neg (by decide), dif_pos a, b, if_neg h3, if_neg (by omega)]
theorem Cd_jmp (h : lo w i j = (m : Int)) (h1 : i ≤ m) (h2 : m < j) (h3 : w m = 29 ∨ w m = 30) : Cd w ec pl O P 0 x y i j s e ↔ ∃ a, Cd w ec pl O P 0 0 0 i m s a ∧ O a = w m + 1 ∧ P a = e ∧ Cd w ec pl O P 0 0 0 (m + 1) j (a + 1) e := by
  obtain ⟨a, b⟩ := lin_of h h1 h2
  rw [Cd, dif_pos (by omega), dif_neg (by decide), dif_pos a, b, if_neg (by omega), if_pos h3]
theorem Cd_ask {q : Nat} (h : lo w i j = (m : Int)) (h1 : i ≤ m) (h2 : m < j) (h3 : w m = 32) (hq : clq w m j = q) : Cd w ec pl O P 0 x y i j s e ↔ ∃ a b : Nat, Cd w ec pl O P 0 0 0 i m s a ∧ O a = 33 ∧ P a = (b : Int) + 1 ∧ Cd w ec pl O P 0 0 0 (m + 1) q (a + 1) b ∧ O b = 42 ∧ P b = e ∧ Cd w ec pl O P 0 0 0 (q + 1) j (b + 1) e := by
  obtain ⟨a, b⟩ := lin_of h h1 h2
  rw [Cd, dif_pos (by omega), dif_neg (by decide), dif_pos a, b, if_pos h3, hq]
theorem Cd_par (h : lo w i j = -1) (hij : i < j) (h3 : w i = 36) : Cd w ec pl O P 0 x y i j s e ↔ Cd w ec pl O P 0 0 0 (i + 1) (j - 1) s e := by
  rw [Cd, dif_pos hij, dif_neg (by decide), dif_neg (lin_no h), if_pos h3]
theorem Cd_pre (h : lo w i j = -1) (hij : i < j) (h3 : w i = 25 ∨ w i = 31) : Cd w ec pl O P 0 x y i j s e ↔ ∃ b, Cd w ec pl O P 0 0 0 (i + 1) j s b ∧ e = b + 1 ∧ O b = (if w i = 25 then 40 else 41) ∧ P b = pl i := by
  rw [Cd, dif_pos hij, dif_neg (by decide), dif_neg (lin_no h), if_neg (by omega), if_pos h3]
theorem Cd_lst (h : lo w i j = -1) (hij : i < j) (h3 : w i = 14 ∨ w i = 15) : Cd w ec pl O P 0 x y i j s e ↔ Cd w ec pl O P 1 (w i + 1) (pl i) (i + 2) (j - 1) s e := by
  rw [Cd, dif_pos hij, dif_neg (by decide), dif_neg (lin_no h), if_neg (by omega), if_neg (by omega), if_pos h3]
theorem Cd_leaf (h : lo w i j = -1) (hij : i < j) (h3 : w i = 1 ∨ w i = 2 ∨ w i = 12 ∨ w i = 13) : Cd w ec pl O P 0 x y i j s e ↔ e = s + 1 ∧ O s = (ec i).1 ∧ P s = (ec i).2 := by
  rw [Cd, dif_pos hij, dif_neg (by decide), dif_neg (lin_no h), if_neg (by omega), if_neg (by omega), if_neg (by omega)]
theorem Cd_l1 (hij : i < j) (h : lcq w i (j - i) = 0) : Cd w ec pl O P 1 x y i j s e ↔ Cd w ec pl O P 0 0 0 i j s e := by
  rw [Cd, dif_pos hij, dif_pos rfl, dif_pos h]
theorem Cd_ln (hij : i < j) (h : lcq w i (j - i) = m - i + 1) (hm : i ≤ m) : Cd w ec pl O P 1 x y i j s e ↔ ∃ a b, Cd w ec pl O P 1 x y i m s a ∧ Cd w ec pl O P 0 0 0 (m + 1) j a b ∧ e = b + 1 ∧ O b = x ∧ P b = y := by
  rw [Cd, dif_pos hij, dif_pos rfl, dif_neg (by omega), h, show i + (m - i + 1) - 1 = m by omega, show i + (m - i + 1) = m + 1 by omega]
end SF
end
section
/-! The class's reader: what its open operations and its operands stand for. -/
theorem fst9_a (a b c : Int × Int) : fst9 (fst9 a b) c = fst9 a (fst9 b c) := by
  unfold fst9
  by_cases h : a.1 = 0
  · rw [if_pos h, if_pos h]
  · rw [if_neg h, if_neg h, if_neg h]
theorem fst9_0 (b : Int × Int) : fst9 (0, 0) b = b := if_pos rfl
section OQ
variable {w E pl O P O' P' : Nat → Int} {ec : Nat → Int × Int} {i j m s e : Nat} {x y : Int}
theorem Eo.le {c c' : Nat} (h : Eo w c i j) (hc : c ≤ c') (h6 : c' ≤ 6) : Eo w c' i j := by
  have : ∀ n c, c + n ≤ 6 → Eo w c i j → Eo w (c + n) i j := by
    intro n
    induction n with
    | zero => intro c _ q; exact q
    | succ n ih => intro c q1 q2; exact Eo.one (c := c + n) (by omega) (ih c (by omega) q2)
  have r := this (c' - c) c (by omega) h
  rw [show c + (c' - c) = c' by omega] at r
  exact r
theorem lo_ask (p5 : Pr w 5 i m) (h1 : w m = 32) (hj : m < j) : lo w i j = (m : Int) := by
  have em : i + (m - i) = m := by have := p5.1; omega
  have hb : bh w i (j - i) = ((m : Int), 6) := by
    have hm1 := p5.1
    rw [show j - i = (m - i) + 1 + (j - (m + 1)) by omega]
    have hm0 : ll w i (m - i) = 6 := by
      unfold ll
      rw [if_pos p5.2.2.2.2.1.1, em, lz_32 h1]
    have k := bh_max (w := w) (i := i) (a := m - i) (c := 6) (by omega) (fun k hk => by have := lb_ll p5.2.2.2.2.2.2 hk; omega) hm0 (j - (m + 1)) (fun k k1 k2 => ⟨by unfold ll; have := lz_le (w := w) (i := i) (k := i + k); split <;> omega, fun z => by omega⟩) (fun z k hk => by have := lb_ll p5.2.2.2.2.2.2 hk; omega)
    rw [em] at k
    exact k
  unfold lo
  rw [hb, if_neg]
  show ¬ (w i = 31 ∧ 6 < 4)
  omega
/-- how strong an operand may stand before an operation -/
def lsq (o : Int) : Nat := if 27 ≤ o ∧ o ≤ 29 then 1 else if 19 ≤ o ∧ o ≤ 26 then 2 else if o = 30 then 4 else 5
/-- two operands joined -/
theorem lo_bin {o : Int} {b a : Nat} (h1 : Eo w (lsq o) b m) (h2 : Eo w (rsq o) (m + 1) a) (hw : w m = o - 1) (ho : 19 ≤ o ∧ o ≤ 31) : lo w b a = (m : Int) ∧ Eo w (cst o) b a := by
  have p1 := h1.pr
  have p2 := h2.pr
  by_cases c1 : 27 ≤ o ∧ o ≤ 29
  · have e1 : lsq o = 1 := if_pos c1
    have e2 : rsq o = 0 := if_pos (Or.inr c1)
    have e3 : cst o = 1 := if_pos c1
    rw [e1] at h1 p1
    rw [e2] at h2 p2
    rw [e3]
    exact ⟨lo_op (c := 1) p1 p2 (by omega) (by omega) (by omega) (fun _ => by omega) (fun _ => by omega) (by omega) (lz_26 (by omega)) (fun q => absurd q (p1.2.2.1 (by omega))), eo1 (by omega) h1 h2⟩
  · by_cases c2 : o = 25 ∨ o = 26
    · have e1 : lsq o = 2 := by unfold lsq; rw [if_neg c1, if_pos (by omega)]
      have e2 : rsq o = 1 := by unfold rsq; rw [if_neg (by omega), if_pos c2]
      have e3 : cst o = 2 := by unfold cst; rw [if_neg c1, if_pos c2]
      rw [e1] at h1 p1
      rw [e2] at h2 p2
      rw [e3]
      exact ⟨lo_op (c := 2) p1 p2 (by omega) (by omega) (by omega) (fun _ => by omega) (fun _ => by omega) (by omega) (lz_24 (by omega) p1.1 p1.2.2.2.1) (fun q => absurd q (p1.2.2.1 (by omega))), eo2 (by omega) h1 h2⟩
    · by_cases c3 : 19 ≤ o ∧ o ≤ 24
      · have e1 : lsq o = 2 := by unfold lsq; rw [if_neg c1, if_pos (by omega)]
        have e2 : rsq o = 2 := by unfold rsq; rw [if_neg (by omega), if_neg c2, if_pos c3]
        have e3 : cst o = 3 := by unfold cst; rw [if_neg c1, if_neg c2, if_pos (Or.inl c3)]
        rw [e1] at h1 p1
        rw [e2] at h2 p2
        rw [e3]
        exact ⟨lo_op (c := 3) p1 p2 (by omega) (by omega) (by omega) (fun _ => by omega) (fun _ => by omega) (by omega) (lz_18 (by omega)) (fun q => absurd q (p1.2.2.1 (by omega))), eo3 (by omega) h1 h2⟩
      · by_cases c4 : o = 30
        · subst c4
          exact ⟨lo_op (c := 4) (c1 := 4) (c2 := 3) p1 p2 (by omega) (by omega) (by omega) (fun _ => by omega) (fun _ => by omega) (by omega) (lz_29 (by omega)) (fun _ => by omega), eo4 (by omega) h1 h2⟩
        · have c5 : o = 31 := by omega
          subst c5
          exact ⟨lo_op (c := 5) (c1 := 5) (c2 := 4) p1 p2 (by omega) (by omega) (by omega) (fun _ => by omega) (fun _ => by omega) (by omega) (lz_30 (by omega)) (fun _ => by omega), eo5 (by omega) h1 h2⟩
theorem clq_eo {q : Nat} (h2 : Eo w 6 (m + 1) q) (hq : w q = 33) (hj : q < j) : clq w m j = q := clq_at (Nat.le_of_lt h2.pr.1) hj h2.pr.2.2.2.2.1 hq
theorem lcq_eo {c : Nat} (h : Eo w c i j) (hc : c ≤ 6) : lcq w i (j - i) = 0 := by
  obtain ⟨n, h⟩ := h
  exact lcq_0 _ (ex_nc hc h)
theorem lcq_7 (h1 : Eo w 7 i m) (hw : w m = 35) (h2 : Eo w 6 (m + 1) j) : lcq w i (j - i) = m - i + 1 := by
  have p1 := h1.pr
  have p2 := h2.pr
  have hi := p1.1
  have hj := p2.1
  obtain ⟨n, h2⟩ := h2
  have nx := ex_nc (by omega) h2
  have d1 : dp w i (m - i) = 0 := p1.2.2.2.2.1.1
  have em : i + (m - i) = m := by omega
  have d2 : dp w i (m - i + 1) = 0 := by rw [dp_s, em, if_neg (by omega), if_neg (by omega), d1]; omega
  rw [show j - i = (m - i) + 1 + (j - (m + 1)) by omega]
  refine lcq_at d1 (by rw [em]; exact hw) _ (fun t t1 t2 t3 => ?_)
  have e : t = (m - i + 1) + (t - (m - i + 1)) := by omega
  rw [e, dp_app, d2, show i + (m - i + 1) = m + 1 by omega] at t3
  have := nx (t - (m - i + 1)) (by omega) (by omega)
  rw [show m + 1 + (t - (m - i + 1)) = i + t by omega] at this
  exact this
/-! orders: they take room, and ask nothing of what lies elsewhere -/
theorem Cd_lt : ∀ (n c i j : Nat), 2 * (j - i) + c ≤ n → ∀ {x y : Int} {s e : Nat}, Cd w ec pl O P c x y i j s e → s < e := by
  intro n
  induction n with
  | zero =>
    intro c i j hn x y s e h
    rw [Cd] at h
    rw [dif_neg (by omega)] at h
    exact h.elim
  | succ n ih =>
    intro c i j hn x y s e h
    have a1 := lcq_le (w := w) (i := i) (j - i)
    have a2 := clq_b (w := w) (m := loq w i j) (j := j)
    rw [Cd] at h
    by_cases hij : i < j
    · rw [dif_pos hij] at h
      by_cases hc : c = 1
      · rw [dif_pos hc] at h
        by_cases hp : lcq w i (j - i) = 0
        · rw [dif_pos hp] at h
          exact ih _ _ _ (by omega) h
        · rw [dif_neg hp] at h
          obtain ⟨a, b, h1, h2, h3, -⟩ := h
          have := ih _ _ _ (by omega) h1
          have := ih _ _ _ (by omega) h2
          omega
      · rw [dif_neg hc] at h
        by_cases hm : lin w i j
        · rw [dif_pos hm] at h
          have a3 := hm.2
          split at h
          · obtain ⟨a, b, h1, -, -, h2, -, -, h3⟩ := h
            have := ih _ _ _ (by omega) h1
            have := ih _ _ _ (by omega) h2
            have := ih _ _ _ (by omega) h3
            omega
          · split at h
            · obtain ⟨a, h1, -, -, h2⟩ := h
              have := ih _ _ _ (by omega) h1
              have := ih _ _ _ (by omega) h2
              omega
            · obtain ⟨a, b, h1, h2, h3, -⟩ := h
              have := ih _ _ _ (by omega) h1
              have := ih _ _ _ (by omega) h2
              omega
        · rw [dif_neg hm] at h
          split at h
          · exact ih _ _ _ (by omega) h
          · split at h
            · obtain ⟨b, h1, h2, -⟩ := h
              have := ih _ _ _ (by omega) h1
              omega
            · split at h
              · exact ih _ _ _ (by omega) h
              · omega
    · rw [dif_neg hij] at h
      exact h.elim
theorem Cd.lt {c i j : Nat} (h : Cd w ec pl O P c x y i j s e) : s < e := Cd_lt _ c i j (Nat.le_refl _) h
theorem Cd_cg : ∀ (n c i j : Nat), 2 * (j - i) + c ≤ n → ∀ {x y : Int} {s e : Nat}, Cd w ec pl O P c x y i j s e → (∀ t, s ≤ t → t < e → O' t = O t ∧ P' t = P t) → Cd w ec pl O' P' c x y i j s e := by
  intro n
  induction n with
  | zero =>
    intro c i j hn x y s e h _
    rw [Cd] at h
    rw [dif_neg (by omega)] at h
    exact h.elim
  | succ n ih =>
    intro c i j hn x y s e h hO
    have a1 := lcq_le (w := w) (i := i) (j - i)
    have a2 := clq_b (w := w) (m := loq w i j) (j := j)
    rw [Cd] at h ⊢
    by_cases hij : i < j
    · rw [dif_pos hij] at h ⊢
      by_cases hc : c = 1
      · rw [dif_pos hc] at h ⊢
        by_cases hp : lcq w i (j - i) = 0
        · rw [dif_pos hp] at h ⊢
          exact ih _ _ _ (by omega) h hO
        · rw [dif_neg hp] at h ⊢
          obtain ⟨a, b, h1, h2, h3, h4, h5⟩ := h
          have l1 := h1.lt
          have l2 := h2.lt
          have k := hO b (by omega) (by omega)
          exact ⟨a, b, ih _ _ _ (by omega) h1 (fun t u v => hO t u (by omega)), ih _ _ _ (by omega) h2 (fun t u v => hO t (by omega) (by omega)), h3, by rw [k.1]; exact h4, by rw [k.2]; exact h5⟩
      · rw [dif_neg hc] at h ⊢
        by_cases hm : lin w i j
        · rw [dif_pos hm] at h ⊢
          have a3 := hm.2
          by_cases c1 : w (loq w i j) = 32
          · rw [if_pos c1] at h ⊢
            obtain ⟨a, b, h1, h4, h5, h2, h6, h7, h3⟩ := h
            have l1 := h1.lt
            have l2 := h2.lt
            have l3 := h3.lt
            have k1 := hO a (by omega) (by omega)
            have k2 := hO b (by omega) (by omega)
            exact ⟨a, b, ih _ _ _ (by omega) h1 (fun t u v => hO t u (by omega)), by rw [k1.1]; exact h4, by rw [k1.2]; exact h5, ih _ _ _ (by omega) h2 (fun t u v => hO t (by omega) (by omega)), by rw [k2.1]; exact h6, by rw [k2.2]; exact h7, ih _ _ _ (by omega) h3 (fun t u v => hO t (by omega) v)⟩
          · rw [if_neg c1] at h ⊢
            by_cases c2 : w (loq w i j) = 29 ∨ w (loq w i j) = 30
            · rw [if_pos c2] at h ⊢
              obtain ⟨a, h1, h4, h5, h2⟩ := h
              have l1 := h1.lt
              have l2 := h2.lt
              have k1 := hO a (by omega) (by omega)
              exact ⟨a, ih _ _ _ (by omega) h1 (fun t u v => hO t u (by omega)), by rw [k1.1]; exact h4, by rw [k1.2]; exact h5, ih _ _ _ (by omega) h2 (fun t u v => hO t (by omega) v)⟩
            · rw [if_neg c2] at h ⊢
              obtain ⟨a, b, h1, h2, h3, h4, h5⟩ := h
              have l1 := h1.lt
              have l2 := h2.lt
              have k := hO b (by omega) (by omega)
              exact ⟨a, b, ih _ _ _ (by omega) h1 (fun t u v => hO t u (by omega)), ih _ _ _ (by omega) h2 (fun t u v => hO t (by omega) (by omega)), h3, by rw [k.1]; exact h4, by rw [k.2]; exact h5⟩
        · rw [dif_neg hm] at h ⊢
          by_cases c1 : w i = 36
          · rw [if_pos c1] at h ⊢
            exact ih _ _ _ (by omega) h hO
          · rw [if_neg c1] at h ⊢
            by_cases c2 : w i = 25 ∨ w i = 31
            · rw [if_pos c2] at h ⊢
              obtain ⟨b, h1, h2, h3, h4⟩ := h
              have l1 := h1.lt
              have k := hO b (by omega) (by omega)
              exact ⟨b, ih _ _ _ (by omega) h1 (fun t u v => hO t u (by omega)), h2, by rw [k.1]; exact h3, by rw [k.2]; exact h4⟩
            · rw [if_neg c2] at h ⊢
              by_cases c3 : w i = 14 ∨ w i = 15
              · rw [if_pos c3] at h ⊢
                exact ih _ _ _ (by omega) h hO
              · rw [if_neg c3] at h ⊢
                have k := hO s (by omega) (by omega)
                exact ⟨h.1, by rw [k.1]; exact h.2.1, by rw [k.2]; exact h.2.2⟩
    · rw [dif_neg hij] at h
      exact h.elim
theorem Cd.cg {c i j : Nat} (h : Cd w ec pl O P c x y i j s e) (hO : ∀ t, s ≤ t → t < e → O' t = O t ∧ P' t = P t) : Cd w ec pl O' P' c x y i j s e := Cd_cg _ c i j (Nat.le_refl _) h hO
end OQ
end
