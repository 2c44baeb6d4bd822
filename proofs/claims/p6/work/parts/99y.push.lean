section
section
/-! The reference: the pile of values. -/
section PU
variable {G : mG} {d a : Nat} {M M1 : mM}
/-- a long of a cell that is no list -/
theorem mv_ul {x j : Nat} {v : Int} (hv : i64 v) (hO : mOk M) (h : Wd M a) (e : M1 = mUL M x j v) : Mv (fun _ => False) (fun y => y = x) M a M1 ∧ (∀ y k, mL M1 y k = if y = x ∧ k = j then v else mL M y k) ∧ mI M1 = mI M := by
  subst e
  refine ⟨⟨mOk_UL hO hv, h, ⟨Nat.le_refl _, Nat.le_refl _⟩, ⟨⟨Nat.le_refl _, fun _ z => z.elim⟩, fun _ _ => ⟨rfl, rfl⟩, fun _ _ _ => rfl, fun y _ _ _ hy => ⟨rfl, ?_⟩, fun _ z => z.elim⟩, fun q _ _ => ⟨rfl, fun _ => rfl, rfl, rfl⟩⟩, fun y k => mL_UL .., rfl⟩
  funext k
  rw [mL_UL, if_neg (fun z => hy z.1)]
abbrev vS (a : Nat) : Nat → Prop := fun x => x = a ∨ x = a + 97 ∨ x = a + 98
/-- a value has been pushed: V were there -/
def psQ (M : mM) (a V : Nat) (A B : Int) (M' : mM) : Prop := Mv (fun _ => False) (vS a) M a M' ∧ mI M' a 23 = (V + 1 : Nat) ∧ (∀ i, i ≠ 23 → mI M' a i = mI M a i) ∧ (∀ k, mL M' (a + 97) k = if k = V then A else mL M (a + 97) k) ∧ ∀ k, mL M' (a + 98) k = if k = V then B else mL M (a + 98) k
theorem s_MM_push {V : Nat} {A B : Int} (hA : i64 A) (hB : i64 B) (hO : mOk M) (h : Wd M a) (hV : mI M a 23 = (V : Int)) (hb : V < 16400) : Cv G y_MM_push d [vr a, vl A, vl B] M (fun M' => mOk M' ∧ psQ M a V A B M') := by
  refine Cv.mono (Q := psQ M a V A B) ?_ (fun M' t => ⟨t.1.1, t⟩)
  have r21 : ∀ {M3 : mM}, Wd M3 a → mR M3 a 21 = a + 97 := fun w => w.1.2.2.2.2.1.2.2.2.2.2.2.1
  have r22 : ∀ {M3 : mM}, Wd M3 a → mR M3 a 22 = a + 98 := fun w => w.1.2.2.2.2.1.2.2.2.2.2.2.2.1
  refine k_MM_push hO hA hB ?_
  rw [r21 h, hV]
  have n97 : mK M (a + 97) = 33 ∧ mN M (a + 97) = 16400 := h.1.2.2.2.2.2.2.2.1.1
  have n98 : mK M (a + 98) = 33 ∧ mN M (a + 98) = 16400 := h.1.2.2.2.2.2.2.2.1.2.1
  refine ⟨h.1.1, n97.1, by rw [n97.2]; omega, fun M2 e2 => ?_⟩
  obtain ⟨m2, l2, i2⟩ := mv_ul hA hO h e2
  rw [r22 m2.2.1, i2, hV]
  have z := h.2.2.2
  have f2 := m2.2.2.2.1.2.1 (a + 98) (by omega)
  refine ⟨f2.1.trans n98.1, by rw [f2.2, n98.2]; omega, fun M3 e3 => ?_⟩
  obtain ⟨m3, l3, i3⟩ := mv_ul hB m2.1 m2.2.1 e3
  rw [i3, i2, hV]
  refine ⟨⟨by omega, by omega⟩, fun M4 e4 => ?_⟩
  obtain ⟨m4, i4⟩ := mv_fld (v := (V : Int) + 1) ⟨by omega, by omega⟩ m3.1 m3.2.1 e4
  have o4 := m4.2.2.2.1
  have c4 : ∀ x, x < mZ M3 → x ≠ a → mL M4 x = mL M3 x := fun x hx hne => (o4.2.2.2.1 x hx (fun w => w) (fun p w => w.elim) hne).2
  have z3 := m3.2.1.2.2.2
  have no : ∀ q : Nat, False → q < mZ M := fun _ w => w.elim
  refine ⟨((m2.mono (S' := vS a) (fun _ w => w) (fun x w => Or.inr (Or.inl w)) no).trans (m3.mono (S' := vS a) (fun _ w => w) (fun x w => Or.inr (Or.inr w)) (fun _ w => w.elim))).trans (m4.mono (S' := vS a) (fun _ w => w) (fun x w => Or.inl w) (fun _ w => w.elim)), by rw [i4, if_pos rfl]; omega, fun i hi => by rw [i4, if_neg hi, i3, i2], fun k => ?_, fun k => ?_⟩
  · rw [c4 _ (by omega) (by omega), l3, if_neg (fun w => by omega), l2, Int.toNat_natCast]
    by_cases y : k = V
    · rw [if_pos ⟨rfl, y⟩, if_pos y]
    · rw [if_neg (fun w => y w.2), if_neg y]
  · rw [c4 _ (by omega) (by omega), l3, Int.toNat_natCast]
    by_cases y : k = V
    · rw [if_pos ⟨rfl, y⟩, if_pos y]
    · rw [if_neg (fun w => y w.2), l2, if_neg (fun w => by omega), if_neg y]
theorem s_MM_pushTruth {V : Nat} {t : Int} (ht : i32 t) (hO : mOk M) (h : Wd M a) (hV : mI M a 23 = (V : Int)) (hb : V < 16400) : Cv G y_MM_pushTruth (d + 1) [vr a, vi t] M (fun M' => mOk M' ∧ psQ M a V (if t = 0 then 0 else 1) 0 M') := by
  refine k_MM_pushTruth hO ht (fun v hv => ⟨h.1.1, ?_⟩)
  rw [← hv]
  refine (s_MM_push (d := d) ⟨by split at hv <;> omega, by split at hv <;> omega⟩ ⟨by omega, by omega⟩ hO h hV hb).mono (fun M' t => ⟨t.1, t⟩)
end PU
end
section
/-! The reference: fractions are reckoned. -/
section RK
variable {G : mG} {d a V : Nat} {M : mM}
/-- a value of type t: a fraction, or a truth with 0 below -/
def vok (t A B : Int) : Prop := (t = 0 ∧ -1000000000 < A ∧ A < 1000000000 ∧ 1 ≤ B ∧ B < 1000000000) ∨ (t = 1 ∧ (A = 0 ∨ A = 1) ∧ B = 0)
/-- a value has been reckoned, or a fault told -/
def rkQ (M : mM) (a V : Nat) (t : Int) (M' : mM) : Prop := Mv (fun _ => False) (vS a) M a M' ∧ (∀ i, i ≠ 16 → i ≠ 17 → i ≠ 23 → mI M' a i = mI M a i) ∧ (∀ k, k < V → mL M' (a + 97) k = mL M (a + 97) k ∧ mL M' (a + 98) k = mL M (a + 98) k) ∧ (mI M' a 16 ≠ 0 ∨ (mI M' a 16 = mI M a 16 ∧ mI M' a 23 = (V + 1 : Nat) ∧ vok t (mL M' (a + 97) V) (mL M' (a + 98) V)))
theorem cmpz (z b : Int) : (0 ≤ cmpL z b ↔ b ≤ z) ∧ (cmpL z b ≤ 0 ↔ z ≤ b) ∧ (cmpL z b < 0 ↔ z < b) ∧ (cmpL z b = 0 ↔ z = b) ∧ (0 < cmpL z b ↔ b < z) := by unfold cmpL; split <;> (try split) <;> omega
theorem psQ.rk {t A B : Int} {M' : mM} (h : psQ M a V A B M') (hv : vok t A B) : rkQ M a V t M' := by
  obtain ⟨h1, h2, h3, h4, h5⟩ := h
  exact ⟨h1, fun i _ _ i3 => h3 i i3, fun k hk => ⟨by rw [h4, if_neg (by omega)], by rw [h5, if_neg (by omega)]⟩, Or.inr ⟨h3 16 (by omega), h2, by rw [h4, h5, if_pos rfl, if_pos rfl]; exact hv⟩⟩
/-- a fault, and nothing else -/
theorem st_rk {t c p : Int} {M' : mM} (hc : c ≠ 0) (h : Mv (fun _ => False) (fun x => x = a) M a M' ∧ mI M' a 16 = c ∧ mI M' a 17 = p ∧ ∀ i, i ≠ 16 → i ≠ 17 → mI M' a i = mI M a i) (w : Wd M a) : rkQ M a V t M' := by
  obtain ⟨m, f1, f2, f3⟩ := h
  have z := w.2.2.2
  have cl : ∀ x, x < mZ M → x ≠ a → mL M' x = mL M x := fun x hx hne => (m.2.2.2.1.2.2.2.1 x hx (fun y => y) (fun p y => y.elim) hne).2
  exact ⟨m.mono (fun _ y => y) (fun x y => Or.inl y) (fun _ y => y.elim), fun i i1 i2 _ => f3 i i1 i2, fun k _ => ⟨by rw [cl _ (by omega) (by omega)], by rw [cl _ (by omega) (by omega)]⟩, Or.inl (by rw [f1]; exact hc)⟩
end RK
end
section
/-! The reference: reckon and best. -/
section RB
variable {G : mG} {d a V : Nat} {M : mM}
theorem mul9 {x y : Int} (hx : -1000000000 < x ∧ x < 1000000000) (hy : -1000000000 < y ∧ y < 1000000000) : -1000000000000000000 < x * y ∧ x * y < 1000000000000000000 := by
  have h1 : x.natAbs ≤ 999999999 := by omega
  have h2 : y.natAbs ≤ 999999999 := by omega
  have h3 := Nat.mul_le_mul h1 h2
  rw [← Int.natAbs_mul] at h3
  omega
theorem tmod9 {x y : Int} (hy : 0 < y) : -y < Int.tmod x y ∧ Int.tmod x y < y := by
  by_cases hx : 0 ≤ x
  · rw [Int.tmod_eq_emod_of_nonneg hx]
    have b1 := Int.emod_nonneg x (show y ≠ 0 by omega)
    have b2 := Int.emod_lt_of_pos x hy
    omega
  · have e : Int.tmod x y = -(Int.tmod (-x) y) := by rw [Int.neg_tmod]; omega
    rw [e, Int.tmod_eq_emod_of_nonneg (show 0 ≤ -x by omega)]
    have b1 := Int.emod_nonneg (-x) (show y ≠ 0 by omega)
    have b2 := Int.emod_lt_of_pos (-x) hy
    omega
end RB
end
section
/-! The reference: a long is cut to an int. -/
section W32
variable {G : mG} {y : mY} {d pc : Nat} {L st : List mV} {M : mM} {Q : Option mV → mM → Prop}
def w32 (x : Int) : Int := (Int32.ofInt x).toInt
theorem w32_id {x : Int} (h : i32 x) : w32 x = x := i32_toInt h
theorem i32_w32 {x : Int} : i32 (w32 x) := by
  have h1 := Int32.le_toInt (Int32.ofInt x)
  have h2 := Int32.toInt_lt (Int32.ofInt x)
  unfold w32
  exact ⟨by omega, by omega⟩
theorem wm_l2iw {x : Int} (hd : decode y.2.1 pc = .ok (.l2i, 1)) (h : mWm G y d (pc + 1) L (vi (w32 x) :: st) M Q) : mWm G y d pc L (vl x :: st) M Q := wm_st (fun p e R s m args below meth c H locs cells slots ls Qf hA hR hL k => lv_l2i hA.1 hA.2.1 hd ((m_l2i x).trans (Int32.ofInt_toInt _).symm) k) h
theorem wm_w {x : Int} (h : mWm G y d pc L (vi (w32 x) :: st) M Q) : mWm G y d pc L (vi x :: st) M Q := by
  have e : (vi (w32 x) :: st).map mcv = (vi x :: st).map mcv := by
    show Value.int (Int32.ofInt (w32 x)) :: st.map mcv = Value.int (Int32.ofInt x) :: st.map mcv
    rw [show Int32.ofInt (w32 x) = Int32.ofInt x from Int32.ofInt_toInt _]
  obtain ⟨r, M', h1, h2⟩ := h
  refine ⟨r, M', ⟨h1.1, ?_⟩, h2⟩
  rw [← e]
  exact h1.2
end W32
theorem k_MM_wholeOf2 {G : mG} {d : Nat} {a0 : Nat} {l1 : Int} {l2 : Int} {M : mM} {Q : Int → mM → Prop} (hO : mOk M) (hi_l1 : i32 l1) (hi_l2 : i32 l2)
    (h : mK M a0 = 14 ∧ ((mI M a0 16 = 0) → (Cv G y_MM_workOut d [vr a0, vr (mR M a0 10), vi l1] M (fun M4 => mOk M4 ∧ (mK M4 a0 = 14 ∧ ((mI M4 a0 16 = 0) → (mK M4 (mR M4 a0 22) = 33 ∧ ((0 : Int) ≤ 0 ∧ 0 < (mN M4 (mR M4 a0 22) : Int)))) ∧ (((¬ (mI M4 a0 16 = 0)) ∨ (cmpL (mL M4 (mR M4 a0 22) 0) 1 = 0)) → (mK M4 (mR M4 a0 21) = 33 ∧ ((0 : Int) ≤ 0 ∧ 0 < (mN M4 (mR M4 a0 21) : Int)) ∧ Q (w32 (mL M4 (mR M4 a0 21) 0)) M4)) ∧ (¬ ((¬ (mI M4 a0 16 = 0)) ∨ (cmpL (mL M4 (mR M4 a0 22) 0) 1 = 0)) → (Ci G y_MM_place0 d [vr a0, vi l2] M4 (fun x22 M21 => i32 x22 ∧ mOk M21 ∧ (mK M21 a0 = 14 ∧ Cv G y_MM_stop d [vr a0, vi 8, vi x22] M21 (fun M25 => mOk M25 ∧ (mK M25 a0 = 14 ∧ mK M25 (mR M25 a0 21) = 33 ∧ ((0 : Int) ≤ 0 ∧ 0 < (mN M25 (mR M25 a0 21) : Int)) ∧ Q (w32 (mL M25 (mR M25 a0 21) 0)) M25)))))))))) ∧ (¬ (mI M a0 16 = 0) → (Q 0 M))) :
    Ci G y_MM_wholeOf (d + 1) [vr a0, vi l1, vi l2] M Q := by
  refine wm_open (y := y_MM_wholeOf) rfl (Nat.le_of_ble_eq_true rfl) (L := [vr a0, vi l1, vi l2]) rfl ?_
  obtain ⟨h1, h⟩ := h
  refine wm_aload_n d_MM_wholeOf_0 rfl rfl ?_
  refine gf_MM_267 rfl d_MM_wholeOf_1 h1 ?_
  refine wm_if_eq (tgt := 9) d_MM_wholeOf_4 rfl (hO _ _).1 (fun c3 => ?_) (fun c3 => ?_)
  · replace h := h.1 c3
    refine wm_aload_n d_MM_wholeOf_9 rfl rfl ?_
    refine wm_aload_n d_MM_wholeOf_10 rfl rfl ?_
    refine gf_MM_38 rfl d_MM_wholeOf_11 h1 ?_
    refine wm_iload_n d_MM_wholeOf_14 rfl rfl ?_
    refine cf_MM_450 rfl d_MM_wholeOf_15 h1 (Nat.le_of_ble_eq_true rfl) (Cv.mono h (fun M4 h => ?_))
    obtain ⟨hOM4, h⟩ := h
    obtain ⟨h7, h⟩ := h
    refine wm_aload_n d_MM_wholeOf_18 rfl rfl ?_
    refine gf_MM_267 rfl d_MM_wholeOf_19 h7 ?_
    obtain ⟨s16, h⟩ := h
    have hE0 : ((¬ (mI M4 a0 16 = 0)) ∨ (cmpL (mL M4 (mR M4 a0 22) 0) 1 = 0)) → mWm G y_MM_wholeOf (d + 1) 47 [vr a0, vi l1, vi l2] [] M4 (fun r9 M9 => ∃ x9, r9 = some (vi x9) ∧ Q x9 M9) := by
      intro q17
      have h := h.1 q17
      obtain ⟨h18, h⟩ := h
      obtain ⟨h19, h⟩ := h
      refine wm_aload_n d_MM_wholeOf_47 rfl rfl ?_
      refine gf_MM_63 rfl d_MM_wholeOf_48 h7 ?_
      refine wm_iconst d_MM_wholeOf_51 ?_
      refine wm_lald d_MM_wholeOf_52 h18 h19 ?_
      refine wm_l2iw d_MM_wholeOf_53 ?_
      refine wm_ireturn d_MM_wholeOf_54 rfl rfl ?_
      exact ⟨_, rfl, h⟩
    have hE1 : ¬ ((¬ (mI M4 a0 16 = 0)) ∨ (cmpL (mL M4 (mR M4 a0 22) 0) 1 = 0)) → mWm G y_MM_wholeOf (d + 1) 36 [vr a0, vi l1, vi l2] [] M4 (fun r9 M9 => ∃ x9, r9 = some (vi x9) ∧ Q x9 M9) := by
      intro q20
      have h := h.2 q20
      refine wm_aload_n d_MM_wholeOf_36 rfl rfl ?_
      refine wm_bipush d_MM_wholeOf_37 (by decide) ?_
      refine wm_aload_n d_MM_wholeOf_39 rfl rfl ?_
      refine wm_iload_n d_MM_wholeOf_40 rfl rfl ?_
      refine cf_MM_279 rfl d_MM_wholeOf_41 h7 (Nat.le_of_ble_eq_true rfl) (Ci.mono h (fun x22 M21 h => ?_))
      obtain ⟨h23, hOM21, h⟩ := h
      obtain ⟨h24, h⟩ := h
      refine cf_MM_351 rfl d_MM_wholeOf_44 h24 (Nat.le_of_ble_eq_true rfl) (Cv.mono h (fun M25 h => ?_))
      obtain ⟨hOM25, h⟩ := h
      obtain ⟨h28, h⟩ := h
      obtain ⟨h29, h⟩ := h
      obtain ⟨h30, h⟩ := h
      refine wm_aload_n d_MM_wholeOf_47 rfl rfl ?_
      refine gf_MM_63 rfl d_MM_wholeOf_48 h28 ?_
      refine wm_iconst d_MM_wholeOf_51 ?_
      refine wm_lald d_MM_wholeOf_52 h29 h30 ?_
      refine wm_l2iw d_MM_wholeOf_53 ?_
      refine wm_ireturn d_MM_wholeOf_54 rfl rfl ?_
      exact ⟨_, rfl, h⟩
    clear h
    have s31 := s16
    refine wm_if_ne (tgt := 47) d_MM_wholeOf_22 rfl (hOM4 _ _).1 (fun c15 => ?_) (fun c15 => ?_)
    · exact hE0 (Or.inl c15)
    · replace c15 := Classical.not_not.mp c15
      have s31 := s31 c15
      obtain ⟨h12, h13⟩ := s31
      refine wm_aload_n d_MM_wholeOf_25 rfl rfl ?_
      refine gf_MM_67 rfl d_MM_wholeOf_26 h7 ?_
      refine wm_iconst d_MM_wholeOf_29 ?_
      refine wm_lald d_MM_wholeOf_30 h12 h13 ?_
      refine wm_lconst (x := 1) d_MM_wholeOf_31 rfl ?_
      refine wm_lcmp d_MM_wholeOf_32 (hOM4 _ _).2 ⟨by decide, by decide⟩ ?_
      refine wm_if_eq (tgt := 47) d_MM_wholeOf_33 rfl (m_cmp32 _ _) (fun c14 => ?_) (fun c14 => ?_)
      · exact hE0 (Or.inr c14)
      · exact hE1 (fun z32 => Or.elim z32 (fun w => w c15) c14)
  · replace h := h.2 c3
    refine wm_iconst d_MM_wholeOf_7 ?_
    refine wm_ireturn d_MM_wholeOf_8 rfl rfl ?_
    exact ⟨_, rfl, h⟩
theorem k_MM_begins2 {G : mG} {d : Nat} {a0 : Nat} {l1 : Int} {l2 : Int} {l3 : Int} {M : mM} {Q : mM → Prop} (hO : mOk M) (hi_l1 : i32 l1) (hi_l2 : i32 l2) (hi_l3 : i32 l3)
    (h : mK M a0 = 14 ∧ mK M (mR M a0 10) = 16 ∧ mK M (mR M (mR M a0 10) 13) = 31 ∧ ((0 : Int) ≤ l1 ∧ l1 < (mN M (mR M (mR M a0 10) 13) : Int)) ∧ ((mI M (mR M (mR M a0 10) 13) (Int.toNat l1) = 0) → (Ci G y_MM_wholeOf d [vr a0, vi l2, vi l3] M (fun x8 M7 => i32 x8 ∧ mOk M7 ∧ (mK M7 a0 = 14 ∧ ((mI M7 a0 16 = 0) → (mK M7 (mR M7 a0 10) = 16 ∧ mK M7 (mR M7 (mR M7 a0 10) 14) = 30 ∧ ((0 : Int) ≤ l1 ∧ l1 < (mN M7 (mR M7 (mR M7 a0 10) 14) : Int)) ∧ (¬ (x8 < mI M7 (mR M7 (mR M7 a0 10) 14) (Int.toNat l1)) → (mK M7 (mR M7 (mR M7 a0 10) 15) = 30 ∧ ((0 : Int) ≤ l1 ∧ l1 < (mN M7 (mR M7 (mR M7 a0 10) 15) : Int)))))) ∧ (((mI M7 a0 16 = 0) ∧ ((x8 < mI M7 (mR M7 (mR M7 a0 10) 14) (Int.toNat l1)) ∨ (¬ (x8 ≤ mI M7 (mR M7 (mR M7 a0 10) 15) (Int.toNat l1))))) → (Ci G y_MM_place0 d [vr a0, vi l3] M7 (fun x27 M26 => i32 x27 ∧ mOk M26 ∧ (mK M26 a0 = 14 ∧ Cv G y_MM_stop d [vr a0, vi 9, vi x27] M26 (fun M30 => mOk M30 ∧ (mK M30 a0 = 14 ∧ mK M30 (mR M30 a0 10) = 16 ∧ mK M30 (mR M30 (mR M30 a0 10) 16) = 30 ∧ ((0 : Int) ≤ l1 ∧ l1 < (mN M30 (mR M30 (mR M30 a0 10) 16) : Int)) ∧ ∀ M37, M37 = mUI M30 (mR M30 (mR M30 a0 10) 16) (Int.toNat l1) x8 → Q M37)))))) ∧ (¬ ((mI M7 a0 16 = 0) ∧ ((x8 < mI M7 (mR M7 (mR M7 a0 10) 14) (Int.toNat l1)) ∨ (¬ (x8 ≤ mI M7 (mR M7 (mR M7 a0 10) 15) (Int.toNat l1))))) → (mK M7 (mR M7 a0 10) = 16 ∧ mK M7 (mR M7 (mR M7 a0 10) 16) = 30 ∧ ((0 : Int) ≤ l1 ∧ l1 < (mN M7 (mR M7 (mR M7 a0 10) 16) : Int)) ∧ ∀ M43, M43 = mUI M7 (mR M7 (mR M7 a0 10) 16) (Int.toNat l1) x8 → Q M43)))))) ∧ (¬ (mI M (mR M (mR M a0 10) 13) (Int.toNat l1) = 0) → (Cv G y_MM_workOut d [vr a0, vr (mR M a0 10), vi l2] M (fun M51 => mOk M51 ∧ (mK M51 a0 = 14 ∧ mK M51 (mR M51 a0 10) = 16 ∧ mK M51 (mR M51 a0 21) = 33 ∧ ((0 : Int) ≤ 0 ∧ 0 < (mN M51 (mR M51 a0 21) : Int)) ∧ mK M51 (mR M51 (mR M51 a0 10) 16) = 30 ∧ ((0 : Int) ≤ l1 ∧ l1 < (mN M51 (mR M51 (mR M51 a0 10) 16) : Int)) ∧ ∀ M61, M61 = mUI M51 (mR M51 (mR M51 a0 10) 16) (Int.toNat l1) (w32 (mL M51 (mR M51 a0 21) 0)) → Q M61))))) :
    Cv G y_MM_begins (d + 1) [vr a0, vi l1, vi l2, vi l3] M Q := by
  refine wm_open (y := y_MM_begins) rfl (Nat.le_of_ble_eq_true rfl) (L := [vr a0, vi l1, vi l2, vi l3, vd]) rfl ?_
  obtain ⟨h1, h⟩ := h
  obtain ⟨h2, h⟩ := h
  obtain ⟨h3, h⟩ := h
  obtain ⟨h4, h⟩ := h
  refine wm_aload_n d_MM_begins_0 rfl rfl ?_
  refine gf_MM_38 rfl d_MM_begins_1 h1 ?_
  refine gf_MM_357 rfl d_MM_begins_4 h2 ?_
  refine wm_iload_n d_MM_begins_7 rfl rfl ?_
  refine wm_zald d_MM_begins_8 h3 h4 ?_
  refine wm_if_eq (tgt := 38) d_MM_begins_9 rfl (hO _ _).1 (fun c6 => ?_) (fun c6 => ?_)
  · replace h := h.1 c6
    refine wm_aload_n d_MM_begins_38 rfl rfl ?_
    refine wm_iload_n d_MM_begins_39 rfl rfl ?_
    refine wm_iload_n d_MM_begins_40 rfl rfl ?_
    refine cf_MM_466 rfl d_MM_begins_41 h1 (Nat.le_of_ble_eq_true rfl) (Ci.mono h (fun x8 M7 h => ?_))
    obtain ⟨h9, hOM7, h⟩ := h
    obtain ⟨h10, h⟩ := h
    refine wm_istore d_MM_begins_44 (by decide) (L' := [vr a0, vi l1, vi l2, vi l3, vi x8]) rfl ?_
    refine wm_aload_n d_MM_begins_46 rfl rfl ?_
    refine gf_MM_267 rfl d_MM_begins_47 h10 ?_
    obtain ⟨s24, h⟩ := h
    have hE0 : ((mI M7 a0 16 = 0) ∧ ((x8 < mI M7 (mR M7 (mR M7 a0 10) 14) (Int.toNat l1)) ∨ (¬ (x8 ≤ mI M7 (mR M7 (mR M7 a0 10) 15) (Int.toNat l1))))) → mWm G y_MM_begins (d + 1) 81 [vr a0, vi l1, vi l2, vi l3, vi x8] [] M7 (fun r9 M9 => r9 = none ∧ Q M9) := by
      intro q25
      have h := h.1 q25
      refine wm_aload_n d_MM_begins_81 rfl rfl ?_
      refine wm_bipush d_MM_begins_82 (by decide) ?_
      refine wm_aload_n d_MM_begins_84 rfl rfl ?_
      refine wm_iload_n d_MM_begins_85 rfl rfl ?_
      refine cf_MM_279 rfl d_MM_begins_86 h10 (Nat.le_of_ble_eq_true rfl) (Ci.mono h (fun x27 M26 h => ?_))
      obtain ⟨h28, hOM26, h⟩ := h
      obtain ⟨h29, h⟩ := h
      refine cf_MM_351 rfl d_MM_begins_89 h29 (Nat.le_of_ble_eq_true rfl) (Cv.mono h (fun M30 h => ?_))
      obtain ⟨hOM30, h⟩ := h
      obtain ⟨h33, h⟩ := h
      obtain ⟨h34, h⟩ := h
      obtain ⟨h35, h⟩ := h
      obtain ⟨h36, h⟩ := h
      obtain ⟨M37, e38⟩ : ∃ M37, M37 = mUI M30 (mR M30 (mR M30 a0 10) 16) (Int.toNat l1) x8 := ⟨_, rfl⟩
      replace h := h M37 e38
      refine wm_aload_n d_MM_begins_92 rfl rfl ?_
      refine gf_MM_38 rfl d_MM_begins_93 h33 ?_
      refine gf_MM_469 rfl d_MM_begins_96 h34 ?_
      refine wm_iload_n d_MM_begins_99 rfl rfl ?_
      refine wm_iload d_MM_begins_100 rfl ?_
      have hOM37 : mOk M37 := by rw [e38]; exact mOk_UI hOM30 h9
      refine wm_iastE d_MM_begins_102 h35 h36 h9 e38 ?_
      refine wm_return d_MM_begins_103 rfl ?_
      exact ⟨rfl, h⟩
    have hE1 : ¬ ((mI M7 a0 16 = 0) ∧ ((x8 < mI M7 (mR M7 (mR M7 a0 10) 14) (Int.toNat l1)) ∨ (¬ (x8 ≤ mI M7 (mR M7 (mR M7 a0 10) 15) (Int.toNat l1))))) → mWm G y_MM_begins (d + 1) 92 [vr a0, vi l1, vi l2, vi l3, vi x8] [] M7 (fun r9 M9 => r9 = none ∧ Q M9) := by
      intro q39
      have h := h.2 q39
      obtain ⟨h40, h⟩ := h
      obtain ⟨h41, h⟩ := h
      obtain ⟨h42, h⟩ := h
      obtain ⟨M43, e44⟩ : ∃ M43, M43 = mUI M7 (mR M7 (mR M7 a0 10) 16) (Int.toNat l1) x8 := ⟨_, rfl⟩
      replace h := h M43 e44
      refine wm_aload_n d_MM_begins_92 rfl rfl ?_
      refine gf_MM_38 rfl d_MM_begins_93 h10 ?_
      refine gf_MM_469 rfl d_MM_begins_96 h40 ?_
      refine wm_iload_n d_MM_begins_99 rfl rfl ?_
      refine wm_iload d_MM_begins_100 rfl ?_
      have hOM43 : mOk M43 := by rw [e44]; exact mOk_UI hOM7 h9
      refine wm_iastE d_MM_begins_102 h41 h42 h9 e44 ?_
      refine wm_return d_MM_begins_103 rfl ?_
      exact ⟨rfl, h⟩
    clear h
    have s45 := s24
    refine wm_if_ne (tgt := 92) d_MM_begins_50 rfl (hOM7 _ _).1 (fun c23 => ?_) (fun c23 => ?_)
    · exact hE1 (fun z50 => c23 z50.1)
    · replace c23 := Classical.not_not.mp c23
      have s45 := s45 c23
      obtain ⟨h16, h17, h18, s46⟩ := s45
      refine wm_iload d_MM_begins_53 rfl ?_
      refine wm_aload_n d_MM_begins_55 rfl rfl ?_
      refine gf_MM_38 rfl d_MM_begins_56 h10 ?_
      refine gf_MM_461 rfl d_MM_begins_59 h16 ?_
      refine wm_iload_n d_MM_begins_62 rfl rfl ?_
      refine wm_iald d_MM_begins_63 h17 h18 ?_
      refine wm_icmp_lt (tgt := 81) d_MM_begins_64 rfl h9 (hOM7 _ _).1 (fun c22 => ?_) (fun c22 => ?_)
      · exact hE0 ⟨c23, (Or.inl c22)⟩
      · have s46 := s46 c22
        obtain ⟨h19, h20⟩ := s46
        refine wm_iload d_MM_begins_67 rfl ?_
        refine wm_aload_n d_MM_begins_69 rfl rfl ?_
        refine gf_MM_38 rfl d_MM_begins_70 h10 ?_
        refine gf_MM_463 rfl d_MM_begins_73 h16 ?_
        refine wm_iload_n d_MM_begins_76 rfl rfl ?_
        refine wm_iald d_MM_begins_77 h19 h20 ?_
        refine wm_icmp_le (tgt := 92) d_MM_begins_78 rfl h9 (hOM7 _ _).1 (fun c21 => ?_) (fun c21 => ?_)
        · exact hE1 (fun z47 => (fun z48 => Or.elim z48 c22 (fun z49 => z49 c21)) z47.2)
        · exact hE0 ⟨c23, (Or.inr c21)⟩
  · replace h := h.2 c6
    refine wm_aload_n d_MM_begins_12 rfl rfl ?_
    refine wm_aload_n d_MM_begins_13 rfl rfl ?_
    refine gf_MM_38 rfl d_MM_begins_14 h1 ?_
    refine wm_iload_n d_MM_begins_17 rfl rfl ?_
    refine cf_MM_450 rfl d_MM_begins_18 h1 (Nat.le_of_ble_eq_true rfl) (Cv.mono h (fun M51 h => ?_))
    obtain ⟨hOM51, h⟩ := h
    obtain ⟨h54, h⟩ := h
    obtain ⟨h55, h⟩ := h
    obtain ⟨h56, h⟩ := h
    obtain ⟨h57, h⟩ := h
    obtain ⟨h58, h⟩ := h
    obtain ⟨h59, h⟩ := h
    have h60 := i32_w32 (x := mL M51 (mR M51 a0 21) 0)
    obtain ⟨M61, e62⟩ : ∃ M61, M61 = mUI M51 (mR M51 (mR M51 a0 10) 16) (Int.toNat l1) (w32 (mL M51 (mR M51 a0 21) 0)) := ⟨_, rfl⟩
    replace h := h M61 e62
    refine wm_aload_n d_MM_begins_21 rfl rfl ?_
    refine gf_MM_38 rfl d_MM_begins_22 h54 ?_
    refine gf_MM_469 rfl d_MM_begins_25 h55 ?_
    refine wm_iload_n d_MM_begins_28 rfl rfl ?_
    refine wm_aload_n d_MM_begins_29 rfl rfl ?_
    refine gf_MM_63 rfl d_MM_begins_30 h54 ?_
    refine wm_iconst d_MM_begins_33 ?_
    refine wm_lald d_MM_begins_34 h56 h57 ?_
    refine wm_l2iw d_MM_begins_35 ?_
    have hOM61 : mOk M61 := by rw [e62]; exact mOk_UI hOM51 h60
    refine wm_iastE d_MM_begins_36 h58 h59 h60 e62 ?_
    refine wm_return d_MM_begins_37 rfl ?_
    exact ⟨rfl, h⟩

theorem k_MM_varItem_215w {G : mG} {d : Nat} {a0 : Nat} {l1 : Int} {l3 : Int} {l4 : Int} {l5 : Int} {l6 : Int} {l7 : Int} {l8 : Int} {l9 : Int} {k0 : Int} {M : mM} {Q : mM → Prop} (hO : mOk M) (hi_l1 : i32 l1) (hi_l3 : i32 l3) (hi_l4 : i32 l4) (hi_l5 : i32 l5) (hi_l6 : i32 l6) (hi_l7 : i32 l7) (hi_l8 : i32 l8) (hi_l9 : i32 l9) (hi_k0 : i32 k0)
    (h : mK M a0 = 14 ∧ ((mI M a0 16 = 0) → (((l4 = 0) → (mK M (mR M a0 10) = 16 ∧ Ci G y_MM_wholeOf d [vr a0, vi l7, vi (l1 + 3)] M (fun x107 M106 => i32 x107 ∧ mOk M106 ∧ (mK M106 (mR M (mR M a0 10) 14) = 30 ∧ ((0 : Int) ≤ l3 ∧ l3 < (mN M106 (mR M (mR M a0 10) 14) : Int)) ∧ ∀ M111, M111 = mUI M106 (mR M (mR M a0 10) 14) (Int.toNat l3) x107 → mK M111 a0 = 14 ∧ mK M111 (mR M111 a0 10) = 16 ∧ Ci G y_MM_wholeOf d [vr a0, vi l8, vi (l9 + 1)] M111 (fun x116 M115 => i32 x116 ∧ mOk M115 ∧ (mK M115 (mR M111 (mR M111 a0 10) 15) = 30 ∧ ((0 : Int) ≤ l3 ∧ l3 < (mN M115 (mR M111 (mR M111 a0 10) 15) : Int)) ∧ ∀ M120, M120 = mUI M115 (mR M111 (mR M111 a0 10) 15) (Int.toNat l3) x116 → mK M120 a0 = 14 ∧ mK M120 (mR M120 a0 10) = 16 ∧ mK M120 (mR M120 (mR M120 a0 10) 14) = 30 ∧ ((0 : Int) ≤ l3 ∧ l3 < (mN M120 (mR M120 (mR M120 a0 10) 14) : Int)) ∧ mK M120 (mR M120 (mR M120 a0 10) 15) = 30 ∧ ((0 : Int) ≤ l3 ∧ l3 < (mN M120 (mR M120 (mR M120 a0 10) 15) : Int)) ∧ (¬ (mI M120 (mR M120 (mR M120 a0 10) 15) (Int.toNat l3) < mI M120 (mR M120 (mR M120 a0 10) 14) (Int.toNat l3)) → (((0 : Int) ≤ l3 ∧ l3 < (mN M120 (mR M120 (mR M120 a0 10) 15) : Int)) ∧ ((0 : Int) ≤ l3 ∧ l3 < (mN M120 (mR M120 (mR M120 a0 10) 14) : Int)) ∧ True)) ∧ ∀ v133 : Int, v133 = (if ((mI M120 (mR M120 (mR M120 a0 10) 15) (Int.toNat l3) < mI M120 (mR M120 (mR M120 a0 10) 14) (Int.toNat l3)) ∨ (10000 ≤ w32 ((mI M120 (mR M120 (mR M120 a0 10) 15) (Int.toNat l3)) - (mI M120 (mR M120 (mR M120 a0 10) 14) (Int.toNat l3))))) then 0 else 1) → (((mI M120 a0 16 = 0) ∧ (v133 = 0)) → (Ci G y_MM_place0 d [vr a0, vi (l9 + 1)] M120 (fun x143 M142 => i32 x143 ∧ mOk M142 ∧ (mK M142 a0 = 14 ∧ Cv G y_MM_stop d [vr a0, vi 9, vi x143] M142 (fun M146 => mOk M146 ∧ (h_MM_varItem_369 G d a0 l1 l3 l5 l6 k0 M146 Q)))))) ∧ (¬ ((mI M120 a0 16 = 0) ∧ (v133 = 0)) → (h_MM_varItem_369 G d a0 l1 l3 l5 l6 k0 M120 Q)))))))) ∧ (¬ (l4 = 0) → (mK M (mR M a0 10) = 16 ∧ mK M (mR M (mR M a0 10) 14) = 30 ∧ ((0 : Int) ≤ l3 ∧ l3 < (mN M (mR M (mR M a0 10) 14) : Int)) ∧ ∀ M159, M159 = mUI M (mR M (mR M a0 10) 14) (Int.toNat l3) 0 → mK M159 (mR M159 a0 10) = 16 ∧ mK M159 (mR M159 (mR M159 a0 10) 15) = 30 ∧ ((0 : Int) ≤ l3 ∧ l3 < (mN M159 (mR M159 (mR M159 a0 10) 15) : Int)) ∧ ∀ M164, M164 = mUI M159 (mR M159 (mR M159 a0 10) 15) (Int.toNat l3) 1 → h_MM_varItem_369 G d a0 l1 l3 l5 l6 k0 M164 Q)))) ∧ (¬ (mI M a0 16 = 0) → (Q M))) :
    h_MM_varItem_215 G d a0 l1 l3 l4 l5 l6 l7 l8 l9 k0 M Q := by
  unfold h_MM_varItem_215
  obtain ⟨h99, h⟩ := h
  refine wm_istore d_MM_varItem_215 (by decide) (L' := [vr a0, vi l1, vd, vi l3, vi l4, vi l5, vi l6, vi l7, vi l8, vi l9, vi k0, vd]) rfl ?_
  refine wm_aload_n d_MM_varItem_217 rfl rfl ?_
  refine gf_MM_267 rfl d_MM_varItem_218 h99 ?_
  refine wm_if_eq (tgt := 225) d_MM_varItem_221 rfl (hO _ _).1 (fun c102 => ?_) (fun c102 => ?_)
  · replace h := h.1 c102
    refine wm_iload d_MM_varItem_225 rfl ?_
    refine wm_if_eq (tgt := 253) d_MM_varItem_227 rfl hi_l4 (fun c104 => ?_) (fun c104 => ?_)
    · replace h := h.1 c104
      obtain ⟨h105, h⟩ := h
      refine wm_aload_n d_MM_varItem_253 rfl rfl ?_
      refine gf_MM_38 rfl d_MM_varItem_254 h99 ?_
      refine gf_MM_461 rfl d_MM_varItem_257 h105 ?_
      refine wm_iload_n d_MM_varItem_260 rfl rfl ?_
      refine wm_aload_n d_MM_varItem_261 rfl rfl ?_
      refine wm_iload d_MM_varItem_262 rfl ?_
      refine wm_iload_n d_MM_varItem_264 rfl rfl ?_
      refine wm_iconst d_MM_varItem_265 ?_
      refine wm_iadd d_MM_varItem_266 ?_
      refine cf_MM_466 rfl d_MM_varItem_267 h99 (Nat.le_of_ble_eq_true rfl) (Ci.mono h (fun x107 M106 h => ?_))
      obtain ⟨h108, hOM106, h⟩ := h
      obtain ⟨h109, h⟩ := h
      obtain ⟨h110, h⟩ := h
      obtain ⟨M111, e112⟩ : ∃ M111, M111 = mUI M106 (mR M (mR M a0 10) 14) (Int.toNat l3) x107 := ⟨_, rfl⟩
      replace h := h M111 e112
      obtain ⟨h113, h⟩ := h
      obtain ⟨h114, h⟩ := h
      have hOM111 : mOk M111 := by rw [e112]; exact mOk_UI hOM106 h108
      refine wm_iastE d_MM_varItem_270 h109 h110 h108 e112 ?_
      refine wm_aload_n d_MM_varItem_271 rfl rfl ?_
      refine gf_MM_38 rfl d_MM_varItem_272 h113 ?_
      refine gf_MM_463 rfl d_MM_varItem_275 h114 ?_
      refine wm_iload_n d_MM_varItem_278 rfl rfl ?_
      refine wm_aload_n d_MM_varItem_279 rfl rfl ?_
      refine wm_iload d_MM_varItem_280 rfl ?_
      refine wm_iload d_MM_varItem_282 rfl ?_
      refine wm_iconst d_MM_varItem_284 ?_
      refine wm_iadd d_MM_varItem_285 ?_
      refine cf_MM_466 rfl d_MM_varItem_286 h113 (Nat.le_of_ble_eq_true rfl) (Ci.mono h (fun x116 M115 h => ?_))
      obtain ⟨h117, hOM115, h⟩ := h
      obtain ⟨h118, h⟩ := h
      obtain ⟨h119, h⟩ := h
      obtain ⟨M120, e121⟩ : ∃ M120, M120 = mUI M115 (mR M111 (mR M111 a0 10) 15) (Int.toNat l3) x116 := ⟨_, rfl⟩
      replace h := h M120 e121
      obtain ⟨h122, h⟩ := h
      obtain ⟨h123, h⟩ := h
      obtain ⟨h124, h⟩ := h
      obtain ⟨h125, h⟩ := h
      obtain ⟨h126, h⟩ := h
      obtain ⟨h127, h⟩ := h
      have hOM120 : mOk M120 := by rw [e121]; exact mOk_UI hOM115 h117
      refine wm_iastE d_MM_varItem_289 h118 h119 h117 e121 ?_
      refine wm_aload_n d_MM_varItem_290 rfl rfl ?_
      refine gf_MM_38 rfl d_MM_varItem_291 h122 ?_
      refine gf_MM_461 rfl d_MM_varItem_294 h123 ?_
      refine wm_iload_n d_MM_varItem_297 rfl rfl ?_
      refine wm_iald d_MM_varItem_298 h124 h125 ?_
      refine wm_aload_n d_MM_varItem_299 rfl rfl ?_
      refine gf_MM_38 rfl d_MM_varItem_300 h122 ?_
      refine gf_MM_463 rfl d_MM_varItem_303 h123 ?_
      refine wm_iload_n d_MM_varItem_306 rfl rfl ?_
      refine wm_iald d_MM_varItem_307 h126 h127 ?_
      obtain ⟨s134, h⟩ := h
      have hJ : ∀ v133 : Int, v133 = (if ((mI M120 (mR M120 (mR M120 a0 10) 15) (Int.toNat l3) < mI M120 (mR M120 (mR M120 a0 10) 14) (Int.toNat l3)) ∨ (10000 ≤ w32 ((mI M120 (mR M120 (mR M120 a0 10) 15) (Int.toNat l3)) - (mI M120 (mR M120 (mR M120 a0 10) 14) (Int.toNat l3))))) then 0 else 1) → mWm G y_MM_varItem (d + 1) 341 [vr a0, vi l1, vd, vi l3, vd, vi l5, vi l6, vd, vd, vi l9, vi k0, vd] [vi v133] M120 (fun r9 M9 => r9 = none ∧ Q M9) := by
        intro v133 e135
        have h := h v133 e135
        have h136 : i32 v133 := by rw [e135]; (repeat' split) <;> first | exact ⟨by decide, by decide⟩ | exact ⟨by decide, by decide⟩
        have h137 : (v133 = 0 ∨ v133 = 1) := by rw [e135]; (repeat' split) <;> decide
        refine wm_istore d_MM_varItem_341 (by decide) (L' := [vr a0, vi l1, vd, vi l3, vd, vi l5, vi l6, vd, vd, vi l9, vi k0, vi v133]) rfl ?_
        refine wm_aload_n d_MM_varItem_343 rfl rfl ?_
        refine gf_MM_267 rfl d_MM_varItem_344 h122 ?_
        have hE0 : ((mI M120 a0 16 = 0) ∧ (v133 = 0)) → mWm G y_MM_varItem (d + 1) 355 [vr a0, vi l1, vd, vi l3, vd, vi l5, vi l6, vd, vd, vi l9, vi k0, vi v133] [] M120 (fun r9 M9 => r9 = none ∧ Q M9) := by
          intro q141
          have h := h.1 q141
          refine wm_aload_n d_MM_varItem_355 rfl rfl ?_
          refine wm_bipush d_MM_varItem_356 (by decide) ?_
          refine wm_aload_n d_MM_varItem_358 rfl rfl ?_
          refine wm_iload d_MM_varItem_359 rfl ?_
          refine wm_iconst d_MM_varItem_361 ?_
          refine wm_iadd d_MM_varItem_362 ?_
          refine cf_MM_279 rfl d_MM_varItem_363 h122 (Nat.le_of_ble_eq_true rfl) (Ci.mono h (fun x143 M142 h => ?_))
          obtain ⟨h144, hOM142, h⟩ := h
          obtain ⟨h145, h⟩ := h
          refine cf_MM_351 rfl d_MM_varItem_366 h145 (Nat.le_of_ble_eq_true rfl) (Cv.mono h (fun M146 h => ?_))
          obtain ⟨hOM146, h⟩ := h
          refine wm_less (L' := [vr a0, vi l1, vd, vi l3, vd, vi l5, vi l6, vd, vd, vd, vi k0, vd]) ⟨Or.inr rfl, Or.inr rfl, Or.inl rfl, Or.inr rfl, Or.inl rfl, Or.inr rfl, Or.inr rfl, Or.inl rfl, Or.inl rfl, Or.inl rfl, Or.inr rfl, Or.inl rfl, trivial⟩ ?_
          exact h
        have hE1 : ¬ ((mI M120 a0 16 = 0) ∧ (v133 = 0)) → mWm G y_MM_varItem (d + 1) 369 [vr a0, vi l1, vd, vi l3, vd, vi l5, vi l6, vd, vd, vi l9, vi k0, vi v133] [] M120 (fun r9 M9 => r9 = none ∧ Q M9) := by
          intro q149
          have h := h.2 q149
          refine wm_less (L' := [vr a0, vi l1, vd, vi l3, vd, vi l5, vi l6, vd, vd, vd, vi k0, vd]) ⟨Or.inr rfl, Or.inr rfl, Or.inl rfl, Or.inr rfl, Or.inl rfl, Or.inr rfl, Or.inr rfl, Or.inl rfl, Or.inl rfl, Or.inl rfl, Or.inr rfl, Or.inl rfl, trivial⟩ ?_
          exact h
        clear h
        refine wm_if_ne (tgt := 369) d_MM_varItem_347 rfl (hOM120 _ _).1 (fun c139 => ?_) (fun c139 => ?_)
        · exact hE1 (fun z152 => c139 z152.1)
        · replace c139 := Classical.not_not.mp c139
          refine wm_iload d_MM_varItem_350 rfl ?_
          refine wm_if_ne (tgt := 369) d_MM_varItem_352 rfl h136 (fun c138 => ?_) (fun c138 => ?_)
          · exact hE1 (fun z150 => c138 z150.2)
          · replace c138 := Classical.not_not.mp c138
            exact hE0 ⟨c139, c138⟩
      clear h
      have s153 := s134
      refine wm_icmp_gt (tgt := 340) d_MM_varItem_308 rfl (hOM120 _ _).1 (hOM120 _ _).1 (fun c128 => ?_) (fun c128 => ?_)
      · refine wm_iconst d_MM_varItem_340 ?_
        refine wm_less (L' := [vr a0, vi l1, vd, vi l3, vd, vi l5, vi l6, vd, vd, vi l9, vi k0, vd]) ⟨Or.inr rfl, Or.inr rfl, Or.inl rfl, Or.inr rfl, Or.inl rfl, Or.inr rfl, Or.inr rfl, Or.inl rfl, Or.inl rfl, Or.inr rfl, Or.inr rfl, Or.inl rfl, trivial⟩ ?_
        exact hJ 0 (if_pos (Or.inl c128)).symm
      · have s153 := s153 c128
        obtain ⟨h129, h130, h131⟩ := s153
        refine wm_aload_n d_MM_varItem_311 rfl rfl ?_
        refine gf_MM_38 rfl d_MM_varItem_312 h122 ?_
        refine gf_MM_463 rfl d_MM_varItem_315 h123 ?_
        refine wm_iload_n d_MM_varItem_318 rfl rfl ?_
        refine wm_iald d_MM_varItem_319 h126 h129 ?_
        refine wm_aload_n d_MM_varItem_320 rfl rfl ?_
        refine gf_MM_38 rfl d_MM_varItem_321 h122 ?_
        refine gf_MM_461 rfl d_MM_varItem_324 h123 ?_
        refine wm_iload_n d_MM_varItem_327 rfl rfl ?_
        refine wm_iald d_MM_varItem_328 h124 h130 ?_
        refine wm_isub d_MM_varItem_329 ?_
        refine wm_w ?_
        refine wm_sipush d_MM_varItem_330 (by decide) ?_
        refine wm_icmp_ge (tgt := 340) d_MM_varItem_333 rfl i32_w32 ⟨by decide, by decide⟩ (fun c132 => ?_) (fun c132 => ?_)
        · refine wm_iconst d_MM_varItem_340 ?_
          refine wm_less (L' := [vr a0, vi l1, vd, vi l3, vd, vi l5, vi l6, vd, vd, vi l9, vi k0, vd]) ⟨Or.inr rfl, Or.inr rfl, Or.inl rfl, Or.inr rfl, Or.inl rfl, Or.inr rfl, Or.inr rfl, Or.inl rfl, Or.inl rfl, Or.inr rfl, Or.inr rfl, Or.inl rfl, trivial⟩ ?_
          exact hJ 0 (if_pos (Or.inr c132)).symm
        · refine wm_iconst d_MM_varItem_336 ?_
          refine wm_goto (tgt := 341) d_MM_varItem_337 rfl ?_
          refine wm_less (L' := [vr a0, vi l1, vd, vi l3, vd, vi l5, vi l6, vd, vd, vi l9, vi k0, vd]) ⟨Or.inr rfl, Or.inr rfl, Or.inl rfl, Or.inr rfl, Or.inl rfl, Or.inr rfl, Or.inr rfl, Or.inl rfl, Or.inl rfl, Or.inr rfl, Or.inr rfl, Or.inl rfl, trivial⟩ ?_
          exact hJ 1 (if_neg (fun z154 => Or.elim z154 c128 c132)).symm
    · replace h := h.2 c104
      obtain ⟨h156, h⟩ := h
      obtain ⟨h157, h⟩ := h
      obtain ⟨h158, h⟩ := h
      obtain ⟨M159, e160⟩ : ∃ M159, M159 = mUI M (mR M (mR M a0 10) 14) (Int.toNat l3) 0 := ⟨_, rfl⟩
      replace h := h M159 e160
      obtain ⟨h161, h⟩ := h
      obtain ⟨h162, h⟩ := h
      obtain ⟨h163, h⟩ := h
      obtain ⟨M164, e165⟩ : ∃ M164, M164 = mUI M159 (mR M159 (mR M159 a0 10) 15) (Int.toNat l3) 1 := ⟨_, rfl⟩
      replace h := h M164 e165
      refine wm_aload_n d_MM_varItem_230 rfl rfl ?_
      refine gf_MM_38 rfl d_MM_varItem_231 h99 ?_
      refine gf_MM_461 rfl d_MM_varItem_234 h156 ?_
      refine wm_iload_n d_MM_varItem_237 rfl rfl ?_
      refine wm_iconst d_MM_varItem_238 ?_
      have hOM159 : mOk M159 := by rw [e160]; exact mOk_UI hO ⟨by decide, by decide⟩
      refine wm_iastE d_MM_varItem_239 h157 h158 ⟨by decide, by decide⟩ e160 ?_
      refine wm_aload_n d_MM_varItem_240 rfl rfl ?_
      refine gf_MM_38 rfl d_MM_varItem_241 (by rw [e160]; exact h99) ?_
      refine gf_MM_463 rfl d_MM_varItem_244 h161 ?_
      refine wm_iload_n d_MM_varItem_247 rfl rfl ?_
      refine wm_iconst d_MM_varItem_248 ?_
      have hOM164 : mOk M164 := by rw [e165]; exact mOk_UI hOM159 ⟨by decide, by decide⟩
      refine wm_iastE d_MM_varItem_249 h162 h163 ⟨by decide, by decide⟩ e165 ?_
      refine wm_goto (tgt := 369) d_MM_varItem_250 rfl ?_
      refine wm_less (L' := [vr a0, vi l1, vd, vi l3, vd, vi l5, vi l6, vd, vd, vd, vi k0, vd]) ⟨Or.inr rfl, Or.inr rfl, Or.inl rfl, Or.inr rfl, Or.inl rfl, Or.inr rfl, Or.inr rfl, Or.inl rfl, Or.inl rfl, Or.inl rfl, Or.inr rfl, Or.inl rfl, trivial⟩ ?_
      exact h
  · replace h := h.2 c102
    refine wm_return d_MM_varItem_224 rfl ?_
    exact ⟨rfl, h⟩
end
section
/-! The grammar as a machine over words: its steps, what it reaches, what it refuses. -/
/-- levels that are open -/
def slv (st : List Int) : Int := (c75 st : Int) - c76 st
/-- one step before the word x: none if it is refused; else the pile, and how many words were taken -/
def mst (x : Int) : List Int → Option (List Int × Nat)
  | [] => none
  | y :: r => if y = 75 then some (r, 0) else if y < 50 then (if y = x then some (r, 1) else none) else
    match ex y x with
    | none => none
    | some u => if dlv y u.1 = 1 ∧ 40 ≤ slv (y :: r) then none else some (u.1 ++ r, u.2)
section MA
variable {w : Nat → Int} {x y : Int} {r st : List Int} {k : Nat}
theorem mst_c : mst x (y :: r) = if y = 75 then some (r, 0) else if y < 50 then (if y = x then some (r, 1) else none) else
    match ex y x with
    | none => none
    | some u => if dlv y u.1 = 1 ∧ 40 ≤ slv (y :: r) then none else some (u.1 ++ r, u.2) := rfl
theorem mst_75 : mst x (75 :: r) = some (r, 0) := by rw [mst_c, if_pos rfl]
theorem mst_t (h : y < 50) (e : y = x) : mst x (y :: r) = some (r, 1) := by rw [mst_c, if_neg (by omega), if_pos h, if_pos e]
theorem mst_tn (h : y < 50) (e : y ≠ x) : mst x (y :: r) = none := by rw [mst_c, if_neg (by omega), if_pos h, if_neg e]
theorem mst_n (h : 50 ≤ y) (h5 : y ≠ 75) {ys : List Int} {t : Nat} (he : ex y x = some (ys, t)) (hd : dlv y ys ≠ 1 ∨ slv (y :: r) < 40) : mst x (y :: r) = some (ys ++ r, t) := by
  rw [mst_c, if_neg h5, if_neg (by omega), he]
  show (if dlv y ys = 1 ∧ 40 ≤ slv (y :: r) then none else some (ys ++ r, t)) = some (ys ++ r, t)
  rw [if_neg (by omega)]
theorem mst_no (h : 50 ≤ y) (h5 : y ≠ 75) (he : ex y x = none) : mst x (y :: r) = none := by
  rw [mst_c, if_neg h5, if_neg (by omega), he]
theorem mst_deep (h : 50 ≤ y) (h5 : y ≠ 75) {ys : List Int} {t : Nat} (he : ex y x = some (ys, t)) (hd : dlv y ys = 1) (hl : 40 ≤ slv (y :: r)) : mst x (y :: r) = none := by
  rw [mst_c, if_neg h5, if_neg (by omega), he]
  show (if dlv y ys = 1 ∧ 40 ≤ slv (y :: r) then none else some (ys ++ r, t)) = none
  rw [if_pos ⟨hd, hl⟩]
/-- n steps from the pile st at word k -/
def mit (w : Nat → Int) : Nat → List Int → Nat → Option (List Int × Nat)
  | 0, st, k => some (st, k)
  | n + 1, st, k => match mst (w k) st with
    | none => none
    | some u => mit w n u.1 (k + u.2)
/-- the machine comes from here to there -/
def Rc (w : Nat → Int) (st : List Int) (k : Nat) (st' : List Int) (k' : Nat) : Prop := ∃ n, mit w n st k = some (st', k')
/-- it refuses word q -/
def Rf (w : Nat → Int) (st : List Int) (k q : Nat) : Prop := ∃ st', Rc w st k st' q ∧ st' ≠ [] ∧ mst (w q) st' = none
theorem mit_s {n : Nat} {st1 : List Int} {t : Nat} (h : mst (w k) st = some (st1, t)) : mit w (n + 1) st k = mit w n st1 (k + t) := by
  show (match mst (w k) st with | none => none | some u => mit w n u.1 (k + u.2)) = _
  rw [h]
theorem mit_add {m : Nat} : ∀ (n : Nat) {st st1 : List Int} {k k1 : Nat}, mit w n st k = some (st1, k1) → mit w (n + m) st k = mit w m st1 k1
  | 0, st, st1, k, k1, h => by
    have e : (some (st, k) : Option (List Int × Nat)) = some (st1, k1) := h
    injection e with e
    injection e with e1 e2
    rw [← e1, ← e2, Nat.zero_add]
  | n + 1, st, st1, k, k1, h => by
    rw [show n + 1 + m = (n + m) + 1 by omega]
    cases q : mst (w k) st with
    | none =>
      have : mit w (n + 1) st k = none := by
        show (match mst (w k) st with | none => none | some u => mit w n u.1 (k + u.2)) = _
        rw [q]
      rw [this] at h
      cases h
    | some u =>
      obtain ⟨a, b⟩ := u
      rw [mit_s q] at h ⊢
      exact mit_add n h
theorem Rc.refl : Rc w st k st k := ⟨0, rfl⟩
theorem Rc.one {st1 : List Int} {t : Nat} (h : mst (w k) st = some (st1, t)) : Rc w st k st1 (k + t) := ⟨1, by rw [mit_s h]; rfl⟩
theorem Rc.zero {st1 : List Int} (h : mst (w k) st = some (st1, 0)) : Rc w st k st1 k := Rc.one h
theorem Rc.trans {s1 s2 : List Int} {k1 k2 : Nat} (h1 : Rc w st k s1 k1) (h2 : Rc w s1 k1 s2 k2) : Rc w st k s2 k2 := by
  obtain ⟨n, h1⟩ := h1
  obtain ⟨m, h2⟩ := h2
  exact ⟨n + m, by rw [mit_add n h1]; exact h2⟩
theorem Rf.of (h : mst (w k) (y :: r) = none) : Rf w (y :: r) k k := ⟨y :: r, Rc.refl, by simp, h⟩
theorem Rc.rf {s1 : List Int} {k1 q : Nat} (h : Rc w st k s1 k1) (f : Rf w s1 k1 q) : Rf w st k q := by
  obtain ⟨s, a, b⟩ := f
  exact ⟨s, h.trans a, b⟩
theorem mit_stop {m : Nat} (h : mst (w k) st = none) {u : List Int × Nat} (q : mit w m st k = some u) : m = 0 := by
  cases m with
  | zero => rfl
  | succ m =>
    have : mit w (m + 1) st k = none := by
      show (match mst (w k) st with | none => none | some u => mit w m u.1 (k + u.2)) = _
      rw [h]
    rw [this] at q
    cases q
/-- where it stops is one place -/
theorem Rc.same {s1 s2 : List Int} {k1 k2 : Nat} (h1 : Rc w st k s1 k1) (e1 : mst (w k1) s1 = none) (h2 : Rc w st k s2 k2) (e2 : mst (w k2) s2 = none) : s1 = s2 ∧ k1 = k2 := by
  obtain ⟨n, h1⟩ := h1
  obtain ⟨m, h2⟩ := h2
  by_cases c : n ≤ m
  · have q := mit_add (m := m - n) n h1
    rw [show n + (m - n) = m by omega, h2] at q
    have z := mit_stop e1 q.symm
    rw [z] at q
    have e : (some (s2, k2) : Option (List Int × Nat)) = some (s1, k1) := q
    injection e with e
    injection e with a b
    exact ⟨a.symm, b.symm⟩
  · have q := mit_add (m := n - m) m h2
    rw [show m + (n - m) = n by omega, h1] at q
    have z := mit_stop e2 q.symm
    omega
theorem Rf.same {q1 q2 : Nat} (h1 : Rf w st k q1) (h2 : Rf w st k q2) : q1 = q2 := by
  obtain ⟨s1, a1, -, c1⟩ := h1
  obtain ⟨s2, a2, -, c2⟩ := h2
  exact (a1.same c1 a2 c2).2
theorem Rf.not {q k1 : Nat} (h1 : Rf w st k q) (h2 : Rc w st k [] k1) : False := by
  obtain ⟨s1, a1, b1, c1⟩ := h1
  exact b1 (a1.same c1 h2 rfl).1
end MA
/-! THE CLASS'S OPEN OPERATIONS, and the pile that belongs to them. Operations by the class's numbers, the latest first. -/
/-- how strong an operand may stand behind an operation -/
def rsq (o : Int) : Nat := if o = 40 ∨ (27 ≤ o ∧ o ≤ 29) then 0 else if o = 25 ∨ o = 26 then 1 else if 19 ≤ o ∧ o ≤ 24 then 2 else if o = 41 ∨ o = 30 then 3 else if o = 31 then 4 else 6
/-- how strong it makes what it joins -/
def cst (o : Int) : Nat := if 27 ≤ o ∧ o ≤ 29 then 1 else if o = 25 ∨ o = 26 then 2 else if (19 ≤ o ∧ o ≤ 24) ∨ o = 41 then 3 else if o = 30 then 4 else if o = 31 then 5 else if o = 33 ∨ o = 42 then 6 else 0
/-- what is wanted behind its operand -/
def hdT (o : Int) : List Int := if 27 ≤ o ∧ o ≤ 29 then [72] else if o = 25 ∨ o = 26 then [70] else if 19 ≤ o ∧ o ≤ 24 then [] else if o = 41 ∨ o = 40 ∨ o = 42 then [75] else if o = 30 then [66] else if o = 31 then [64] else if o = 37 then [37, 75] else if o = 15 ∨ o = 16 then [74, 37, 75] else [33, 61, 75]
def cdq (o : Int) : Nat := if o = 15 ∨ o = 16 ∨ o = 33 ∨ o = 37 ∨ o = 40 ∨ o = 41 ∨ o = 42 then 1 else 0
def opq (o : Int) : Prop := o = 15 ∨ o = 16 ∨ (19 ≤ o ∧ o ≤ 31) ∨ o = 33 ∨ o = 37 ∨ o = 40 ∨ o = 41 ∨ o = 42
def rsl (q : Nat) : List Int → Nat
  | [] => q
  | o :: _ => rsq o
/-- the rests from strength a up to b -/
def rst (a b : Nat) : List Int := ([72, 70, 68, 66, 64, 62].take b).drop a
/-- what stands below the operand that is read or wanted; z below the rule, q its strength -/
def gyT (z : List Int) (q : Nat) : List Int → List Int
  | [] => z
  | o :: t => hdT o ++ (rst (cst o) (rsl q t) ++ gyT z q t)
def gyR (z : List Int) (q c : Nat) (os : List Int) : List Int := rst c (rsl q os) ++ gyT z q os
def ntq (c : Nat) : Int := if c = 0 then 73 else if c = 1 then 71 else if c = 2 then 69 else if c = 3 then 67 else if c = 4 then 65 else if c = 5 then 63 else 61
/-- an operand is wanted -/
def gyW (z : List Int) (q : Nat) (os : List Int) : List Int := ntq (rsl q os) :: gyT z q os
/-- operations stand one above another as they may -/
def woq (q : Nat) : List Int → Prop
  | [] => True
  | o :: t => opq o ∧ cst o ≤ rsl q t ∧ woq q t
def lvs : List Int → Nat
  | [] => 0
  | o :: t => cdq o + lvs t
/-- how strong the operation of a word is -/
def lwx (x : Int) : Nat := if 26 ≤ x ∧ x ≤ 28 then 1 else if x = 24 ∨ x = 25 then 2 else if 18 ≤ x ∧ x ≤ 23 then 3 else if x = 29 then 4 else if x = 30 then 5 else if x = 32 then 6 else 0
def rsy (c : Nat) : Int := if c = 0 then 72 else if c = 1 then 70 else if c = 2 then 68 else if c = 3 then 66 else if c = 4 then 64 else 62
section MB
variable {w : Nat → Int} {S z : List Int} {k q : Nat} {os t : List Int} {o : Int}
theorem rst_cons {a b : Nat} (hb : b ≤ 6) (h : a < b) : rst a b = rsy a :: rst (a + 1) b := by
  have g : b = 1 ∨ b = 2 ∨ b = 3 ∨ b = 4 ∨ b = 5 ∨ b = 6 := by omega
  have e : a = 0 ∨ a = 1 ∨ a = 2 ∨ a = 3 ∨ a = 4 ∨ a = 5 := by omega
  rcases e with e | e | e | e | e | e <;> rcases g with g | g | g | g | g | g <;> first | omega | (rw [e, g]; rfl)
theorem rst_nil {a b : Nat} (h : b ≤ a) : rst a b = [] := by
  unfold rst
  exact List.drop_eq_nil_of_le (by rw [List.length_take]; omega)
theorem rsq_le (o : Int) : rsq o ≤ 6 := by unfold rsq; (repeat' split) <;> omega
theorem cst_le (o : Int) : cst o ≤ 6 := by unfold cst; (repeat' split) <;> omega
theorem rsl_le (hq : q ≤ 6) : rsl q os ≤ 6 := by
  cases os with
  | nil => exact hq
  | cons o t => exact rsq_le o
theorem gyT_c : gyT z q (o :: t) = hdT o ++ gyR z q (cst o) t := rfl
/-- a rest that no word goes on with -/
theorem rc_drop {c : Nat} (hc : c < 6) (h : lwx (w k) ≠ c + 1) : Rc w (rsy c :: S) k S k := by
  have e : c = 0 ∨ c = 1 ∨ c = 2 ∨ c = 3 ∨ c = 4 ∨ c = 5 := by omega
  unfold lwx at h
  rcases e with e | e | e | e | e | e <;> subst e
  · exact Rc.zero (mst_n (y := 72) (ys := []) (by decide) (by decide) (by rw [ex_72]; unfold ex72; rw [if_neg (by intro c; rw [if_pos (by omega)] at h; omega)]) (Or.inl (by decide)))
  · exact Rc.zero (mst_n (y := 70) (ys := []) (by decide) (by decide) (by rw [ex_70]; unfold ex70; rw [if_neg (by intro c; rw [if_neg (by omega), if_pos (by omega)] at h; omega)]) (Or.inl (by decide)))
  · exact Rc.zero (mst_n (y := 68) (ys := []) (by decide) (by decide) (by rw [ex_68]; unfold ex68; rw [if_neg (by intro c; rw [if_neg (by omega), if_neg (by omega), if_pos (by omega)] at h; omega)]) (Or.inl (by decide)))
  · exact Rc.zero (mst_n (y := 66) (ys := []) (by decide) (by decide) (by rw [ex_66]; unfold ex66; rw [if_neg (by intro c; rw [if_neg (by omega), if_neg (by omega), if_neg (by omega), if_pos (by omega)] at h; omega)]) (Or.inl (by decide)))
  · exact Rc.zero (mst_n (y := 64) (ys := []) (by decide) (by decide) (by rw [ex_64]; unfold ex64; rw [if_neg (by intro c; rw [if_neg (by omega), if_neg (by omega), if_neg (by omega), if_neg (by omega), if_pos (by omega)] at h; omega)]) (Or.inl (by decide)))
  · exact Rc.zero (mst_n (y := 62) (ys := []) (by decide) (by decide) (by rw [ex_62]; unfold ex62; rw [if_neg (by intro c; rw [if_neg (by omega), if_neg (by omega), if_neg (by omega), if_neg (by omega), if_neg (by omega), if_pos (by omega)] at h; omega)]) (Or.inl (by decide)))
theorem rc_drops {b : Nat} (hb : b ≤ 6) : ∀ (n a : Nat), b - a = n → (lwx (w k) ≤ a ∨ b < lwx (w k)) → Rc w (rst a b ++ S) k S k
  | 0, a, h, _ => by rw [rst_nil (by omega)]; exact Rc.refl
  | n + 1, a, h, hl => by
    rw [rst_cons hb (by omega)]
    exact (rc_drop (S := rst (a + 1) b ++ S) (by omega) (by omega)).trans (rc_drops hb n (a + 1) (by omega) (by omega))
theorem rc_to {a b c : Nat} (hb : b ≤ 6) (hac : a ≤ c) (hcb : c ≤ b) (hl : lwx (w k) ≤ a ∨ c < lwx (w k)) : Rc w (rst a b ++ S) k (rst c b ++ S) k := by
  have e : rst a b = rst a c ++ rst c b := by
    have h : ∀ n a, c - a = n → a ≤ c → rst a b = rst a c ++ rst c b := by
      intro n
      induction n with
      | zero => intro a h1 h2; rw [rst_nil (a := a) (b := c) (by omega), show a = c by omega]; rfl
      | succ n ih => intro a h1 h2; rw [rst_cons (a := a) hb (by omega), rst_cons (a := a) (b := c) (by omega) (by omega), ih (a + 1) (by omega) (by omega)]; rfl
    exact h _ a rfl hac
  rw [e, List.append_assoc]
  exact rc_drops (by omega) _ a rfl hl
/-- the wanted sign comes down -/
theorem rc_desc1 {c : Nat} (hc : c < 6) (h : w k ≠ 31 ∨ c ≠ 2) : Rc w (ntq (c + 1) :: S) k (ntq c :: rsy c :: S) k := by
  have e : c = 0 ∨ c = 1 ∨ c = 2 ∨ c = 3 ∨ c = 4 ∨ c = 5 := by omega
  rcases e with e | e | e | e | e | e <;> subst e
  · exact Rc.zero (mst_n (y := 71) (ys := [73, 72]) (by decide) (by decide) rfl (Or.inl (by decide)))
  · exact Rc.zero (mst_n (y := 69) (ys := [71, 70]) (by decide) (by decide) rfl (Or.inl (by decide)))
  · exact Rc.zero (mst_n (y := 67) (ys := [69, 68]) (by decide) (by decide) (by rw [ex_67]; unfold ex67; rw [if_neg (by omega)]) (Or.inl (by decide)))
  · exact Rc.zero (mst_n (y := 65) (ys := [67, 66]) (by decide) (by decide) rfl (Or.inl (by decide)))
  · exact Rc.zero (mst_n (y := 63) (ys := [65, 64]) (by decide) (by decide) rfl (Or.inl (by decide)))
  · exact Rc.zero (mst_n (y := 61) (ys := [63, 62]) (by decide) (by decide) rfl (Or.inl (by decide)))
theorem rc_desc {a : Nat} : ∀ (n b : Nat), b - a = n → a ≤ b → b ≤ 6 → (w k ≠ 31 ∨ 3 ≤ a ∨ b ≤ 2) → ∀ S, Rc w (ntq b :: S) k (ntq a :: (rst a b ++ S)) k
  | 0, b, h, h1, _, _, S => by rw [rst_nil (by omega), show b = a by omega]; exact Rc.refl
  | n + 1, b, h, h1, h6, hx, S => by
    have e := rc_desc1 (w := w) (k := k) (S := S) (c := b - 1) (by omega) (by omega)
    rw [show b - 1 + 1 = b by omega] at e
    refine e.trans ?_
    have r := rc_desc (a := a) n (b - 1) (by omega) (by omega) (by omega) (by omega) (rsy (b - 1) :: S)
    have hh : rst a (b - 1) ++ rsy (b - 1) :: S = rst a b ++ S := by
      have g : ∀ m a, b - 1 - a = m → a ≤ b - 1 → rst a b = rst a (b - 1) ++ [rsy (b - 1)] := by
        intro m
        induction m with
        | zero => intro a p1 p2; rw [rst_nil (a := a) (b := b - 1) (by omega), show a = b - 1 by omega, rst_cons h6 (by omega), rst_nil (by omega)]; rfl
        | succ m ih => intro a p1 p2; rw [rst_cons (a := a) h6 (by omega), rst_cons (a := a) (b := b - 1) (by omega) (by omega), ih (a + 1) (by omega) (by omega)]; rfl
      rw [g _ a rfl (by omega), List.append_assoc]
      rfl
    rw [hh] at r
    exact r
theorem slv_app (u v : List Int) : slv (u ++ v) = slv u + slv v := by unfold slv; rw [c75_app, c76_app]; omega
theorem slv_rst {b : Nat} (hb : b ≤ 6) : ∀ (n a : Nat), b - a = n → slv (rst a b) = 0
  | 0, a, h => by rw [rst_nil (by omega)]; rfl
  | n + 1, a, h => by
    rw [rst_cons hb (by omega), show rsy a :: rst (a + 1) b = [rsy a] ++ rst (a + 1) b from rfl, slv_app, slv_rst hb n (a + 1) (by omega)]
    have e : a = 0 ∨ a = 1 ∨ a = 2 ∨ a = 3 ∨ a = 4 ∨ a = 5 := by omega
    rcases e with e | e | e | e | e | e <;> subst e <;> decide
theorem slv_hdT {o : Int} (h : opq o) : slv (hdT o) = cdq o := by
  unfold opq at h
  unfold hdT cdq
  by_cases c1 : 27 ≤ o ∧ o ≤ 29
  · rw [if_pos c1, if_neg (by omega)]; decide
  · rw [if_neg c1]
    by_cases c2 : o = 25 ∨ o = 26
    · rw [if_pos c2, if_neg (by omega)]; decide
    · rw [if_neg c2]
      by_cases c3 : 19 ≤ o ∧ o ≤ 24
      · rw [if_pos c3, if_neg (by omega)]; decide
      · rw [if_neg c3]
        by_cases c4 : o = 41 ∨ o = 40 ∨ o = 42
        · rw [if_pos c4, if_pos (by omega)]; decide
        · rw [if_neg c4]
          by_cases c5 : o = 30
          · rw [if_pos c5, if_neg (by omega)]; decide
          · rw [if_neg c5]
            by_cases c6 : o = 31
            · rw [if_pos c6, if_neg (by omega)]; decide
            · rw [if_neg c6]
              by_cases c7 : o = 37
              · rw [if_pos c7, if_pos (by omega)]; decide
              · rw [if_neg c7]
                by_cases c8 : o = 15 ∨ o = 16
                · rw [if_pos c8, if_pos (by omega)]; decide
                · rw [if_neg c8, if_pos (by omega)]; decide
theorem slv_T (hq : q ≤ 6) : ∀ {os : List Int}, woq q os → slv (gyT z q os) = slv z + lvs os
  | [], _ => by show slv z = slv z + ((0 : Nat) : Int); omega
  | o :: t, h => by
    rw [gyT_c, slv_app, slv_hdT h.1]
    unfold gyR
    rw [slv_app, slv_rst (rsl_le hq) _ _ rfl, slv_T hq h.2.2]
    show _ = slv z + ((cdq o + lvs t : Nat) : Int)
    omega
theorem slv_R {c : Nat} (hq : q ≤ 6) (h : woq q os) : slv (gyR z q c os) = slv z + lvs os := by
  unfold gyR
  rw [slv_app, slv_rst (rsl_le hq) _ _ rfl, slv_T hq h]
  omega
theorem slv_nt {c : Nat} {S : List Int} : slv (ntq c :: S) = slv S := by
  rw [show ntq c :: S = [ntq c] ++ S from rfl, slv_app]
  have : slv [ntq c] = 0 := by unfold ntq; (repeat' split) <;> decide
  omega
end MB
end
section
/-! Steps of the class's reader as steps of the grammar's machine. -/
section SM
variable {w : Nat → Int} {S z : List Int} {k q c : Nat} {os t : List Int} {o : Int}
theorem ex73_0 {x : Int} (h : x = 1 ∨ x = 2 ∨ x = 12 ∨ x = 13) : ex 73 x = some ([], 1) := by rw [ex_73]; unfold ex73; rw [if_pos h]
theorem ex73_l {x : Int} (h : x = 14 ∨ x = 15) : ex 73 x = some ([76, 61, 74, 37, 75], 1) := by rw [ex_73]; unfold ex73; rw [if_neg (by omega), if_pos h]
theorem ex73_m {x : Int} (h : x = 25) : ex 73 x = some ([73, 75], 1) := by rw [ex_73]; unfold ex73; rw [if_neg (by omega), if_neg (by omega), if_pos h]
theorem ex73_p {x : Int} (h : x = 36) : ex 73 x = some ([61, 37, 75], 1) := by rw [ex_73]; unfold ex73; rw [if_neg (by omega), if_neg (by omega), if_neg (by omega), if_pos h]
theorem ex73_n {x : Int} (h : ¬ (x = 1 ∨ x = 2 ∨ x = 12 ∨ x = 13 ∨ x = 14 ∨ x = 15 ∨ x = 25 ∨ x = 36)) : ex 73 x = none := by rw [ex_73]; unfold ex73; rw [if_neg (by omega), if_neg (by omega), if_neg (by omega), if_neg (by omega)]
/-- down to the tightest -/
theorem rc_73 (hq : q ≤ 6) (h : w k ≠ 31 ∨ rsl q os ≤ 2) : Rc w (gyW z q os) k (73 :: gyR z q 0 os) k := by
  have := rc_desc (w := w) (k := k) (a := 0) _ (rsl q os) rfl (by omega) (rsl_le hq) (by omega) (gyT z q os)
  exact this
theorem slv_73 (hq : q ≤ 6) (hw : woq q os) : slv (73 :: gyR z q 0 os) = slv z + lvs os := by
  have := slv_nt (c := 0) (S := gyR z q 0 os)
  rw [slv_R hq hw] at this
  exact this
theorem sim_val (hq : q ≤ 6) (hx : w k = 1 ∨ w k = 2 ∨ w k = 12 ∨ w k = 13) : Rc w (gyW z q os) k (gyR z q 0 os) (k + 1) :=
  (rc_73 hq (Or.inl (by omega))).trans (Rc.one (mst_n (ys := []) (by decide) (by decide) (ex73_0 hx) (Or.inl (by decide))))
theorem sim_open (hq : q ≤ 6) (hw : woq q os) (hx : w k = 36) (hl : slv z + lvs os < 40) : Rc w (gyW z q os) k (gyW z q (37 :: os)) (k + 1) :=
  (rc_73 hq (Or.inl (by omega))).trans (Rc.one (mst_n (ys := [61, 37, 75]) (by decide) (by decide) (ex73_p hx) (Or.inr (by rw [slv_73 hq hw]; exact hl))))
theorem sim_open_no (hq : q ≤ 6) (hw : woq q os) (hx : w k = 36) (hl : ¬ slv z + lvs os < 40) : Rf w (gyW z q os) k k :=
  (rc_73 hq (Or.inl (by omega))).rf (Rf.of (mst_deep (ys := [61, 37, 75]) (t := 1) (by decide) (by decide) (ex73_p hx) (by decide) (by rw [slv_73 hq hw]; omega)))
theorem sim_neg (hq : q ≤ 6) (hw : woq q os) (hx : w k = 25) (hl : slv z + lvs os < 40) : Rc w (gyW z q os) k (gyW z q (40 :: os)) (k + 1) :=
  (rc_73 hq (Or.inl (by omega))).trans (Rc.one (mst_n (ys := [73, 75]) (by decide) (by decide) (ex73_m hx) (Or.inr (by rw [slv_73 hq hw]; exact hl))))
theorem sim_neg_no (hq : q ≤ 6) (hw : woq q os) (hx : w k = 25) (hl : ¬ slv z + lvs os < 40) : Rf w (gyW z q os) k k :=
  (rc_73 hq (Or.inl (by omega))).rf (Rf.of (mst_deep (ys := [73, 75]) (t := 1) (by decide) (by decide) (ex73_m hx) (by decide) (by rw [slv_73 hq hw]; omega)))
theorem rc_67 (hq : q ≤ 6) (h3 : 3 ≤ rsl q os) : Rc w (gyW z q os) k (67 :: gyR z q 3 os) k := rc_desc (w := w) (k := k) (a := 3) _ (rsl q os) rfl h3 (rsl_le hq) (by omega) (gyT z q os)
theorem slv_67 (hq : q ≤ 6) (hw : woq q os) : slv (67 :: gyR z q 3 os) = slv z + lvs os := by
  have := slv_nt (c := 3) (S := gyR z q 3 os)
  rw [slv_R hq hw] at this
  exact this
theorem ex67_n {x : Int} (h : x = 31) : ex 67 x = some ([67, 75], 1) := by rw [ex_67]; unfold ex67; rw [if_pos h]
theorem sim_not (hq : q ≤ 6) (hw : woq q os) (h3 : 3 ≤ rsl q os) (hx : w k = 31) (hl : slv z + lvs os < 40) : Rc w (gyW z q os) k (gyW z q (41 :: os)) (k + 1) :=
  (rc_67 hq h3).trans (Rc.one (mst_n (ys := [67, 75]) (by decide) (by decide) (ex67_n hx) (Or.inr (by rw [slv_67 hq hw]; exact hl))))
theorem sim_not_no (hq : q ≤ 6) (hw : woq q os) (hx : w k = 31) (hl : ¬ (3 ≤ rsl q os ∧ slv z + lvs os < 40)) : Rf w (gyW z q os) k k := by
  by_cases h3 : 3 ≤ rsl q os
  · exact (rc_67 hq h3).rf (Rf.of (mst_deep (ys := [67, 75]) (t := 1) (by decide) (by decide) (ex67_n hx) (by decide) (by rw [slv_67 hq hw]; omega)))
  · exact (rc_73 hq (Or.inr (by omega))).rf (Rf.of (mst_no (by decide) (by decide) (ex73_n (by omega))))
theorem sim_no (hq : q ≤ 6) (hx : ¬ (w k = 1 ∨ w k = 2 ∨ w k = 12 ∨ w k = 13 ∨ w k = 14 ∨ w k = 15 ∨ w k = 25 ∨ w k = 31 ∨ w k = 36)) : Rf w (gyW z q os) k k :=
  (rc_73 hq (Or.inl (by omega))).rf (Rf.of (mst_no (by decide) (by decide) (ex73_n (by omega))))
theorem rc_76 (hq : q ≤ 6) (hx : w k = 14 ∨ w k = 15) : Rc w (gyW z q os) k (76 :: 61 :: 74 :: 37 :: 75 :: gyR z q 0 os) (k + 1) :=
  (rc_73 hq (Or.inl (by omega))).trans (Rc.one (mst_n (ys := [76, 61, 74, 37, 75]) (by decide) (by decide) (ex73_l hx) (Or.inl (by decide))))
theorem slv_76 (hq : q ≤ 6) (hw : woq q os) : slv (76 :: 61 :: 74 :: 37 :: 75 :: gyR z q 0 os) = slv z + lvs os := by
  have : slv ([76, 61, 74, 37, 75] ++ gyR z q 0 os) = slv [76, 61, 74, 37, 75] + slv (gyR z q 0 os) := slv_app _ _
  rw [slv_R hq hw] at this
  rw [show slv [76, 61, 74, 37, 75] = 0 by decide, Int.zero_add] at this
  exact this
theorem ex76_p {x : Int} (h : x = 36) : ex 76 x = some ([], 1) := by rw [ex_76]; unfold ex76; rw [if_pos h]
theorem ex76_n {x : Int} (h : x ≠ 36) : ex 76 x = none := by rw [ex_76]; unfold ex76; rw [if_neg h]
theorem sim_list {o : Int} (ho : o = 15 ∨ o = 16) (hq : q ≤ 6) (hw : woq q os) (hx : w k = 14 ∨ w k = 15) (h1 : w (k + 1) = 36) (hl : slv z + lvs os < 40) : Rc w (gyW z q os) k (gyW z q (o :: os)) (k + 2) := by
  have e : gyW z q (o :: os) = 61 :: 74 :: 37 :: 75 :: gyR z q 0 os := by rcases ho with e | e <;> subst e <;> rfl
  rw [e]
  exact (rc_76 hq hx).trans (Rc.one (k := k + 1) (mst_n (ys := []) (by decide) (by decide) (ex76_p h1) (Or.inr (by rw [slv_76 hq hw]; exact hl))))
theorem sim_list_no (hq : q ≤ 6) (hw : woq q os) (hx : w k = 14 ∨ w k = 15) (h1 : ¬ (w (k + 1) = 36 ∧ slv z + lvs os < 40)) : Rf w (gyW z q os) k (k + 1) := by
  by_cases h : w (k + 1) = 36
  · exact (rc_76 hq hx).rf (Rf.of (mst_deep (ys := []) (t := 1) (by decide) (by decide) (ex76_p h) (by decide) (by rw [slv_76 hq hw]; omega)))
  · exact (rc_76 hq hx).rf (Rf.of (mst_no (by decide) (by decide) (ex76_n h)))
/-- how strong the operand counts when an operation has been grouped -/
def pst (o : Int) : Nat := if 25 ≤ o ∧ o ≤ 31 then rsq o else cst o
theorem rst_up {a b : Nat} (hb : b ≤ 6) (h : a + 1 ≤ b) : rsy a :: rst (a + 1) b = rst a b := (rst_cons hb (by omega)).symm
theorem gyR_c : gyR z q c (o :: t) = rst c (rsq o) ++ (hdT o ++ gyR z q (cst o) t) := rfl
theorem sim_pop (hq : q ≤ 6) (hw : woq q (o :: t)) (ho : (19 ≤ o ∧ o ≤ 31) ∨ o = 40 ∨ o = 41 ∨ o = 42) (hl : lwx (w k) ≤ c ∨ rsq o < lwx (w k)) : Rc w (gyR z q c (o :: t)) k (gyR z q (pst o) t) k := by
  rw [gyR_c]
  refine (rc_drops (rsq_le o) _ c rfl hl).trans ?_
  obtain ⟨-, h2, -⟩ := hw
  by_cases c1 : 25 ≤ o ∧ o ≤ 31
  · have e : o = 25 ∨ o = 26 ∨ o = 27 ∨ o = 28 ∨ o = 29 ∨ o = 30 ∨ o = 31 := by omega
    have hh : hdT o ++ gyR z q (cst o) t = gyR z q (pst o) t := by
      unfold gyR
      have r := rst_up (a := rsq o) (b := rsl q t) (rsl_le hq) (by
        rcases e with e | e | e | e | e | e | e <;> subst e <;> exact h2)
      rcases e with e | e | e | e | e | e | e <;> subst e <;> exact congrArg (fun u => u ++ gyT z q t) r
    rw [hh]
    exact Rc.refl
  · have ep : pst o = cst o := by unfold pst; rw [if_neg c1]
    rw [ep]
    by_cases c2 : 19 ≤ o ∧ o ≤ 24
    · have : hdT o = [] := by unfold hdT; rw [if_neg (by omega), if_neg (by omega), if_pos c2]
      rw [this]
      exact Rc.refl
    · have : hdT o = [75] := by unfold hdT; rw [if_neg (by omega), if_neg (by omega), if_neg (by omega), if_pos (by omega)]
      rw [this]
      exact Rc.zero mst_75
/-- a sign between two operands -/
theorem sim_sign {x : Int} (hq : q ≤ 6) (hx : w k = x) (h1 : 1 ≤ lwx x) (h5 : lwx x ≤ 5) (hc : c < lwx x) (hr : lwx x ≤ rsl q os) : Rc w (gyR z q c os) k (gyW z q ((x + 1) :: os)) (k + 1) := by
  unfold gyR
  have hb := rsl_le (os := os) hq
  refine (rc_to (c := lwx x - 1) hb (by omega) (by omega) (by rw [hx]; omega)).trans ?_
  rw [rst_cons hb (by omega), show lwx x - 1 + 1 = lwx x by omega]
  have hd : ∀ (l : Nat) (ys : List Int), lwx x = l → l - 1 < 6 → ex (rsy (l - 1)) x = some (ys, 1) → (dlv (rsy (l - 1)) ys ≠ 1) → gyW z q ((x + 1) :: os) = ys ++ (rst l (rsl q os) ++ gyT z q os) → Rc w (rsy (lwx x - 1) :: rst (lwx x) (rsl q os) ++ gyT z q os) k (gyW z q ((x + 1) :: os)) (k + 1) := fun l ys e l6 he hv eg => by
    rw [e, eg]
    refine Rc.one (mst_n ?_ ?_ (by rw [hx]; exact he) (Or.inl hv))
    · unfold rsy; (repeat' split) <;> decide
    · unfold rsy; (repeat' split) <;> decide
  have ul : lwx x = lwx x := rfl
  conv at ul => rhs; unfold lwx
  by_cases c1 : 26 ≤ x ∧ x ≤ 28
  · rw [if_pos c1] at ul
    refine hd 1 [73, 72] ul (by decide) ?_ (by decide) ?_
    · show ex 72 x = _; rw [ex_72]; unfold ex72; rw [if_pos (by omega)]
    · have : x = 26 ∨ x = 27 ∨ x = 28 := by omega
      rcases this with e | e | e <;> subst e <;> rfl
  · rw [if_neg c1] at ul
    by_cases c2 : x = 24 ∨ x = 25
    · rw [if_pos c2] at ul
      refine hd 2 [71, 70] ul (by decide) ?_ (by decide) ?_
      · show ex 70 x = _; rw [ex_70]; unfold ex70; rw [if_pos c2]
      · rcases c2 with e | e <;> subst e <;> rfl
    · rw [if_neg c2] at ul
      by_cases c3 : 18 ≤ x ∧ x ≤ 23
      · rw [if_pos c3] at ul
        refine hd 3 [69] ul (by decide) ?_ (by decide) ?_
        · show ex 68 x = _; rw [ex_68]; unfold ex68; rw [if_pos c3]
        · have : x = 18 ∨ x = 19 ∨ x = 20 ∨ x = 21 ∨ x = 22 ∨ x = 23 := by omega
          rcases this with e | e | e | e | e | e <;> subst e <;> rfl
      · rw [if_neg c3] at ul
        by_cases c4 : x = 29
        · rw [if_pos c4] at ul
          refine hd 4 [67, 66] ul (by decide) ?_ (by decide) ?_
          · show ex 66 x = _; rw [ex_66]; unfold ex66; rw [if_pos c4]
          · subst c4; rfl
        · rw [if_neg c4] at ul
          by_cases c5 : x = 30
          · rw [if_pos c5] at ul
            refine hd 5 [65, 64] ul (by decide) ?_ (by decide) ?_
            · show ex 64 x = _; rw [ex_64]; unfold ex64; rw [if_pos c5]
            · subst c5; rfl
          · rw [if_neg c5] at ul
            split at ul <;> omega
theorem slv_62 (hq : q ≤ 6) (hw : woq q os) : slv (62 :: gyT z q os) = slv z + lvs os := by
  rw [show (62 : Int) :: gyT z q os = [62] ++ gyT z q os from rfl, slv_app, slv_T hq hw, show slv [62] = 0 by decide]
  omega
theorem rc_62 (h6 : rsl q os = 6) (hx : w k = 32) (hc : c ≤ 5) : Rc w (gyR z q c os) k (62 :: gyT z q os) k := by
  unfold gyR
  rw [h6]
  exact rc_to (b := 6) (c := 5) (by decide) hc (by decide) (Or.inr (by rw [hx]; decide))
theorem ex62_a {x : Int} (h : x = 32) : ex 62 x = some ([61, 33, 61, 75], 1) := by rw [ex_62]; unfold ex62; rw [if_pos h]
theorem sim_ask (hq : q ≤ 6) (hw : woq q os) (h6 : rsl q os = 6) (hx : w k = 32) (hc : c ≤ 5) (hl : slv z + lvs os < 40) : Rc w (gyR z q c os) k (gyW z q (33 :: os)) (k + 1) := by
  have e : gyW z q (33 :: os) = [61, 33, 61, 75] ++ gyT z q os := by
    show (61 : Int) :: ([33, 61, 75] ++ (rst 6 (rsl q os) ++ gyT z q os)) = _
    rw [h6]
    rfl
  rw [e]
  exact (rc_62 h6 hx hc).trans (Rc.one (mst_n (by decide) (by decide) (ex62_a hx) (Or.inr (by rw [slv_62 hq hw]; exact hl))))
theorem sim_ask_no (hq : q ≤ 6) (hw : woq q os) (h6 : rsl q os = 6) (hx : w k = 32) (hc : c ≤ 5) (hl : ¬ slv z + lvs os < 40) : Rf w (gyR z q c os) k k :=
  (rc_62 h6 hx hc).rf (Rf.of (mst_deep (t := 1) (by decide) (by decide) (ex62_a hx) (by decide) (by rw [slv_62 hq hw]; omega)))
/-- no sign goes on: all rests go -/
theorem sim_end (hq : q ≤ 6) (hl : lwx (w k) ≤ c ∨ rsl q os < lwx (w k)) : Rc w (gyR z q c os) k (gyT z q os) k := rc_drops (rsl_le hq) _ c rfl hl
theorem sim_close {o : Int} (ho : o = 37 ∨ o = 15 ∨ o = 16) (hx : w k = 37) : Rc w (gyT z q (o :: t)) k (gyR z q 0 t) (k + 1) := by
  have a37 : Rc w (37 :: 75 :: gyR z q 0 t) k (gyR z q 0 t) (k + 1) := (Rc.one (mst_t (by decide) hx.symm)).trans (Rc.zero (k := k + 1) mst_75)
  rcases ho with e | e | e <;> subst e
  · exact a37
  · exact (Rc.zero (mst_n (y := 74) (ys := []) (by decide) (by decide) (by rw [ex_74]; unfold ex74; rw [if_neg (by omega)]) (Or.inl (by decide)))).trans a37
  · exact (Rc.zero (mst_n (y := 74) (ys := []) (by decide) (by decide) (by rw [ex_74]; unfold ex74; rw [if_neg (by omega)]) (Or.inl (by decide)))).trans a37
theorem sim_comma {o : Int} (ho : o = 15 ∨ o = 16) (hx : w k = 35) : Rc w (gyT z q (o :: t)) k (gyW z q (o :: t)) (k + 1) := by
  rcases ho with e | e <;> subst e
  · exact Rc.one (mst_n (y := 74) (ys := [61, 74]) (by decide) (by decide) (by rw [ex_74]; unfold ex74; rw [if_pos hx]) (Or.inl (by decide)))
  · exact Rc.one (mst_n (y := 74) (ys := [61, 74]) (by decide) (by decide) (by rw [ex_74]; unfold ex74; rw [if_pos hx]) (Or.inl (by decide)))
theorem sim_colon (hx : w k = 33) : Rc w (gyT z q (33 :: t)) k (gyW z q (42 :: t)) (k + 1) := Rc.one (mst_t (y := 33) (by decide) hx.symm)
theorem sim_close_no {o : Int} (ho : o = 37 ∨ o = 15 ∨ o = 16 ∨ o = 33) (h1 : o = 37 → w k ≠ 37) (h2 : o = 15 ∨ o = 16 → w k ≠ 37 ∧ w k ≠ 35) (h3 : o = 33 → w k ≠ 33) : Rf w (gyT z q (o :: t)) k k := by
  rcases ho with e | e | e | e
  · subst e
    exact Rf.of (mst_tn (y := 37) (by decide) (fun c => h1 rfl c.symm))
  · have h := h2 (Or.inl e)
    subst e
    exact (Rc.zero (mst_n (y := 74) (ys := []) (by decide) (by decide) (by rw [ex_74]; unfold ex74; rw [if_neg h.2]) (Or.inl (by decide)))).rf (Rf.of (mst_tn (y := 37) (by decide) (fun c => h.1 c.symm)))
  · have h := h2 (Or.inr e)
    subst e
    exact (Rc.zero (mst_n (y := 74) (ys := []) (by decide) (by decide) (by rw [ex_74]; unfold ex74; rw [if_neg h.2]) (Or.inl (by decide)))).rf (Rf.of (mst_tn (y := 37) (by decide) (fun c => h.1 c.symm)))
  · subst e
    exact Rf.of (mst_tn (y := 33) (by decide) (fun c => h3 rfl c.symm))
/-- a second comparison is refused wherever it stands -/
theorem sim_dead (hq : q ≤ 6) (hx : lwx (w k) = 3) (hz : Rf w z k k) : ∀ {os : List Int} {c : Nat}, woq q os → 3 ≤ c → c ≤ rsl q os → Rf w (gyR z q c os) k k
  | [], c, _, h3, hc => (sim_end (os := []) hq (Or.inl (by omega))).rf hz
  | o :: t, c, hw, h3, hc => by
    have hc : c ≤ rsq o := hc
    have hb := (sim_end (z := z) (os := o :: t) (w := w) (k := k) (c := c) hq (Or.inl (by omega)))
    have hx35 : w k ≠ 35 ∧ w k ≠ 37 ∧ w k ≠ 33 := by
      unfold lwx at hx
      refine ⟨?_, ?_, ?_⟩ <;> intro e <;> rw [e] at hx <;> exact absurd hx (by decide)
    obtain ⟨h1, h2, hw'⟩ := hw
    by_cases d1 : o = 37 ∨ o = 15 ∨ o = 16 ∨ o = 33
    · exact hb.rf (sim_close_no d1 (fun _ => hx35.2.1) (fun _ => ⟨hx35.2.1, hx35.1⟩) (fun _ => hx35.2.2))
    · have e : o = 41 ∨ o = 42 ∨ o = 30 ∨ o = 31 := by
        unfold opq at h1
        unfold rsq at hc
        (repeat' split at hc) <;> omega
      refine hb.rf ?_
      rcases e with e | e | e | e <;> subst e
      · exact (Rc.zero (st := 75 :: gyR z q 3 t) mst_75).rf (sim_dead hq hx hz hw' (by decide) h2)
      · exact (Rc.zero (st := 75 :: gyR z q 6 t) mst_75).rf (sim_dead hq hx hz hw' (by decide) h2)
      · exact (rc_drop (S := gyR z q 4 t) (c := 3) (by decide) (by omega)).rf (sim_dead hq hx hz hw' (by decide) h2)
      · exact (rc_drop (S := gyR z q 5 t) (c := 4) (by decide) (by omega)).rf (sim_dead hq hx hz hw' (by decide) h2)
end SM
end
section
/-! What a rule means: kinds, faults, orders, told by the words from i to j - 1. -/
section SE
variable {w : Nat → Int} {i j l m : Nat}
/-- behind a '?': where its ':' stands, seen from i on -/
def cl1 (w : Nat → Int) (i : Nat) : Nat → Nat → Nat
  | 0, m => m
  | f + 1, m => if dp w i m = 0 ∧ aq w i m = 0 ∧ w (i + m) = 33 then m else cl1 w i f (m + 1)
theorem cl1_b : ∀ f m, m ≤ cl1 w i f m ∧ cl1 w i f m ≤ m + f
  | 0, m => ⟨Nat.le_refl _, Nat.le_refl _⟩
  | f + 1, m => by
    have := cl1_b f (m + 1)
    unfold cl1
    split <;> omega
theorem cl1_at (b : Bl w i l) (h : w (i + l) = 33) : ∀ f m, m ≤ l → l ≤ m + f → cl1 w i f m = l
  | 0, m, h1, h2 => by show m = l; omega
  | f + 1, m, h1, h2 => by
    unfold cl1
    by_cases e : m = l
    · rw [if_pos ⟨by rw [e]; exact b.1, by rw [e]; exact b.2.1, by rw [e]; exact h⟩]; exact e
    · rw [if_neg (fun q => (b.2.2.2 m (by omega)).2 q.1 q.2.1 q.2.2)]
      exact cl1_at b h f (m + 1) (by omega) (by omega)
def clq (w : Nat → Int) (m j : Nat) : Nat := (m + 1) + cl1 w (m + 1) (j - (m + 1)) 0
theorem clq_b : m + 1 ≤ clq w m j ∧ clq w m j ≤ (m + 1) + (j - (m + 1)) := by
  have := cl1_b (w := w) (i := m + 1) (j - (m + 1)) 0
  unfold clq
  omega
theorem clq_at {q : Nat} (hm : m + 1 ≤ q) (hq : q < j) (b : Bl w (m + 1) (q - (m + 1))) (h : w q = 33) : clq w m j = q := by
  unfold clq
  rw [cl1_at b (by rw [show m + 1 + (q - (m + 1)) = q by omega]; exact h) _ _ (by omega) (by omega)]
  omega
/-- the last comma outside parentheses: 0 if there is none, else one more than its distance -/
def lcq (w : Nat → Int) (i : Nat) : Nat → Nat
  | 0 => 0
  | l + 1 => if dp w i l = 0 ∧ w (i + l) = 35 then l + 1 else lcq w i l
theorem lcq_le : ∀ l, lcq w i l ≤ l
  | 0 => Nat.le_refl _
  | l + 1 => by
    have := lcq_le l
    unfold lcq
    split <;> omega
theorem lcq_0 : ∀ l, Nx w 35 i l → lcq w i l = 0
  | 0, _ => rfl
  | l + 1, h => by
    unfold lcq
    rw [if_neg (fun q => h l (by omega) q.1 q.2)]
    exact lcq_0 l (fun m hm q => h m (by omega) q)
theorem lcq_at {p : Nat} (hp : dp w i p = 0) (h : w (i + p) = 35) : ∀ n, (∀ m, p < m → m < p + 1 + n → dp w i m = 0 → w (i + m) ≠ 35) → lcq w i (p + 1 + n) = p + 1
  | 0, _ => by show (if dp w i p = 0 ∧ w (i + p) = 35 then p + 1 else lcq w i p) = p + 1; rw [if_pos ⟨hp, h⟩]
  | n + 1, hn => by
    show (if dp w i (p + 1 + n) = 0 ∧ w (i + (p + 1 + n)) = 35 then p + 1 + n + 1 else lcq w i (p + 1 + n)) = p + 1
    rw [if_neg (fun q => hn (p + 1 + n) (by omega) (by omega) q.1 q.2)]
    exact lcq_at hp h n (fun m a b => hn m a (by omega))
/-- the loosest, as a place within -/
def loq (w : Nat → Int) (i j : Nat) : Nat := (lo w i j).toNat
def lin (w : Nat → Int) (i j : Nat) : Prop := 0 ≤ lo w i j ∧ i ≤ loq w i j ∧ loq w i j < j
/-- a sign between two operands that answers a truth -/
def tru (x : Int) : Prop := (18 ≤ x ∧ x ≤ 23) ∨ x = 29 ∨ x = 30
end SE
/-- the kind: 1 a truth, 0 a number; c = 1: of a list (1 if one of them is a truth) -/
noncomputable def kdq (w E : Nat → Int) (c i j : Nat) : Int :=
  haveI := Classical.propDecidable (lin w i j)
  haveI := Classical.propDecidable (tru (w (loq w i j)))
  if hij : i < j then
    if hc : c = 1 then
      if hp : lcq w i (j - i) = 0 then kdq w E 0 i j
      else if kdq w E 1 i (i + lcq w i (j - i) - 1) = 1 ∨ kdq w E 0 (i + lcq w i (j - i)) j = 1 then 1 else 0
    else if hm : lin w i j then
      if w (loq w i j) = 32 then kdq w E 0 (clq w (loq w i j) j + 1) j
      else if tru (w (loq w i j)) then 1 else 0
    else if w i = 36 then kdq w E 0 (i + 1) (j - 1)
    else if w i = 31 ∨ w i = 12 ∨ w i = 13 then 1
    else if w i = 1 ∧ E i = 1 then 1 else 0
  else 0
termination_by 2 * (j - i) + c
decreasing_by
  all_goals simp_wf
  all_goals have a1 := lcq_le (w := w) (i := i) (j - i)
  all_goals have a2 := clq_b (w := w) (m := loq w i j) (j := j)
  all_goals first | omega | (have a3 := hm.2; omega)
/-- the first of two faults -/
def fst9 (a b : Int × Int) : Int × Int := if a.1 = 0 then b else a
/-- a fault of kinds, if they don't fit -/
noncomputable def kft (p : Prop) (x : Int) : Int × Int := haveI := Classical.propDecidable p; if p then (0, 0) else (3, x)
/-- which kinds fit a sign -/
def okq (x a b : Int) : Prop := if x = 29 ∨ x = 30 then a = 1 ∧ b = 1 else if x = 23 ∨ x = 18 then a = b else a = 0 ∧ b = 0
/-- the first fault of kinds and names, in the order of reading; (0, 0): none -/
noncomputable def fl (w E pl : Nat → Int) (c i j : Nat) : Int × Int :=
  haveI := Classical.propDecidable (lin w i j)
  if hij : i < j then
    if hc : c = 1 then
      if hp : lcq w i (j - i) = 0 then fl w E pl 0 i j
      else fst9 (fl w E pl 1 i (i + lcq w i (j - i) - 1)) (fl w E pl 0 (i + lcq w i (j - i)) j)
    else if hm : lin w i j then
      if w (loq w i j) = 32 then fst9 (fst9 (fst9 (fl w E pl 0 i (loq w i j)) (fl w E pl 0 (loq w i j + 1) (clq w (loq w i j) j))) (fl w E pl 0 (clq w (loq w i j) j + 1) j)) (kft (kdq w E 0 i (loq w i j) = 1 ∧ kdq w E 0 (loq w i j + 1) (clq w (loq w i j) j) = kdq w E 0 (clq w (loq w i j) j + 1) j) (pl (loq w i j)))
      else fst9 (fst9 (fl w E pl 0 i (loq w i j)) (fl w E pl 0 (loq w i j + 1) j)) (kft (okq (w (loq w i j)) (kdq w E 0 i (loq w i j)) (kdq w E 0 (loq w i j + 1) j)) (pl (loq w i j)))
    else if w i = 36 then fl w E pl 0 (i + 1) (j - 1)
    else if w i = 25 then fst9 (fl w E pl 0 (i + 1) j) (kft (kdq w E 0 (i + 1) j = 0) (pl i))
    else if w i = 31 then fst9 (fl w E pl 0 (i + 1) j) (kft (kdq w E 0 (i + 1) j = 1) (pl i))
    else if w i = 14 ∨ w i = 15 then fst9 (fl w E pl 1 (i + 2) (j - 1)) (kft (kdq w E 1 (i + 2) (j - 1) = 0) (pl i))
    else if w i = 1 ∧ E i = -1 then (2, pl i) else (0, 0)
  else (0, 0)
termination_by 2 * (j - i) + c
decreasing_by
  all_goals simp_wf
  all_goals have a1 := lcq_le (w := w) (i := i) (j - i)
  all_goals have a2 := clq_b (w := w) (m := loq w i j) (j := j)
  all_goals first | omega | (have a3 := hm.2; omega)
/-- the orders of a rule lie from s to e - 1; c: 0 a rule, 1 a list with the order x (place y) -/
def Cd (w : Nat → Int) (ec : Nat → Int × Int) (pl O P : Nat → Int) (c : Nat) (x y : Int) (i j s e : Nat) : Prop :=
  haveI := Classical.propDecidable (lin w i j)
  if hij : i < j then
    if hc : c = 1 then
      if hp : lcq w i (j - i) = 0 then Cd w ec pl O P 0 0 0 i j s e
      else ∃ a b, Cd w ec pl O P 1 x y i (i + lcq w i (j - i) - 1) s a ∧ Cd w ec pl O P 0 0 0 (i + lcq w i (j - i)) j a b ∧ e = b + 1 ∧ O b = x ∧ P b = y
    else if hm : lin w i j then
      if w (loq w i j) = 32 then ∃ a b : Nat, Cd w ec pl O P 0 0 0 i (loq w i j) s a ∧ O a = 33 ∧ P a = (b : Int) + 1 ∧ Cd w ec pl O P 0 0 0 (loq w i j + 1) (clq w (loq w i j) j) (a + 1) b ∧ O b = 42 ∧ P b = e ∧ Cd w ec pl O P 0 0 0 (clq w (loq w i j) j + 1) j (b + 1) e
      else if w (loq w i j) = 29 ∨ w (loq w i j) = 30 then ∃ a, Cd w ec pl O P 0 0 0 i (loq w i j) s a ∧ O a = w (loq w i j) + 1 ∧ P a = e ∧ Cd w ec pl O P 0 0 0 (loq w i j + 1) j (a + 1) e
      else ∃ a b, Cd w ec pl O P 0 0 0 i (loq w i j) s a ∧ Cd w ec pl O P 0 0 0 (loq w i j + 1) j a b ∧ e = b + 1 ∧ O b = w (loq w i j) + 1 ∧ P b = pl (loq w i j)
    else if w i = 36 then Cd w ec pl O P 0 0 0 (i + 1) (j - 1) s e
    else if w i = 25 ∨ w i = 31 then ∃ b, Cd w ec pl O P 0 0 0 (i + 1) j s b ∧ e = b + 1 ∧ O b = (if w i = 25 then 40 else 41) ∧ P b = pl i
    else if w i = 14 ∨ w i = 15 then Cd w ec pl O P 1 (w i + 1) (pl i) (i + 2) (j - 1) s e
    else e = s + 1 ∧ O s = (ec i).1 ∧ P s = (ec i).2
  else False
termination_by 2 * (j - i) + c
decreasing_by
  all_goals simp_wf
  all_goals have a1 := lcq_le (w := w) (i := i) (j - i)
  all_goals have a2 := clq_b (w := w) (m := loq w i j) (j := j)
  all_goals first | omega | (have a3 := hm.2; omega)
section SF
variable {w E pl O P : Nat → Int} {ec : Nat → Int × Int} {i j m s e : Nat} {x y : Int}
theorem lin_of (h : lo w i j = (m : Int)) (h1 : i ≤ m) (h2 : m < j) : lin w i j ∧ loq w i j = m := by
  have : loq w i j = m := by unfold loq; rw [h]; rfl
  exact ⟨⟨by rw [h]; omega, by rw [this]; exact h1, by rw [this]; exact h2⟩, this⟩
theorem lin_no (h : lo w i j = -1) : ¬ lin w i j := fun q => by have := q.1; omega
/-! kinds -/
theorem kd_bin (h : lo w i j = (m : Int)) (h1 : i ≤ m) (h2 : m < j) (h3 : w m ≠ 32) : kdq w E 0 i j = haveI := Classical.propDecidable (tru (w m)); if tru (w m) then 1 else 0 := by
  obtain ⟨a, b⟩ := lin_of h h1 h2
  rw [kdq, dif_pos (by omega), dif_neg (by decide), dif_pos a, b, if_neg h3]
theorem kd_ask {q : Nat} (h : lo w i j = (m : Int)) (h1 : i ≤ m) (h2 : m < j) (h3 : w m = 32) (hq : clq w m j = q) : kdq w E 0 i j = kdq w E 0 (q + 1) j := by
  obtain ⟨a, b⟩ := lin_of h h1 h2
  rw [kdq, dif_pos (by omega), dif_neg (by decide), dif_pos a, b, if_pos h3, hq]
theorem kd_par (h : lo w i j = -1) (hij : i < j) (h3 : w i = 36) : kdq w E 0 i j = kdq w E 0 (i + 1) (j - 1) := by
  rw [kdq, dif_pos hij, dif_neg (by decide), dif_neg (lin_no h), if_pos h3]
theorem kd_tru (h : lo w i j = -1) (hij : i < j) (h3 : w i = 31 ∨ w i = 12 ∨ w i = 13) : kdq w E 0 i j = 1 := by
  rw [kdq, dif_pos hij, dif_neg (by decide), dif_neg (lin_no h), if_neg (by omega), if_pos h3]
theorem kd_num (h : lo w i j = -1) (hij : i < j) (h3 : w i = 25 ∨ w i = 2 ∨ w i = 14 ∨ w i = 15) : kdq w E 0 i j = 0 := by
  rw [kdq, dif_pos hij, dif_neg (by decide), dif_neg (lin_no h), if_neg (by omega), if_neg (by omega), if_neg (by omega)]
theorem kd_nam (h : lo w i j = -1) (hij : i < j) (h3 : w i = 1) : kdq w E 0 i j = if E i = 1 then 1 else 0 := by
  rw [kdq, dif_pos hij, dif_neg (by decide), dif_neg (lin_no h), if_neg (by omega), if_neg (by omega)]
  by_cases c : E i = 1
  · rw [if_pos ⟨h3, c⟩, if_pos c]
  · rw [if_neg (fun q => c q.2), if_neg c]
theorem kd_l1 (hij : i < j) (h : lcq w i (j - i) = 0) : kdq w E 1 i j = kdq w E 0 i j := by
  rw [kdq, dif_pos hij, dif_pos rfl, dif_pos h]
theorem kd_ln (hij : i < j) (h : lcq w i (j - i) = m - i + 1) (hm : i ≤ m) : kdq w E 1 i j = if kdq w E 1 i m = 1 ∨ kdq w E 0 (m + 1) j = 1 then 1 else 0 := by
  rw [kdq, dif_pos hij, dif_pos rfl, dif_neg (by omega), h, show i + (m - i + 1) - 1 = m by omega, show i + (m - i + 1) = m + 1 by omega]
/-! faults -/
theorem fl_bin (h : lo w i j = (m : Int)) (h1 : i ≤ m) (h2 : m < j) (h3 : w m ≠ 32) : fl w E pl 0 i j = fst9 (fst9 (fl w E pl 0 i m) (fl w E pl 0 (m + 1) j)) (kft (okq (w m) (kdq w E 0 i m) (kdq w E 0 (m + 1) j)) (pl m)) := by
  obtain ⟨a, b⟩ := lin_of h h1 h2
  rw [fl, dif_pos (by omega), dif_neg (by decide), dif_pos a, b, if_neg h3]
theorem fl_ask {q : Nat} (h : lo w i j = (m : Int)) (h1 : i ≤ m) (h2 : m < j) (h3 : w m = 32) (hq : clq w m j = q) : fl w E pl 0 i j = fst9 (fst9 (fst9 (fl w E pl 0 i m) (fl w E pl 0 (m + 1) q)) (fl w E pl 0 (q + 1) j)) (kft (kdq w E 0 i m = 1 ∧ kdq w E 0 (m + 1) q = kdq w E 0 (q + 1) j) (pl m)) := by
  obtain ⟨a, b⟩ := lin_of h h1 h2
  rw [fl, dif_pos (by omega), dif_neg (by decide), dif_pos a, b, if_pos h3, hq]
theorem fl_par (h : lo w i j = -1) (hij : i < j) (h3 : w i = 36) : fl w E pl 0 i j = fl w E pl 0 (i + 1) (j - 1) := by
  rw [fl, dif_pos hij, dif_neg (by decide), dif_neg (lin_no h), if_pos h3]
theorem fl_neg (h : lo w i j = -1) (hij : i < j) (h3 : w i = 25) : fl w E pl 0 i j = fst9 (fl w E pl 0 (i + 1) j) (kft (kdq w E 0 (i + 1) j = 0) (pl i)) := by
  rw [fl, dif_pos hij, dif_neg (by decide), dif_neg (lin_no h), if_neg (by omega), if_pos h3]
theorem fl_not (h : lo w i j = -1) (hij : i < j) (h3 : w i = 31) : fl w E pl 0 i j = fst9 (fl w E pl 0 (i + 1) j) (kft (kdq w E 0 (i + 1) j = 1) (pl i)) := by
  rw [fl, dif_pos hij, dif_neg (by decide), dif_neg (lin_no h), if_neg (by omega), if_neg (by omega), if_pos h3]
theorem fl_lst (h : lo w i j = -1) (hij : i < j) (h3 : w i = 14 ∨ w i = 15) : fl w E pl 0 i j = fst9 (fl w E pl 1 (i + 2) (j - 1)) (kft (kdq w E 1 (i + 2) (j - 1) = 0) (pl i)) := by
  rw [fl, dif_pos hij, dif_neg (by decide), dif_neg (lin_no h), if_neg (by omega), if_neg (by omega), if_neg (by omega), if_pos h3]
theorem fl_leaf (h : lo w i j = -1) (hij : i < j) (h3 : w i = 1 ∨ w i = 2 ∨ w i = 12 ∨ w i = 13) : fl w E pl 0 i j = if w i = 1 ∧ E i = -1 then (2, pl i) else (0, 0) := by
  rw [fl, dif_pos hij, dif_neg (by decide), dif_neg (lin_no h), if_neg (by omega), if_neg (by omega), if_neg (by omega), if_neg (by omega)]
theorem fl_l1 (hij : i < j) (h : lcq w i (j - i) = 0) : fl w E pl 1 i j = fl w E pl 0 i j := by
  rw [fl, dif_pos hij, dif_pos rfl, dif_pos h]
theorem fl_ln (hij : i < j) (h : lcq w i (j - i) = m - i + 1) (hm : i ≤ m) : fl w E pl 1 i j = fst9 (fl w E pl 1 i m) (fl w E pl 0 (m + 1) j) := by
  rw [fl, dif_pos hij, dif_pos rfl, dif_neg (by omega), h, show i + (m - i + 1) - 1 = m by omega, show i + (m - i + 1) = m + 1 by omega]
/-! orders -/
theorem Cd_bin (h : lo w i j = (m : Int)) (h1 : i ≤ m) (h2 : m < j) (h3 : w m ≠ 32) (h4 : w m ≠ 29) (h5 : w m ≠ 30) : Cd w ec pl O P 0 x y i j s e ↔ ∃ a b, Cd w ec pl O P 0 0 0 i m s a ∧ Cd w ec pl O P 0 0 0 (m + 1) j a b ∧ e = b + 1 ∧ O b = w m + 1 ∧ P b = pl m := by
  obtain ⟨a, b⟩ := lin_of h h1 h2
  rw [Cd, dif_pos (by omega), dif_neg (by decide), dif_pos a, b, if_neg h3, if_neg (by omega)]
theorem Cd_jmp (h : lo w i j = (m : Int)) (h1 : i ≤ m) (h2 : m < j) (h3 : w m = 29 ∨ w m = 30) : Cd w ec pl O P 0 x y i j s e ↔ ∃ a, Cd w ec pl O P 0 0 0 i m s a ∧ O a = w m + 1 ∧ P a = e ∧ Cd w ec pl O P 0 0 0 (m + 1) j (a + 1) e := by
  obtain ⟨a, b⟩ := lin_of h h1 h2
  rw [Cd, dif_pos (by omega), dif_neg (by decide), dif_pos a, b, if_neg (by omega), if_pos h3]
theorem Cd_ask {q : Nat} (h : lo w i j = (m : Int)) (h1 : i ≤ m) (h2 : m < j) (h3 : w m = 32) (hq : clq w m j = q) : Cd w ec pl O P 0 x y i j s e ↔ ∃ a b : Nat, Cd w ec pl O P 0 0 0 i m s a ∧ O a = 33 ∧ P a = (b : Int) + 1 ∧ Cd w ec pl O P 0 0 0 (m + 1) q (a + 1) b ∧ O b = 42 ∧ P b = e ∧ Cd w ec pl O P 0 0 0 (q + 1) j (b + 1) e := by
  obtain ⟨a, b⟩ := lin_of h h1 h2
  rw [Cd, dif_pos (by omega), dif_neg (by decide), dif_pos a, b, if_pos h3, hq]
theorem Cd_par (h : lo w i j = -1) (hij : i < j) (h3 : w i = 36) : Cd w ec pl O P 0 x y i j s e ↔ Cd w ec pl O P 0 0 0 (i + 1) (j - 1) s e := by
  rw [Cd, dif_pos hij, dif_neg (by decide), dif_neg (lin_no h), if_pos h3]
theorem Cd_pre (h : lo w i j = -1) (hij : i < j) (h3 : w i = 25 ∨ w i = 31) : Cd w ec pl O P 0 x y i j s e ↔ ∃ b, Cd w ec pl O P 0 0 0 (i + 1) j s b ∧ e = b + 1 ∧ O b = (if w i = 25 then 40 else 41) ∧ P b = pl i := by
  rw [Cd, dif_pos hij, dif_neg (by decide), dif_neg (lin_no h), if_neg (by omega), if_pos h3]
theorem Cd_lst (h : lo w i j = -1) (hij : i < j) (h3 : w i = 14 ∨ w i = 15) : Cd w ec pl O P 0 x y i j s e ↔ Cd w ec pl O P 1 (w i + 1) (pl i) (i + 2) (j - 1) s e := by
  rw [Cd, dif_pos hij, dif_neg (by decide), dif_neg (lin_no h), if_neg (by omega), if_neg (by omega), if_pos h3]
theorem Cd_leaf (h : lo w i j = -1) (hij : i < j) (h3 : w i = 1 ∨ w i = 2 ∨ w i = 12 ∨ w i = 13) : Cd w ec pl O P 0 x y i j s e ↔ e = s + 1 ∧ O s = (ec i).1 ∧ P s = (ec i).2 := by
  rw [Cd, dif_pos hij, dif_neg (by decide), dif_neg (lin_no h), if_neg (by omega), if_neg (by omega), if_neg (by omega)]
theorem Cd_l1 (hij : i < j) (h : lcq w i (j - i) = 0) : Cd w ec pl O P 1 x y i j s e ↔ Cd w ec pl O P 0 0 0 i j s e := by
  rw [Cd, dif_pos hij, dif_pos rfl, dif_pos h]
theorem Cd_ln (hij : i < j) (h : lcq w i (j - i) = m - i + 1) (hm : i ≤ m) : Cd w ec pl O P 1 x y i j s e ↔ ∃ a b, Cd w ec pl O P 1 x y i m s a ∧ Cd w ec pl O P 0 0 0 (m + 1) j a b ∧ e = b + 1 ∧ O b = x ∧ P b = y := by
  rw [Cd, dif_pos hij, dif_pos rfl, dif_neg (by omega), h, show i + (m - i + 1) - 1 = m by omega, show i + (m - i + 1) = m + 1 by omega]
end SF
end
section
/-! The class's reader: what its open operations and its operands stand for. -/
theorem fst9_a (a b c : Int × Int) : fst9 (fst9 a b) c = fst9 a (fst9 b c) := by
  unfold fst9
  by_cases h : a.1 = 0
  · rw [if_pos h, if_pos h]
  · rw [if_neg h, if_neg h, if_neg h]
theorem fst9_0 (b : Int × Int) : fst9 (0, 0) b = b := if_pos rfl
section OQ
variable {w E pl O P O' P' : Nat → Int} {ec : Nat → Int × Int} {i j m s e : Nat} {x y : Int}
theorem Eo.le {c c' : Nat} (h : Eo w c i j) (hc : c ≤ c') (h6 : c' ≤ 6) : Eo w c' i j := by
  have : ∀ n c, c + n ≤ 6 → Eo w c i j → Eo w (c + n) i j := by
    intro n
    induction n with
    | zero => intro c _ q; exact q
    | succ n ih => intro c q1 q2; exact Eo.one (c := c + n) (by omega) (ih c (by omega) q2)
  have r := this (c' - c) c (by omega) h
  rw [show c + (c' - c) = c' by omega] at r
  exact r
theorem lo_ask (p5 : Pr w 5 i m) (h1 : w m = 32) (hj : m < j) : lo w i j = (m : Int) := by
  have em : i + (m - i) = m := by have := p5.1; omega
  have hb : bh w i (j - i) = ((m : Int), 6) := by
    have hm1 := p5.1
    rw [show j - i = (m - i) + 1 + (j - (m + 1)) by omega]
    have hm0 : ll w i (m - i) = 6 := by
      unfold ll
      rw [if_pos p5.2.2.2.2.1.1, em, lz_32 h1]
    have k := bh_max (w := w) (i := i) (a := m - i) (c := 6) (by omega) (fun k hk => by have := lb_ll p5.2.2.2.2.2.2 hk; omega) hm0 (j - (m + 1)) (fun k k1 k2 => ⟨by unfold ll; have := lz_le (w := w) (i := i) (k := i + k); split <;> omega, fun z => by omega⟩) (fun z k hk => by have := lb_ll p5.2.2.2.2.2.2 hk; omega)
    rw [em] at k
    exact k
  unfold lo
  rw [hb, if_neg]
  show ¬ (w i = 31 ∧ 6 < 4)
  omega
/-- how strong an operand may stand before an operation -/
def lsq (o : Int) : Nat := if 27 ≤ o ∧ o ≤ 29 then 1 else if 19 ≤ o ∧ o ≤ 26 then 2 else if o = 30 then 4 else 5
/-- two operands joined -/
theorem lo_bin {o : Int} {b a : Nat} (h1 : Eo w (lsq o) b m) (h2 : Eo w (rsq o) (m + 1) a) (hw : w m = o - 1) (ho : 19 ≤ o ∧ o ≤ 31) : lo w b a = (m : Int) ∧ Eo w (cst o) b a := by
  have p1 := h1.pr
  have p2 := h2.pr
  by_cases c1 : 27 ≤ o ∧ o ≤ 29
  · have e1 : lsq o = 1 := if_pos c1
    have e2 : rsq o = 0 := if_pos (Or.inr c1)
    have e3 : cst o = 1 := if_pos c1
    rw [e1] at h1 p1
    rw [e2] at h2 p2
    rw [e3]
    exact ⟨lo_op (c := 1) p1 p2 (by omega) (by omega) (by omega) (fun _ => by omega) (fun _ => by omega) (by omega) (lz_26 (by omega)) (fun q => absurd q (p1.2.2.1 (by omega))), eo1 (by omega) h1 h2⟩
  · by_cases c2 : o = 25 ∨ o = 26
    · have e1 : lsq o = 2 := by unfold lsq; rw [if_neg c1, if_pos (by omega)]
      have e2 : rsq o = 1 := by unfold rsq; rw [if_neg (by omega), if_pos c2]
      have e3 : cst o = 2 := by unfold cst; rw [if_neg c1, if_pos c2]
      rw [e1] at h1 p1
      rw [e2] at h2 p2
      rw [e3]
      exact ⟨lo_op (c := 2) p1 p2 (by omega) (by omega) (by omega) (fun _ => by omega) (fun _ => by omega) (by omega) (lz_24 (by omega) p1.1 p1.2.2.2.1) (fun q => absurd q (p1.2.2.1 (by omega))), eo2 (by omega) h1 h2⟩
    · by_cases c3 : 19 ≤ o ∧ o ≤ 24
      · have e1 : lsq o = 2 := by unfold lsq; rw [if_neg c1, if_pos (by omega)]
        have e2 : rsq o = 2 := by unfold rsq; rw [if_neg (by omega), if_neg c2, if_pos c3]
        have e3 : cst o = 3 := by unfold cst; rw [if_neg c1, if_neg c2, if_pos (Or.inl c3)]
        rw [e1] at h1 p1
        rw [e2] at h2 p2
        rw [e3]
        exact ⟨lo_op (c := 3) p1 p2 (by omega) (by omega) (by omega) (fun _ => by omega) (fun _ => by omega) (by omega) (lz_18 (by omega)) (fun q => absurd q (p1.2.2.1 (by omega))), eo3 (by omega) h1 h2⟩
      · by_cases c4 : o = 30
        · subst c4
          exact ⟨lo_op (c := 4) (c1 := 4) (c2 := 3) p1 p2 (by omega) (by omega) (by omega) (fun _ => by omega) (fun _ => by omega) (by omega) (lz_29 (by omega)) (fun _ => by omega), eo4 (by omega) h1 h2⟩
        · have c5 : o = 31 := by omega
          subst c5
          exact ⟨lo_op (c := 5) (c1 := 5) (c2 := 4) p1 p2 (by omega) (by omega) (by omega) (fun _ => by omega) (fun _ => by omega) (by omega) (lz_30 (by omega)) (fun _ => by omega), eo5 (by omega) h1 h2⟩
theorem clq_eo {q : Nat} (h2 : Eo w 6 (m + 1) q) (hq : w q = 33) (hj : q < j) : clq w m j = q := clq_at (Nat.le_of_lt h2.pr.1) hj h2.pr.2.2.2.2.1 hq
theorem lcq_eo {c : Nat} (h : Eo w c i j) (hc : c ≤ 6) : lcq w i (j - i) = 0 := by
  obtain ⟨n, h⟩ := h
  exact lcq_0 _ (ex_nc hc h)
theorem lcq_7 (h1 : Eo w 7 i m) (hw : w m = 35) (h2 : Eo w 6 (m + 1) j) : lcq w i (j - i) = m - i + 1 := by
  have p1 := h1.pr
  have p2 := h2.pr
  have hi := p1.1
  have hj := p2.1
  obtain ⟨n, h2⟩ := h2
  have nx := ex_nc (by omega) h2
  have d1 : dp w i (m - i) = 0 := p1.2.2.2.2.1.1
  have em : i + (m - i) = m := by omega
  have d2 : dp w i (m - i + 1) = 0 := by rw [dp_s, em, if_neg (by omega), if_neg (by omega), d1]; omega
  rw [show j - i = (m - i) + 1 + (j - (m + 1)) by omega]
  refine lcq_at d1 (by rw [em]; exact hw) _ (fun t t1 t2 t3 => ?_)
  have e : t = (m - i + 1) + (t - (m - i + 1)) := by omega
  rw [e, dp_app, d2, show i + (m - i + 1) = m + 1 by omega] at t3
  have := nx (t - (m - i + 1)) (by omega) (by omega)
  rw [show m + 1 + (t - (m - i + 1)) = i + t by omega] at this
  exact this
/-! orders: they take room, and ask nothing of what lies elsewhere -/
theorem Cd_lt : ∀ (n c i j : Nat), 2 * (j - i) + c ≤ n → ∀ {x y : Int} {s e : Nat}, Cd w ec pl O P c x y i j s e → s < e := by
  intro n
  induction n with
  | zero =>
    intro c i j hn x y s e h
    rw [Cd] at h
    rw [dif_neg (by omega)] at h
    exact h.elim
  | succ n ih =>
    intro c i j hn x y s e h
    have a1 := lcq_le (w := w) (i := i) (j - i)
    have a2 := clq_b (w := w) (m := loq w i j) (j := j)
    rw [Cd] at h
    by_cases hij : i < j
    · rw [dif_pos hij] at h
      by_cases hc : c = 1
      · rw [dif_pos hc] at h
        by_cases hp : lcq w i (j - i) = 0
        · rw [dif_pos hp] at h
          exact ih _ _ _ (by omega) h
        · rw [dif_neg hp] at h
          obtain ⟨a, b, h1, h2, h3, -⟩ := h
          have := ih _ _ _ (by omega) h1
          have := ih _ _ _ (by omega) h2
          omega
      · rw [dif_neg hc] at h
        by_cases hm : lin w i j
        · rw [dif_pos hm] at h
          have a3 := hm.2
          split at h
          · obtain ⟨a, b, h1, -, -, h2, -, -, h3⟩ := h
            have := ih _ _ _ (by omega) h1
            have := ih _ _ _ (by omega) h2
            have := ih _ _ _ (by omega) h3
            omega
          · split at h
            · obtain ⟨a, h1, -, -, h2⟩ := h
              have := ih _ _ _ (by omega) h1
              have := ih _ _ _ (by omega) h2
              omega
            · obtain ⟨a, b, h1, h2, h3, -⟩ := h
              have := ih _ _ _ (by omega) h1
              have := ih _ _ _ (by omega) h2
              omega
        · rw [dif_neg hm] at h
          split at h
          · exact ih _ _ _ (by omega) h
          · split at h
            · obtain ⟨b, h1, h2, -⟩ := h
              have := ih _ _ _ (by omega) h1
              omega
            · split at h
              · exact ih _ _ _ (by omega) h
              · omega
    · rw [dif_neg hij] at h
      exact h.elim
theorem Cd.lt {c i j : Nat} (h : Cd w ec pl O P c x y i j s e) : s < e := Cd_lt _ c i j (Nat.le_refl _) h
theorem Cd_cg : ∀ (n c i j : Nat), 2 * (j - i) + c ≤ n → ∀ {x y : Int} {s e : Nat}, Cd w ec pl O P c x y i j s e → (∀ t, s ≤ t → t < e → O' t = O t ∧ P' t = P t) → Cd w ec pl O' P' c x y i j s e := by
  intro n
  induction n with
  | zero =>
    intro c i j hn x y s e h _
    rw [Cd] at h
    rw [dif_neg (by omega)] at h
    exact h.elim
  | succ n ih =>
    intro c i j hn x y s e h hO
    have a1 := lcq_le (w := w) (i := i) (j - i)
    have a2 := clq_b (w := w) (m := loq w i j) (j := j)
    rw [Cd] at h ⊢
    by_cases hij : i < j
    · rw [dif_pos hij] at h ⊢
      by_cases hc : c = 1
      · rw [dif_pos hc] at h ⊢
        by_cases hp : lcq w i (j - i) = 0
        · rw [dif_pos hp] at h ⊢
          exact ih _ _ _ (by omega) h hO
        · rw [dif_neg hp] at h ⊢
          obtain ⟨a, b, h1, h2, h3, h4, h5⟩ := h
          have l1 := h1.lt
          have l2 := h2.lt
          have k := hO b (by omega) (by omega)
          exact ⟨a, b, ih _ _ _ (by omega) h1 (fun t u v => hO t u (by omega)), ih _ _ _ (by omega) h2 (fun t u v => hO t (by omega) (by omega)), h3, by rw [k.1]; exact h4, by rw [k.2]; exact h5⟩
      · rw [dif_neg hc] at h ⊢
        by_cases hm : lin w i j
        · rw [dif_pos hm] at h ⊢
          have a3 := hm.2
          by_cases c1 : w (loq w i j) = 32
          · rw [if_pos c1] at h ⊢
            obtain ⟨a, b, h1, h4, h5, h2, h6, h7, h3⟩ := h
            have l1 := h1.lt
            have l2 := h2.lt
            have l3 := h3.lt
            have k1 := hO a (by omega) (by omega)
            have k2 := hO b (by omega) (by omega)
            exact ⟨a, b, ih _ _ _ (by omega) h1 (fun t u v => hO t u (by omega)), by rw [k1.1]; exact h4, by rw [k1.2]; exact h5, ih _ _ _ (by omega) h2 (fun t u v => hO t (by omega) (by omega)), by rw [k2.1]; exact h6, by rw [k2.2]; exact h7, ih _ _ _ (by omega) h3 (fun t u v => hO t (by omega) v)⟩
          · rw [if_neg c1] at h ⊢
            by_cases c2 : w (loq w i j) = 29 ∨ w (loq w i j) = 30
            · rw [if_pos c2] at h ⊢
              obtain ⟨a, h1, h4, h5, h2⟩ := h
              have l1 := h1.lt
              have l2 := h2.lt
              have k1 := hO a (by omega) (by omega)
              exact ⟨a, ih _ _ _ (by omega) h1 (fun t u v => hO t u (by omega)), by rw [k1.1]; exact h4, by rw [k1.2]; exact h5, ih _ _ _ (by omega) h2 (fun t u v => hO t (by omega) v)⟩
            · rw [if_neg c2] at h ⊢
              obtain ⟨a, b, h1, h2, h3, h4, h5⟩ := h
              have l1 := h1.lt
              have l2 := h2.lt
              have k := hO b (by omega) (by omega)
              exact ⟨a, b, ih _ _ _ (by omega) h1 (fun t u v => hO t u (by omega)), ih _ _ _ (by omega) h2 (fun t u v => hO t (by omega) (by omega)), h3, by rw [k.1]; exact h4, by rw [k.2]; exact h5⟩
        · rw [dif_neg hm] at h ⊢
          by_cases c1 : w i = 36
          · rw [if_pos c1] at h ⊢
            exact ih _ _ _ (by omega) h hO
          · rw [if_neg c1] at h ⊢
            by_cases c2 : w i = 25 ∨ w i = 31
            · rw [if_pos c2] at h ⊢
              obtain ⟨b, h1, h2, h3, h4⟩ := h
              have l1 := h1.lt
              have k := hO b (by omega) (by omega)
              exact ⟨b, ih _ _ _ (by omega) h1 (fun t u v => hO t u (by omega)), h2, by rw [k.1]; exact h3, by rw [k.2]; exact h4⟩
            · rw [if_neg c2] at h ⊢
              by_cases c3 : w i = 14 ∨ w i = 15
              · rw [if_pos c3] at h ⊢
                exact ih _ _ _ (by omega) h hO
              · rw [if_neg c3] at h ⊢
                have k := hO s (by omega) (by omega)
                exact ⟨h.1, by rw [k.1]; exact h.2.1, by rw [k.2]; exact h.2.2⟩
    · rw [dif_neg hij] at h
      exact h.elim
theorem Cd.cg {c i j : Nat} (h : Cd w ec pl O P c x y i j s e) (hO : ∀ t, s ≤ t → t < e → O' t = O t ∧ P' t = P t) : Cd w ec pl O' P' c x y i j s e := Cd_cg _ c i j (Nat.le_refl _) h hO
end OQ
end
end
section
section
/-! The class's reader: its piles, and what each step makes of them. -/
/-- an open operation: its number, its word, where the operand behind it begins -/
abbrev gqq : Type := Int × Nat × Nat
def xs9 (i0 : Nat) : List gqq → Nat
  | [] => i0
  | g :: _ => g.2.2
def Gop (w E pl O P : Nat → Int) (ec : Nat → Int × Int) (o : Int) (m x b : Nat) (d k : Int) (kn' kn : List Int) (ft' ft : Int × Int) (e' e : Nat) : Prop :=
  (((o = 37 ∧ w m = 36) ∨ (o = 40 ∧ w m = 25) ∨ (o = 41 ∧ w m = 31)) ∧ m = b ∧ x = b + 1 ∧ d = -1 ∧ k = 0 ∧ kn = kn' ∧ ft = ft' ∧ e = e')
  ∨ ((19 ≤ o ∧ o ≤ 29) ∧ w m = o - 1 ∧ x = m + 1 ∧ Eo w (lsq o) b m ∧ d = -1 ∧ k = 0 ∧ kn = kdq w E 0 b m :: kn' ∧ ft = fst9 ft' (fl w E pl 0 b m) ∧ Cd w ec pl O P 0 0 0 b m e' e)
  ∨ ((o = 30 ∨ o = 31) ∧ w m = o - 1 ∧ x = m + 1 ∧ Eo w (lsq o) b m ∧ k = 0 ∧ kn = kdq w E 0 b m :: kn' ∧ ft = fst9 ft' (fl w E pl 0 b m) ∧ ∃ a : Nat, d = a ∧ e = a + 1 ∧ O a = o ∧ Cd w ec pl O P 0 0 0 b m e' a)
  ∨ (o = 33 ∧ w m = 32 ∧ x = m + 1 ∧ Eo w 5 b m ∧ k = (if kdq w E 0 b m = 1 then 0 else 1) ∧ kn = kn' ∧ ft = fst9 ft' (fl w E pl 0 b m) ∧ ∃ a : Nat, d = a ∧ e = a + 1 ∧ O a = 33 ∧ Cd w ec pl O P 0 0 0 b m e' a)
  ∨ (o = 42 ∧ w m = 32 ∧ Eo w 5 b m ∧ m + 1 < x ∧ Eo w 6 (m + 1) (x - 1) ∧ w (x - 1) = 33 ∧ k = (if kdq w E 0 b m = 1 then 0 else 1) + (if kdq w E 0 (m + 1) (x - 1) = 1 then 4 else 0) ∧ kn = kn' ∧ ft = fst9 (fst9 ft' (fl w E pl 0 b m)) (fl w E pl 0 (m + 1) (x - 1)) ∧ ∃ a c : Nat, d = c ∧ e = c + 1 ∧ O a = 33 ∧ P a = (c : Int) + 1 ∧ O c = 42 ∧ Cd w ec pl O P 0 0 0 b m e' a ∧ Cd w ec pl O P 0 0 0 (m + 1) (x - 1) (a + 1) c)
  ∨ ((o = 15 ∨ o = 16) ∧ w m = o - 1 ∧ w (m + 1) = 36 ∧ m = b ∧ d = -1 ∧ kn = kn' ∧ ((x = m + 2 ∧ k = 0 ∧ ft = ft' ∧ e = e') ∨ (m + 2 < x ∧ Eo w 7 (m + 2) (x - 1) ∧ w (x - 1) = 35 ∧ k = 2 + kdq w E 1 (m + 2) (x - 1) ∧ ft = fst9 ft' (fl w E pl 1 (m + 2) (x - 1)) ∧ Cd w ec pl O P 1 o (pl m) (m + 2) (x - 1) e' e)))
def GSq (w E pl O P : Nat → Int) (ec : Nat → Int × Int) (i0 s : Nat) (f0 : Int × Int) : List gqq → List Int → List Int → List Int → Int × Int → Nat → Prop
  | [], od, mq, kn, ft, e => od = [] ∧ mq = [] ∧ kn = [] ∧ ft = f0 ∧ e = s
  | g :: t, od, mq, kn, ft, e => ∃ d od' k mq' kn' ft' e', od = d :: od' ∧ mq = k :: mq' ∧ e' ≤ e ∧ Gop w E pl O P ec g.1 g.2.1 g.2.2 (xs9 i0 t) d k kn' kn ft' ft e' e ∧ GSq w E pl O P ec i0 s f0 t od' mq' kn' ft' e'
/-- an operand of strength c has been read, up to word a -/
def OPq (w E pl O P : Nat → Int) (ec : Nat → Int × Int) (i0 s : Nat) (f0 : Int × Int) (c : Nat) (gs : List gqq) (od mq kn : List Int) (ft : Int × Int) (e a : Nat) : Prop :=
  ∃ kn' ft' e', GSq w E pl O P ec i0 s f0 gs od mq kn' ft' e' ∧ Eo w c (xs9 i0 gs) a ∧ kn = kdq w E 0 (xs9 i0 gs) a :: kn' ∧ ft = fst9 ft' (fl w E pl 0 (xs9 i0 gs) a) ∧ Cd w ec pl O P 0 0 0 (xs9 i0 gs) a e' e
section OR9
variable {w E pl O P O' P' : Nat → Int} {ec : Nat → Int × Int} {i0 s : Nat} {f0 : Int × Int} {gs t : List gqq} {od mq kn : List Int} {ft : Int × Int} {L a m x c : Nat} {o : Int}
theorem kd01 : ∀ (n c i j : Nat), 2 * (j - i) + c ≤ n → (kdq w E c i j = 0 ∨ kdq w E c i j = 1) := by
  intro n
  induction n with
  | zero =>
    intro c i j hn
    rw [kdq, dif_neg (by omega)]
    exact Or.inl rfl
  | succ n ih =>
    intro c i j hn
    have a1 := lcq_le (w := w) (i := i) (j - i)
    have a2 := clq_b (w := w) (m := loq w i j) (j := j)
    rw [kdq]
    by_cases hij : i < j
    · rw [dif_pos hij]
      by_cases hc : c = 1
      · rw [dif_pos hc]
        by_cases hp : lcq w i (j - i) = 0
        · rw [dif_pos hp]
          exact ih _ _ _ (by omega)
        · rw [dif_neg hp]
          split
          · exact Or.inr rfl
          · exact Or.inl rfl
      · rw [dif_neg hc]
        by_cases hm : lin w i j
        · rw [dif_pos hm]
          have a3 := hm.2
          split
          · exact ih _ _ _ (by omega)
          · split
            · exact Or.inr rfl
            · exact Or.inl rfl
        · rw [dif_neg hm]
          split
          · exact ih _ _ _ (by omega)
          · split
            · exact Or.inr rfl
            · split
              · exact Or.inr rfl
              · exact Or.inl rfl
    · rw [dif_neg hij]
      exact Or.inl rfl
theorem kd_01 {c i j : Nat} : kdq w E c i j = 0 ∨ kdq w E c i j = 1 := kd01 _ c i j (Nat.le_refl _)
theorem Gop.cg {m x b : Nat} {d k : Int} {kn' : List Int} {ft' : Int × Int} {e' e : Nat} (h : Gop w E pl O P ec o m x b d k kn' kn ft' ft e' e) (hO : ∀ t, t < e → O' t = O t ∧ P' t = P t) : Gop w E pl O' P' ec o m x b d k kn' kn ft' ft e' e := by
  rcases h with h | ⟨h1, h2, h3, h4, h5, h6, h7, h8, h9⟩ | ⟨h1, h2, h3, h4, h5, h6, h7, a, h8, h9, h10, h11⟩ | ⟨h1, h2, h3, h4, h5, h6, h7, a, h8, h9, h10, h11⟩ | ⟨h1, h2, h3, h4, h5, h6, h7, h8, h9, a, c, k1, k2, k3, k4, k5, k6, k7⟩ | ⟨h1, h2, h3, h4, h5, h6, h7⟩
  · exact Or.inl h
  · exact Or.inr (Or.inl ⟨h1, h2, h3, h4, h5, h6, h7, h8, h9.cg (fun t _ q => hO t q)⟩)
  · exact Or.inr (Or.inr (Or.inl ⟨h1, h2, h3, h4, h5, h6, h7, a, h8, h9, by rw [(hO a (by omega)).1]; exact h10, h11.cg (fun t _ q => hO t (by omega))⟩))
  · exact Or.inr (Or.inr (Or.inr (Or.inl ⟨h1, h2, h3, h4, h5, h6, h7, a, h8, h9, by rw [(hO a (by omega)).1]; exact h10, h11.cg (fun t _ q => hO t (by omega))⟩)))
  · have l7 := k7.lt
    exact Or.inr (Or.inr (Or.inr (Or.inr (Or.inl ⟨h1, h2, h3, h4, h5, h6, h7, h8, h9, a, c, k1, k2, by rw [(hO a (by omega)).1]; exact k3, by rw [(hO a (by omega)).2]; exact k4, by rw [(hO c (by omega)).1]; exact k5, k6.cg (fun t _ q => hO t (by omega)), k7.cg (fun t _ q => hO t (by omega))⟩))))
  · refine Or.inr (Or.inr (Or.inr (Or.inr (Or.inr ⟨h1, h2, h3, h4, h5, h6, ?_⟩))))
    rcases h7 with h7 | ⟨a1, a2, a3, a4, a5, a6⟩
    · exact Or.inl h7
    · exact Or.inr ⟨a1, a2, a3, a4, a5, a6.cg (fun t _ q => hO t q)⟩
theorem GSq.cg : ∀ {gs : List gqq} {od mq kn : List Int} {ft : Int × Int} {e : Nat}, GSq w E pl O P ec i0 s f0 gs od mq kn ft e → (∀ t, t < e → O' t = O t ∧ P' t = P t) → GSq w E pl O' P' ec i0 s f0 gs od mq kn ft e
  | [], od, mq, kn, ft, e, h, _ => h
  | g :: t, od, mq, kn, ft, e, h, hO => by
    obtain ⟨d, od', k, mq', kn', ft', e', h1, h2, h3, h4, h5⟩ := h
    exact ⟨d, od', k, mq', kn', ft', e', h1, h2, h3, h4.cg hO, h5.cg (fun t q => hO t (by omega))⟩
theorem eo_leaf_lo (hw : w a = 1 ∨ w a = 2 ∨ w a = 12 ∨ w a = 13) : lo w a (a + 1) = -1 := lo_none (eo0_leaf hw).pr
/-- a value has been read -/
theorem OPq.val (h : GSq w E pl O P ec i0 s f0 gs od mq kn ft L) (ha : xs9 i0 gs = a) (hw : w a = 1 ∨ w a = 2 ∨ w a = 12 ∨ w a = 13) (hO : ∀ t, t < L → O' t = O t ∧ P' t = P t) (h1 : O' L = (ec a).1) (h2 : P' L = (ec a).2) : OPq w E pl O' P' ec i0 s f0 0 gs od mq (kdq w E 0 a (a + 1) :: kn) (fst9 ft (fl w E pl 0 a (a + 1))) (L + 1) (a + 1) :=
  ⟨kn, ft, L, h.cg hO, by rw [ha]; exact eo0_leaf hw, by rw [ha], by rw [ha], by rw [ha]; exact (Cd_leaf (eo_leaf_lo hw) (by omega) hw).mpr ⟨rfl, h1, h2⟩⟩
/-- a parenthesis, a sign before an operand -/
theorem GSq.pre (h : GSq w E pl O P ec i0 s f0 gs od mq kn ft L) (ha : xs9 i0 gs = a) (ho : (o = 37 ∧ w a = 36) ∨ (o = 40 ∧ w a = 25) ∨ (o = 41 ∧ w a = 31)) : GSq w E pl O P ec i0 s f0 ((o, a, a + 1) :: gs) (-1 :: od) (0 :: mq) kn ft L :=
  ⟨-1, od, 0, mq, kn, ft, L, rfl, rfl, Nat.le_refl _, Or.inl ⟨ho, ha.symm, by rw [ha], rfl, rfl, rfl, rfl, rfl⟩, h⟩
theorem GSq.lst (h : GSq w E pl O P ec i0 s f0 gs od mq kn ft L) (ha : xs9 i0 gs = a) (ho : o = 15 ∨ o = 16) (hw : w a = o - 1) (h1 : w (a + 1) = 36) : GSq w E pl O P ec i0 s f0 ((o, a, a + 2) :: gs) (-1 :: od) (0 :: mq) kn ft L :=
  ⟨-1, od, 0, mq, kn, ft, L, rfl, rfl, Nat.le_refl _, Or.inr (Or.inr (Or.inr (Or.inr (Or.inr ⟨ho, hw, h1, ha.symm, rfl, rfl, Or.inl ⟨rfl, rfl, rfl, rfl⟩⟩)))), h⟩
theorem kft_iff {p q : Prop} {x : Int} (h : p ↔ q) : kft p x = kft q x := by rw [propext h]
/-- a sign before an operand is grouped -/
theorem OPq.gpre (h : OPq w E pl O P ec i0 s f0 c ((o, m, x) :: t) od mq kn ft L a) (ho : o = 40 ∨ o = 41) (hc : c ≤ rsq o) : ∃ od' mq' last kn', od = -1 :: od' ∧ mq = 0 :: mq' ∧ kn = last :: kn' ∧ (last = 0 ∨ last = 1) ∧ ∀ O' P' : Nat → Int, (∀ t, t < L → O' t = O t ∧ P' t = P t) → O' L = o → P' L = pl m → OPq w E pl O' P' ec i0 s f0 (cst o) t od' mq' ((if o = 41 then 1 else 0) :: kn') (fst9 ft (kft (last = if o = 41 then 1 else 0) (pl m))) (L + 1) a := by
  obtain ⟨kn', ft', e', ⟨d, od', k, mq', kn1, ft1, e1, g1, g2, g3, g4, g5⟩, h2, h3, h4, h5⟩ := h
  have h2 : Eo w c x a := h2
  have h3 : kn = kdq w E 0 x a :: kn' := h3
  have h4 : ft = fst9 ft' (fl w E pl 0 x a) := h4
  have h5 : Cd w ec pl O P 0 0 0 x a e' L := h5
  have g4 : Gop w E pl O P ec o m x (xs9 i0 t) d k kn1 kn' ft1 ft' e1 e' := g4
  rcases g4 with ⟨q1, q2, q3, q4, q5, q6, q7, q8⟩ | ⟨q1, -⟩ | ⟨q1, -⟩ | ⟨q1, -⟩ | ⟨q1, -⟩ | ⟨q1, -⟩
  · subst q4 q5 q6 q7 q8
    refine ⟨od', mq', _, kn', g1, g2, h3, kd_01, fun O' P' hO hL hP => ?_⟩
    have hx : x = m + 1 := by omega
    subst hx
    have hb : xs9 i0 t = m := q2.symm
    have pr := h2.pr
    have hj := pr.1
    have l5 := h5.lt
    rcases ho with e | e
    · subst e
      have hw : w m = 25 := by omega
      have hc0 : c = 0 := by have : rsq 40 = 0 := by decide
                             omega
      subst hc0
      have eo := eo0_neg hw h2
      have hlo := lo_none eo.pr
      refine ⟨kn', ft', e', g5.cg (fun u v => hO u (by omega)), by rw [hb]; exact eo, by rw [hb, kd_num hlo (by omega) (Or.inl hw), if_neg (by decide)], ?_, ?_⟩
      · rw [hb, fl_neg hlo (by omega) hw, h4, fst9_a, if_neg (by decide)]; rfl
      · rw [hb]
        exact (Cd_pre hlo (by omega) (Or.inl hw)).mpr ⟨L, h5.cg (fun u _ v => hO u v), rfl, by rw [if_pos hw]; exact hL, hP⟩
    · subst e
      have hw : w m = 31 := by omega
      have h3' : Eo w 3 (m + 1) a := h2.le (by have : rsq 41 = 3 := by decide
                                               omega) (by omega)
      have eo := eo3n hw h3'
      have hlo := lo_not eo.pr hw
      refine ⟨kn', ft', e', g5.cg (fun u v => hO u (by omega)), by rw [hb]; exact eo, by rw [hb, kd_tru hlo (by omega) (Or.inl hw), if_pos rfl], ?_, ?_⟩
      · rw [hb, fl_not hlo (by omega) hw, h4, fst9_a, if_pos rfl]; rfl
      · rw [hb]
        exact (Cd_pre hlo (by omega) (Or.inr hw)).mpr ⟨L, h5.cg (fun u _ v => hO u v), rfl, by rw [if_neg (by omega)]; exact hL, hP⟩
  · omega
  · omega
  · omega
  · omega
  · omega
/-- a sign between two operands is grouped -/
theorem OPq.gbin (h : OPq w E pl O P ec i0 s f0 c ((o, m, x) :: t) od mq kn ft L a) (ho : 19 ≤ o ∧ o ≤ 29) (hc : c ≤ rsq o) : ∃ od' mq' last left kn', od = -1 :: od' ∧ mq = 0 :: mq' ∧ kn = last :: left :: kn' ∧ ((last = 0 ∨ last = 1) ∧ (left = 0 ∨ left = 1)) ∧ ∀ O' P' : Nat → Int, (∀ t, t < L → O' t = O t ∧ P' t = P t) → O' L = o → P' L = pl m → OPq w E pl O' P' ec i0 s f0 (cst o) t od' mq' ((if o ≤ 24 then 1 else 0) :: kn') (fst9 ft (kft (okq (o - 1) left last) (pl m))) (L + 1) a := by
  obtain ⟨kn', ft', e', ⟨d, od', k, mq', kn1, ft1, e1, g1, g2, g3, g4, g5⟩, h2, h3, h4, h5⟩ := h
  have h2 : Eo w c x a := h2
  have h3 : kn = kdq w E 0 x a :: kn' := h3
  have h4 : ft = fst9 ft' (fl w E pl 0 x a) := h4
  have h5 : Cd w ec pl O P 0 0 0 x a e' L := h5
  have g4 : Gop w E pl O P ec o m x (xs9 i0 t) d k kn1 kn' ft1 ft' e1 e' := g4
  rcases g4 with ⟨q1, -⟩ | ⟨q1, q2, q3, q4, q5, q6, q7, q8, q9⟩ | ⟨q1, -⟩ | ⟨q1, -⟩ | ⟨q1, -⟩ | ⟨q1, -⟩
  · omega
  · subst q5 q6 q3 q7 q8
    refine ⟨od', mq', _, _, kn1, g1, g2, h3, ⟨kd_01, kd_01⟩, fun O' P' hO hL hP => ?_⟩
    have p2 := h2.pr
    have hj := p2.1
    have l5 := h5.lt
    have l9 := q9.lt
    have p4 := q4.pr.1
    obtain ⟨hlo, eo⟩ := lo_bin q4 (h2.le hc (rsq_le o)) q2 (by omega)
    have htru : (haveI := Classical.propDecidable (tru (w m)); if tru (w m) then (1 : Int) else 0) = if o ≤ 24 then 1 else 0 := by
      by_cases y : o ≤ 24
      · rw [if_pos y, if_pos (by unfold tru; omega)]
      · rw [if_neg y, if_neg (by unfold tru; omega)]
    refine ⟨kn1, ft1, e1, g5.cg (fun u v => hO u (by omega)), eo, ?_, ?_, ?_⟩
    · rw [kd_bin hlo (by omega) (by omega) (by omega), htru]
    · rw [fl_bin hlo (by omega) (by omega) (by omega), h4, q2, fst9_a, fst9_a, fst9_a]
    · exact (Cd_bin hlo (by omega) (by omega) (by omega) (by omega) (by omega)).mpr ⟨e', L, q9.cg (fun u _ v => hO u (by omega)), h5.cg (fun u _ v => hO u v), rfl, by rw [q2, hL]; omega, hP⟩
  · omega
  · omega
  · omega
  · omega
/-- '&' or '|' is grouped -/
theorem OPq.gjmp (h : OPq w E pl O P ec i0 s f0 c ((o, m, x) :: t) od mq kn ft L a) (ho : o = 30 ∨ o = 31) (hc : c ≤ rsq o) : ∃ (d : Nat) (od' mq' : List Int) (last left : Int) (kn' : List Int), od = (d : Int) :: od' ∧ mq = 0 :: mq' ∧ kn = last :: left :: kn' ∧ ((last = 0 ∨ last = 1) ∧ (left = 0 ∨ left = 1)) ∧ d < L ∧ ∀ O' P' : Nat → Int, (∀ t, t < L → O' t = O t) → (∀ t, t < L → t ≠ d → P' t = P t) → P' d = L → OPq w E pl O' P' ec i0 s f0 (cst o) t od' mq' (1 :: kn') (fst9 ft (kft (okq (o - 1) left last) (pl m))) L a := by
  obtain ⟨kn', ft', e', ⟨d, od', k, mq', kn1, ft1, e1, g1, g2, g3, g4, g5⟩, h2, h3, h4, h5⟩ := h
  have h2 : Eo w c x a := h2
  have h3 : kn = kdq w E 0 x a :: kn' := h3
  have h4 : ft = fst9 ft' (fl w E pl 0 x a) := h4
  have h5 : Cd w ec pl O P 0 0 0 x a e' L := h5
  have g4 : Gop w E pl O P ec o m x (xs9 i0 t) d k kn1 kn' ft1 ft' e1 e' := g4
  rcases g4 with ⟨q1, -⟩ | ⟨q1, -⟩ | ⟨q1, q2, q3, q4, q6, q7, q8, d9, r1, r2, r3, q9⟩ | ⟨q1, -⟩ | ⟨q1, -⟩ | ⟨q1, -⟩
  · omega
  · omega
  · subst q6 q3 q7 q8 r1 r2
    have p2 := h2.pr
    have hj := p2.1
    have l5 := h5.lt
    have l9 := q9.lt
    have p4 := q4.pr.1
    refine ⟨d9, od', mq', _, _, kn1, g1, g2, h3, ⟨kd_01, kd_01⟩, by omega, fun O' P' hO hP hd => ?_⟩
    obtain ⟨hlo, eo⟩ := lo_bin q4 (h2.le hc (rsq_le o)) q2 (by omega)
    have htru : (haveI := Classical.propDecidable (tru (w m)); if tru (w m) then (1 : Int) else 0) = 1 := by
      rw [if_pos (by unfold tru; omega)]
    refine ⟨kn1, ft1, e1, g5.cg (fun u v => ⟨hO u (by omega), hP u (by omega) (by omega)⟩), eo, ?_, ?_, ?_⟩
    · rw [kd_bin hlo (by omega) (by omega) (by omega), htru]
    · rw [fl_bin hlo (by omega) (by omega) (by omega), h4, q2, fst9_a, fst9_a, fst9_a]
    · exact (Cd_jmp hlo (by omega) (by omega) (by omega)).mpr ⟨d9, q9.cg (fun u _ v => ⟨hO u (by omega), hP u (by omega) (by omega)⟩), by rw [hO d9 (by omega), r3, q2]; omega, hd, h5.cg (fun u v1 v => ⟨hO u v, hP u v (by omega)⟩)⟩
  · omega
  · omega
  · omega
/-- a '?' with its ':' is grouped -/
theorem OPq.gels (h : OPq w E pl O P ec i0 s f0 c ((42, m, x) :: t) od mq kn ft L a) (hc : c ≤ 6) : ∃ (d : Nat) (od' : List Int) (k : Int) (mq' : List Int) (last : Int) (kn' : List Int), od = (d : Int) :: od' ∧ mq = k :: mq' ∧ kn = last :: kn' ∧ ((last = 0 ∨ last = 1) ∧ 0 ≤ k ∧ k ≤ 5) ∧ d < L ∧ ∀ O' P' : Nat → Int, (∀ t, t < L → O' t = O t) → (∀ t, t < L → t ≠ d → P' t = P t) → P' d = L → OPq w E pl O' P' ec i0 s f0 6 t od' mq' (last :: kn') (fst9 ft (kft (k = if last = 1 then 4 else 0) (pl m))) L a := by
  obtain ⟨kn', ft', e', ⟨d, od', k, mq', kn1, ft1, e1, g1, g2, g3, g4, g5⟩, h2, h3, h4, h5⟩ := h
  have h2 : Eo w c x a := h2
  have h3 : kn = kdq w E 0 x a :: kn' := h3
  have h4 : ft = fst9 ft' (fl w E pl 0 x a) := h4
  have h5 : Cd w ec pl O P 0 0 0 x a e' L := h5
  have g4 : Gop w E pl O P ec 42 m x (xs9 i0 t) d k kn1 kn' ft1 ft' e1 e' := g4
  rcases g4 with ⟨q1, -⟩ | ⟨q1, -⟩ | ⟨q1, -⟩ | ⟨q1, -⟩ | ⟨q1, q2, q3, q4, q5, q6, q7, q8, q9, d1, d2, r1, r2, r3, r4, r5, r6, r7⟩ | ⟨q1, -⟩
  · omega
  · omega
  · omega
  · omega
  · subst q8 q9 r1 r2
    have p2 := h2.pr
    have hj := p2.1
    have l5 := h5.lt
    have l6 := r6.lt
    have l7 := r7.lt
    have p3 := q3.pr
    have ex1 : x - 1 + 1 = x := by omega
    have k1 := kd_01 (w := w) (E := E) (c := 0) (i := xs9 i0 t) (j := m)
    have k2 := kd_01 (w := w) (E := E) (c := 0) (i := m + 1) (j := x - 1)
    have k3 := kd_01 (w := w) (E := E) (c := 0) (i := x) (j := a)
    refine ⟨d2, od', k, mq', _, kn', g1, g2, h3, ⟨k3, by rw [q7]; (repeat' split) <;> omega, by rw [q7]; (repeat' split) <;> omega⟩, by omega, fun O' P' hO hP hd => ?_⟩
    have hlo := lo_ask p3 q2 (j := a) (by omega)
    have hcl : clq w m a = x - 1 := clq_eo q5 q6 (by omega)
    have eo : Eo w 6 (xs9 i0 t) a := eo6 q2 q6 q3 q5 (by rw [ex1]; exact h2.le hc (by omega))
    refine ⟨kn', ft1, e1, g5.cg (fun u v => ⟨hO u (by omega), hP u (by omega) (by omega)⟩), eo, ?_, ?_, ?_⟩
    · rw [kd_ask hlo (Nat.le_of_lt p3.1) (by omega) q2 hcl, ex1]
    · rw [fl_ask hlo (Nat.le_of_lt p3.1) (by omega) q2 hcl, h4, ex1, fst9_a, fst9_a, fst9_a, fst9_a, fst9_a]
      refine congrArg (fun z => fst9 ft1 (fst9 _ (fst9 _ (fst9 _ z)))) (kft_iff ?_)
      rw [q7]
      rcases k1 with k1 | k1 <;> rcases k2 with k2 | k2 <;> rcases k3 with k3 | k3 <;> rw [k1, k2, k3] <;> decide
    · refine (Cd_ask hlo (Nat.le_of_lt p3.1) (by omega) q2 hcl).mpr ⟨d1, d2, r6.cg (fun u _ v => ⟨hO u (by omega), hP u (by omega) (by omega)⟩), by rw [hO d1 (by omega)]; exact r3, by rw [hP d1 (by omega) (by omega)]; exact r4, r7.cg (fun u _ v => ⟨hO u (by omega), hP u (by omega) (by omega)⟩), by rw [hO d2 (by omega)]; exact r5, hd, ?_⟩
      rw [ex1]
      exact h5.cg (fun u v1 v => ⟨hO u v, hP u v (by omega)⟩)
  · omega
end OR9
end
section
/-! The class's reader: more steps over its piles. -/
section OS9
variable {w E pl O P O' P' : Nat → Int} {ec : Nat → Int × Int} {i0 s : Nat} {f0 : Int × Int} {gs t : List gqq} {od mq kn : List Int} {ft : Int × Int} {L a m x c : Nat} {o : Int}
theorem lsq_le (o : Int) : lsq o ≤ 6 := by unfold lsq; (repeat' split) <;> omega
/-- behind an operand comes a sign -/
theorem OPq.sbin (h : OPq w E pl O P ec i0 s f0 c gs od mq kn ft L a) (ho : 19 ≤ o ∧ o ≤ 29) (hw : w a = o - 1) (hc : c ≤ lsq o) : GSq w E pl O P ec i0 s f0 ((o, a, a + 1) :: gs) (-1 :: od) (0 :: mq) kn ft L := by
  obtain ⟨kn', ft', e', h1, h2, h3, h4, h5⟩ := h
  exact ⟨-1, od, 0, mq, kn', ft', e', rfl, rfl, Nat.le_of_lt h5.lt, Or.inr (Or.inl ⟨ho, hw, rfl, h2.le hc (lsq_le o), rfl, rfl, h3, h4, h5⟩), h1⟩
theorem OPq.sjmp (h : OPq w E pl O P ec i0 s f0 c gs od mq kn ft L a) (ho : o = 30 ∨ o = 31) (hw : w a = o - 1) (hc : c ≤ lsq o) (hO : ∀ t, t < L → O' t = O t ∧ P' t = P t) (hL : O' L = o) : GSq w E pl O' P' ec i0 s f0 ((o, a, a + 1) :: gs) ((L : Int) :: od) (0 :: mq) kn ft (L + 1) := by
  obtain ⟨kn', ft', e', h1, h2, h3, h4, h5⟩ := h
  have l := h5.lt
  exact ⟨L, od, 0, mq, kn', ft', e', rfl, rfl, by omega, Or.inr (Or.inr (Or.inl ⟨ho, hw, rfl, h2.le hc (lsq_le o), rfl, h3, h4, L, rfl, rfl, hL, h5.cg (fun u _ v => hO u v)⟩)), h1.cg (fun u v => hO u (by omega))⟩
theorem OPq.sask (h : OPq w E pl O P ec i0 s f0 c gs od mq kn ft L a) (hw : w a = 32) (hc : c ≤ 5) (hO : ∀ t, t < L → O' t = O t ∧ P' t = P t) (hL : O' L = 33) : ∃ last kn', kn = last :: kn' ∧ (last = 0 ∨ last = 1) ∧ GSq w E pl O' P' ec i0 s f0 ((33, a, a + 1) :: gs) ((L : Int) :: od) ((if last = 1 then 0 else 1) :: mq) kn' ft (L + 1) := by
  obtain ⟨kn', ft', e', h1, h2, h3, h4, h5⟩ := h
  have l := h5.lt
  exact ⟨_, kn', h3, kd_01, L, od, _, mq, kn', ft', e', rfl, rfl, by omega, Or.inr (Or.inr (Or.inr (Or.inl ⟨rfl, hw, rfl, h2.le hc (by omega), rfl, rfl, h4, L, rfl, rfl, hL, h5.cg (fun u _ v => hO u v)⟩))), h1.cg (fun u v => hO u (by omega))⟩
/-- the ':' of a '?' -/
theorem OPq.colon (h : OPq w E pl O P ec i0 s f0 c ((33, m, x) :: t) od mq kn ft L a) (hw : w a = 33) (hc : c ≤ 6) : ∃ (d : Nat) (od' : List Int) (k : Int) (mq' : List Int) (last : Int) (kn' : List Int), od = (d : Int) :: od' ∧ mq = k :: mq' ∧ kn = last :: kn' ∧ ((last = 0 ∨ last = 1) ∧ (k = 0 ∨ k = 1)) ∧ d < L ∧ ∀ O' P' : Nat → Int, (∀ t, t < L → O' t = O t) → (∀ t, t < L → t ≠ d → P' t = P t) → O' L = 42 → P' d = (L : Int) + 1 → GSq w E pl O' P' ec i0 s f0 ((42, m, a + 1) :: t) ((L : Int) :: od') ((k + if last = 1 then 4 else 0) :: mq') kn' ft (L + 1) := by
  obtain ⟨kn', ft', e', ⟨d, od', k, mq', kn1, ft1, e1, g1, g2, g3, g4, g5⟩, h2, h3, h4, h5⟩ := h
  have h2 : Eo w c x a := h2
  have h3 : kn = kdq w E 0 x a :: kn' := h3
  have h4 : ft = fst9 ft' (fl w E pl 0 x a) := h4
  have h5 : Cd w ec pl O P 0 0 0 x a e' L := h5
  have g4 : Gop w E pl O P ec 33 m x (xs9 i0 t) d k kn1 kn' ft1 ft' e1 e' := g4
  rcases g4 with ⟨q1, -⟩ | ⟨q1, -⟩ | ⟨q1, -⟩ | ⟨q1, q2, q3, q4, q6, q7, q8, d9, r1, r2, r3, q9⟩ | ⟨q1, -⟩ | ⟨q1, -⟩
  · omega
  · omega
  · omega
  · subst q3 q7 q8 r1 r2
    have l5 := h5.lt
    have l9 := q9.lt
    have hj := h2.pr.1
    refine ⟨d9, od', k, mq', _, kn', g1, g2, h3, ⟨kd_01, by rw [q6]; split <;> omega⟩, by omega, fun O' P' hO hP hL hd => ?_⟩
    refine ⟨L, od', _, mq', kn', ft1, e1, rfl, rfl, by omega, Or.inr (Or.inr (Or.inr (Or.inr (Or.inl ⟨rfl, q2, q4, by show m + 1 < a + 1; omega, h2.le hc (by omega), hw, by rw [q6]; rfl, rfl, ?_, d9, L, rfl, rfl, by rw [hO d9 (by omega)]; exact r3, hd, hL, q9.cg (fun u _ v => ⟨hO u (by omega), hP u (by omega) (by omega)⟩), h5.cg (fun u v1 v => ⟨hO u v, hP u v (by omega)⟩)⟩)))), g5.cg (fun u v => ⟨hO u (by omega), hP u (by omega) (by omega)⟩)⟩
    exact h4
  · omega
  · omega
/-- a part of a list is over -/
theorem OPq.part (h : OPq w E pl O P ec i0 s f0 c ((o, m, x) :: t) od mq kn ft L a) (ho : o = 15 ∨ o = 16) (hc : c ≤ 6) : ∃ (od' : List Int) (k : Int) (mq' : List Int) (last : Int) (kn' : List Int), od = -1 :: od' ∧ mq = k :: mq' ∧ kn = last :: kn' ∧ ((last = 0 ∨ last = 1) ∧ (k = 0 ∨ k = 2 ∨ k = 3)) ∧ w m = o - 1 ∧ w (m + 1) = 36 ∧ m = xs9 i0 t ∧ m + 2 < a ∧ Eo w 7 (m + 2) a ∧ kdq w E 1 (m + 2) a = (if k = 3 ∨ last = 1 then 1 else 0) ∧ ∃ ft1 e1, ft = fst9 ft1 (fl w E pl 1 (m + 2) a) ∧ e1 < L ∧ (∀ O' P' : Nat → Int, (∀ t, t < L → O' t = O t ∧ P' t = P t) → GSq w E pl O' P' ec i0 s f0 t od' mq' kn' ft1 e1) ∧ ∀ O' P' : Nat → Int, (∀ t, t < L → O' t = O t ∧ P' t = P t) → (k = 0 → Cd w ec pl O' P' 1 o (pl m) (m + 2) a e1 L) ∧ (k ≠ 0 → O' L = o → P' L = pl m → Cd w ec pl O' P' 1 o (pl m) (m + 2) a e1 (L + 1)) := by
  obtain ⟨kn', ft', e', ⟨d, od', k, mq', kn1, ft1, e1, g1, g2, g3, g4, g5⟩, h2, h3, h4, h5⟩ := h
  have h2 : Eo w c x a := h2
  have h3 : kn = kdq w E 0 x a :: kn' := h3
  have h4 : ft = fst9 ft' (fl w E pl 0 x a) := h4
  have h5 : Cd w ec pl O P 0 0 0 x a e' L := h5
  have g4 : Gop w E pl O P ec o m x (xs9 i0 t) d k kn1 kn' ft1 ft' e1 e' := g4
  have h6 : Eo w 6 x a := h2.le hc (by omega)
  have l5 := h5.lt
  have hj := h6.pr.1
  have k3 := kd_01 (w := w) (E := E) (c := 0) (i := x) (j := a)
  rcases g4 with ⟨q1, -⟩ | ⟨q1, -⟩ | ⟨q1, -⟩ | ⟨q1, -⟩ | ⟨q1, -⟩ | ⟨q1, q2, q3, q4, q5, q6, q7⟩
  · omega
  · omega
  · omega
  · omega
  · omega
  · subst q5 q6
    rcases q7 with ⟨r1, r2, r3, r4⟩ | ⟨r1, r2, r3, r4, r5, r6⟩
    · subst r1 r2 r3 r4
      have l0 := lcq_eo h6 (by omega)
      refine ⟨od', 0, mq', _, kn', g1, g2, h3, ⟨k3, Or.inl rfl⟩, q2, q3, q4, hj, h6.one (by omega), ?_, ft', e', ?_, l5, fun O' P' hO => g5.cg (fun u v => hO u (by omega)), fun O' P' hO => ⟨fun _ => (Cd_l1 hj l0).mpr (h5.cg (fun u _ v => hO u v)), fun q => absurd rfl q⟩⟩
      · rw [kd_l1 hj l0]
        rcases k3 with k3 | k3 <;> rw [k3] <;> decide
      · rw [fl_l1 hj l0]; exact h4
    · have ex1 : x - 1 + 1 = x := by omega
      have h6' : Eo w 6 (x - 1 + 1) a := by rw [ex1]; exact h6
      have l0 := lcq_7 r2 r3 h6'
      have k1 := kd_01 (w := w) (E := E) (c := 1) (i := m + 2) (j := x - 1)
      have l6 := r6.lt
      have hm := r2.pr.1
      refine ⟨od', k, mq', _, kn', g1, g2, h3, ⟨k3, by omega⟩, q2, q3, q4, by omega, eo7 r3 r2 h6', ?_, ft1, e1, ?_, by omega, fun O' P' hO => g5.cg (fun u v => hO u (by omega)), fun O' P' hO => ⟨fun q => by omega, fun _ hL hP => (Cd_ln (m := x - 1) (by omega) l0 (by omega)).mpr ⟨e', L, r6.cg (fun u _ v => hO u (by omega)), by rw [ex1]; exact h5.cg (fun u _ v => hO u v), rfl, hL, hP⟩⟩⟩
      · rw [kd_ln (m := x - 1) (by omega) l0 (by omega), ex1, r4]
        rcases k1 with k1 | k1 <;> rcases k3 with k3 | k3 <;> rw [k1, k3] <;> decide
      · rw [fl_ln (m := x - 1) (by omega) l0 (by omega), ex1, h4, r5, fst9_a]
theorem OPq.comma (h : OPq w E pl O P ec i0 s f0 c ((o, m, x) :: t) od mq kn ft L a) (ho : o = 15 ∨ o = 16) (hc : c ≤ 6) (hw : w a = 35) : ∃ (od' : List Int) (k : Int) (mq' : List Int) (last : Int) (kn' : List Int), od = -1 :: od' ∧ mq = k :: mq' ∧ kn = last :: kn' ∧ ((last = 0 ∨ last = 1) ∧ (k = 0 ∨ k = 2 ∨ k = 3)) ∧ ∀ (O' P' : Nat → Int) (L' : Nat), (∀ t, t < L → O' t = O t ∧ P' t = P t) → (k = 0 → L' = L) → (k ≠ 0 → L' = L + 1 ∧ O' L = o ∧ P' L = pl m) → GSq w E pl O' P' ec i0 s f0 ((o, m, a + 1) :: t) (-1 :: od') ((if k = 3 ∨ last = 1 then 3 else 2) :: mq') kn' ft L' := by
  obtain ⟨od', k, mq', last, kn', h1, h2, h3, h4, h5, h6, h7, h8, h9, h10, ft1, e1, h11, h12, h13, h14⟩ := h.part ho hc
  refine ⟨od', k, mq', last, kn', h1, h2, h3, h4, fun O' P' L' hO hL0 hL1 => ?_⟩
  have cd : Cd w ec pl O' P' 1 o (pl m) (m + 2) a e1 L' := by
    by_cases z : k = 0
    · rw [hL0 z]; exact (h14 O' P' hO).1 z
    · obtain ⟨a1, a2, a3⟩ := hL1 z
      rw [a1]; exact (h14 O' P' hO).2 z a2 a3
  refine ⟨-1, od', _, mq', kn', ft1, e1, rfl, rfl, Nat.le_of_lt cd.lt, Or.inr (Or.inr (Or.inr (Or.inr (Or.inr ⟨ho, h5, h6, h7, rfl, rfl, Or.inr ⟨by show m + 2 < a + 1; omega, h9, hw, ?_, h11, cd⟩⟩)))), h13 O' P' hO⟩
  show (if k = 3 ∨ last = 1 then (3 : Int) else 2) = 2 + kdq w E 1 (m + 2) a
  rw [h10]
  by_cases z : k = 3 ∨ last = 1
  · rw [if_pos z, if_pos z]; rfl
  · rw [if_neg z, if_neg z]; rfl
theorem OPq.clos (h : OPq w E pl O P ec i0 s f0 c ((o, m, x) :: t) od mq kn ft L a) (ho : o = 15 ∨ o = 16) (hc : c ≤ 6) (hw : w a = 37) : ∃ (od' : List Int) (k : Int) (mq' : List Int) (last : Int) (kn' : List Int), od = -1 :: od' ∧ mq = k :: mq' ∧ kn = last :: kn' ∧ ((last = 0 ∨ last = 1) ∧ (k = 0 ∨ k = 2 ∨ k = 3)) ∧ ∀ (O' P' : Nat → Int) (L' : Nat), (∀ t, t < L → O' t = O t ∧ P' t = P t) → (k = 0 → L' = L) → (k ≠ 0 → L' = L + 1 ∧ O' L = o ∧ P' L = pl m) → OPq w E pl O' P' ec i0 s f0 0 t od' mq' (0 :: kn') (fst9 ft (kft (¬ (k = 3 ∨ last = 1)) (pl m))) L' (a + 1) := by
  obtain ⟨od', k, mq', last, kn', h1, h2, h3, h4, h5, h6, h7, h8, h9, h10, ft1, e1, h11, h12, h13, h14⟩ := h.part ho hc
  refine ⟨od', k, mq', last, kn', h1, h2, h3, h4, fun O' P' L' hO hL0 hL1 => ?_⟩
  have cd : Cd w ec pl O' P' 1 o (pl m) (m + 2) a e1 L' := by
    by_cases z : k = 0
    · rw [hL0 z]; exact (h14 O' P' hO).1 z
    · obtain ⟨a1, a2, a3⟩ := hL1 z
      rw [a1]; exact (h14 O' P' hO).2 z a2 a3
  have h15 : w m = 14 ∨ w m = 15 := by omega
  have eo : Eo w 0 m (a + 1) := eo0_lst h15 h6 hw h9
  have hlo := lo_none eo.pr
  refine ⟨kn', ft1, e1, h13 O' P' hO, by rw [← h7]; exact eo, by rw [← h7, kd_num hlo (by omega) (by omega)], ?_, ?_⟩
  · rw [← h7, fl_lst hlo (by omega) h15, show a + 1 - 1 = a by omega, h11, fst9_a]
    refine congrArg (fun z => fst9 ft1 (fst9 _ z)) (kft_iff ?_)
    rw [h10]
    by_cases z : k = 3 ∨ last = 1
    · rw [if_pos z]
      exact ⟨fun q => absurd z q, fun q => absurd q (by decide)⟩
    · rw [if_neg z]
      exact ⟨fun _ => rfl, fun _ => z⟩
  · rw [← h7]
    refine (Cd_lst hlo (by omega) h15).mpr ?_
    rw [show a + 1 - 1 = a by omega, h5, show o - 1 + 1 = o by omega]
    exact cd
theorem OPq.cpar (h : OPq w E pl O P ec i0 s f0 c ((37, m, x) :: t) od mq kn ft L a) (hc : c ≤ 6) (hw : w a = 37) : ∃ (od' mq' : List Int), od = -1 :: od' ∧ mq = 0 :: mq' ∧ OPq w E pl O P ec i0 s f0 0 t od' mq' kn ft L (a + 1) := by
  obtain ⟨kn', ft', e', ⟨d, od', k, mq', kn1, ft1, e1, g1, g2, g3, g4, g5⟩, h2, h3, h4, h5⟩ := h
  have h2 : Eo w c x a := h2
  have h3 : kn = kdq w E 0 x a :: kn' := h3
  have h4 : ft = fst9 ft' (fl w E pl 0 x a) := h4
  have h5 : Cd w ec pl O P 0 0 0 x a e' L := h5
  have g4 : Gop w E pl O P ec 37 m x (xs9 i0 t) d k kn1 kn' ft1 ft' e1 e' := g4
  rcases g4 with ⟨q1, q2, q3, q4, q5, q6, q7, q8⟩ | ⟨q1, -⟩ | ⟨q1, -⟩ | ⟨q1, -⟩ | ⟨q1, -⟩ | ⟨q1, -⟩
  · subst q4 q5 q6 q7 q8
    have hx : x = m + 1 := by omega
    subst hx
    have hw36 : w m = 36 := by omega
    have eo : Eo w 0 m (a + 1) := eo0_par hw36 hw (h2.le hc (by omega))
    have hlo := lo_none eo.pr
    refine ⟨od', mq', g1, g2, kn', ft', e', g5, by rw [← q2]; exact eo, ?_, ?_, ?_⟩
    · rw [← q2, kd_par hlo (by have := h2.pr.1; omega) hw36]; exact h3
    · rw [← q2, fl_par hlo (by have := h2.pr.1; omega) hw36]; exact h4
    · rw [← q2]
      exact (Cd_par hlo (by have := h2.pr.1; omega) hw36).mpr h5
  · omega
  · omega
  · omega
  · omega
  · omega
/-- the rule is over: one operand is left -/
theorem OPq.done (h : OPq w E pl O P ec i0 s f0 c [] od mq kn ft L a) : Eo w c i0 a ∧ kn = [kdq w E 0 i0 a] ∧ ft = fst9 f0 (fl w E pl 0 i0 a) ∧ Cd w ec pl O P 0 0 0 i0 a s L := by
  obtain ⟨kn', ft', e', ⟨-, -, g3, g4, g5⟩, h2, h3, h4, h5⟩ := h
  subst g3 g4 g5
  exact ⟨h2, h3, h4, h5⟩
end OS9
end
section
/-! THE CLASS: its words. -/
section WO
variable {G : mG} {d w T A B D N C k : Nat} {M M' M1 : mM}
/-- the words' places: T the tape, N characters; A sorts, B starts, D amounts, all of C places -/
def WA (M : mM) (w T A B D N C : Nat) : Prop := mK M w = 2 ∧ (mR M w 0 = T ∧ mR M w 3 = A ∧ mR M w 4 = B ∧ mR M w 5 = D) ∧ (mK M T = 32 ∧ N ≤ mN M T) ∧ (mK M A = 30 ∧ mK M B = 30 ∧ mK M D = 30) ∧ (mN M A = C ∧ mN M B = C ∧ mN M D = C) ∧ mI M w 1 = N ∧ N ≤ 16384 ∧ N + 2 ≤ C ∧ (A ≠ B ∧ A ≠ D ∧ B ≠ D)
def woA (w A B D : Nat) : Nat → Prop := fun x => x = w ∨ x = A ∨ x = B ∨ x = D
/-- a word that may stand -/
def wdk (N : Nat) (s st am : Int) : Prop := (1 ≤ s ∧ s ≤ 39) ∧ (0 ≤ st ∧ st < N) ∧ (s = 2 → 1 ≤ am ∧ am ≤ 40 ∧ st + am ≤ N) ∧ (s = 3 → 0 ≤ am ∧ am ≤ 999999999)
/-- k words have been taken -/
def WI (M : mM) (w A B D N k : Nat) : Prop := mI M w 2 = k ∧ ∀ i, i < k → wdk N (mI M A i) (mI M B i) (mI M D i)
theorem WA.fi (h : WA M w T A B D N C) (f : FI (woA w A B D) M M') (h1 : mI M' w 1 = mI M w 1) : WA M' w T A B D N C := by
  obtain ⟨f1, f2, f3, -⟩ := f
  unfold WA at h ⊢
  rw [f1, f2, f3, h1]
  exact h
theorem WA.ne (h : WA M w T A B D N C) : w ≠ A ∧ w ≠ B ∧ w ≠ D ∧ T ≠ w ∧ T ≠ A ∧ T ≠ B ∧ T ≠ D := by
  obtain ⟨h1, -, ⟨h2, -⟩, ⟨h3, h4, h5⟩, -⟩ := h
  refine ⟨fun e => ?_, fun e => ?_, fun e => ?_, fun e => ?_, fun e => ?_, fun e => ?_, fun e => ?_⟩ <;> subst e <;> omega
theorem s_Wo_isDigit {x : Int} (hO : mOk M) (hx : i32 x) : Ci G y_Wo_isDigit d [vi x] M (fun r M' => M' = M ∧ (r = 0 ∨ r = 1) ∧ (r ≠ 0 ↔ 48 ≤ x ∧ x ≤ 57)) :=
  k_Wo_isDigit hO hx (fun v e => by
    by_cases y : x < 48 ∨ 57 < x
    · rw [if_pos y] at e
      exact ⟨rfl, by omega, by omega⟩
    · rw [if_neg y] at e
      exact ⟨rfl, by omega, by omega⟩)
theorem s_Wo_add {s st am : Int} (hs : i32 s) (hst : i32 st) (ham : i32 am) (hO : mOk M) (h : WA M w T A B D N C) (hk : mI M w 2 = k) (hC : k < C) (hC2 : C ≤ 16777216) : Cv G y_Wo_add d [vr w, vi s, vi st, vi am] M (fun M' => mOk M' ∧ FI (woA w A B D) M M' ∧ WA M' w T A B D N C ∧ mI M' w 2 = k + 1 ∧ (∀ i, mI M' A i = if i = k then s else mI M A i) ∧ (∀ i, mI M' B i = if i = k then st else mI M B i) ∧ (∀ i, mI M' D i = if i = k then am else mI M D i)) := by
  obtain ⟨n1, n2, n3, -⟩ := h.ne
  obtain ⟨h1, ⟨p0, p3, p4, p5⟩, h3, ⟨k3, k4, k5⟩, ⟨c3, c4, c5⟩, h6, h7, h8, ⟨d1, d2, d3⟩⟩ := id h
  refine k_Wo_add hO hs hst ham ?_
  rw [p3, c3]
  refine ⟨h1, k3, by omega, fun M4 e4 => ?_⟩
  have a4 : mI M4 w = mI M w := by rw [e4]; funext j; rw [mI_UI, if_neg (fun z => n1 z.1)]
  have R4 : mR M4 = mR M := by rw [e4]; rfl
  have N4 : mN M4 = mN M := by rw [e4]; rfl
  have K4 : mK M4 = mK M := by rw [e4]; rfl
  rw [R4, K4, N4, p4, a4, hk, Int.toNat_natCast, c4]
  refine ⟨k4, by omega, fun M8 e8 => ?_⟩
  have a8 : mI M8 w = mI M w := by rw [e8]; funext j; rw [mI_UI, if_neg (fun z => n2 z.1), a4]
  have R8 : mR M8 = mR M := by rw [e8]; exact R4
  have N8 : mN M8 = mN M := by rw [e8]; exact N4
  have K8 : mK M8 = mK M := by rw [e8]; exact K4
  rw [R8, K8, N8, p5, a8, hk, Int.toNat_natCast, c5]
  refine ⟨k5, by omega, fun M12 e12 => ?_⟩
  have a12 : mI M12 w = mI M w := by rw [e12]; funext j; rw [mI_UI, if_neg (fun z => n3 z.1), a8]
  rw [a12, hk]
  refine ⟨⟨by omega, by omega⟩, fun M15 e15 => ?_⟩
  rw [hk, Int.toNat_natCast] at e4
  have fi : FI (woA w A B D) M M15 := by
    have g4 : FI (woA w A B D) M M4 := by rw [e4]; exact FI.ui (Or.inr (Or.inl rfl))
    have g8 : FI (woA w A B D) M4 M8 := by rw [e8]; exact FI.ui (Or.inr (Or.inr (Or.inl rfl)))
    have g12 : FI (woA w A B D) M8 M12 := by rw [e12]; exact FI.ui (Or.inr (Or.inr (Or.inr rfl)))
    have g15 : FI (woA w A B D) M12 M15 := by rw [e15]; exact FI.ui (Or.inl rfl)
    exact ((g4.trans g8).trans g12).trans g15
  have oO : mOk M15 := by
    have o4 : mOk M4 := by rw [e4]; exact mOk_UI hO hs
    have o8 : mOk M8 := by rw [e8]; exact mOk_UI o4 hst
    have o12 : mOk M12 := by rw [e12]; exact mOk_UI o8 ham
    rw [e15]; exact mOk_UI o12 (⟨by omega, by omega⟩)
  refine ⟨oO, fi, h.fi fi (by rw [e15, mI_UI, if_neg (fun z => absurd z.2 (by decide)), a12]), by rw [e15, mI_UI, if_pos ⟨rfl, rfl⟩], fun i => ?_, fun i => ?_, fun i => ?_⟩
  · rw [e15, mI_UI, if_neg (fun z => n1 z.1.symm), e12, mI_UI, if_neg (fun z => d2 z.1), e8, mI_UI, if_neg (fun z => d1 z.1), e4, mI_UI]
    by_cases y : i = k
    · rw [if_pos y, if_pos ⟨rfl, y⟩]
    · rw [if_neg y, if_neg (fun z => y z.2)]
  · rw [e15, mI_UI, if_neg (fun z => n2 z.1.symm), e12, mI_UI, if_neg (fun z => d3 z.1), e8, mI_UI]
    by_cases y : i = k
    · rw [if_pos y, if_pos ⟨rfl, y⟩]
    · rw [if_neg y, if_neg (fun z => y z.2), e4, mI_UI, if_neg (fun z => d1 z.1.symm)]
  · rw [e15, mI_UI, if_neg (fun z => n3 z.1.symm), e12, mI_UI]
    by_cases y : i = k
    · rw [if_pos y, if_pos ⟨rfl, y⟩]
    · rw [if_neg y, if_neg (fun z => y z.2), e8, mI_UI, if_neg (fun z => d3 z.1.symm), e4, mI_UI, if_neg (fun z => d2 z.1.symm)]
/-- a word is added -/
theorem WI.add {s st am : Int} (h : WI M w A B D N k) (hw : wdk N s st am) (h2 : mI M' w 2 = k + 1) (hA : ∀ i, mI M' A i = if i = k then s else mI M A i) (hB : ∀ i, mI M' B i = if i = k then st else mI M B i) (hD : ∀ i, mI M' D i = if i = k then am else mI M D i) : WI M' w A B D N (k + 1) := by
  refine ⟨by rw [h2]; rfl, fun i hi => ?_⟩
  rw [hA, hB, hD]
  by_cases y : i = k
  · rw [if_pos y, if_pos y, if_pos y]
    exact hw
  · rw [if_neg y, if_neg y, if_neg y]
    exact h.2 i (by omega)
end WO
end
section
/-! The class's words: a number, a name, a word. -/
section WO2
variable {G : mG} {d w T A B D N C k : Nat} {M M' M1 : mM}
/-- what nameSort answers -/
def NSs (G : mG) : Prop := ∀ (d w T A B D N C p n : Nat) (M : mM), mOk M → WA M w T A B D N C → p + n ≤ N → 1 ≤ n → n ≤ 40 → Ci G y_Wo_nameSort (d + 5) [vr w, vi p, vi n] M (fun r M' => M' = M ∧ 2 ≤ r ∧ r ≤ 16 ∧ r ≠ 3)
/-- a word has been taken from place p on -/
def twQ (M : mM) (w T A B D N C k p : Nat) (r : Int) (M' : mM) : Prop := mOk M' ∧ FI (woA w A B D) M M' ∧ WA M' w T A B D N C ∧ WI M' w A B D N (k + 1) ∧ ∃ j : Nat, r = j ∧ p < j ∧ j ≤ N
end WO2
end
section
/-! The class's words: reserve, split, same. A frame with growth for the class. -/
section WO3
variable {G : mG} {d w T A B D N C k n : Nat} {M M' M1 M2 : mM} {S R S' R' : Nat → Prop}
/-- old cells keep kind, length and longs; references but in R, ints but in S -/
def FA (S R : Nat → Prop) (M M' : mM) : Prop := (mZ M ≤ mZ M' ∧ mS M ≤ mS M') ∧ ∀ x, x < mZ M → mK M' x = mK M x ∧ mN M' x = mN M x ∧ mL M' x = mL M x ∧ (¬ R x → mR M' x = mR M x) ∧ (¬ S x → mI M' x = mI M x)
theorem FA.refl : FA S R M M := ⟨⟨Nat.le_refl _, Nat.le_refl _⟩, fun _ _ => ⟨rfl, rfl, rfl, fun _ => rfl, fun _ => rfl⟩⟩
theorem FA.trans (h : FA S R M M1) (k : FA S R M1 M2) : FA S R M M2 := by
  obtain ⟨⟨h1, h2⟩, h3⟩ := h
  obtain ⟨⟨k1, k2⟩, k3⟩ := k
  refine ⟨⟨by omega, by omega⟩, fun x hx => ?_⟩
  obtain ⟨a1, a2, a3, a4, a5⟩ := h3 x hx
  obtain ⟨b1, b2, b3, b4, b5⟩ := k3 x (by omega)
  exact ⟨b1.trans a1, b2.trans a2, b3.trans a3, fun z => (b4 z).trans (a4 z), fun z => (b5 z).trans (a5 z)⟩
theorem FA.mono (h : FA S R M M1) (hS : ∀ x, x < mZ M → S x → S' x) (hR : ∀ x, x < mZ M → R x → R' x) : FA S' R' M M1 :=
  ⟨h.1, fun x hx => ⟨(h.2 x hx).1, (h.2 x hx).2.1, (h.2 x hx).2.2.1, fun z => (h.2 x hx).2.2.2.1 (fun y => z (hR x hx y)), fun z => (h.2 x hx).2.2.2.2 (fun y => z (hS x hx y))⟩⟩
/-- a frame of old cells, whatever happens to new ones -/
theorem FA.trans2 (h : FA S R M M1) (k : FA S' R' M1 M2) (hS : ∀ x, x < mZ M → S' x → S x) (hR : ∀ x, x < mZ M → R' x → R x) : FA S R M M2 := by
  obtain ⟨⟨h1, h2⟩, h3⟩ := h
  obtain ⟨⟨k1, k2⟩, k3⟩ := k
  refine ⟨⟨by omega, by omega⟩, fun x hx => ?_⟩
  obtain ⟨a1, a2, a3, a4, a5⟩ := h3 x hx
  obtain ⟨b1, b2, b3, b4, b5⟩ := k3 x (by omega)
  exact ⟨b1.trans a1, b2.trans a2, b3.trans a3, fun z => (b4 (fun y => z (hR x hx y))).trans (a4 z), fun z => (b5 (fun y => z (hS x hx y))).trans (a5 z)⟩
theorem FI.fa (f : FI S M M1) : FA S R M M1 := by
  obtain ⟨f1, f2, f3, f4, f5, f6, f7⟩ := f
  exact ⟨⟨by rw [f5]; exact Nat.le_refl _, by rw [f6]; exact Nat.le_refl _⟩, fun x _ => ⟨by rw [f1], by rw [f2], by rw [f4], fun _ => by rw [f3], fun z => f7 x z⟩⟩
theorem FA.new {k n c : Nat} (e : M1 = mNew M k n c) : FA S R M M1 := by
  subst e
  refine ⟨⟨by rw [mZ_New]; omega, by rw [mS_New]; omega⟩, fun x hx => ?_⟩
  have hne : x ≠ mZ M := by omega
  refine ⟨by rw [mK_New, if_neg hne], by rw [mN_New, if_neg hne], ?_, fun _ => ?_, fun _ => ?_⟩
  · funext j; rw [mL_New, if_neg hne]
  · funext j; rw [mR_New, if_neg hne]
  · funext j; rw [mI_New, if_neg hne]
theorem FA.ur {a j x : Nat} (ha : R a) (e : M1 = mUR M a j x) : FA S R M M1 := by
  subst e
  refine ⟨⟨Nat.le_refl _, Nat.le_refl _⟩, fun b _ => ⟨rfl, rfl, rfl, fun z => ?_, fun _ => rfl⟩⟩
  funext i
  rw [mR_UR, if_neg (fun q => z (by rw [q.1]; exact ha))]
/-- the words' arrays before a split -/
def WB (M : mM) (w A B D C : Nat) : Prop := mK M w = 2 ∧ (mR M w 3 = A ∧ mR M w 4 = B ∧ mR M w 5 = D) ∧ (mK M A = 30 ∧ mK M B = 30 ∧ mK M D = 30) ∧ (mN M A = C ∧ mN M B = C ∧ mN M D = C) ∧ (A ≠ B ∧ A ≠ D ∧ B ≠ D) ∧ (w < mZ M ∧ A < mZ M ∧ B < mZ M ∧ D < mZ M) ∧ 128 ≤ C ∧ C ≤ 40000
/-- how the arrays grew -/
def grw (M : mM) (A B D C : Nat) (M' : mM) (A' B' D' C' : Nat) : Prop := (A' = A ∧ B' = B ∧ D' = D ∧ C' = C ∧ mZ M' = mZ M ∧ mS M' = mS M) ∨ (A' = mZ M ∧ B' = mZ M + 1 ∧ D' = mZ M + 2 ∧ 2 * C ≤ C' ∧ mZ M' = mZ M + 3 ∧ mS M' = mS M + 3 * C')
theorem s_Wo_reserve {q : Nat} (hO : mOk M) (h : WB M w A B D C) (hq : q ≤ 16400) : Cv G y_Wo_reserve d [vr w, vi q] M (fun M' => ∃ A' B' D' C', mOk M' ∧ WB M' w A' B' D' C' ∧ q ≤ C' ∧ C' ≤ C + 2 * q ∧ FA (fun _ => False) (fun x => x = w) M M' ∧ (∀ i, i ≠ 3 → i ≠ 4 → i ≠ 5 → mR M' w i = mR M w i) ∧ grw M A B D C M' A' B' D' C') := by
  obtain ⟨h1, ⟨p3, p4, p5⟩, ⟨k3, k4, k5⟩, ⟨c3, c4, c5⟩, ⟨d1, d2, d3⟩, ⟨z0, z1, z2, z3⟩, b1, b2⟩ := id h
  refine k_Wo_reserve hO ⟨by omega, by omega⟩ ?_
  rw [p3, c3]
  refine ⟨h1, k3, ?_⟩
  have pw : ∀ i, i ≤ 8 → 128 * 2 ^ i ≤ 128 * 2 ^ 8 := by decide
  suffices H : ∀ (t i l : Nat), 8 ≤ i + t → i ≤ 8 → 128 * 2 ^ i ≤ l → ((i = 0 ∧ l = C) ∨ (2 * C ≤ l ∧ l ≤ 2 * q)) → h_Wo_reserve_8 G d w q l i M (fun M' => ∃ A' B' D' C', mOk M' ∧ WB M' w A' B' D' C' ∧ q ≤ C' ∧ C' ≤ C + 2 * q ∧ FA (fun _ => False) (fun x => x = w) M M' ∧ (∀ i, i ≠ 3 → i ≠ 4 → i ≠ 5 → mR M' w i = mR M w i) ∧ grw M A B D C M' A' B' D' C') from H 8 0 C (by omega) (by omega) (by simpa using b1) (Or.inl ⟨rfl, rfl⟩)
  -- the end
  have fin : ∀ {l : Nat}, q ≤ l → (l = C ∨ (2 * C ≤ l ∧ l ≤ 2 * q)) → mK M w = 2 ∧ mK M (mR M w 3) = 30 ∧ i32 (mN M (mR M w 3) : Int) ∧ (((l : Int) ≤ (mN M (mR M w 3) : Int)) → (∃ A' B' D' C', mOk M ∧ WB M w A' B' D' C' ∧ q ≤ C' ∧ C' ≤ C + 2 * q ∧ FA (fun _ => False) (fun x => x = w) M M ∧ (∀ i, i ≠ 3 → i ≠ 4 → i ≠ 5 → mR M w i = mR M w i) ∧ grw M A B D C M A' B' D' C')) ∧ (¬ ((l : Int) ≤ (mN M (mR M w 3) : Int)) → (((0 : Int) ≤ l ∧ (l : Int) ≤ 16777216) ∧ ∀ M16, M16 = mNew M 30 (Int.toNat l) (Int.toNat l) → mK M16 w = 2 ∧ ∀ M19, M19 = mUR M16 w 3 (mZ M) → ((0 : Int) ≤ l ∧ (l : Int) ≤ 16777216) ∧ ∀ M22, M22 = mNew M19 30 (Int.toNat l) (Int.toNat l) → mK M22 w = 2 ∧ ∀ M25, M25 = mUR M22 w 4 (mZ M19) → ((0 : Int) ≤ l ∧ (l : Int) ≤ 16777216) ∧ ∀ M28, M28 = mNew M25 30 (Int.toNat l) (Int.toNat l) → mK M28 w = 2 ∧ ∀ M31, M31 = mUR M28 w 5 (mZ M25) → (∃ A' B' D' C', mOk M31 ∧ WB M31 w A' B' D' C' ∧ q ≤ C' ∧ C' ≤ C + 2 * q ∧ FA (fun _ => False) (fun x => x = w) M M31 ∧ (∀ i, i ≠ 3 → i ≠ 4 → i ≠ 5 → mR M31 w i = mR M w i) ∧ grw M A B D C M31 A' B' D' C'))) := fun {l} hl hd => by
    rw [p3, c3, Int.toNat_natCast]
    refine ⟨h1, k3, ⟨by omega, by omega⟩, fun y => ⟨A, B, D, C, hO, h, by omega, by omega, FA.refl, fun _ _ _ _ => rfl, Or.inl ⟨rfl, rfl, rfl, rfl, rfl, rfl⟩⟩, fun y => ⟨by omega, fun M16 e16 => ?_⟩⟩
    have ew : w ≠ mZ M := by omega
    have g16 : FA (fun _ => False) (fun x => x = w) M M16 := FA.new e16
    have Z16 : mZ M16 = mZ M + 1 := by rw [e16]; rfl
    refine ⟨by rw [(g16.2 w z0).1]; exact h1, fun M19 e19 => ⟨by omega, fun M22 e22 => ?_⟩⟩
    have g19 := g16.trans (FA.ur (S := fun _ => False) (R := fun x => x = w) rfl e19)
    have Z19 : mZ M19 = mZ M + 1 := by rw [e19]; exact Z16
    have g22 := g19.trans (FA.new (S := fun _ => False) (R := fun x => x = w) e22)
    have Z22 : mZ M22 = mZ M + 2 := by rw [e22, mZ_New, Z19]
    refine ⟨by rw [(g22.2 w z0).1]; exact h1, fun M25 e25 => ⟨by omega, fun M28 e28 => ?_⟩⟩
    have g25 := g22.trans (FA.ur (S := fun _ => False) (R := fun x => x = w) rfl e25)
    have Z25 : mZ M25 = mZ M + 2 := by rw [e25]; exact Z22
    have g28 := g25.trans (FA.new (S := fun _ => False) (R := fun x => x = w) e28)
    have Z28 : mZ M28 = mZ M + 3 := by rw [e28, mZ_New, Z25]
    refine ⟨by rw [(g28.2 w z0).1]; exact h1, fun M31 e31 => ?_⟩
    have g31 := g28.trans (FA.ur (S := fun _ => False) (R := fun x => x = w) rfl e31)
    have Z31 : mZ M31 = mZ M + 3 := by rw [e31]; exact Z28
    have S31 : mS M31 = mS M + 3 * l := by
      rw [e31, mS_UR, e28, mS_New, e25, mS_UR, e22, mS_New, e19, mS_UR, e16, mS_New]
      omega
    have K31 : ∀ x, mK M31 x = if x = mZ M + 2 then 30 else if x = mZ M + 1 then 30 else if x = mZ M then 30 else mK M x := fun x => by
      rw [e31, mK_UR, e28, mK_New, Z25, e25, mK_UR, e22, mK_New, Z19, e19, mK_UR, e16, mK_New]
    have N31 : ∀ x, mN M31 x = if x = mZ M + 2 then l else if x = mZ M + 1 then l else if x = mZ M then l else mN M x := fun x => by
      rw [e31, mN_UR, e28, mN_New, Z25, e25, mN_UR, e22, mN_New, Z19, e19, mN_UR, e16, mN_New]
    have R31 : ∀ i, mR M31 w i = if i = 5 then mZ M + 2 else if i = 4 then mZ M + 1 else if i = 3 then mZ M else mR M w i := fun i => by
      rw [e31, mR_UR, Z25]
      by_cases y5 : i = 5
      · rw [if_pos ⟨rfl, y5⟩, if_pos y5]
      · rw [if_neg (fun z => y5 z.2), if_neg y5, e28, mR_New, if_neg (by omega), e25, mR_UR, Z19]
        by_cases y4 : i = 4
        · rw [if_pos ⟨rfl, y4⟩, if_pos y4]
        · rw [if_neg (fun z => y4 z.2), if_neg y4, e22, mR_New, if_neg (by omega), e19, mR_UR]
          by_cases y3 : i = 3
          · rw [if_pos ⟨rfl, y3⟩, if_pos y3]
          · rw [if_neg (fun z => y3 z.2), if_neg y3, e16, mR_New, if_neg ew]
    have o16 : mOk M16 := by rw [e16]; exact mOk_New hO
    have o19 : mOk M19 := by rw [e19]; exact mOk_UR o16
    have o22 : mOk M22 := by rw [e22]; exact mOk_New o19
    have o25 : mOk M25 := by rw [e25]; exact mOk_UR o22
    have o28 : mOk M28 := by rw [e28]; exact mOk_New o25
    have o31 : mOk M31 := by rw [e31]; exact mOk_UR o28
    have l2 : 2 * C ≤ l ∧ l ≤ 2 * q := by omega
    refine ⟨mZ M, mZ M + 1, mZ M + 2, l, o31, ⟨by rw [K31, if_neg (by omega), if_neg (by omega), if_neg ew]; exact h1, ⟨by rw [R31, if_neg (by decide), if_neg (by decide), if_pos rfl], by rw [R31, if_neg (by decide), if_pos rfl], by rw [R31, if_pos rfl]⟩, ⟨by rw [K31, if_neg (by omega), if_neg (by omega), if_pos rfl], by rw [K31, if_neg (by omega), if_pos rfl], by rw [K31, if_pos rfl]⟩, ⟨by rw [N31, if_neg (by omega), if_neg (by omega), if_pos rfl], by rw [N31, if_neg (by omega), if_pos rfl], by rw [N31, if_pos rfl]⟩, ⟨by omega, by omega, by omega⟩, ⟨by omega, by omega, by omega, by omega⟩, by omega, by omega⟩, hl, by omega, g31, fun i i3 i4 i5 => by rw [R31, if_neg i5, if_neg i4, if_neg i3], Or.inr ⟨rfl, rfl, rfl, l2.1, Z31, S31⟩⟩
  intro t
  induction t with
  | zero =>
    intro i l hi hi8 hl hd
    have i8 : i = 8 := by omega
    subst i8
    refine k_Wo_reserve_8 hO ⟨by omega, by omega⟩ ⟨by omega, by omega⟩ ⟨by omega, by omega⟩ ⟨fun y => fin (by omega) (by omega), fun y => absurd (Or.inr (by omega)) y⟩
  | succ t ih =>
    intro i l hi hi8 hl hd
    refine k_Wo_reserve_8 hO ⟨by omega, by omega⟩ ⟨by omega, by omega⟩ ⟨by omega, by omega⟩ ⟨fun y => fin (by omega) (by omega), fun y => ?_⟩
    have y1 : l < q := by omega
    by_cases e8 : i = 8
    · subst e8
      omega
    · have e2 : 128 * 2 ^ (i + 1) = 2 * (128 * 2 ^ i) := by rw [Nat.pow_succ]; omega
      have := ih (i + 1) (l * 2) (by omega) (by omega) (by omega) (Or.inr (by omega))
      rw [show ((l * 2 : Nat) : Int) = (l : Int) * 2 by omega, show ((i + 1 : Nat) : Int) = (i : Int) + 1 by omega] at this
      exact this
end WO3
end
section
/-! The class's words: split, same. -/
section WO4
variable {G : mG} {d w T A B D N C k n : Nat} {M M' M1 M2 : mM}
/-- the words of a tape: n of them, and the end -/
def Wf (M : mM) (w T A B D N C n : Nat) : Prop := WA M w T A B D N C ∧ mI M w 2 = n + 1 ∧ n ≤ N ∧ (∀ i, i < n → wdk N (mI M A i) (mI M B i) (mI M D i)) ∧ mI M A n = 0 ∧ mI M B n = N
theorem WB.wa (h : WB M w A B D C) (hT : mR M w 0 = T) (kT : mK M T = 32) (nT : N ≤ mN M T) (h1 : mI M w 1 = N) (h2 : N ≤ 16384) (h3 : N + 2 ≤ C) : WA M w T A B D N C := by
  obtain ⟨a1, a2, a3, a4, a5, -⟩ := h
  exact ⟨a1, ⟨hT, a2⟩, ⟨kT, nT⟩, a3, a4, h1, h2, h3, a5⟩
theorem WB.fi {S : Nat → Prop} (h : WB M w A B D C) (f : FI S M M') : WB M' w A B D C := by
  obtain ⟨f1, f2, f3, f4, f5, -⟩ := f
  unfold WB at h ⊢
  rw [f1, f2, f3, f5]
  exact h
end WO4
end
section
/-! The class's programs: places, add, clear. -/
section PRG
variable {G : mG} {d z p O P C n : Nat} {M M' M1 M2 : mM} {S : Nat → Prop}
/-- a program's tables -/
def PL (M : mM) (p : Nat) : Prop := (mR M p 4 = p + 3 ∧ mR M p 5 = p + 4 ∧ mR M p 6 = p + 5 ∧ mR M p 8 = p + 6 ∧ mR M p 9 = p + 7 ∧ mR M p 10 = p + 8 ∧ mR M p 13 = p + 9 ∧ mR M p 14 = p + 10 ∧ mR M p 15 = p + 11 ∧ mR M p 16 = p + 12 ∧ mR M p 17 = p + 13 ∧ mR M p 18 = p + 14 ∧ mR M p 19 = p + 15) ∧ (mK M (p + 3) = 30 ∧ mK M (p + 4) = 30 ∧ mK M (p + 5) = 30 ∧ mK M (p + 6) = 30 ∧ mK M (p + 7) = 30 ∧ mK M (p + 8) = 30 ∧ mK M (p + 9) = 30 ∧ mK M (p + 10) = 30 ∧ mK M (p + 11) = 30 ∧ mK M (p + 12) = 30 ∧ mK M (p + 13) = 30 ∧ mK M (p + 14) = 30 ∧ mK M (p + 15) = 30) ∧ (mN M (p + 3) = 12 ∧ mN M (p + 4) = 12 ∧ mN M (p + 5) = 12 ∧ mN M (p + 6) = 60 ∧ mN M (p + 7) = 60 ∧ mN M (p + 8) = 60 ∧ mN M (p + 9) = 60 ∧ mN M (p + 10) = 60 ∧ mN M (p + 11) = 60 ∧ mN M (p + 12) = 61 ∧ mN M (p + 13) = 480 ∧ mN M (p + 14) = 480 ∧ mN M (p + 15) = 480)
/-- a program: O orders, P operands, of C places; z the end of the class's first cells -/
def PK (M : mM) (z p O P C : Nat) : Prop := mK M p = 6 ∧ (mR M p 0 = O ∧ mR M p 1 = P) ∧ (mK M O = 30 ∧ mK M P = 30 ∧ mN M O = C ∧ mN M P = C) ∧ ((O = p + 1 ∨ z ≤ O) ∧ (P = p + 2 ∨ z ≤ P) ∧ O ≠ P ∧ p + 16 ≤ z) ∧ (z ≤ mZ M ∧ O < mZ M ∧ P < mZ M) ∧ (128 ≤ C ∧ C ≤ 40000) ∧ PL M p
theorem PK.fi (h : PK M z p O P C) (f : FI S M M') : PK M' z p O P C := by
  obtain ⟨f1, f2, f3, f4, f5, -⟩ := f
  unfold PK PL at h ⊢
  rw [f1, f2, f3, f5]
  exact h
/-- what adding an order changes -/
def prS (p O P : Nat) : Nat → Prop := fun x => x = p ∨ x = O ∨ x = P
theorem s_Pr_add {o x : Int} (ho : i32 o) (hx : i32 x) (hO : mOk M) (h : PK M z p O P C) (hn : mI M p 2 = n) (hC : n < C) : Ci G y_Pr_add d [vr p, vi o, vi x] M (fun r M' => r = n ∧ mOk M' ∧ FI (prS p O P) M M' ∧ (∀ j, mI M' p j = if j = 2 then (n : Int) + 1 else mI M p j) ∧ (∀ j, mI M' O j = if j = n then o else mI M O j) ∧ (∀ j, mI M' P j = if j = n then x else mI M P j)) := by
  obtain ⟨h1, ⟨r0, r1⟩, ⟨k0, k1, n0, n1⟩, ⟨a0, a1, a2, a3⟩, -, hc, -⟩ := id h
  have e0 : O ≠ p := by omega
  have e1 : P ≠ p := by omega
  refine k_Pr_add hO ho hx ?_
  rw [r0, n0, hn, Int.toNat_natCast]
  refine ⟨h1, k0, ⟨by omega, by omega⟩, fun y => absurd y (by omega), fun _ => ⟨by omega, fun M13 e13 => ?_⟩⟩
  have a13 : mI M13 p = mI M p := by rw [e13]; funext j; rw [mI_UI, if_neg (fun q => e0 q.1.symm)]
  have R13 : mR M13 = mR M := by rw [e13]; rfl
  have K13 : mK M13 = mK M := by rw [e13]; rfl
  have N13 : mN M13 = mN M := by rw [e13]; rfl
  rw [R13, K13, N13, r1, n1, a13, hn, Int.toNat_natCast]
  refine ⟨k1, by omega, fun M17 e17 => ?_⟩
  have a17 : mI M17 p = mI M p := by rw [e17]; funext j; rw [mI_UI, if_neg (fun q => e1 q.1.symm), a13]
  rw [a17, hn]
  refine ⟨⟨by omega, by omega⟩, fun M20 e20 => ?_⟩
  have o13 : mOk M13 := by rw [e13]; exact mOk_UI hO ho
  have o17 : mOk M17 := by rw [e17]; exact mOk_UI o13 hx
  have o20 : mOk M20 := by rw [e20]; exact mOk_UI o17 ⟨by omega, by omega⟩
  have g13 : FI (prS p O P) M M13 := by rw [e13]; exact FI.ui (Or.inr (Or.inl rfl))
  have g17 : FI (prS p O P) M13 M17 := by rw [e17]; exact FI.ui (Or.inr (Or.inr rfl))
  have g20 : FI (prS p O P) M17 M20 := by rw [e20]; exact FI.ui (Or.inl rfl)
  have ap : ∀ j, mI M20 p j = if j = 2 then (n : Int) + 1 else mI M p j := fun j => by
    rw [e20, mI_UI]
    by_cases y : j = 2
    · rw [if_pos ⟨rfl, y⟩, if_pos y]
    · rw [if_neg (fun q => y q.2), if_neg y, a17]
  refine ⟨by rw [ap, if_pos rfl]; omega, o20, (g13.trans g17).trans g20, ap, fun j => ?_, fun j => ?_⟩
  · rw [e20, mI_UI, if_neg (fun q => e0 q.1), e17, mI_UI, if_neg (fun q => a2 q.1), e13, mI_UI]
    by_cases y : j = n
    · rw [if_pos ⟨rfl, y⟩, if_pos y]
    · rw [if_neg (fun q => y q.2), if_neg y]
  · rw [e20, mI_UI, if_neg (fun q => e1 q.1), e17, mI_UI]
    by_cases y : j = n
    · rw [if_pos ⟨rfl, y⟩, if_pos y]
    · rw [if_neg (fun q => y q.2), if_neg y, e13, mI_UI, if_neg (fun q => a2 q.1.symm)]
/-- how a program's arrays grew -/
def grp (M : mM) (O P C : Nat) (M' : mM) (O' P' C' : Nat) : Prop := (O' = O ∧ P' = P ∧ C' = C ∧ mZ M' = mZ M ∧ mS M' = mS M) ∨ (O' = mZ M ∧ P' = mZ M + 1 ∧ 2 * C ≤ C' ∧ mZ M' = mZ M + 2 ∧ mS M' = mS M + 2 * C')
/-- a program that is cleared, with room for q orders -/
def pcQ (M : mM) (z p O P C q : Nat) (M' : mM) : Prop := ∃ O' P' C', mOk M' ∧ PK M' z p O' P' C' ∧ q ≤ C' ∧ C' ≤ C + 2 * q ∧ FA (fun x => x = p ∨ x = p + 12) (fun x => x = p) M M' ∧ (mI M' p 2 = 0 ∧ mI M' p 3 = 0 ∧ mI M' p 7 = 0 ∧ mI M' p 12 = 0 ∧ mI M' p 11 = -1) ∧ mI M' (p + 12) 0 = 0 ∧ grp M O P C M' O' P' C'
theorem s_Pr_clear {q : Nat} (hO : mOk M) (h : PK M z p O P C) (hq : q ≤ 16400) : Cv G y_Pr_clear d [vr p, vi q] M (pcQ M z p O P C q) := by
  have wl : p < mZ M ∧ p + 12 < mZ M := by have := h.2.2.2.1.2.2.2; have := h.2.2.2.2.1.1; omega
  refine k_Pr_clear hO ⟨by omega, by omega⟩ ⟨h.1, fun M2 e2 M4 e4 M6 e6 M8 e8 M10 e10 => ?_⟩
  have f10 : FI (fun x => x = p ∨ x = p + 12) M M10 := by
    have g2 : FI (fun x => x = p ∨ x = p + 12) M M2 := by rw [e2]; exact FI.ui (Or.inl rfl)
    have g4 : FI (fun x => x = p ∨ x = p + 12) M2 M4 := by rw [e4]; exact FI.ui (Or.inl rfl)
    have g6 : FI (fun x => x = p ∨ x = p + 12) M4 M6 := by rw [e6]; exact FI.ui (Or.inl rfl)
    have g8 : FI (fun x => x = p ∨ x = p + 12) M6 M8 := by rw [e8]; exact FI.ui (Or.inl rfl)
    have g10 : FI (fun x => x = p ∨ x = p + 12) M8 M10 := by rw [e10]; exact FI.ui (Or.inl rfl)
    exact (((g2.trans g4).trans g6).trans g8).trans g10
  have o10 : mOk M10 := by
    have o2 : mOk M2 := by rw [e2]; exact mOk_UI hO ⟨by decide, by decide⟩
    have o4 : mOk M4 := by rw [e4]; exact mOk_UI o2 ⟨by decide, by decide⟩
    have o6 : mOk M6 := by rw [e6]; exact mOk_UI o4 ⟨by decide, by decide⟩
    have o8 : mOk M8 := by rw [e8]; exact mOk_UI o6 ⟨by decide, by decide⟩
    rw [e10]; exact mOk_UI o8 ⟨by decide, by decide⟩
  have v10 : mI M10 p 2 = 0 ∧ mI M10 p 3 = 0 ∧ mI M10 p 7 = 0 ∧ mI M10 p 12 = 0 ∧ mI M10 p 11 = -1 := by
    subst e10 e8 e6 e4 e2
    simp [mI_UI]
  have k10 := h.fi f10
  obtain ⟨-, -, -, -, -, -, PL10⟩ := id k10
  rw [show mR M10 p 16 = p + 12 from PL10.1.2.2.2.2.2.2.2.2.2.1, show mN M10 (p + 12) = 61 from PL10.2.2.2.2.2.2.2.2.2.2.2.1]
  refine ⟨PL10.2.1.2.2.2.2.2.2.2.2.2.1, by omega, fun M14 e14 => ?_⟩
  have f14 : FI (fun x => x = p ∨ x = p + 12) M M14 := f10.trans (by rw [e14]; exact FI.ui (Or.inr rfl))
  have o14 : mOk M14 := by rw [e14]; exact mOk_UI o10 ⟨by decide, by decide⟩
  have v14 : (mI M14 p 2 = 0 ∧ mI M14 p 3 = 0 ∧ mI M14 p 7 = 0 ∧ mI M14 p 12 = 0 ∧ mI M14 p 11 = -1) ∧ mI M14 (p + 12) 0 = 0 := by
    have e : mI M14 p = mI M10 p := by rw [e14]; funext j; rw [mI_UI, if_neg (fun y => by omega)]
    rw [e]
    exact ⟨v10, by rw [e14, mI_UI, if_pos ⟨rfl, rfl⟩]⟩
  have k14 := h.fi f14
  have Z14 : mZ M14 = mZ M := f14.2.2.2.2.1
  have S14 : mS M14 = mS M := f14.2.2.2.2.2.1
  clear e2 e4 e6 e8 e10 e14 k10 PL10 v10 o10 f10
  obtain ⟨h1, ⟨r0, r1⟩, ⟨k0, k1, n0, n1⟩, ⟨a0, a1, a2, a3⟩, ⟨z1, z2, z3⟩, ⟨b1, b2⟩, hPL⟩ := id k14
  rw [r0, n0]
  refine ⟨k0, ?_⟩
  suffices H : ∀ (t i l : Nat), 8 ≤ i + t → i ≤ 8 → 128 * 2 ^ i ≤ l → ((i = 0 ∧ l = C) ∨ (2 * C ≤ l ∧ l ≤ 2 * q)) → h_Pr_clear_40 G d p q l i M14 (pcQ M z p O P C q) from H 8 0 C (by omega) (by omega) (by simpa using b1) (Or.inl ⟨rfl, rfl⟩)
  have fin : ∀ {l : Nat}, q ≤ l → (l = C ∨ (2 * C ≤ l ∧ l ≤ 2 * q)) → mK M14 p = 6 ∧ mK M14 (mR M14 p 0) = 30 ∧ i32 (mN M14 (mR M14 p 0) : Int) ∧ (((l : Int) ≤ (mN M14 (mR M14 p 0) : Int)) → (pcQ M z p O P C q M14)) ∧ (¬ ((l : Int) ≤ (mN M14 (mR M14 p 0) : Int)) → (((0 : Int) ≤ l ∧ (l : Int) ≤ 16777216) ∧ ∀ M30, M30 = mNew M14 30 (Int.toNat l) (Int.toNat l) → mK M30 p = 6 ∧ ∀ M33, M33 = mUR M30 p 0 (mZ M14) → ((0 : Int) ≤ l ∧ (l : Int) ≤ 16777216) ∧ ∀ M36, M36 = mNew M33 30 (Int.toNat l) (Int.toNat l) → mK M36 p = 6 ∧ ∀ M39, M39 = mUR M36 p 1 (mZ M33) → pcQ M z p O P C q M39)) := fun {l} hl hd => by
    rw [r0, n0, Int.toNat_natCast]
    have F14 : FA (fun x => x = p ∨ x = p + 12) (fun x => x = p) M M14 := FI.fa f14
    refine ⟨h1, k0, ⟨by omega, by omega⟩, fun y => ⟨O, P, C, o14, k14, by omega, by omega, F14, v14.1, v14.2, Or.inl ⟨rfl, rfl, rfl, Z14, S14⟩⟩, fun y => ⟨by omega, fun M30 e30 => ?_⟩⟩
    have g30 : FA (fun _ => False) (fun x => x = p) M14 M30 := FA.new e30
    have Z30 : mZ M30 = mZ M14 + 1 := by rw [e30]; rfl
    have pz : p < mZ M14 := by omega
    refine ⟨by rw [(g30.2 p pz).1]; exact h1, fun M33 e33 => ⟨by omega, fun M36 e36 => ?_⟩⟩
    have g33 := g30.trans (FA.ur (S := fun _ => False) (R := fun x => x = p) rfl e33)
    have Z33 : mZ M33 = mZ M14 + 1 := by rw [e33]; exact Z30
    have g36 := g33.trans (FA.new (S := fun _ => False) (R := fun x => x = p) e36)
    have Z36 : mZ M36 = mZ M14 + 2 := by rw [e36, mZ_New, Z33]
    refine ⟨by rw [(g36.2 p pz).1]; exact h1, fun M39 e39 => ?_⟩
    have g39 := g36.trans (FA.ur (S := fun _ => False) (R := fun x => x = p) rfl e39)
    have Z39 : mZ M39 = mZ M14 + 2 := by rw [e39]; exact Z36
    have S39 : mS M39 = mS M14 + 2 * l := by
      rw [e39, mS_UR, e36, mS_New, e33, mS_UR, e30, mS_New]
      omega
    have K39 : ∀ x, mK M39 x = if x = mZ M14 + 1 then 30 else if x = mZ M14 then 30 else mK M14 x := fun x => by
      rw [e39, mK_UR, e36, mK_New, Z33, e33, mK_UR, e30, mK_New]
    have N39 : ∀ x, mN M39 x = if x = mZ M14 + 1 then l else if x = mZ M14 then l else mN M14 x := fun x => by
      rw [e39, mN_UR, e36, mN_New, Z33, e33, mN_UR, e30, mN_New]
    have R39 : ∀ i, mR M39 p i = if i = 1 then mZ M14 + 1 else if i = 0 then mZ M14 else mR M14 p i := fun i => by
      rw [e39, mR_UR, Z33]
      by_cases y1 : i = 1
      · rw [if_pos ⟨rfl, y1⟩, if_pos y1]
      · rw [if_neg (fun q => y1 q.2), if_neg y1, e36, mR_New, if_neg (by omega), e33, mR_UR]
        by_cases y0 : i = 0
        · rw [if_pos ⟨rfl, y0⟩, if_pos y0]
        · rw [if_neg (fun q => y0 q.2), if_neg y0, e30, mR_New, if_neg (by omega)]
    have o30 : mOk M30 := by rw [e30]; exact mOk_New o14
    have o33 : mOk M33 := by rw [e33]; exact mOk_UR o30
    have o36 : mOk M36 := by rw [e36]; exact mOk_New o33
    have o39 : mOk M39 := by rw [e39]; exact mOk_UR o36
    have l2 : 2 * C ≤ l ∧ l ≤ 2 * q := by omega
    have pl : PL M39 p := by
      have kk : ∀ i, i ≤ 15 → mK M39 (p + i) = mK M14 (p + i) := fun i hi => (g39.2 (p + i) (by omega)).1
      have nn : ∀ i, i ≤ 15 → mN M39 (p + i) = mN M14 (p + i) := fun i hi => (g39.2 (p + i) (by omega)).2.1
      have rr : ∀ i, i ≠ 0 → i ≠ 1 → mR M39 p i = mR M14 p i := fun i i0 i1 => by rw [R39, if_neg i1, if_neg i0]
      unfold PL at hPL ⊢
      rw [rr 4 (by decide) (by decide), rr 5 (by decide) (by decide), rr 6 (by decide) (by decide), rr 8 (by decide) (by decide), rr 9 (by decide) (by decide), rr 10 (by decide) (by decide), rr 13 (by decide) (by decide), rr 14 (by decide) (by decide), rr 15 (by decide) (by decide), rr 16 (by decide) (by decide), rr 17 (by decide) (by decide), rr 18 (by decide) (by decide), rr 19 (by decide) (by decide), kk 3 (by omega), kk 4 (by omega), kk 5 (by omega), kk 6 (by omega), kk 7 (by omega), kk 8 (by omega), kk 9 (by omega), kk 10 (by omega), kk 11 (by omega), kk 12 (by omega), kk 13 (by omega), kk 14 (by omega), kk 15 (by omega), nn 3 (by omega), nn 4 (by omega), nn 5 (by omega), nn 6 (by omega), nn 7 (by omega), nn 8 (by omega), nn 9 (by omega), nn 10 (by omega), nn 11 (by omega), nn 12 (by omega), nn 13 (by omega), nn 14 (by omega), nn 15 (by omega)]
      exact hPL
    have vI : mI M39 p = mI M14 p := (g39.2 p pz).2.2.2.2 (fun q => q)
    have vJ : mI M39 (p + 12) = mI M14 (p + 12) := (g39.2 (p + 12) (by omega)).2.2.2.2 (fun q => q)
    refine ⟨mZ M14, mZ M14 + 1, l, o39, ⟨by rw [(g39.2 p pz).1]; exact h1, ⟨by rw [R39, if_neg (by decide), if_pos rfl], by rw [R39, if_pos rfl]⟩, ⟨by rw [K39, if_neg (by omega), if_pos rfl], by rw [K39, if_pos rfl], by rw [N39, if_neg (by omega), if_pos rfl], by rw [N39, if_pos rfl]⟩, ⟨Or.inr z1, Or.inr (by omega), by omega, a3⟩, ⟨by omega, by omega, by omega⟩, ⟨by omega, by omega⟩, pl⟩, hl, by omega, F14.trans2 g39 (fun _ _ q => q.elim) (fun _ _ q => q), by rw [vI]; exact v14.1, by rw [vJ]; exact v14.2, Or.inr ⟨by omega, by omega, l2.1, by omega, by omega⟩⟩
  intro t
  induction t with
  | zero =>
    intro i l hi hi8 hl hd
    have i8 : i = 8 := by omega
    subst i8
    refine k_Pr_clear_40 o14 ⟨by omega, by omega⟩ ⟨by omega, by omega⟩ ⟨by omega, by omega⟩ ⟨fun y => fin (by omega) (by omega), fun y => absurd (Or.inr (by omega)) y⟩
  | succ t ih =>
    intro i l hi hi8 hl hd
    refine k_Pr_clear_40 o14 ⟨by omega, by omega⟩ ⟨by omega, by omega⟩ ⟨by omega, by omega⟩ ⟨fun y => fin (by omega) (by omega), fun y => ?_⟩
    have y1 : l < q := by omega
    by_cases e8 : i = 8
    · subst e8
      omega
    · have e2 : 128 * 2 ^ (i + 1) = 2 * (128 * 2 ^ i) := by rw [Nat.pow_succ]; omega
      have := ih (i + 1) (l * 2) (by omega) (by omega) (by omega) (Or.inr (by omega))
      rw [show ((l * 2 : Nat) : Int) = (l : Int) * 2 by omega, show ((i + 1 : Nat) : Int) = (i : Int) + 1 by omega] at this
      exact this
end PRG
end
section
/-! The class's reader of rules: places, and its small steps. -/
section RRD
variable {G : mG} {d z r w T A B D N C n p O P K k a : Nat} {M M' M1 M2 : mM} {S : Nat → Prop}
/-- the reader's places -/
def RK (M : mM) (r : Nat) : Prop := mK M r = 4 ∧ (mR M r 8 = r + 1 ∧ mR M r 9 = r + 2 ∧ mR M r 10 = r + 3 ∧ mR M r 11 = r + 4 ∧ mR M r 13 = r + 5 ∧ mR M r 15 = r + 6 ∧ mR M r 16 = r + 7 ∧ mR M r 17 = r + 8 ∧ mR M r 18 = r + 9) ∧ (mK M (r + 1) = 30 ∧ mK M (r + 2) = 30 ∧ mK M (r + 3) = 30 ∧ mK M (r + 4) = 30 ∧ mK M (r + 5) = 31 ∧ mK M (r + 6) = 30 ∧ mK M (r + 7) = 30 ∧ mK M (r + 8) = 30 ∧ mK M (r + 9) = 31) ∧ (mN M (r + 1) = 336 ∧ mN M (r + 2) = 336 ∧ mN M (r + 3) = 336 ∧ mN M (r + 4) = 336 ∧ mN M (r + 5) = 336 ∧ mN M (r + 6) = 72 ∧ mN M (r + 7) = 72 ∧ mN M (r + 8) = 72 ∧ mN M (r + 9) = 72)
theorem RK.fi (h : RK M r) (f : FI S M M') : RK M' r := by
  obtain ⟨f1, f2, f3, -⟩ := f
  unfold RK at h ⊢
  rw [f1, f2, f3]
  exact h
/-- the cells that reading a rule may change -/
def rdS (r p O P : Nat) : Nat → Prop := fun x => (r ≤ x ∧ x ≤ r + 9) ∨ x = p ∨ x = O ∨ x = P
/-- words, program and reader lie apart -/
def Spr (z r w T A B D p O P : Nat) : Prop := r + 9 < z ∧ (r + 9 < p ∨ p + 15 < r) ∧ ∀ x, (x = w ∨ x = T ∨ x = A ∨ x = B ∨ x = D) → ¬ ((r ≤ x ∧ x ≤ r + 9) ∨ (p ≤ x ∧ x ≤ p + 15) ∨ x = O ∨ x = P)
/-- the reader while it reads: words w, program p -/
def RB (M : mM) (z r w T A B D N C n p O P K : Nat) : Prop := mOk M ∧ RK M r ∧ (mR M r 0 = w ∧ mR M r 1 = p) ∧ Wf M w T A B D N C n ∧ PK M z p O P K ∧ Spr z r w T A B D p O P ∧ n + 1 ≤ K
theorem Wf.fi (h : Wf M w T A B D N C n) (f : FI S M M') (hS : ∀ x, (x = w ∨ x = T ∨ x = A ∨ x = B ∨ x = D) → ¬ S x) : Wf M' w T A B D N C n := by
  obtain ⟨f1, f2, f3, f4, f5, f6, f7⟩ := f
  unfold Wf WA at h ⊢
  rw [f1, f2, f3, f7 w (hS w (Or.inl rfl)), f7 A (hS A (Or.inr (Or.inr (Or.inl rfl)))), f7 B (hS B (Or.inr (Or.inr (Or.inr (Or.inl rfl))))), f7 D (hS D (Or.inr (Or.inr (Or.inr (Or.inr rfl)))))]
  exact h
theorem RB.fi (h : RB M z r w T A B D N C n p O P K) (o : mOk M') (f : FI (rdS r p O P) M M') : RB M' z r w T A B D N C n p O P K := by
  obtain ⟨-, h2, h3, h4, h5, h6, h7⟩ := h
  refine ⟨o, h2.fi f, by rw [f.2.2.1]; exact h3, h4.fi f (fun x hx q => h6.2.2 x hx ?_), h5.fi f, h6, h7⟩
  have q' : (r ≤ x ∧ x ≤ r + 9) ∨ x = p ∨ x = O ∨ x = P := q
  omega
/-- a field of the reader is written -/
theorem rb_fld {j : Nat} {v : Int} (h : RB M z r w T A B D N C n p O P K) (hv : i32 v) (e : M' = mUI M r j v) : RB M' z r w T A B D N C n p O P K ∧ FI (rdS r p O P) M M' ∧ (∀ i, mI M' r i = if i = j then v else mI M r i) ∧ (∀ x, x ≠ r → mI M' x = mI M x) := by
  have f : FI (rdS r p O P) M M' := by rw [e]; exact FI.ui (Or.inl ⟨Nat.le_refl _, by omega⟩)
  refine ⟨h.fi (by rw [e]; exact mOk_UI h.1 hv) f, f, fun i => ?_, fun x hx => ?_⟩
  · rw [e, mI_UI]
    by_cases y : i = j
    · rw [if_pos ⟨rfl, y⟩, if_pos y]
    · rw [if_neg (fun q => y q.2), if_neg y]
  · rw [e]; funext i; rw [mI_UI, if_neg (fun q => hx q.1)]
/-- a place of the reader's tables is written -/
theorem rb_tab {i j : Nat} {v : Int} (h : RB M z r w T A B D N C n p O P K) (h1 : 1 ≤ i) (h9 : i ≤ 9) (hv : i32 v) (e : M' = mUI M (r + i) j v) : RB M' z r w T A B D N C n p O P K ∧ FI (rdS r p O P) M M' ∧ (∀ x, mI M' (r + i) x = if x = j then v else mI M (r + i) x) ∧ (∀ x, x ≠ r + i → mI M' x = mI M x) := by
  have f : FI (rdS r p O P) M M' := by rw [e]; exact FI.ui (Or.inl ⟨by omega, by omega⟩)
  refine ⟨h.fi (by rw [e]; exact mOk_UI h.1 hv) f, f, fun x => ?_, fun x hx => ?_⟩
  · rw [e, mI_UI]
    by_cases y : x = j
    · rw [if_pos ⟨rfl, y⟩, if_pos y]
    · rw [if_neg (fun q => y q.2), if_neg y]
  · rw [e]; funext i; rw [mI_UI, if_neg (fun q => hx q.1)]
theorem s_RR_here (h : RB M z r w T A B D N C n p O P K) (ha : mI M r 2 = a) (han : a ≤ n) : Ci G y_RR_here d [vr r] M (fun x M' => M' = M ∧ x = mI M B a ∧ 0 ≤ x ∧ x ≤ 16384) := by
  obtain ⟨hO, hK, ⟨r0, r1⟩, hW, -⟩ := id h
  obtain ⟨⟨w1, ⟨p0, p3, p4, p5⟩, -, ⟨k3, k4, k5⟩, ⟨c3, c4, c5⟩, w6, w7, w8, -⟩, e2, hnN, hw, hA, hB⟩ := id hW
  refine k_RR_here hO ?_
  rw [r0, p4, ha, Int.toNat_natCast, c4]
  refine ⟨hK.1, w1, k4, by omega, rfl, rfl, ?_⟩
  by_cases y : a = n
  · rw [y, hB]
    omega
  · have := (hw a (by omega)).2.1
    omega
theorem s_RR_accept {x : Int} (hx : i32 x) (h : RB M z r w T A B D N C n p O P K) (ha : mI M r 2 = a) (han : a ≤ n) : Ci G y_RR_accept d [vr r, vi x] M (fun v M' => RB M' z r w T A B D N C n p O P K ∧ ((v = 1 ∧ mI M A a = x ∧ M' = mUI M r 2 ((a : Int) + 1) ∧ mI M' r 2 = a + 1) ∨ (v = 0 ∧ mI M A a ≠ x ∧ M' = M))) := by
  obtain ⟨hO, hK, ⟨r0, r1⟩, hW, -⟩ := id h
  obtain ⟨⟨w1, ⟨p0, p3, p4, p5⟩, -, ⟨k3, k4, k5⟩, ⟨c3, c4, c5⟩, w6, w7, w8, -⟩, e2, hnN, hw, hA, hB⟩ := id hW
  refine k_RR_accept hO hx ?_
  rw [r0, p3, ha, Int.toNat_natCast, c3]
  refine ⟨hK.1, w1, k3, by omega, fun y => ⟨⟨by omega, by omega⟩, fun M9 e9 => ?_⟩, fun y => ⟨h, Or.inr ⟨rfl, y, rfl⟩⟩⟩
  obtain ⟨h9, f9, g9, -⟩ := rb_fld h ⟨by omega, by omega⟩ e9
  exact ⟨h9, Or.inl ⟨rfl, y, e9, by rw [g9, if_pos rfl]⟩⟩
theorem s_RR_note {x y : Int} (hx : i32 x) (hy : i32 y) (h : RB M z r w T A B D N C n p O P K) : Cv G y_RR_note d [vr r, vi x, vi y] M (fun M' => RB M' z r w T A B D N C n p O P K ∧ FI (fun b => b = r) M M' ∧ (∀ i, i ≠ 3 → i ≠ 4 → mI M' r i = mI M r i) ∧ (mI M r 3 = 0 → mI M' r 3 = x) ∧ (mI M r 3 ≠ 0 → mI M' r 3 = mI M r 3)) := by
  refine k_RR_note h.1 hx hy ⟨h.2.1.1, fun e M5 e5 M7 e7 => ?_, fun e => ⟨h, FI.refl, fun _ _ _ => rfl, fun q => absurd q e, fun _ => rfl⟩⟩
  obtain ⟨h5, -, g5, -⟩ := rb_fld h hx e5
  obtain ⟨h7, -, g7, -⟩ := rb_fld h5 hy e7
  have f5 : FI (fun b => b = r) M M5 := by rw [e5]; exact FI.ui rfl
  have f7 : FI (fun b => b = r) M5 M7 := by rw [e7]; exact FI.ui rfl
  exact ⟨h7, f5.trans f7, fun i i3 i4 => by rw [g7, if_neg i4, g5, if_neg i3], fun _ => by rw [g7, if_neg (by decide), g5, if_pos rfl], fun q => absurd e q⟩
/-- how tight an operation binds -/
def lvl (o : Int) : Int := if 19 ≤ o ∧ o ≤ 24 then 4 else if o = 25 ∨ o = 26 then 5 else if 27 ≤ o ∧ o ≤ 29 then 6 else if o = 30 then 2 else if o = 31 then 1 else if o = 41 then 3 else 0
theorem s_RR_level {o : Int} (ho : i32 o) (hO : mOk M) : Ci G y_RR_level d [vi o] M (fun x M' => M' = M ∧ x = lvl o) := by
  refine k_RR_level hO ho ⟨fun q => ⟨rfl, ?_⟩, fun q1 => ⟨fun q => ⟨rfl, ?_⟩, fun q2 => ⟨fun q => ⟨rfl, ?_⟩, fun q3 => ⟨fun q => ⟨rfl, ?_⟩, fun q4 => ⟨fun q => ⟨rfl, ?_⟩, fun q5 => ⟨fun q => ⟨rfl, ?_⟩, fun q6 => ⟨rfl, ?_⟩⟩⟩⟩⟩⟩⟩ <;> unfold lvl <;> (repeat' split) <;> omega
theorem lvl_b (o : Int) : 0 ≤ lvl o ∧ lvl o ≤ 6 := by unfold lvl; (repeat' split) <;> omega
/-- a kind is put on the pile -/
theorem s_RR_pushKind {v : Int} {c : Nat} (hv : v = 0 ∨ v = 1) (h : RB M z r w T A B D N C n p O P K) (hc : mI M r 14 = c) (h3 : c < 336) : Cv G y_RR_pushKind d [vr r, vi v] M (fun M' => RB M' z r w T A B D N C n p O P K ∧ FI (fun b => b = r ∨ b = r + 5) M M' ∧ (∀ i, mI M' r i = if i = 14 then (c : Int) + 1 else mI M r i) ∧ (∀ i, mI M' (r + 5) i = if i = c then v else mI M (r + 5) i)) := by
  obtain ⟨hO, hK, -⟩ := id h
  obtain ⟨k0, ⟨-, -, -, -, q13, -⟩, ⟨-, -, -, -, k5, -⟩, ⟨-, -, -, -, n5, -⟩⟩ := id hK
  refine k_RR_pushKind hO (i32s (by omega) (by omega)) ⟨k0, fun y => absurd y (by omega), fun y => ⟨⟨by omega, by omega⟩, fun M10 e10 => ?_⟩⟩
  rw [hc] at e10
  obtain ⟨h10, -, g10, u10⟩ := rb_fld h ⟨by omega, by omega⟩ e10
  obtain ⟨-, hK10, -⟩ := id h10
  rw [q13, hc, Int.toNat_natCast, show mN M10 (r + 5) = 336 from hK10.2.2.2.2.2.2.2.1]
  refine ⟨hK10.2.2.1.2.2.2.2.1, by omega, hv, fun M15 e15 => ?_⟩
  obtain ⟨h15, -, g15, u15⟩ := rb_tab h10 (i := 5) (by omega) (by omega) (i32s (by omega) (by omega)) e15
  have f10 : FI (fun b => b = r ∨ b = r + 5) M M10 := by rw [e10]; exact FI.ui (Or.inl rfl)
  have f15 : FI (fun b => b = r ∨ b = r + 5) M10 M15 := by rw [e15]; exact FI.ui (Or.inr rfl)
  exact ⟨h15, f10.trans f15, fun i => by rw [u15 r (by omega), g10], fun i => by rw [g15, u10 (r + 5) (by omega)]⟩
/-- a kind is taken -/
theorem s_RR_popKind {c : Nat} (h : RB M z r w T A B D N C n p O P K) (hc : mI M r 14 = ((c + 1 : Nat) : Int)) (h3 : c < 336) : Ci G y_RR_popKind d [vr r] M (fun v M' => (v = 0 ∨ v = 1) ∧ RB M' z r w T A B D N C n p O P K ∧ FI (fun b => b = r) M M' ∧ (∀ i, mI M' r i = if i = 14 then (c : Int) else mI M r i)) := by
  obtain ⟨hO, hK, -⟩ := id h
  obtain ⟨k0, ⟨-, -, -, -, q13, -⟩, ⟨-, -, -, -, k5, -⟩, ⟨-, -, -, -, n5, -⟩⟩ := id hK
  refine k_RR_popKind hO ⟨k0, fun y => ?_, fun v e M9 e9 => ?_⟩
  · have o' : mOk (mUI M r 14 ((mI M r 14) - 1)) := mOk_UI hO ⟨by omega, by omega⟩
    refine ⟨⟨by omega, by omega⟩, ?_⟩
    rw [q13, mK_UI, mN_UI, n5]
    exact ⟨k5, by omega, (o' _ _).1⟩
  · rw [if_neg (by omega), hc, show ((c + 1 : Nat) : Int) - 1 = (c : Int) by omega] at e9
    obtain ⟨h9, -, g9, -⟩ := rb_fld h ⟨by omega, by omega⟩ e9
    refine ⟨h9.1, by rw [e]; split <;> omega, h9, by rw [e9]; exact FI.ui rfl, g9⟩
end RRD
end
end
section
section
/-! The class's reader of rules: what its piles hold, and the heights of the code that it makes. -/
section RRH
variable {G : mG} {d z r w T A B D N C n p O P K k a s L V F : Nat} {M M' M1 M2 : mM} {H H' : Nat → Nat} {ns : Nat → Int}
/-- sums over the open operations -/
def sq (f : Nat → Nat) : Nat → Nat
  | 0 => 0
  | i + 1 => sq f i + f i
theorem sq_cg {f g : Nat → Nat} : ∀ (i : Nat), (∀ j, j < i → f j = g j) → sq f i = sq g i
  | 0, _ => rfl
  | i + 1, h => by
    show sq f i + f i = sq g i + g i
    rw [sq_cg i (fun j hj => h j (by omega)), h i (by omega)]
/-- values of the machine that an open operation o with marks m holds -/
def cm (o m : Int) : Nat := if 19 ≤ o ∧ o ≤ 29 then 1 else if (o = 15 ∨ o = 16) ∧ (m = 2 ∨ m = 3) then 1 else 0
/-- kinds that it holds, orders that it will make, levels that it is -/
def ckk (o : Int) : Nat := if 19 ≤ o ∧ o ≤ 31 then 1 else 0
def cee (o : Int) : Nat := if (19 ≤ o ∧ o ≤ 29) ∨ o = 40 ∨ o = 41 then 1 else 0
def cdp (o : Int) : Nat := if o = 15 ∨ o = 16 ∨ o = 33 ∨ o = 37 ∨ o = 40 ∨ o = 41 ∨ o = 42 then 1 else 0
/-- the rank of a sign between two operands -/
def rkk (o : Int) : Nat := if o = 31 then 1 else if o = 30 then 2 else if 19 ≤ o ∧ o ≤ 24 then 3 else if o = 25 ∨ o = 26 then 4 else if 27 ≤ o ∧ o ≤ 29 then 5 else 0
def opn (o : Int) : Prop := o = 15 ∨ o = 16 ∨ (19 ≤ o ∧ o ≤ 31) ∨ o = 33 ∨ o = 37 ∨ o = 40 ∨ o = 41 ∨ o = 42
def jm (o : Int) : Prop := o = 30 ∨ o = 31 ∨ o = 33 ∨ o = 42
def bs (M : mM) (r i : Nat) : Nat := sq (fun j => cm (mI M (r + 1) j) (mI M (r + 4) j)) i
def skk (M : mM) (r i : Nat) : Nat := sq (fun j => ckk (mI M (r + 1) j)) i
def se (M : mM) (r i : Nat) : Nat := sq (fun j => cee (mI M (r + 1) j)) i
def sdp (M : mM) (r i : Nat) : Nat := sq (fun j => cdp (mI M (r + 1) j)) i
/-- an order that goes straight on -/
def stO (V F : Nat) (ns : Nat → Int) (H : Nat → Nat) (pc : Nat) (o x : Int) : Prop :=
  (o = 3 ∧ -999999999 ≤ x ∧ x ≤ 999999999 ∧ H (pc + 1) = H pc + 1) ∨ ((o = 4 ∨ o = 7) ∧ 0 ≤ x ∧ x < F ∧ ns x.toNat = o ∧ H (pc + 1) = H pc + 1) ∨ (o = 5 ∧ 0 ≤ x ∧ x < V ∧ H (pc + 1) = H pc + 1) ∨ ((o = 30 ∨ o = 31 ∨ o = 33) ∧ H (pc + 1) + 1 = H pc) ∨ (o = 42 ∧ 1 ≤ H pc) ∨ ((o = 40 ∨ o = 41) ∧ 1 ≤ H pc ∧ H (pc + 1) = H pc) ∨ ((o = 15 ∨ o = 16 ∨ (19 ≤ o ∧ o ≤ 29)) ∧ 2 ≤ H pc ∧ H (pc + 1) + 1 = H pc) ∨ (o = 43 ∧ 0 ≤ x ∧ x ≤ 1000000 ∧ x % 16 < V ∧ H (pc + 1) + 1 = H pc)
/-- where it may jump to -/
def tgO (H : Nat → Nat) (L pc : Nat) (o x : Int) : Prop := ∃ t : Nat, x = t ∧ pc < t ∧ t ≤ L ∧ (o = 33 → H t + 1 = H pc) ∧ (o ≠ 33 → H t = H pc)
/-- the code from s to L; pd: jumps that are not settled yet -/
def CO (M : mM) (O P V F : Nat) (ns : Nat → Int) (H : Nat → Nat) (s L : Nat) (pd : Nat → Prop) : Prop := ∀ pc, s ≤ pc → pc < L → stO V F ns H pc (mI M O pc) (mI M P pc) ∧ (jm (mI M O pc) → pd pc ∨ tgO H L pc (mI M O pc) (mI M P pc)) ∧ H pc + s ≤ pc
theorem stO.cg {pc : Nat} {o x : Int} (h : stO V F ns H pc o x) (h0 : H' pc = H pc) (h1 : H' (pc + 1) = H (pc + 1)) : stO V F ns H' pc o x := by
  unfold stO at h ⊢
  rw [h0, h1]
  exact h
theorem tgO.cg {L' pc : Nat} {o x : Int} (h : tgO H L pc o x) (hL : L ≤ L') (hp : pc < L) (hH : ∀ i, i ≤ L → H' i = H i) : tgO H' L' pc o x := by
  obtain ⟨t, e, t1, t2, t3, t4⟩ := h
  refine ⟨t, e, t1, by omega, ?_, ?_⟩
  · rw [hH t t2, hH pc (by omega)]
    exact t3
  · rw [hH t t2, hH pc (by omega)]
    exact t4
/-- one order more -/
theorem CO.add {pd pd' : Nat → Prop} {o x : Int} (h : CO M O P V F ns H s L pd) (hsL : s ≤ L) (hH : ∀ i, i ≤ L → H' i = H i) (hb : H L + s ≤ L) (hO : ∀ i, mI M' O i = if i = L then o else mI M O i) (hP : ∀ i, mI M' P i = if i = L then x else mI M P i) (hpd : ∀ i, i < L → pd i → pd' i) (hs : stO V F ns H' L o x) (hj : jm o → pd' L ∨ tgO H' (L + 1) L o x) : CO M' O P V F ns H' s (L + 1) pd' := by
  intro pc h0 h1
  rw [hO, hP]
  by_cases y : pc = L
  · subst y
    rw [if_pos rfl, if_pos rfl]
    exact ⟨hs, hj, by rw [hH pc (Nat.le_refl _)]; exact hb⟩
  · rw [if_neg y, if_neg y]
    obtain ⟨a1, a2, a3⟩ := h pc h0 (by omega)
    refine ⟨a1.cg (hH pc (by omega)) (hH (pc + 1) (by omega)), fun q => ?_, by rw [hH pc (by omega)]; exact a3⟩
    rcases a2 q with u | u
    · exact Or.inl (hpd pc (by omega) u)
    · exact Or.inr (u.cg (by omega) (by omega) hH)
/-- a jump is settled -/
theorem CO.put {pd pd' : Nat → Prop} {t : Nat} {x : Int} (h : CO M O P V F ns H s L pd) (hj : jm (mI M O t)) (hO : ∀ i, mI M' O i = mI M O i) (hP : ∀ i, mI M' P i = if i = t then x else mI M P i) (hpd : ∀ i, i < L → i ≠ t → pd i → pd' i) (ht : tgO H L t (mI M O t) x) : CO M' O P V F ns H s L pd' := by
  intro pc h0 h1
  rw [hO, hP]
  obtain ⟨a1, a2, a3⟩ := h pc h0 h1
  by_cases y : pc = t
  · subst y
    rw [if_pos rfl]
    refine ⟨?_, fun _ => Or.inr ht, a3⟩
    clear h hO hP hpd ht a2 a3
    unfold jm at hj
    rcases a1 with q | q | q | q | q | q | q | q
    · exact absurd q.1 (by omega)
    · exact absurd q.1 (by omega)
    · exact absurd q.1 (by omega)
    · exact Or.inr (Or.inr (Or.inr (Or.inl q)))
    · exact Or.inr (Or.inr (Or.inr (Or.inr (Or.inl q))))
    · exact absurd q.1 (by omega)
    · exact absurd q.1 (by omega)
    · exact absurd q.1 (by omega)
  · rw [if_neg y]
    refine ⟨a1, fun q => ?_, a3⟩
    rcases a2 q with u | u
    · exact Or.inl (hpd pc h1 y u)
    · exact Or.inr u
/-- below a '?' nothing tighter is open -/
def aO (M : mM) (r i : Nat) : Prop := (mI M (r + 1) i = 33 ∨ mI M (r + 1) i = 42) → ∀ j, j + 1 = i → lvl (mI M (r + 1) j) = 0
/-- what an open operation keeps -/
def enO (M : mM) (r O s L : Nat) (H : Nat → Nat) (i : Nat) : Prop := opn (mI M (r + 1) i) ∧ (0 ≤ mI M (r + 2) i ∧ mI M (r + 2) i ≤ 16384) ∧ (0 ≤ mI M (r + 4) i ∧ mI M (r + 4) i ≤ 7) ∧ ((mI M (r + 1) i = 15 ∨ mI M (r + 1) i = 16) → mI M (r + 4) i ≤ 3) ∧ (jm (mI M (r + 1) i) → ∃ t : Nat, mI M (r + 3) i = t ∧ s ≤ t ∧ t < L ∧ mI M O t = mI M (r + 1) i ∧ H t = bs M r i + 1 ∧ (mI M (r + 1) i ≠ 42 → H (t + 1) = bs M r i)) ∧ (¬ jm (mI M (r + 1) i) → mI M (r + 3) i = -1) ∧ aO M r i
def pdg (M : mM) (r k : Nat) (pc : Nat) : Prop := ∃ i, i < k ∧ mI M (r + 3) i = pc ∧ jm (mI M (r + 1) i)
/-- how many operands stand behind the latest sign -/
def uw (wt : Int) : Nat := if wt = 0 then 1 else 0
/-- reading a rule: k operations are open, at word a, L orders -/
def RG (M : mM) (r p O P n s V F : Nat) (ns : Nat → Int) (d0 : Nat) (H : Nat → Nat) (L k a : Nat) (wt : Int) : Prop :=
  (mI M r 2 = a ∧ mI M r 12 = k ∧ mI M r 7 = wt ∧ mI M p 2 = L) ∧ (wt = 0 ∨ wt = 1) ∧ (a ≤ n ∧ s ≤ L) ∧ mI M r 14 = ((uw wt + skk M r k : Nat) : Int) ∧ (mI M r 5 = ((d0 + sdp M r k : Nat) : Int) ∧ d0 + sdp M r k ≤ 40) ∧ (∀ i, i < k → i + 1 ≤ 6 * sdp M r (i + 1) + rkk (mI M (r + 1) i)) ∧ (∀ i, i < k → enO M r O s L H i) ∧ (H L = uw wt + bs M r k ∧ H L + s ≤ L) ∧ CO M O P V F ns H s L (pdg M r k) ∧ L + se M r k ≤ a ∧ (∀ j, mI M (r + 5) j = 0 ∨ mI M (r + 5) j = 1)
theorem rkk_b (o : Int) : rkk o ≤ 5 := by unfold rkk; (repeat' split) <;> omega
theorem skk_le (M : mM) (r : Nat) : ∀ k, skk M r k ≤ k
  | 0 => Nat.le_refl _
  | k + 1 => by
    have h1 := skk_le M r k
    have h2 : ckk (mI M (r + 1) k) ≤ 1 := by unfold ckk; split <;> omega
    have h3 : skk M r (k + 1) = skk M r k + ckk (mI M (r + 1) k) := rfl
    omega
/-- there is room on the piles -/
theorem RG.room {d0 : Nat} {wt : Int} (h : RG M r p O P n s V F ns d0 H L k a wt) : k ≤ 245 ∧ uw wt + skk M r k ≤ 246 := by
  obtain ⟨-, h2, -, -, ⟨-, h5⟩, h6, -⟩ := h
  have hk : k ≤ 245 := by
    by_cases y : k = 0
    · omega
    · have a1 := h6 (k - 1) (by omega)
      have a2 := rkk_b (mI M (r + 1) (k - 1))
      rw [show k - 1 + 1 = k by omega] at a1
      omega
  have := skk_le M r k
  have hu : uw wt ≤ 1 := by unfold uw; split <;> omega
  exact ⟨hk, by omega⟩
/-- the sums look at the piles alone -/
theorem sums_cg (h1 : ∀ j, j < k → mI M' (r + 1) j = mI M (r + 1) j) (h4 : ∀ j, j < k → mI M' (r + 4) j = mI M (r + 4) j) : ∀ i, i ≤ k → bs M' r i = bs M r i ∧ skk M' r i = skk M r i ∧ se M' r i = se M r i ∧ sdp M' r i = sdp M r i := fun i hi =>
  ⟨sq_cg i (fun j hj => by rw [h1 j (by omega), h4 j (by omega)]), sq_cg i (fun j hj => by rw [h1 j (by omega)]), sq_cg i (fun j hj => by rw [h1 j (by omega)]), sq_cg i (fun j hj => by rw [h1 j (by omega)])⟩
end RRH
end
section
/-! The class's reader of rules: push, mayDeny, takeValue, takeLevel. -/
section RRP
variable {G : mG} {d z r w T A B D N C n p O P K k a s L V F d0 : Nat} {M M' M1 M2 : mM} {H H' : Nat → Nat} {ns : Nat → Int} {wt : Int}
theorem s_RR_push {o pl od : Int} (ho : i32 o) (hpl : i32 pl) (hod : i32 od) (h : RB M z r w T A B D N C n p O P K) (hk : mI M r 12 = k) (hk3 : k < 336) (ha : mI M r 2 = a) (ha2 : a ≤ 16384) : Cv G y_RR_push d [vr r, vi o, vi pl, vi od] M (fun M' => RB M' z r w T A B D N C n p O P K ∧ FI (fun b => r ≤ b ∧ b ≤ r + 4) M M' ∧ (∀ i, mI M' r i = if i = 2 then (a : Int) + 1 else if i = 7 then 1 else if i = 12 then (k : Int) + 1 else mI M r i) ∧ (∀ i, mI M' (r + 1) i = if i = k then o else mI M (r + 1) i) ∧ (∀ i, mI M' (r + 2) i = if i = k then pl else mI M (r + 2) i) ∧ (∀ i, mI M' (r + 3) i = if i = k then od else mI M (r + 3) i) ∧ (∀ i, mI M' (r + 4) i = if i = k then 0 else mI M (r + 4) i)) := by
  have q8 : ∀ {Mx : mM}, RB Mx z r w T A B D N C n p O P K → (mR Mx r 8 = r + 1 ∧ mR Mx r 9 = r + 2 ∧ mR Mx r 10 = r + 3 ∧ mR Mx r 11 = r + 4) ∧ (mK Mx (r + 1) = 30 ∧ mK Mx (r + 2) = 30 ∧ mK Mx (r + 3) = 30 ∧ mK Mx (r + 4) = 30) ∧ (mN Mx (r + 1) = 336 ∧ mN Mx (r + 2) = 336 ∧ mN Mx (r + 3) = 336 ∧ mN Mx (r + 4) = 336) := fun hx => by
    obtain ⟨-, ⟨-, ⟨a1, a2, a3, a4, -⟩, ⟨b1, b2, b3, b4, -⟩, ⟨c1, c2, c3, c4, -⟩⟩, -⟩ := hx
    exact ⟨⟨a1, a2, a3, a4⟩, ⟨b1, b2, b3, b4⟩, ⟨c1, c2, c3, c4⟩⟩
  refine k_RR_push h.1 ho hpl hod ⟨h.2.1.1, fun y => absurd y (by omega), fun _ => ?_⟩
  rw [(q8 h).1.1, hk, Int.toNat_natCast, (q8 h).2.2.1]
  refine ⟨(q8 h).2.1.1, by omega, fun M16 e16 => ?_⟩
  obtain ⟨h16, f16, g16, u16⟩ := rb_tab h (i := 1) (by omega) (by omega) ho e16
  rw [(q8 h16).1.2.1, u16 r (by omega), hk, Int.toNat_natCast, (q8 h16).2.2.2.1]
  refine ⟨(q8 h16).2.1.2.1, by omega, fun M20 e20 => ?_⟩
  obtain ⟨h20, f20, g20, u20⟩ := rb_tab h16 (i := 2) (by omega) (by omega) hpl e20
  rw [(q8 h20).1.2.2.1, u20 r (by omega), u16 r (by omega), hk, Int.toNat_natCast, (q8 h20).2.2.2.2.1]
  refine ⟨(q8 h20).2.1.2.2.1, by omega, fun M24 e24 => ?_⟩
  obtain ⟨h24, f24, g24, u24⟩ := rb_tab h20 (i := 3) (by omega) (by omega) hod e24
  rw [(q8 h24).1.2.2.2, u24 r (by omega), u20 r (by omega), u16 r (by omega), hk, Int.toNat_natCast, (q8 h24).2.2.2.2.2]
  refine ⟨(q8 h24).2.1.2.2.2, by omega, fun M28 e28 => ?_⟩
  obtain ⟨h28, f28, g28, u28⟩ := rb_tab h24 (i := 4) (by omega) (by omega) (v := 0) (i32s (by omega) (by omega)) e28
  have r28 : mI M28 r = mI M r := by rw [u28 r (by omega), u24 r (by omega), u20 r (by omega), u16 r (by omega)]
  rw [r28, hk]
  refine ⟨⟨by omega, by omega⟩, fun M31 e31 M33 e33 => ?_⟩
  obtain ⟨h31, f31, g31, u31⟩ := rb_fld h28 ⟨by omega, by omega⟩ e31
  obtain ⟨h33, f33, g33, u33⟩ := rb_fld h31 (v := 1) (i32s (by omega) (by omega)) e33
  have e2 : mI M33 r 2 = a := by rw [g33, if_neg (by decide), g31, if_neg (by decide), r28, ha]
  rw [e2]
  refine ⟨⟨by omega, by omega⟩, fun M36 e36 => ?_⟩
  obtain ⟨h36, f36, g36, u36⟩ := rb_fld h33 ⟨by omega, by omega⟩ e36
  have fi : FI (fun b => r ≤ b ∧ b ≤ r + 4) M M36 := by
    have x16 : FI (fun b => r ≤ b ∧ b ≤ r + 4) M M16 := by rw [e16]; exact FI.ui ⟨by omega, by omega⟩
    have x20 : FI (fun b => r ≤ b ∧ b ≤ r + 4) M16 M20 := by rw [e20]; exact FI.ui ⟨by omega, by omega⟩
    have x24 : FI (fun b => r ≤ b ∧ b ≤ r + 4) M20 M24 := by rw [e24]; exact FI.ui ⟨by omega, by omega⟩
    have x28 : FI (fun b => r ≤ b ∧ b ≤ r + 4) M24 M28 := by rw [e28]; exact FI.ui ⟨by omega, by omega⟩
    have x31 : FI (fun b => r ≤ b ∧ b ≤ r + 4) M28 M31 := by rw [e31]; exact FI.ui ⟨by omega, by omega⟩
    have x33 : FI (fun b => r ≤ b ∧ b ≤ r + 4) M31 M33 := by rw [e33]; exact FI.ui ⟨by omega, by omega⟩
    have x36 : FI (fun b => r ≤ b ∧ b ≤ r + 4) M33 M36 := by rw [e36]; exact FI.ui ⟨by omega, by omega⟩
    exact (((((x16.trans x20).trans x24).trans x28).trans x31).trans x33).trans x36
  refine ⟨h36, fi, fun i => ?_, fun i => ?_, fun i => ?_, fun i => ?_, fun i => ?_⟩
  · rw [g36]
    by_cases y2 : i = 2
    · rw [if_pos y2, if_pos y2]
    · rw [if_neg y2, if_neg y2, g33]
      by_cases y7 : i = 7
      · rw [if_pos y7, if_pos y7]
      · rw [if_neg y7, if_neg y7, g31, r28]
  · rw [u36 _ (by omega), u33 _ (by omega), u31 _ (by omega), u28 _ (by omega), u24 _ (by omega), u20 _ (by omega), g16]
  · rw [u36 _ (by omega), u33 _ (by omega), u31 _ (by omega), u28 _ (by omega), u24 _ (by omega), g20, u16 _ (by omega)]
  · rw [u36 _ (by omega), u33 _ (by omega), u31 _ (by omega), u28 _ (by omega), g24, u20 _ (by omega), u16 _ (by omega)]
  · rw [u36 _ (by omega), u33 _ (by omega), u31 _ (by omega), g28, u24 _ (by omega), u20 _ (by omega), u16 _ (by omega)]
/-- the orders lie apart from the reader -/
theorem off0 {x r : Nat} (h : x < r ∨ r + 9 < x) : x ≠ r := by omega
theorem off9 {x r i : Nat} (h : x < r ∨ r + 9 < x) (hi : i ≤ 9) : x ≠ r + i := by omega
theorem off4 {x r : Nat} (h : x < r ∨ r + 9 < x) : x < r ∨ r + 4 < x := by omega
theorem fof0 {x r : Nat} (h : x < r ∨ r + 9 < x) : r ≠ x := by omega
theorem fof9 {x r i : Nat} (h : x < r ∨ r + 9 < x) (hi : i ≤ 9) : r + i ≠ x := by omega
theorem off3 {b r p O P : Nat} (h1 : p < r ∨ r + 9 < p) (h2 : O < r ∨ r + 9 < O) (h3 : P < r ∨ r + 9 < P) (y1 : r ≤ b) (y2 : b ≤ r + 9) (q : b = p ∨ b = O ∨ b = P) : False := by
  rcases q with q | q | q <;> omega
theorem nin5 {b r : Nat} (y1 : b ≠ r) (y2 : b ≠ r + 5) (q : b = r ∨ b = r + 5) : False := q.elim y1 y2
theorem rin5 {b r : Nat} (q : b = r ∨ b = r + 5) : r ≤ b ∧ b ≤ r + 9 := by omega
theorem RB.off (h : RB M z r w T A B D N C n p O P K) : (O < r ∨ r + 9 < O) ∧ (P < r ∨ r + 9 < P) ∧ (p < r ∨ r + 9 < p) ∧ O ≠ p ∧ P ≠ p ∧ O ≠ P := by
  obtain ⟨-, -, -, -, ⟨-, -, -, ⟨a1, a2, a3, a4⟩, -⟩, ⟨s1, s2, -⟩, -⟩ := h
  refine ⟨?_, ?_, ?_, ?_, ?_, a3⟩ <;> omega
/-- an open operation keeps what it keeps -/
theorem enO.cg {L' i : Nat} (h : enO M r O s L H i) (h1 : ∀ j, j ≤ i → mI M' (r + 1) j = mI M (r + 1) j) (h2 : mI M' (r + 2) i = mI M (r + 2) i) (h3 : mI M' (r + 3) i = mI M (r + 3) i) (h4 : ∀ j, j ≤ i → mI M' (r + 4) j = mI M (r + 4) j) (hL : L ≤ L') (hO : ∀ j, j < L → mI M' O j = mI M O j) (hH : ∀ j, j ≤ L → H' j = H j) : enO M' r O s L' H' i := by
  obtain ⟨a1, a2, a3, a4, a5, a6, a7⟩ := h
  have b := (sums_cg (M := M) (M' := M') (r := r) (k := i) (fun j hj => h1 j (by omega)) (fun j hj => h4 j (by omega)) i (Nat.le_refl _)).1
  unfold enO
  rw [h1 i (Nat.le_refl _), h2, h3, h4 i (Nat.le_refl _), b]
  refine ⟨a1, a2, a3, a4, fun q => ?_, a6, fun q j hj => by rw [h1 j (by omega)]; exact a7 (by rw [h1 i (Nat.le_refl _)] at q; exact q) j hj⟩
  obtain ⟨t, t1, t2, t3, t4, t5, t6⟩ := a5 q
  exact ⟨t, t1, t2, by omega, by rw [hO t t3]; exact t4, by rw [hH t (by omega)]; exact t5, fun y => by rw [hH (t + 1) (by omega)]; exact t6 y⟩
theorem pdg_cg {k' pc : Nat} (h : pdg M r k pc) (hk : k ≤ k') (h1 : ∀ j, j < k → mI M' (r + 1) j = mI M (r + 1) j) (h3 : ∀ j, j < k → mI M' (r + 3) j = mI M (r + 3) j) : pdg M' r k' pc := by
  obtain ⟨i, i1, i2, i3⟩ := h
  exact ⟨i, by omega, by rw [h3 i i1]; exact i2, by rw [h1 i i1]; exact i3⟩
end RRP
end
section
/-! The class's reader of rules: a level begins, a sign is read. -/
section RRL
variable {G : mG} {d z r w T A B D N C n p O P K k a s L V F d0 : Nat} {M M' M1 M2 : mM} {H H' : Nat → Nat} {ns : Nat → Int} {wt : Int}
theorem sum_top (M : mM) (r k : Nat) : bs M r (k + 1) = bs M r k + cm (mI M (r + 1) k) (mI M (r + 4) k) ∧ skk M r (k + 1) = skk M r k + ckk (mI M (r + 1) k) ∧ se M r (k + 1) = se M r k + cee (mI M (r + 1) k) ∧ sdp M r (k + 1) = sdp M r k + cdp (mI M (r + 1) k) := ⟨rfl, rfl, rfl, rfl⟩
theorem cee_b (o : Int) : cee o ≤ 1 := by unfold cee; split <;> omega
/-- an operation without an order of its own is open now -/
theorem RG.psh {o pl : Int} {dd : Nat} (g : RG M r p O P n s V F ns d0 H L k a wt) (hr : ∀ i, mI M' r i = if i = 2 then (a : Int) + 1 else if i = 7 then 1 else if i = 12 then (k : Int) + 1 else if i = 5 then (dd : Int) else mI M r i) (t1 : ∀ i, mI M' (r + 1) i = if i = k then o else mI M (r + 1) i) (t2 : ∀ i, mI M' (r + 2) i = if i = k then pl else mI M (r + 2) i) (t3 : ∀ i, mI M' (r + 3) i = if i = k then -1 else mI M (r + 3) i) (t4 : ∀ i, mI M' (r + 4) i = if i = k then 0 else mI M (r + 4) i) (t5 : mI M' (r + 5) = mI M (r + 5)) (tp : mI M' p = mI M p) (tO : mI M' O = mI M O) (tP : mI M' P = mI M P) (ho : opn o) (hj : ¬ jm o) (hpl : 0 ≤ pl ∧ pl ≤ 16384) (hd : dd = d0 + sdp M r k + cdp o) (hd4 : dd ≤ 40) (hrk : k + 1 ≤ 6 * (sdp M r k + cdp o) + rkk o) (hu : uw wt = ckk o) (hb : uw wt = cm o 0) (han : a < n) : RG M' r p O P n s V F ns d0 H L (k + 1) (a + 1) 1 := by
  obtain ⟨⟨g1, g2, g3, g4⟩, gw, ⟨ga, gs⟩, gc, ⟨gd, gd4⟩, gr, ge, ⟨gH, gHs⟩, gC, gL, gt⟩ := g
  have l1 : ∀ j, j < k → mI M' (r + 1) j = mI M (r + 1) j := fun j hj => by rw [t1, if_neg (by omega)]
  have l2 : ∀ j, j < k → mI M' (r + 2) j = mI M (r + 2) j := fun j hj => by rw [t2, if_neg (by omega)]
  have l3 : ∀ j, j < k → mI M' (r + 3) j = mI M (r + 3) j := fun j hj => by rw [t3, if_neg (by omega)]
  have l4 : ∀ j, j < k → mI M' (r + 4) j = mI M (r + 4) j := fun j hj => by rw [t4, if_neg (by omega)]
  have sm := fun i hi => sums_cg (M := M) (M' := M') (r := r) (k := k) l1 l4 i hi
  obtain ⟨b1, b2, b3, b4⟩ := sum_top M' r k
  rw [t1, if_pos rfl, (sm k (Nat.le_refl _)).2.1] at b2
  rw [t1, if_pos rfl, (sm k (Nat.le_refl _)).2.2.1] at b3
  rw [t1, if_pos rfl, (sm k (Nat.le_refl _)).2.2.2] at b4
  rw [t1, if_pos rfl, t4, if_pos rfl, (sm k (Nat.le_refl _)).1] at b1
  have u1 : uw 1 = 0 := rfl
  have ce := cee_b o
  refine ⟨⟨by rw [hr, if_pos rfl]; omega, by rw [hr, if_neg (by decide), if_neg (by decide), if_pos rfl]; omega, by rw [hr, if_neg (by decide), if_pos rfl], by rw [tp]; exact g4⟩, Or.inr rfl, ⟨by omega, gs⟩, by rw [hr, if_neg (by decide), if_neg (by decide), if_neg (by decide), if_neg (by decide), gc, b2]; omega, ⟨by rw [hr, if_neg (by decide), if_neg (by decide), if_neg (by decide), if_pos rfl, b4]; omega, by omega⟩, fun i hi => ?_, fun i hi => ?_, ⟨by omega, gHs⟩, ?_, by omega, fun j => by rw [t5]; exact gt j⟩
  · by_cases y : i = k
    · subst y
      rw [b4, t1, if_pos rfl]
      exact hrk
    · rw [(sm (i + 1) (by omega)).2.2.2, l1 i (by omega)]
      exact gr i (by omega)
  · by_cases y : i = k
    · subst y
      unfold enO
      rw [t1, if_pos rfl, t2, if_pos rfl, t3, if_pos rfl, t4, if_pos rfl]
      exact ⟨ho, hpl, by omega, fun _ => by omega, fun q => absurd q hj, fun _ => rfl, fun q => absurd (show jm o by rw [t1, if_pos rfl] at q; unfold jm; omega) hj⟩
    · exact (ge i (by omega)).cg (fun j hj => l1 j (by omega)) (l2 i (by omega)) (l3 i (by omega)) (fun j hj => l4 j (by omega)) (Nat.le_refl _) (fun j _ => by rw [tO]) (fun _ _ => rfl)
  · intro pc h0 h1
    obtain ⟨a1, a2, a3⟩ := gC pc h0 h1
    rw [tO, tP]
    refine ⟨a1, fun q => ?_, a3⟩
    rcases a2 q with v | v
    · exact Or.inl (pdg_cg v (by omega) l1 l3)
    · exact Or.inr v
/-- there is room for a level, or a sign -/
theorem RG.lvl (g : RG M r p O P n s V F ns d0 H L k a wt) {o : Int} (h : cdp o = 1 ∨ (cdp o = 0 ∧ 1 ≤ rkk o ∧ (0 < k → rkk (mI M (r + 1) (k - 1)) < rkk o))) : k + 1 ≤ 6 * (sdp M r k + cdp o) + rkk o := by
  have gr := g.2.2.2.2.2.1
  by_cases y : k = 0
  · omega
  · have a1 := gr (k - 1) (by omega)
    have a2 := rkk_b (mI M (r + 1) (k - 1))
    rw [show k - 1 + 1 = k by omega] at a1
    omega
/-- what a step that opens something, and nothing else, comes to -/
def lvQ (M : mM) (z r w T A B D N C n p O P K s V F : Nat) (ns : Nat → Int) (d0 : Nat) (H : Nat → Nat) (L k a : Nat) (x : Int) (M' : mM) : Prop := RB M' z r w T A B D N C n p O P K ∧ FI (rdS r p O P) M M' ∧ (∀ i, i ≠ 2 → i ≠ 5 → i ≠ 7 → i ≠ 12 → mI M' r i = mI M r i) ∧ (∀ i, 5 ≤ i → i ≤ 9 → mI M' (r + i) = mI M (r + i)) ∧ (mI M' p = mI M p ∧ mI M' O = mI M O ∧ mI M' P = mI M P) ∧ ((x = 2 ∧ M' = M) ∨ (x = 0 ∧ RG M' r p O P n s V F ns d0 H L (k + 1) (a + 1) 1))
end RRL
end
section
/-! The class's reader of rules: an operation is grouped. -/
section RRG
variable {G : mG} {d z r w T A B D N C n p O P K k a s L V F d0 c : Nat} {M0 M M' M1 M2 M110 M126 M133 : mM} {H H' : Nat → Nat} {ns : Nat → Int} {wt : Int}
/-- kinds are taken and put, a fault may be noted -/
def gI (M0 : mM) (z r w T A B D N C n p O P K k c : Nat) (M : mM) : Prop := RB M z r w T A B D N C n p O P K ∧ FI (rdS r p O P) M0 M ∧ (∀ i, i ≠ 3 → i ≠ 4 → i ≠ 12 → i ≠ 14 → mI M r i = mI M0 r i) ∧ (mI M r 12 = k ∧ mI M r 14 = c) ∧ (mI M0 r 3 ≠ 0 → mI M r 3 = mI M0 r 3) ∧ (∀ b, b ≠ r → b ≠ r + 5 → mI M b = mI M0 b) ∧ (∀ j, mI M (r + 5) j = 0 ∨ mI M (r + 5) j = 1)
theorem gI.pop (h : gI M0 z r w T A B D N C n p O P K k (c + 1) M) (hc : c < 336) : Ci G y_RR_popKind d [vr r] M (fun v M' => (v = 0 ∨ v = 1) ∧ gI M0 z r w T A B D N C n p O P K k c M') := by
  obtain ⟨h1, h2, h3, ⟨h4, h5⟩, h6, h7, h8⟩ := h
  refine (s_RR_popKind h1 h5 hc).mono (fun v M1 q => ?_)
  obtain ⟨hv, b1, f1, g1⟩ := q
  have o1 : ∀ b, b ≠ r → mI M1 b = mI M b := fun b hb => f1.2.2.2.2.2.2 b hb
  refine ⟨hv, b1, h2.trans (f1.mono (fun b q => Or.inl ⟨by omega, by omega⟩)), fun i i3 i4 i12 i14 => by rw [g1, if_neg i14]; exact h3 i i3 i4 i12 i14, ⟨by rw [g1, if_neg (by decide)]; exact h4, by rw [g1, if_pos rfl]⟩, fun q => by rw [g1, if_neg (by decide)]; exact h6 q, fun b b1 b2 => by rw [o1 b b1]; exact h7 b b1 b2, fun j => by rw [o1 (r + 5) (by omega)]; exact h8 j⟩
theorem gI.note {x y : Int} (hx : i32 x) (hy : i32 y) (h : gI M0 z r w T A B D N C n p O P K k c M) : Cv G y_RR_note d [vr r, vi x, vi y] M (fun M' => gI M0 z r w T A B D N C n p O P K k c M') := by
  obtain ⟨h1, h2, h3, ⟨h4, h5⟩, h6, h7, h8⟩ := h
  refine (s_RR_note hx hy h1).mono (fun M1 q => ?_)
  obtain ⟨b1, f1, g1, -, g3⟩ := q
  have o1 : ∀ b, b ≠ r → mI M1 b = mI M b := fun b hb => f1.2.2.2.2.2.2 b hb
  refine ⟨b1, h2.trans (f1.mono (fun b q => Or.inl ⟨by omega, by omega⟩)), fun i i3 i4 i12 i14 => by rw [g1 i i3 i4]; exact h3 i i3 i4 i12 i14, ⟨by rw [g1 12 (by decide) (by decide)]; exact h4, by rw [g1 14 (by decide) (by decide)]; exact h5⟩, fun q => by rw [g3 (by rw [h6 q]; exact q)]; exact h6 q, fun b b1 b2 => by rw [o1 b b1]; exact h7 b b1 b2, fun j => by rw [o1 (r + 5) (by omega)]; exact h8 j⟩
/-- what is left when an operation has been grouped -/
def gQ (M0 : mM) (z r w T A B D N C n p O P K s V F : Nat) (ns : Nat → Int) (d0 : Nat) (H : Nat → Nat) (L k a : Nat) (M' : mM) : Prop := RB M' z r w T A B D N C n p O P K ∧ FI (rdS r p O P) M0 M' ∧ (∀ i, i ≠ 3 → i ≠ 4 → i ≠ 5 → i ≠ 12 → i ≠ 14 → mI M' r i = mI M0 r i) ∧ (mI M0 r 3 ≠ 0 → mI M' r 3 = mI M0 r 3) ∧ (∀ i, 6 ≤ i → i ≤ 9 → mI M' (r + i) = mI M0 (r + i)) ∧ (∀ i, i ≠ 2 → mI M' p i = mI M0 p i) ∧ (∀ i, i < s → mI M' O i = mI M0 O i ∧ mI M' P i = mI M0 P i) ∧ (∀ i, i < k → mI M' (r + 1) i = mI M0 (r + 1) i) ∧ ∃ H' L', RG M' r p O P n s V F ns d0 H' L' k a 0 ∧ L ≤ L' ∧ ∀ i, i ≤ L → H' i = H i
/-- operations that are grouped -/
def grpO (o : Int) : Prop := (19 ≤ o ∧ o ≤ 31) ∨ o = 40 ∨ o = 41 ∨ o = 42
/-- kinds, faults and depth are as they will be -/
def gJ (M0 : mM) (z r w T A B D N C n p O P K d0 k : Nat) (M : mM) : Prop := RB M z r w T A B D N C n p O P K ∧ FI (rdS r p O P) M0 M ∧ (∀ i, i ≠ 3 → i ≠ 4 → i ≠ 5 → i ≠ 12 → i ≠ 14 → mI M r i = mI M0 r i) ∧ (mI M r 12 = k ∧ mI M r 14 = ((uw 0 + skk M0 r k : Nat) : Int) ∧ mI M r 5 = ((d0 + sdp M0 r k : Nat) : Int)) ∧ (mI M0 r 3 ≠ 0 → mI M r 3 = mI M0 r 3) ∧ (∀ b, b ≠ r → b ≠ r + 5 → mI M b = mI M0 b) ∧ (∀ j, mI M (r + 5) j = 0 ∨ mI M (r + 5) j = 1)
theorem gr_ord {o : Int} (g : RG M0 r p O P n s V F ns d0 H L (k + 1) a 0) (hb0 : RB M0 z r w T A B D N C n p O P K) (hop : mI M0 (r + 1) k = o) (no3 : (19 ≤ o ∧ o ≤ 29) ∨ o = 40 ∨ o = 41) (hJ : gJ M0 z r w T A B D N C n p O P K d0 k M110) (o126 : mOk M126) (f126 : FI (prS p O P) M110 M126) (p126 : ∀ j, mI M126 p j = if j = 2 then (L : Int) + 1 else mI M110 p j) (q126 : ∀ j, mI M126 O j = if j = L then o else mI M110 O j) (u126 : ∀ j, mI M126 P j = if j = L then mI M0 (r + 2) k else mI M110 P j) : gQ M0 z r w T A B D N C n p O P K s V F ns d0 H L k a M126 := by
  obtain ⟨oO, oP, op, e1, e2, e3⟩ := hb0.off
  obtain ⟨⟨g1, g2, g3, g4⟩, gw, ⟨ga, gs⟩, gc, ⟨gd, gd4⟩, gr, ge, ⟨gH, gHs⟩, gC, gL, gt⟩ := id g
  obtain ⟨h110, F110, R, ⟨R12, R14, d110⟩, R3, X, T5⟩ := hJ
  obtain ⟨b1, b2, b3, b4⟩ := sum_top M0 r k
  have u0 : uw 0 = 1 := rfl
  rw [hop] at b1 b2 b3 b4
  have nj : ¬ jm o := by unfold jm; omega
  have f126' : FI (rdS r p O P) M110 M126 := f126.mono (fun b q => Or.inr q)
  have h126 := h110.fi o126 f126'
  have Y : ∀ b, r ≤ b → b ≤ r + 9 → mI M126 b = mI M110 b := fun b y1 y2 => f126.2.2.2.2.2.2 b (fun q => by
    have q' : b = p ∨ b = O ∨ b = P := q
    first | exact off3 op oO oP (by assumption) (by assumption) q' | omega)
  have YT : ∀ i, 1 ≤ i → i ≤ 9 → i ≠ 5 → mI M126 (r + i) = mI M0 (r + i) := fun i i1 i9 i5 => by rw [Y (r + i) (by omega) (by omega), X (r + i) (by omega) (by omega)]
  obtain ⟨H', hH'⟩ : ∃ H' : Nat → Nat, ∀ i, H' i = if i = L + 1 then 1 + bs M0 r k else H i := ⟨fun i => if i = L + 1 then 1 + bs M0 r k else H i, fun _ => rfl⟩
  have hHs : ∀ i, i ≤ L → H' i = H i := fun i hi => by rw [hH', if_neg (by omega)]
  have hHL : H' (L + 1) = 1 + bs M0 r k := by rw [hH', if_pos rfl]
  have sm := fun i hi => sums_cg (M := M0) (M' := M126) (r := r) (k := k) (fun j _ => by rw [YT 1 (by omega) (by omega) (by omega)]) (fun j _ => by rw [YT 4 (by omega) (by omega) (by omega)]) i hi
  have QO : ∀ i, mI M126 O i = if i = L then o else mI M0 O i := fun i => by rw [q126, X O (by first | exact oO | exact off0 oO | exact off9 oO (by decide) | exact off4 oO | exact e1 | exact e3 | omega) (by first | exact oO | exact off0 oO | exact off9 oO (by decide) | exact off4 oO | exact e1 | exact e3 | omega)]
  have QP : ∀ i, mI M126 P i = if i = L then mI M0 (r + 2) k else mI M0 P i := fun i => by rw [u126, X P (by first | exact oP | exact off0 oP | exact off9 oP (by decide) | exact off4 oP | exact e2 | exact fun q => e3 q.symm | omega) (by first | exact oP | exact off0 oP | exact off9 oP (by decide) | exact off4 oP | exact e2 | exact fun q => e3 q.symm | omega)]
  have cmv : bs M0 r (k + 1) = bs M0 r k + (if 19 ≤ o ∧ o ≤ 29 then 1 else 0) := by
    rw [b1]
    unfold cm
    by_cases v : 19 ≤ o ∧ o ≤ 29
    · rw [if_pos v, if_pos v]
    · rw [if_neg v, if_neg v, if_neg (by omega)]
  have ce1 : cee o = 1 := by unfold cee; rw [if_pos no3]
  refine ⟨h126, F110.trans f126', fun i i3 i4 i5 i12 i14 => by rw [Y r (by omega) (by omega)]; exact R i i3 i4 i5 i12 i14, fun q => by rw [Y r (by omega) (by omega)]; exact R3 q, fun i i6 i9 => YT i (by omega) i9 (by omega), fun i i2 => by rw [p126, if_neg i2, X p (by first | exact op | exact off0 op | exact off9 op (by decide) | exact off4 op | exact fun q => e1 q.symm | exact fun q => e2 q.symm | omega) (by first | exact op | exact off0 op | exact off9 op (by decide) | exact off4 op | exact fun q => e1 q.symm | exact fun q => e2 q.symm | omega)], fun i hi => ⟨by rw [QO, if_neg (by omega)], by rw [QP, if_neg (by omega)]⟩, fun i _ => by rw [YT 1 (by omega) (by omega) (by omega)], H', L + 1, ⟨⟨by rw [Y r (by omega) (by omega), R 2 (by decide) (by decide) (by decide) (by decide) (by decide)]; exact g1, by rw [Y r (by omega) (by omega)]; exact R12, by rw [Y r (by omega) (by omega), R 7 (by decide) (by decide) (by decide) (by decide) (by decide)]; exact g3, by rw [p126, if_pos rfl]; omega⟩, Or.inl rfl, ⟨ga, by omega⟩, by rw [Y r (by omega) (by omega), R14, (sm k (Nat.le_refl _)).2.1], ⟨by rw [Y r (by omega) (by omega), d110, (sm k (Nat.le_refl _)).2.2.2], by rw [(sm k (Nat.le_refl _)).2.2.2]; omega⟩, fun i hi => by rw [(sm (i + 1) (by omega)).2.2.2, YT 1 (by omega) (by omega) (by omega)]; exact gr i (by omega), fun i hi => ?_, ⟨?_, ?_⟩, ?_, by rw [(sm k (Nat.le_refl _)).2.2.1]; omega, fun j => by rw [Y (r + 5) (by omega) (by omega)]; exact T5 j⟩, by omega, hHs⟩
  · exact (ge i (by omega)).cg (fun j _ => by rw [YT 1 (by omega) (by omega) (by omega)]) (by rw [YT 2 (by omega) (by omega) (by omega)]) (by rw [YT 3 (by omega) (by omega) (by omega)]) (fun j _ => by rw [YT 4 (by omega) (by omega) (by omega)]) (by omega) (fun j hj => by rw [QO, if_neg (by omega)]) hHs
  · rw [hHL, (sm k (Nat.le_refl _)).1]; omega
  · rw [hHL]
    split at cmv <;> omega
  · refine gC.add gs hHs gHs QO QP (fun i _ q => ?_) ?_ (fun q => absurd q nj)
    · obtain ⟨j, j1, j2, j3⟩ := q
      have jk : j ≠ k := fun z => by rw [z, hop] at j3; exact nj j3
      exact ⟨j, by omega, by rw [YT 3 (by omega) (by omega) (by omega)]; exact j2, by rw [YT 1 (by omega) (by omega) (by omega)]; exact j3⟩
    · have e0 := hHs L (Nat.le_refl _)
      by_cases v : 19 ≤ o ∧ o ≤ 29
      · rw [if_pos v] at cmv
        exact Or.inr (Or.inr (Or.inr (Or.inr (Or.inr (Or.inr (Or.inl ⟨Or.inr (Or.inr v), by omega, by omega⟩))))))
      · rw [if_neg v] at cmv
        exact Or.inr (Or.inr (Or.inr (Or.inr (Or.inr (Or.inl ⟨by omega, by omega, by omega⟩)))))
theorem gr_jmp {o : Int} {t : Nat} (g : RG M0 r p O P n s V F ns d0 H L (k + 1) a 0) (hb0 : RB M0 z r w T A B D N C n p O P K) (hop : mI M0 (r + 1) k = o) (yj : jm o) (no33 : o ≠ 33) (hJ : gJ M0 z r w T A B D N C n p O P K d0 k M110) (t1 : mI M0 (r + 3) k = t) (t2 : s ≤ t) (t3 : t < L) (t4 : mI M0 O t = o) (t5 : H t = bs M0 r k + 1) (o133 : mOk M133) (e133 : M133 = mUI M110 P t L) : gQ M0 z r w T A B D N C n p O P K s V F ns d0 H L k a M133 := by
  obtain ⟨oO, oP, op, e1, e2, e3⟩ := hb0.off
  obtain ⟨⟨g1, g2, g3, g4⟩, gw, ⟨ga, gs⟩, gc, ⟨gd, gd4⟩, gr, ge, ⟨gH, gHs⟩, gC, gL, gt⟩ := id g
  obtain ⟨h110, F110, R, ⟨R12, R14, d110⟩, R3, X, T5⟩ := hJ
  obtain ⟨b1, b2, b3, b4⟩ := sum_top M0 r k
  have u0 : uw 0 = 1 := rfl
  rw [hop] at b1 b2 b3 b4
  have f133 : FI (rdS r p O P) M110 M133 := by rw [e133]; exact FI.ui (Or.inr (Or.inr (Or.inr rfl)))
  have h133 := h110.fi o133 f133
  have Y : ∀ b, b ≠ P → mI M133 b = mI M110 b := fun b y1 => by rw [e133]; funext i; rw [mI_UI, if_neg (fun q => y1 q.1)]
  have YT : ∀ i, 1 ≤ i → i ≤ 9 → i ≠ 5 → mI M133 (r + i) = mI M0 (r + i) := fun i i1 i9 i5 => by rw [Y (r + i) (by omega), X (r + i) (by omega) (by omega)]
  have sm := fun i hi => sums_cg (M := M0) (M' := M133) (r := r) (k := k) (fun j _ => by rw [YT 1 (by omega) (by omega) (by omega)]) (fun j _ => by rw [YT 4 (by omega) (by omega) (by omega)]) i hi
  have QP : ∀ i, mI M133 P i = if i = t then (L : Int) else mI M0 P i := fun i => by
    rw [e133, mI_UI]
    by_cases v : i = t
    · rw [if_pos ⟨rfl, v⟩, if_pos v]
    · rw [if_neg (fun q => v q.2), if_neg v, X P (by first | exact oP | exact off0 oP | exact off9 oP (by decide) | exact off4 oP | exact e2 | exact fun q => e3 q.symm | omega) (by first | exact oP | exact off0 oP | exact off9 oP (by decide) | exact off4 oP | exact e2 | exact fun q => e3 q.symm | omega)]
  have QO : ∀ i, mI M133 O i = mI M0 O i := fun i => by rw [Y O (by first | exact oO | exact off0 oO | exact off9 oO (by decide) | exact off4 oO | exact e1 | exact e3 | omega), X O (by first | exact oO | exact off0 oO | exact off9 oO (by decide) | exact off4 oO | exact e1 | exact e3 | omega) (by first | exact oO | exact off0 oO | exact off9 oO (by decide) | exact off4 oO | exact e1 | exact e3 | omega)]
  have cm0 : cm o (mI M0 (r + 4) k) = 0 := by
    unfold jm at yj
    unfold cm
    rw [if_neg (by omega), if_neg (by omega)]
  have ce0 : se M0 r k ≤ se M0 r (k + 1) := by omega
  refine ⟨h133, F110.trans f133, fun i i3 i4 i5 i12 i14 => by rw [Y r (by omega)]; exact R i i3 i4 i5 i12 i14, fun q => by rw [Y r (by omega)]; exact R3 q, fun i i6 i9 => YT i (by omega) i9 (by omega), fun i i2 => by rw [Y p (by first | exact op | exact off0 op | exact off9 op (by decide) | exact off4 op | exact fun q => e1 q.symm | exact fun q => e2 q.symm | omega), X p (by first | exact op | exact off0 op | exact off9 op (by decide) | exact off4 op | exact fun q => e1 q.symm | exact fun q => e2 q.symm | omega) (by first | exact op | exact off0 op | exact off9 op (by decide) | exact off4 op | exact fun q => e1 q.symm | exact fun q => e2 q.symm | omega)], fun i hi => ⟨QO i, by rw [QP, if_neg (by omega)]⟩, fun i _ => by rw [YT 1 (by omega) (by omega) (by omega)], H, L, ⟨⟨by rw [Y r (by omega), R 2 (by decide) (by decide) (by decide) (by decide) (by decide)]; exact g1, by rw [Y r (by omega)]; exact R12, by rw [Y r (by omega), R 7 (by decide) (by decide) (by decide) (by decide) (by decide)]; exact g3, by rw [Y p (by first | exact op | exact off0 op | exact off9 op (by decide) | exact off4 op | exact fun q => e1 q.symm | exact fun q => e2 q.symm | omega), X p (by first | exact op | exact off0 op | exact off9 op (by decide) | exact off4 op | exact fun q => e1 q.symm | exact fun q => e2 q.symm | omega) (by first | exact op | exact off0 op | exact off9 op (by decide) | exact off4 op | exact fun q => e1 q.symm | exact fun q => e2 q.symm | omega)]; exact g4⟩, Or.inl rfl, ⟨ga, gs⟩, by rw [Y r (by omega), R14, (sm k (Nat.le_refl _)).2.1], ⟨by rw [Y r (by omega), d110, (sm k (Nat.le_refl _)).2.2.2], by rw [(sm k (Nat.le_refl _)).2.2.2]; omega⟩, fun i hi => by rw [(sm (i + 1) (by omega)).2.2.2, YT 1 (by omega) (by omega) (by omega)]; exact gr i (by omega), fun i hi => ?_, ⟨by rw [(sm k (Nat.le_refl _)).1, gH, b1, cm0]; rfl, gHs⟩, ?_, by rw [(sm k (Nat.le_refl _)).2.2.1]; omega, fun j => by rw [Y (r + 5) (by omega)]; exact T5 j⟩, Nat.le_refl _, fun _ _ => rfl⟩
  · exact (ge i (by omega)).cg (fun j _ => by rw [YT 1 (by omega) (by omega) (by omega)]) (by rw [YT 2 (by omega) (by omega) (by omega)]) (by rw [YT 3 (by omega) (by omega) (by omega)]) (fun j _ => by rw [YT 4 (by omega) (by omega) (by omega)]) (Nat.le_refl _) (fun j _ => QO j) (fun _ _ => rfl)
  · refine gC.put (t := t) (x := (L : Int)) (by rw [t4]; exact yj) QO QP (fun i _ it q => ?_) ⟨L, rfl, t3, Nat.le_refl _, fun q => absurd q (by rw [t4]; exact no33), fun _ => by rw [gH, b1, cm0, t5]; omega⟩
    obtain ⟨j, j1, j2, j3⟩ := q
    have jk : j ≠ k := fun z => by rw [z, t1] at j2; omega
    exact ⟨j, by omega, by rw [YT 3 (by omega) (by omega) (by omega)]; exact j2, by rw [YT 1 (by omega) (by omega) (by omega)]; exact j3⟩
end RRG
end
section
/-! The class's reader of rules: group, a sign. -/
section RRM
variable {G : mG} {d z r w T A B D N C n p O P K k a s L V F d0 c : Nat} {M0 M M' M1 M2 : mM} {H H' : Nat → Nat} {ns : Nat → Int} {wt : Int}
end RRM
end
section
/-! The class's reader of rules: signs between operands. -/
section RRS
variable {G : mG} {d z r w T A B D N C n p O P K k a s L V F d0 c : Nat} {M0 M M' M1 M2 : mM} {H H' : Nat → Nat} {ns : Nat → Int} {wt : Int}
theorem rk_lvl (o : Int) : ((lvl o = 0 ∨ lvl o = 3) ∧ rkk o = 0) ∨ (lvl o = 1 ∧ rkk o = 1) ∨ (lvl o = 2 ∧ rkk o = 2) ∨ (lvl o = 4 ∧ rkk o = 3) ∨ (lvl o = 5 ∧ rkk o = 4) ∨ (lvl o = 6 ∧ rkk o = 5) := by
  unfold lvl rkk
  (repeat' split) <;> omega
/-- an operation with an order of its own that may jump is open now -/
theorem RG.pshj {o pl mk : Int} {dd c' : Nat} (g : RG M r p O P n s V F ns d0 H L k a 0) (hr : ∀ i, mI M' r i = if i = 2 then (a : Int) + 1 else if i = 7 then 1 else if i = 12 then (k : Int) + 1 else if i = 5 then (dd : Int) else if i = 14 then (c' : Int) else mI M r i) (t1 : ∀ i, mI M' (r + 1) i = if i = k then o else mI M (r + 1) i) (t2 : ∀ i, mI M' (r + 2) i = if i = k then pl else mI M (r + 2) i) (t3 : ∀ i, mI M' (r + 3) i = if i = k then (L : Int) else mI M (r + 3) i) (t4 : ∀ i, mI M' (r + 4) i = if i = k then mk else mI M (r + 4) i) (t5 : ∀ j, mI M' (r + 5) j = 0 ∨ mI M' (r + 5) j = 1) (tp : mI M' p 2 = (L : Int) + 1) (tO : ∀ i, mI M' O i = if i = L then o else mI M O i) (tP : ∀ i, mI M' P i = if i = L then 0 else mI M P i) (ho : o = 30 ∨ o = 31 ∨ o = 33) (hpl : 0 ≤ pl ∧ pl ≤ 16384) (hmk : 0 ≤ mk ∧ mk ≤ 7) (hd : dd = d0 + sdp M r k + cdp o) (hd4 : dd ≤ 40) (hrk : k + 1 ≤ 6 * (sdp M r k + cdp o) + rkk o) (hc : c' = skk M r k + ckk o) (han : a < n) (hat : o = 33 → aO M' r k) : ∃ H', RG M' r p O P n s V F ns d0 H' (L + 1) (k + 1) (a + 1) 1 ∧ ∀ i, i ≤ L → H' i = H i := by
  obtain ⟨⟨g1, g2, g3, g4⟩, gw, ⟨ga, gs⟩, gc, ⟨gd, gd4⟩, gr, ge, ⟨gH, gHs⟩, gC, gL, gt⟩ := g
  have l1 : ∀ j, j < k → mI M' (r + 1) j = mI M (r + 1) j := fun j hj => by rw [t1, if_neg (by omega)]
  have l2 : ∀ j, j < k → mI M' (r + 2) j = mI M (r + 2) j := fun j hj => by rw [t2, if_neg (by omega)]
  have l3 : ∀ j, j < k → mI M' (r + 3) j = mI M (r + 3) j := fun j hj => by rw [t3, if_neg (by omega)]
  have l4 : ∀ j, j < k → mI M' (r + 4) j = mI M (r + 4) j := fun j hj => by rw [t4, if_neg (by omega)]
  have sm := fun i hi => sums_cg (M := M) (M' := M') (r := r) (k := k) l1 l4 i hi
  obtain ⟨b1, b2, b3, b4⟩ := sum_top M' r k
  rw [t1, if_pos rfl, (sm k (Nat.le_refl _)).2.1] at b2
  rw [t1, if_pos rfl, (sm k (Nat.le_refl _)).2.2.1] at b3
  rw [t1, if_pos rfl, (sm k (Nat.le_refl _)).2.2.2] at b4
  rw [t1, if_pos rfl, t4, if_pos rfl, (sm k (Nat.le_refl _)).1] at b1
  have u1 : uw 1 = 0 := rfl
  have u0 : uw 0 = 1 := rfl
  have c0 : cm o mk = 0 := by
    unfold cm
    rw [if_neg (by omega), if_neg (by omega)]
  have e0 : cee o = 0 := by
    unfold cee
    rw [if_neg (by omega)]
  have jo : jm o := by unfold jm; omega
  obtain ⟨H', hH'⟩ : ∃ H' : Nat → Nat, ∀ i, H' i = if i = L + 1 then bs M r k else H i := ⟨fun i => if i = L + 1 then bs M r k else H i, fun _ => rfl⟩
  have hHs : ∀ i, i ≤ L → H' i = H i := fun i hi => by rw [hH', if_neg (by omega)]
  have hHL : H' (L + 1) = bs M r k := by rw [hH', if_pos rfl]
  have hL0 := hHs L (Nat.le_refl _)
  refine ⟨H', ⟨⟨by rw [hr, if_pos rfl]; omega, by rw [hr, if_neg (by decide), if_neg (by decide), if_pos rfl]; omega, by rw [hr, if_neg (by decide), if_pos rfl], by rw [tp]; omega⟩, Or.inr rfl, ⟨by omega, by omega⟩, by rw [hr, if_neg (by decide), if_neg (by decide), if_neg (by decide), if_neg (by decide), if_pos rfl, b2]; omega, ⟨by rw [hr, if_neg (by decide), if_neg (by decide), if_neg (by decide), if_pos rfl, b4]; omega, by omega⟩, fun i hi => ?_, fun i hi => ?_, ⟨by omega, by omega⟩, ?_, by omega, t5⟩, hHs⟩
  · by_cases y : i = k
    · subst y
      rw [b4, t1, if_pos rfl]
      exact hrk
    · rw [(sm (i + 1) (by omega)).2.2.2, l1 i (by omega)]
      exact gr i (by omega)
  · by_cases y : i = k
    · subst y
      unfold enO
      rw [t1, if_pos rfl, t2, if_pos rfl, t3, if_pos rfl, t4, if_pos rfl, (sm i (Nat.le_refl _)).1]
      refine ⟨by unfold opn; omega, hpl, hmk, fun q => absurd q (by omega), fun _ => ⟨L, rfl, gs, by omega, by rw [tO, if_pos rfl], by omega, fun _ => hHL⟩, fun q => absurd jo q, fun q => hat (by rw [t1, if_pos rfl] at q; omega) q⟩
    · exact (ge i (by omega)).cg (fun j hj => l1 j (by omega)) (l2 i (by omega)) (l3 i (by omega)) (fun j hj => l4 j (by omega)) (by omega) (fun j hj => by rw [tO, if_neg (by omega)]) hHs
  · refine gC.add gs hHs gHs tO tP (fun i _ q => pdg_cg q (by omega) l1 l3) (Or.inr (Or.inr (Or.inr (Or.inl ⟨ho, by omega⟩)))) (fun _ => Or.inl ⟨k, by omega, by rw [t3, if_pos rfl], by rw [t1, if_pos rfl]; exact jo⟩)
/-- what a sign comes to -/
def sgQ (M : mM) (z r w T A B D N C n p O P K s V F : Nat) (ns : Nat → Int) (d0 : Nat) (H : Nat → Nat) (L k a : Nat) (x : Int) (M' : mM) : Prop := RB M' z r w T A B D N C n p O P K ∧ FI (rdS r p O P) M M' ∧ (∀ i, i ≠ 2 → i ≠ 5 → i ≠ 7 → i ≠ 12 → i ≠ 14 → mI M' r i = mI M r i) ∧ (∀ i, 6 ≤ i → i ≤ 9 → mI M' (r + i) = mI M (r + i)) ∧ (∀ i, i ≠ 2 → mI M' p i = mI M p i) ∧ (∀ i, i < L → mI M' O i = mI M O i ∧ mI M' P i = mI M P i) ∧ ((x = 2 ∧ M' = M) ∨ (x = 0 ∧ ∃ H' L', RG M' r p O P n s V F ns d0 H' L' (k + 1) (a + 1) 1 ∧ L ≤ L' ∧ ∀ i, i ≤ L → H' i = H i))
end RRS
end
section
/-! The class's reader of rules: '?'. -/
section RRA
variable {G : mG} {d z r w T A B D N C n p O P K k a s L V F d0 c : Nat} {M0 M M' M1 M2 : mM} {H H' : Nat → Nat} {ns : Nat → Int} {wt : Int}
end RRA
end
section
/-! The class's reader of rules: what closing leaves. -/
section RRC
variable {G : mG} {d z r w T A B D N C n p O P K k a s L L' V F d0 c : Nat} {M0 M M' M1 M2 : mM} {H H' : Nat → Nat} {ns : Nat → Int} {wt : Int}
/-- the operation that was open last is closed -/
theorem RG.popc (g : RG M r p O P n s V F ns d0 H L (k + 1) a 0) (hr : mI M' r 2 = (a : Int) + 1 ∧ mI M' r 12 = k ∧ mI M' r 7 = 0 ∧ mI M' r 14 = ((1 + skk M r k : Nat) : Int) ∧ mI M' r 5 = ((d0 + sdp M r k : Nat) : Int)) (l1 : ∀ j, j < k → mI M' (r + 1) j = mI M (r + 1) j) (l2 : ∀ j, j < k → mI M' (r + 2) j = mI M (r + 2) j) (l3 : ∀ j, j < k → mI M' (r + 3) j = mI M (r + 3) j) (l4 : ∀ j, j < k → mI M' (r + 4) j = mI M (r + 4) j) (t5 : ∀ j, mI M' (r + 5) j = 0 ∨ mI M' (r + 5) j = 1) (tp : mI M' p 2 = L') (hLL : L ≤ L') (hO : ∀ j, j < L → mI M' O j = mI M O j) (hHs : ∀ i, i ≤ L → H' i = H i) (hH : H' L' = 1 + bs M r k) (hb : H' L' + s ≤ L') (hC : CO M' O P V F ns H' s L' (pdg M' r k)) (hL : L' + se M r k ≤ a + 1) (han : a < n) : RG M' r p O P n s V F ns d0 H' L' k (a + 1) 0 := by
  obtain ⟨-, -, ⟨ga, gs⟩, -, ⟨-, gd4⟩, gr, ge, -, -, -, -⟩ := g
  have sm := fun i hi => sums_cg (M := M) (M' := M') (r := r) (k := k) l1 l4 i hi
  obtain ⟨-, -, -, b4⟩ := sum_top M r k
  obtain ⟨h1, h2, h3, h4, h5⟩ := hr
  have u0 : uw 0 = 1 := rfl
  refine ⟨⟨by omega, h2, h3, tp⟩, Or.inl rfl, ⟨by omega, by omega⟩, by rw [h4, (sm k (Nat.le_refl _)).2.1, u0], ⟨by rw [h5, (sm k (Nat.le_refl _)).2.2.2], by rw [(sm k (Nat.le_refl _)).2.2.2]; omega⟩, fun i hi => by rw [(sm (i + 1) (by omega)).2.2.2, l1 i hi]; exact gr i (by omega), fun i hi => (ge i (by omega)).cg (fun j _ => l1 j (by omega)) (l2 i hi) (l3 i hi) (fun j _ => l4 j (by omega)) hLL hO hHs, ⟨by rw [hH, (sm k (Nat.le_refl _)).1, u0], hb⟩, hC, by rw [(sm k (Nat.le_refl _)).2.2.1]; omega, t5⟩
/-- the operation that was open last goes on: o' and marks m' stand there now -/
theorem RG.goes {o' m' : Int} (g : RG M r p O P n s V F ns d0 H L (k + 1) a 0) (hr : mI M' r 2 = (a : Int) + 1 ∧ mI M' r 12 = (k : Int) + 1 ∧ mI M' r 7 = 1 ∧ mI M' r 14 = ((skk M r k : Nat) : Int) ∧ mI M' r 5 = ((d0 + sdp M r (k + 1) : Nat) : Int)) (l1 : ∀ j, mI M' (r + 1) j = if j = k then o' else mI M (r + 1) j) (l2 : ∀ j, mI M' (r + 2) j = mI M (r + 2) j) (l3 : ∀ j, j < k → mI M' (r + 3) j = mI M (r + 3) j) (l4 : ∀ j, mI M' (r + 4) j = if j = k then m' else mI M (r + 4) j) (t5 : ∀ j, mI M' (r + 5) j = 0 ∨ mI M' (r + 5) j = 1) (tp : mI M' p 2 = L') (hLL : L ≤ L') (hO : ∀ j, j < L → mI M' O j = mI M O j) (hHs : ∀ i, i ≤ L → H' i = H i) (hH : H' L' = bs M r k + cm o' m') (hb : H' L' + s ≤ L') (hC : CO M' O P V F ns H' s L' (pdg M' r (k + 1))) (hL : L' + se M r k ≤ a + 1) (han : a < n) (hk : ckk o' = 0 ∧ cee o' = 0 ∧ cdp o' = cdp (mI M (r + 1) k) ∧ rkk o' = rkk (mI M (r + 1) k)) (hen : enO M' r O s L' H' k) : RG M' r p O P n s V F ns d0 H' L' (k + 1) (a + 1) 1 := by
  obtain ⟨-, -, ⟨ga, gs⟩, -, ⟨-, gd4⟩, gr, ge, -, -, -, -⟩ := g
  have e1 : ∀ j, j < k → mI M' (r + 1) j = mI M (r + 1) j := fun j hj => by rw [l1, if_neg (by omega)]
  have e4 : ∀ j, j < k → mI M' (r + 4) j = mI M (r + 4) j := fun j hj => by rw [l4, if_neg (by omega)]
  have sm := fun i hi => sums_cg (M := M) (M' := M') (r := r) (k := k) e1 e4 i hi
  obtain ⟨-, -, -, b4⟩ := sum_top M r k
  obtain ⟨c1, c2, c3, c4⟩ := sum_top M' r k
  rw [l1, if_pos rfl, (sm k (Nat.le_refl _)).2.1, hk.1] at c2
  rw [l1, if_pos rfl, (sm k (Nat.le_refl _)).2.2.1, hk.2.1] at c3
  rw [l1, if_pos rfl, (sm k (Nat.le_refl _)).2.2.2, hk.2.2.1, ← b4] at c4
  rw [l1, if_pos rfl, l4, if_pos rfl, (sm k (Nat.le_refl _)).1] at c1
  obtain ⟨h1, h2, h3, h4, h5⟩ := hr
  have u1 : uw 1 = 0 := rfl
  refine ⟨⟨by omega, by omega, h3, tp⟩, Or.inr rfl, ⟨by omega, by omega⟩, by rw [h4, c2]; omega, ⟨by rw [h5, c4], by rw [c4]; exact gd4⟩, fun i hi => ?_, fun i hi => ?_, ⟨by rw [hH, c1]; omega, hb⟩, hC, by rw [c3]; omega, t5⟩
  · by_cases y : i = k
    · subst y
      rw [c4, l1, if_pos rfl, hk.2.2.2]
      exact gr i (by omega)
    · rw [(sm (i + 1) (by omega)).2.2.2, e1 i (by omega)]
      exact gr i (by omega)
  · by_cases y : i = k
    · subst y
      exact hen
    · exact (ge i (by omega)).cg (fun j hj => e1 j (by omega)) (l2 i) (l3 i (by omega)) (fun j hj => e4 j (by omega)) hLL hO hHs
/-- marks of a list: bit 2 -/
theorem mk_or {m v : Int} (hm : 0 ≤ m ∧ m ≤ 3) (hv : v = 0 ∨ v = 1) : orI m (orI 2 v) = 2 ∨ orI m (orI 2 v) = 3 := by
  have : m = 0 ∨ m = 1 ∨ m = 2 ∨ m = 3 := by omega
  rcases this with e | e | e | e <;> rcases hv with f | f <;> subst e <;> subst f <;> decide
theorem mk_and2 {m : Int} (hm : 0 ≤ m ∧ m ≤ 3) : (andI m 2 = 0 ∧ ¬ (m = 2 ∨ m = 3)) ∨ (andI m 2 ≠ 0 ∧ (m = 2 ∨ m = 3)) := by
  have : m = 0 ∨ m = 1 ∨ m = 2 ∨ m = 3 := by omega
  rcases this with e | e | e | e <;> subst e <;> decide
theorem mk_or4 {m v : Int} (hm : 0 ≤ m ∧ m ≤ 7) (hv : v = 0 ∨ v = 4) : 0 ≤ orI m v ∧ orI m v ≤ 7 := by
  have : m = 0 ∨ m = 1 ∨ m = 2 ∨ m = 3 ∨ m = 4 ∨ m = 5 ∨ m = 6 ∨ m = 7 := by omega
  rcases this with e | e | e | e | e | e | e | e <;> rcases hv with f | f <;> subst e <;> subst f <;> decide
end RRC
end
end
section
theorem tLk1 (g : Nat) : tL g (g + 1) := Or.inl rfl
theorem tLk3 (g : Nat) : tL g (g + 3) := Or.inr (Or.inl rfl)
theorem tLk5 (g : Nat) : tL g (g + 5) := Or.inr (Or.inr (Or.inl rfl))
theorem tLk7 (g : Nat) : tL g (g + 7) := Or.inr (Or.inr (Or.inr (Or.inl rfl)))
theorem tLk9 (g : Nat) : tL g (g + 9) := Or.inr (Or.inr (Or.inr (Or.inr (Or.inl rfl))))
theorem tLk11 (g : Nat) : tL g (g + 11) := Or.inr (Or.inr (Or.inr (Or.inr (Or.inr rfl))))
theorem l33z {a g i : Nat} (hg : g = a + 13 ∨ g = a + 49) (hi : i = 85 ∨ i = 87 ∨ i = 89) (z : ((a + i = g + 1 ∨ a + i = g + 3 ∨ a + i = g + 5 ∨ a + i = g + 7 ∨ a + i = g + 9 ∨ a + i = g + 11) ∨ a + i = a + 91) ∨ (a + i = a + 93 ∨ a + i = a + 95 ∨ a + i = g + 7)) : False := by
  have h1 : g ≤ a + 49 := by omega
  have h2 : 85 ≤ i ∧ i ≤ 89 := by omega
  clear hg hi
  rcases z with (z | z) | z
  · rcases z with z | z | z | z | z | z <;> omega
  · omega
  · rcases z with z | z | z <;> omega
section
/-! The class's reader of rules: closing, its end and ')'. -/
section RRE
variable {G : mG} {d z r w T A B D N C n p O P K k a s L L' V F d0 c : Nat} {M0 M M' M1 M2 : mM} {H H' : Nat → Nat} {ns : Nat → Int} {wt : Int}
/-- what closing comes to -/
def cliQ (M : mM) (z r w T A B D N C n p O P K s V F : Nat) (ns : Nat → Int) (d0 L a : Nat) (x : Int) (M' : mM) : Prop := RB M' z r w T A B D N C n p O P K ∧ FI (rdS r p O P) M M' ∧ (∀ i, i ≠ 2 → i ≠ 3 → i ≠ 4 → i ≠ 5 → i ≠ 7 → i ≠ 12 → i ≠ 14 → mI M' r i = mI M r i) ∧ (mI M r 3 ≠ 0 → mI M' r 3 = mI M r 3) ∧ (∀ i, 6 ≤ i → i ≤ 9 → mI M' (r + i) = mI M (r + i)) ∧ (∀ i, i ≠ 2 → mI M' p i = mI M p i) ∧ (∀ i, i < s → mI M' O i = mI M O i ∧ mI M' P i = mI M P i) ∧ ((x = 2 ∧ M' = M) ∨ (x = 0 ∧ ∃ H' L' k' wt', RG M' r p O P n s V F ns d0 H' L' k' (a + 1) wt' ∧ L ≤ L'))
/-- the end of closing: a word is passed -/
theorem s_ci286 {l5 : Int} {Q : Int → mM → Prop} (h5 : l5 = 0 ∨ l5 = 1) (h : RB M z r w T A B D N C n p O P K) (ha : mI M r 2 = a) (han : a ≤ 16384) (hq : ∀ M', RB M' z r w T A B D N C n p O P K → FI (rdS r p O P) M M' → (∀ i, mI M' r i = if i = 2 then (a : Int) + 1 else if i = 7 then l5 else mI M r i) → (∀ b, b ≠ r → mI M' b = mI M b) → Q 0 M') : h_RR_closeInner_286 G d r l5 M Q := by
  refine k_RR_closeInner_286 h.1 (i32s (by omega) (by omega)) ⟨h.2.1.1, h5, fun M203 e203 => ?_⟩
  obtain ⟨h1, f1, g1, n1⟩ := rb_fld h (i32s (by omega) (by omega)) e203
  have e2 : mI M203 r 2 = a := by rw [g1, if_neg (by decide)]; exact ha
  rw [e2]
  refine ⟨⟨by omega, by omega⟩, fun M206 e206 => ?_⟩
  obtain ⟨h2, f2, g2, n2⟩ := rb_fld h1 ⟨by omega, by omega⟩ e206
  exact hq M206 h2 (f1.trans f2) (fun i => by
    rw [g2]
    by_cases y : i = 2
    · rw [if_pos y, if_pos y]
    · rw [if_neg y, if_neg y, g1]) (fun b hb => by rw [n2 b hb, n1 b hb])
/-- the operation that was open last is taken off, and a word is passed -/
theorem s_ciPop {Q : Int → mM → Prop} (h : RB M z r w T A B D N C n p O P K) (ha : mI M r 2 = a) (han : a ≤ 16384) (hk : mI M r 12 = ((k + 1 : Nat) : Int)) (hk3 : k < 336) {e : Nat} (he : mI M r 5 = ((e + 1 : Nat) : Int)) (he4 : e < 40) (hq : ∀ M', RB M' z r w T A B D N C n p O P K → FI (rdS r p O P) M M' → (∀ i, mI M' r i = if i = 2 then (a : Int) + 1 else if i = 7 then 0 else if i = 5 then (e : Int) else if i = 12 then (k : Int) else mI M r i) → (∀ b, b ≠ r → mI M' b = mI M b) → Q 0 M') : mK M r = 4 ∧ i32 ((mI M r 12) - 1) ∧ ∀ M110, M110 = mUI M r 12 ((mI M r 12) - 1) → i32 ((mI M110 r 5) - 1) ∧ ∀ M113, M113 = mUI M110 r 5 ((mI M110 r 5) - 1) → h_RR_closeInner_286 G d r 0 M113 Q := by
  rw [hk, show ((k + 1 : Nat) : Int) - 1 = (k : Int) by omega]
  refine ⟨h.2.1.1, ⟨by omega, by omega⟩, fun M110 e110 => ?_⟩
  obtain ⟨h1, f1, g1, n1⟩ := rb_fld h ⟨by omega, by omega⟩ e110
  have e5 : mI M110 r 5 = ((e + 1 : Nat) : Int) := by rw [g1, if_neg (by decide)]; exact he
  rw [e5, show ((e + 1 : Nat) : Int) - 1 = (e : Int) by omega]
  refine ⟨⟨by omega, by omega⟩, fun M113 e113 => ?_⟩
  obtain ⟨h2, f2, g2, n2⟩ := rb_fld h1 ⟨by omega, by omega⟩ e113
  refine s_ci286 (a := a) (Or.inl rfl) h2 (by rw [g2, if_neg (by decide), g1, if_neg (by decide)]; exact ha) han (fun M' h' f' g' n' => hq M' h' ((f1.trans f2).trans f') (fun i => ?_) (fun b hb => by rw [n' b hb, n2 b hb, n1 b hb]))
  rw [g']
  by_cases y2 : i = 2
  · rw [if_pos y2, if_pos y2]
  · by_cases y7 : i = 7
    · rw [if_neg y2, if_pos y7, if_neg y2, if_pos y7]
    · rw [if_neg y2, if_neg y7, if_neg y2, if_neg y7, g2]
      by_cases y5 : i = 5
      · rw [if_pos y5, if_pos y5]
      · rw [if_neg y5, if_neg y5, g1]
end RRE
end
section
/-! The class's reader of rules: ':' behind '?'. -/
section RRF
variable {G : mG} {d z r w T A B D N C n p O P K k a s L L' V F d0 c : Nat} {M0 M M' M1 M2 : mM} {H H' : Nat → Nat} {ns : Nat → Int} {wt : Int}
end RRF
end
section
/-! The class's reader of rules: ',' and ')' of least and most. -/
section RRI
variable {G : mG} {d z r w T A B D N C n p O P K k a s L L1 V F d0 c : Nat} {M0 M M' M1 M2 : mM} {H H1 : Nat → Nat} {ns : Nat → Int} {wt : Int}
/-- the order of a list, if there is one, stands -/
def liA (M : mM) (z r w T A B D N C n p O P K s V F : Nat) (ns : Nat → Int) (H : Nat → Nat) (L k a : Nat) (H1 : Nat → Nat) (L1 : Nat) (M1 : mM) : Prop := RB M1 z r w T A B D N C n p O P K ∧ FI (rdS r p O P) M M1 ∧ (∀ b, r ≤ b → b ≤ r + 9 → mI M1 b = mI M b) ∧ (∀ i, mI M1 p i = if i = 2 then (L1 : Int) else mI M p i) ∧ (∀ i, i < L → mI M1 O i = mI M O i ∧ mI M1 P i = mI M P i) ∧ L ≤ L1 ∧ (∀ i, i ≤ L → H1 i = H i) ∧ H1 L1 = 1 + bs M r k ∧ H1 L1 + s ≤ L1 ∧ CO M1 O P V F ns H1 s L1 (pdg M r (k + 1)) ∧ L1 + se M r k ≤ a + 1
end RRI
end
section
/-! The class's reader of rules: closeInner. -/
section RRJ
variable {G : mG} {d z r w T A B D N C n p O P K k a s L L1 V F d0 c : Nat} {M0 M M' M1 M2 : mM} {H H1 : Nat → Nat} {ns : Nat → Int} {wt : Int}
end RRJ
end
section
/-! The class's reader of rules: takeOperator. -/
section RRK
variable {G : mG} {d z r w T A B D N C n p O P K k a s L L1 V F d0 c : Nat} {M0 M M' M1 M2 : mM} {H H1 : Nat → Nat} {ns : Nat → Int} {wt : Int}
/-- what reading a rule may change -/
def rrF (M : mM) (r p O P s : Nat) (M' : mM) : Prop := FI (rdS r p O P) M M' ∧ (∀ i, i ≠ 2 → i ≠ 3 → i ≠ 4 → i ≠ 5 → i ≠ 7 → i ≠ 12 → i ≠ 14 → mI M' r i = mI M r i) ∧ (mI M r 3 ≠ 0 → mI M' r 3 = mI M r 3) ∧ (∀ i, 6 ≤ i → i ≤ 9 → mI M' (r + i) = mI M (r + i)) ∧ (∀ i, i ≠ 2 → mI M' p i = mI M p i) ∧ (∀ i, i < s → mI M' O i = mI M O i ∧ mI M' P i = mI M P i)
theorem rrF.refl : rrF M r p O P s M := ⟨FI.refl, fun _ _ _ _ _ _ _ _ => rfl, fun _ => rfl, fun _ _ _ => rfl, fun _ _ => rfl, fun _ _ => ⟨rfl, rfl⟩⟩
theorem rrF.trans (f : rrF M0 r p O P s M) (g : rrF M r p O P s M') : rrF M0 r p O P s M' := by
  obtain ⟨a1, a2, a3, a4, a5, a6⟩ := f
  obtain ⟨b1, b2, b3, b4, b5, b6⟩ := g
  refine ⟨a1.trans b1, fun i i2 i3 i4 i5 i7 i12 i14 => by rw [b2 i i2 i3 i4 i5 i7 i12 i14, a2 i i2 i3 i4 i5 i7 i12 i14], fun q => ?_, fun i i6 i9 => by rw [b4 i i6 i9, a4 i i6 i9], fun i i2 => by rw [b5 i i2, a5 i i2], fun i hi => ⟨by rw [(b6 i hi).1, (a6 i hi).1], by rw [(b6 i hi).2, (a6 i hi).2]⟩⟩
  have h3 := a3 q
  rw [b3 (by rw [h3]; exact q), h3]
/-- what a step comes to: 0 it goes on, 1 the rule is over, 2 a word is refused -/
def rtQ (M0 : mM) (z r w T A B D N C n p O P K s V F : Nat) (ns : Nat → Int) (d0 : Nat) (a : Nat) (x : Int) (M' : mM) : Prop := RB M' z r w T A B D N C n p O P K ∧ rrF M0 r p O P s M' ∧ (x = 0 ∨ x = 1 ∨ x = 2) ∧ ∃ H' L' k' wt' a', RG M' r p O P n s V F ns d0 H' L' k' a' wt' ∧ a ≤ a' ∧ (x = 1 → k' = 0 ∧ wt' = 0)
theorem RG.ref (g : RG M r p O P n s V F ns d0 H L k a wt) : ∃ a' L' : Nat, mI M r 2 = a' ∧ mI M p 2 = L' ∧ a' ≤ n ∧ s ≤ L' ∧ L' ≤ a' := by
  obtain ⟨⟨g1, -, -, g4⟩, -, ⟨g5, g6⟩, -, -, -, -, -, -, g7, -⟩ := g
  exact ⟨a, L, g1, g4, g5, g6, by omega⟩
theorem sg_st {x : Int} (g : RG M r p O P n s V F ns d0 H L k a 0) (f : rrF M0 r p O P s M) (q : sgQ M z r w T A B D N C n p O P K s V F ns d0 H L k a x M') : rtQ M0 z r w T A B D N C n p O P K s V F ns d0 a x M' := by
  obtain ⟨q1, q2, q3, q4, q5, q6, q7⟩ := q
  have gs := g.2.2.1.2
  refine ⟨q1, f.trans ⟨q2, fun i i2 i3 i4 i5 i7 i12 i14 => q3 i i2 i5 i7 i12 i14, fun _ => q3 3 (by decide) (by decide) (by decide) (by decide) (by decide), q4, q5, fun i hi => q6 i (by omega)⟩, ?_⟩
  rcases q7 with ⟨e, e2⟩ | ⟨e, H', L', g', -⟩
  · rw [e2]
    exact ⟨Or.inr (Or.inr e), H, L, k, 0, a, g, by omega, fun u => absurd u (by omega)⟩
  · exact ⟨Or.inl e, H', L', k + 1, 1, a + 1, g', by omega, fun u => absurd u (by omega)⟩
theorem s_RR_closeInner0 (g : RG M r p O P n s V F ns d0 H L (k + 1) a 0) (h : RB M z r w T A B D N C n p O P K) : Ci G y_RR_closeInner (d + 1) [vr r, vi 0, vi k] M (fun x M' => x = 2 ∧ M' = M) := by
  have rm := g.room
  obtain ⟨-, ⟨k0, ⟨q8, -, -, q11, -⟩, ⟨kk1, -⟩, ⟨nn1, -⟩⟩, -⟩ := id h
  refine k_RR_closeInner h.1 (i32s (by omega) (by omega)) ⟨by omega, by omega⟩ ?_
  rw [q8, nn1, Int.toNat_natCast, q11]
  refine ⟨k0, kk1, by omega, fun v5 e5 => ⟨by omega, fun _ => by omega, fun v14 e14 v25 e25 => ⟨fun y => ?_, fun _ => ⟨rfl, rfl⟩⟩⟩⟩
  exfalso
  have z25 : v25 = 0 := by
    rw [e25]
    by_cases u : v5 = 0
    · rw [if_pos (Or.inl ⟨u, Or.inr (by omega)⟩)]
    · rw [if_pos (Or.inr ⟨u, by omega, Or.inr (by omega)⟩)]
  rcases y with u | u
  · exact u z25
  · exact absurd u.2 (by omega)
theorem g_rrF {M9 : mM} (q : gQ M z r w T A B D N C n p O P K s V F ns d0 H L k a M9) : rrF M r p O P s M9 := by
  obtain ⟨-, q2, q3, q4, q5, q6, q7, -⟩ := q
  exact ⟨q2, fun i i2 i3 i4 i5 i7 i12 i14 => q3 i i3 i4 i5 i12 i14, q4, q5, q6, q7⟩
end RRK
end
section
/-! The class's reader of rules: takeOperator, the whole. -/
section RRL
variable {G : mG} {d z r w T A B D N C n p O P K k a s L L1 V F d0 c : Nat} {M0 M M' M1 M2 : mM} {H H1 : Nat → Nat} {ns : Nat → Int} {wt : Int}
theorem lvl_pos {o : Int} (h : 0 < lvl o) : (19 ≤ o ∧ o ≤ 31) ∨ o = 41 := by
  unfold lvl at h
  split at h
  · omega
  split at h
  · omega
  split at h
  · omega
  split at h
  · omega
  split at h
  · omega
  split at h
  · omega
  · exact absurd h (by omega)
/-- the level from which on all is grouped -/
def tgh (o : Int) : Int := if lvl o = 4 then lvl o + 1 else if lvl o < 1 then 1 else lvl o
end RRL
end
section
/-! The class's reader of rules: the names that it knows, and operands. -/
section RRM
variable {G : mG} {d z r w T A B D N C n p O P K k a a' s L L1 V F d0 c : Nat} {M0 M M' M1 M2 : mM} {H H1 : Nat → Nat} {ns : Nat → Int} {wt : Int}
/-- the c names that are known: words, sorts, numbers, kinds -/
def NK (M : mM) (r A n V F : Nat) (ns : Nat → Int) (c : Nat) : Prop := mI M r 19 = c ∧ c ≤ 72 ∧ ∀ i, i < c → (∃ v : Nat, mI M (r + 6) i = v ∧ v < n ∧ mI M A v = 2) ∧ ((mI M (r + 7) i = 5 ∧ 0 ≤ mI M (r + 8) i ∧ (mI M r 6 = 0 → mI M (r + 8) i < V)) ∨ (mI M (r + 7) i = 4 ∧ 0 ≤ mI M (r + 8) i ∧ mI M (r + 8) i < F ∧ ns (mI M (r + 8) i).toNat = 4) ∨ (mI M (r + 7) i = 7 ∧ 0 ≤ mI M (r + 8) i ∧ (mI M r 6 = 0 → mI M (r + 8) i < F ∧ ns (mI M (r + 8) i).toNat = 7))) ∧ (mI M (r + 9) i = 0 ∨ mI M (r + 9) i = 1)
/-- all names that are known -/
def TN (M : mM) (r A n V F : Nat) (ns : Nat → Int) (c : Nat) : Prop := mI M r 19 = c ∧ c ≤ 72 ∧ ∀ i, i < c → (∃ v : Nat, mI M (r + 6) i = v ∧ v < n ∧ mI M A v = 2) ∧ ((mI M (r + 7) i = 5 ∧ 0 ≤ mI M (r + 8) i ∧ mI M (r + 8) i < V) ∨ ((mI M (r + 7) i = 4 ∨ mI M (r + 7) i = 7) ∧ 0 ≤ mI M (r + 8) i ∧ mI M (r + 8) i < F ∧ ns (mI M (r + 8) i).toNat = mI M (r + 7) i)) ∧ (mI M (r + 9) i = 0 ∨ mI M (r + 9) i = 1)
/-- where only consts may stand -/
def nsc (ns : Nat → Int) : Nat → Int := fun x => if ns x = 4 then 4 else 0
theorem TN.nk (h : TN M r A n V F ns c) : NK M r A n V F ns c := by
  refine ⟨h.1, h.2.1, fun i hi => ?_⟩
  obtain ⟨h1, h2, h3⟩ := h.2.2 i hi
  refine ⟨h1, ?_, h3⟩
  rcases h2 with ⟨u1, u2, u3⟩ | ⟨u1, u2, u3, u4⟩
  · exact Or.inl ⟨u1, u2, fun _ => u3⟩
  · rcases u1 with e | e
    · exact Or.inr (Or.inl ⟨e, u2, u3, by rw [u4]; exact e⟩)
    · exact Or.inr (Or.inr ⟨e, u2, fun _ => ⟨u3, by rw [u4]; exact e⟩⟩)
theorem TN.nkc (h : TN M r A n V F ns c) (h6 : mI M r 6 ≠ 0) : NK M r A n 0 F (nsc ns) c := by
  refine ⟨h.1, h.2.1, fun i hi => ?_⟩
  obtain ⟨h1, h2, h3⟩ := h.2.2 i hi
  refine ⟨h1, ?_, h3⟩
  rcases h2 with ⟨u1, u2, u3⟩ | ⟨u1, u2, u3, u4⟩
  · exact Or.inl ⟨u1, u2, fun q => absurd q h6⟩
  · rcases u1 with e | e
    · refine Or.inr (Or.inl ⟨e, u2, u3, ?_⟩)
      unfold nsc
      rw [if_pos (by rw [u4]; exact e)]
    · exact Or.inr (Or.inr ⟨e, u2, fun q => absurd q h6⟩)
theorem RB.word (h : RB M z r w T A B D N C n p O P K) (f : FI (rdS r p O P) M M') : mI M' A = mI M A ∧ mI M' B = mI M B ∧ mI M' D = mI M D := by
  have hs := h.2.2.2.2.2.1.2.2
  have no : ∀ x, (x = w ∨ x = T ∨ x = A ∨ x = B ∨ x = D) → ¬ rdS r p O P x := fun x hx q => by
    have q' : (r ≤ x ∧ x ≤ r + 9) ∨ x = p ∨ x = O ∨ x = P := q
    have := hs x hx
    omega
  exact ⟨f.2.2.2.2.2.2 A (no A (by omega)), f.2.2.2.2.2.2 B (no B (by omega)), f.2.2.2.2.2.2 D (no D (by omega))⟩
theorem NK.rr (nk : NK M r A n V F ns c) (h : RB M z r w T A B D N C n p O P K) (f : rrF M r p O P s M') : NK M' r A n V F ns c := by
  have hA := (h.word f.1).1
  obtain ⟨-, f2, -, f4, -⟩ := f
  unfold NK at nk ⊢
  rw [hA, f2 19 (by decide) (by decide) (by decide) (by decide) (by decide) (by decide) (by decide), f2 6 (by decide) (by decide) (by decide) (by decide) (by decide) (by decide) (by decide), f4 6 (by omega) (by omega), f4 7 (by omega) (by omega), f4 8 (by omega) (by omega), f4 9 (by omega) (by omega)]
  exact nk
theorem RG.cg (g : RG M r p O P n s V F ns d0 H L k a wt) (h2 : mI M' r 2 = a') (haa : a ≤ a') (han : a' ≤ n) (h12 : mI M' r 12 = mI M r 12) (h7 : mI M' r 7 = mI M r 7) (h14 : mI M' r 14 = mI M r 14) (h5 : mI M' r 5 = mI M r 5) (t : ∀ i, 1 ≤ i → i ≤ 5 → mI M' (r + i) = mI M (r + i)) (tp : mI M' p 2 = mI M p 2) (tO : mI M' O = mI M O) (tP : mI M' P = mI M P) : RG M' r p O P n s V F ns d0 H L k a' wt := by
  obtain ⟨⟨g1, g2, g3, g4⟩, gw, ⟨ga, gs⟩, gc, ⟨gd, gd4⟩, gr, ge, gH, gC, gL, gt⟩ := g
  have l1 : ∀ j, mI M' (r + 1) j = mI M (r + 1) j := fun j => by rw [t 1 (by omega) (by omega)]
  have l2 : ∀ j, mI M' (r + 2) j = mI M (r + 2) j := fun j => by rw [t 2 (by omega) (by omega)]
  have l3 : ∀ j, mI M' (r + 3) j = mI M (r + 3) j := fun j => by rw [t 3 (by omega) (by omega)]
  have l4 : ∀ j, mI M' (r + 4) j = mI M (r + 4) j := fun j => by rw [t 4 (by omega) (by omega)]
  have sm := fun i hi => sums_cg (M := M) (M' := M') (r := r) (k := k) (fun j _ => l1 j) (fun j _ => l4 j) i hi
  obtain ⟨s1, s2, s3, s4⟩ := sm k (Nat.le_refl _)
  refine ⟨⟨h2, by rw [h12]; exact g2, by rw [h7]; exact g3, by rw [tp]; exact g4⟩, gw, ⟨han, gs⟩, by rw [h14, s2]; exact gc, ⟨by rw [h5, s4]; exact gd, by rw [s4]; exact gd4⟩, fun i hi => by rw [(sm (i + 1) (by omega)).2.2.2, l1]; exact gr i hi, fun i hi => (ge i hi).cg (fun j _ => l1 j) (l2 i) (l3 i) (fun j _ => l4 j) (Nat.le_refl _) (fun j _ => by rw [tO]) (fun _ _ => rfl), by rw [s1]; exact gH, ?_, by rw [s3]; omega, fun j => by rw [t 5 (by omega) (by omega)]; exact gt j⟩
  intro pc h0 h1
  rw [tO, tP]
  obtain ⟨a1, a2, a3⟩ := gC pc h0 h1
  exact ⟨a1, fun q => (a2 q).imp (fun u => pdg_cg u (Nat.le_refl _) (fun j _ => l1 j) (fun j _ => l3 j)) (fun u => u), a3⟩
theorem v_rt {y : Int} (g : RG M r p O P n s V F ns d0 H L k a 1) (f : rrF M0 r p O P s M) (q : y = 0 ∧ RB M' z r w T A B D N C n p O P K ∧ FI (rdS r p O P) M M' ∧ (∀ i, i ≠ 2 → i ≠ 7 → i ≠ 14 → mI M' r i = mI M r i) ∧ (∀ i, 6 ≤ i → i ≤ 9 → mI M' (r + i) = mI M (r + i)) ∧ (∀ i, i ≠ 2 → mI M' p i = mI M p i) ∧ (∀ i, i ≠ L → mI M' O i = mI M O i ∧ mI M' P i = mI M P i) ∧ ∃ H', RG M' r p O P n s V F ns d0 H' (L + 1) k (a + 1) 0 ∧ ∀ i, i ≤ L → H' i = H i) : i32 y ∧ mOk M' ∧ rtQ M0 z r w T A B D N C n p O P K s V F ns d0 a y M' := by
  obtain ⟨e, q1, q2, q3, q4, q5, q6, H', g', -⟩ := q
  have gs := g.2.2.1.2
  refine ⟨by rw [e]; exact i32s (by omega) (by omega), q1.1, q1, f.trans ⟨q2, fun i i2 _ _ _ i7 _ i14 => q3 i i2 i7 i14, fun _ => q3 3 (by decide) (by decide) (by decide), q4, q5, fun i hi => q6 i (by omega)⟩, Or.inl e, H', L + 1, k, 0, a + 1, g', by omega, fun u => absurd u (by omega)⟩
theorem l_rt {x : Int} (haa : a ≤ a') (g : RG M r p O P n s V F ns d0 H L k a' 1) (f : rrF M0 r p O P s M) (q : lvQ M z r w T A B D N C n p O P K s V F ns d0 H L k a' x M') : i32 x ∧ mOk M' ∧ rtQ M0 z r w T A B D N C n p O P K s V F ns d0 a x M' := by
  obtain ⟨q1, q2, q3, q4, ⟨q5, q6, q7⟩, q8⟩ := q
  refine ⟨?_, q1.1, q1, f.trans ⟨q2, fun i i2 _ _ i5 i7 i12 _ => q3 i i2 i5 i7 i12, fun _ => q3 3 (by decide) (by decide) (by decide) (by decide), fun i i6 i9 => q4 i (by omega) i9, fun i _ => by rw [q5], fun i _ => ⟨by rw [q6], by rw [q7]⟩⟩, ?_⟩
  · rcases q8 with ⟨e, -⟩ | ⟨e, -⟩ <;> rw [e] <;> exact i32s (by omega) (by omega)
  · rcases q8 with ⟨e, e2⟩ | ⟨e, g'⟩
    · rw [e2]; exact ⟨Or.inr (Or.inr e), H, L, k, 1, a', g, by omega, fun u => absurd u (by omega)⟩
    · exact ⟨Or.inl e, H, L, k + 1, 1, a' + 1, g', by omega, fun u => absurd u (by omega)⟩
end RRM
end
section
/-! The class's reader of rules: takeOperand. -/
section RRN
variable {G : mG} {d z r w T A B D N C n p O P K k a a' s L L1 V F d0 c : Nat} {M0 M M' M1 M2 : mM} {H H1 : Nat → Nat} {ns : Nat → Int} {wt : Int}
end RRN
end
end
