/-! The reference: fractions are reckoned. -/
section RK
variable {G : mG} {d a V : Nat} {M : mM}
/-- a value of type t: a fraction, or a truth with 0 below -/
def vok (t A B : Int) : Prop := (t = 0 ∧ -1000000000 < A ∧ A < 1000000000 ∧ 1 ≤ B ∧ B < 1000000000) ∨ (t = 1 ∧ (A = 0 ∨ A = 1) ∧ B = 0)
/-- a value has been reckoned, or a fault told -/
def rkQ (M : mM) (a V : Nat) (t : Int) (M' : mM) : Prop := Mv (fun _ => False) (vS a) M a M' ∧ (∀ i, i ≠ 16 → i ≠ 17 → i ≠ 23 → mI M' a i = mI M a i) ∧ (∀ k, k < V → mL M' (a + 97) k = mL M (a + 97) k ∧ mL M' (a + 98) k = mL M (a + 98) k) ∧ (mI M' a 16 ≠ 0 ∨ (mI M' a 16 = mI M a 16 ∧ mI M' a 23 = (V + 1 : Nat) ∧ vok t (mL M' (a + 97) V) (mL M' (a + 98) V)))
theorem cmpz (z b : Int) : (0 ≤ cmpL z b ↔ b ≤ z) ∧ (cmpL z b ≤ 0 ↔ z ≤ b) ∧ (cmpL z b < 0 ↔ z < b) ∧ (cmpL z b = 0 ↔ z = b) ∧ (0 < cmpL z b ↔ b < z) := by unfold cmpL; split <;> (try split) <;> omega
theorem psQ.rk {t A B : Int} {M' : mM} (h : psQ M a V A B M') (hv : vok t A B) : rkQ M a V t M' := by
  obtain ⟨h1, h2, h3, h4, h5⟩ := h
  exact ⟨h1, fun i _ _ i3 => h3 i i3, fun k hk => ⟨by rw [h4, if_neg (by omega)], by rw [h5, if_neg (by omega)]⟩, Or.inr ⟨h3 16 (by omega), h2, by rw [h4, h5, if_pos rfl, if_pos rfl]; exact hv⟩⟩
/-- a fault, and nothing else -/
theorem st_rk {t c p : Int} {M' : mM} (hc : c ≠ 0) (h : Mv (fun _ => False) (fun x => x = a) M a M' ∧ mI M' a 16 = c ∧ mI M' a 17 = p ∧ ∀ i, i ≠ 16 → i ≠ 17 → mI M' a i = mI M a i) (w : Wd M a) : rkQ M a V t M' := by
  obtain ⟨m, f1, f2, f3⟩ := h
  have z := w.2.2.2
  have cl : ∀ x, x < mZ M → x ≠ a → mL M' x = mL M x := fun x hx hne => (m.2.2.2.1.2.2.2.1 x hx (fun y => y) (fun p y => y.elim) hne).2
  exact ⟨m.mono (fun _ y => y) (fun x y => Or.inl y) (fun _ y => y.elim), fun i i1 i2 _ => f3 i i1 i2, fun k _ => ⟨by rw [cl _ (by omega) (by omega)], by rw [cl _ (by omega) (by omega)]⟩, Or.inl (by rw [f1]; exact hc)⟩
theorem s_MM_pushFraction {A B p : Int} (hA : -9223372036854775807 ≤ A ∧ A ≤ 9223372036854775807) (hB : 0 < B ∧ i64 B) (hp : i32 p) (hO : mOk M) (h : Wd M a) (hV : mI M a 23 = (V : Int)) (hb : V < 16400) : Cv G y_MM_pushFraction (d + 1) [vr a, vl A, vl B, vi p] M (fun M' => mOk M' ∧ rkQ M a V 0 M') := by
  refine Cv.mono (Q := rkQ M a V 0) ?_ (fun M' t => ⟨t.1.1, t⟩)
  refine k_MM_pushFraction hO ⟨by omega, by omega⟩ hB.2 hp ((s_MM_divisor hA hB hO).mono (fun x M1 h1 => ?_))
  obtain ⟨e1, x1, x2, ⟨c, hc⟩, ⟨e, he⟩⟩ := h1
  subst e1
  have dA : Int.tdiv A x = c := by rw [hc]; exact Int.mul_tdiv_cancel_left c (by omega)
  have dB : Int.tdiv B x = e := by rw [he]; exact Int.mul_tdiv_cancel_left e (by omega)
  have c1 : 0 ≤ c → c ≤ A := fun y => by
    have := Int.mul_le_mul_of_nonneg_right x1 y
    rw [← hc] at this
    omega
  have c2 : c ≤ 0 → A ≤ c := fun y => by
    have := Int.mul_le_mul_of_nonneg_right x1 (show 0 ≤ -c by omega)
    rw [Int.mul_neg, Int.mul_neg, ← hc] at this
    omega
  have e0 : 0 < e := by
    by_cases y : 0 < e
    · exact y
    · have := Int.mul_le_mul_of_nonneg_left (show e ≤ 0 by omega) (show 0 ≤ x by omega)
      rw [← he] at this
      omega
  have e1 : e ≤ B := by
    have := Int.mul_le_mul_of_nonneg_right x1 (show 0 ≤ e by omega)
    rw [← he] at this
    omega
  have ic : i64 c := ⟨by omega, by omega⟩
  have ie : i64 e := ⟨by omega, by have := hB.2.2; omega⟩
  rw [dA, dB]
  refine ⟨⟨by omega, by have := hB.2.2; omega⟩, hO, by omega, by omega, ic, fun _ _ => ie, fun q => ⟨h.1.1, (s_MM_stop ⟨by omega, by omega⟩ hp hO h).mono (fun M2 h2 => ?_)⟩, fun q => ⟨h.1.1, (s_MM_push ic ie hO h hV hb).mono (fun M2 h2 => ⟨h2.1, h2.2.rk (Or.inl ?_)⟩)⟩⟩
  · obtain ⟨m2, f1, f2, f3⟩ := id h2
    refine ⟨m2.1, m2.2.1.1.1, (s_MM_push ic ie m2.1 m2.2.1 (by rw [f3 23 (by omega) (by omega)]; exact hV) hb).mono (fun M3 h3 => ⟨h3.1, ?_⟩)⟩
    obtain ⟨k1, k2, k3, -⟩ := st_rk (V := V) (t := 0) (by omega) h2 h
    obtain ⟨g1, g2, g3, g4, g5⟩ := h3.2
    exact ⟨k1.trans g1, fun i i1 i2 i3 => (g3 i i3).trans (k2 i i1 i2 i3), fun k hk => ⟨by rw [g4, if_neg (by omega)]; exact (k3 k hk).1, by rw [g5, if_neg (by omega)]; exact (k3 k hk).2⟩, Or.inl (by rw [g3 16 (by omega), f1]; decide)⟩
  · have q1 := (cmpz c 1000000000).1
    have q2 := (cmpz c (-1000000000)).2.1
    have q3 := (cmpz e 1000000000).2.2.1
    rw [q1, q2, q3] at q
    omega
end RK
