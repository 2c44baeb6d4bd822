/-! The solver: improve. -/
theorem exF : ∀ n : Nat, ∃ F : Int, 0 < F ∧ ∀ e : Int, 0 < e → e < n → e ∣ F
  | 0 => ⟨1, by omega, fun e h1 h2 => by omega⟩
  | n + 1 => by
    obtain ⟨F, h0, h⟩ := exF n
    by_cases q : n = 0
    · exact ⟨F, h0, fun e h1 h2 => by omega⟩
    · refine ⟨F * n, Int.mul_pos h0 (by omega), fun e h1 h2 => ?_⟩
      by_cases z : e = n
      · rw [z]; exact Int.dvd_mul_left _ _
      · exact Int.dvd_trans (h e h1 (by omega)) (Int.dvd_mul_right _ _)
/-- F makes whole numbers of all small values -/
def Fall (F : Int) : Prop := 0 < F ∧ ∀ e : Int, 0 < e → e < 16777216 ^ 56 → e ∣ F
theorem fall_ex : ∃ F, Fall F := by
  obtain ⟨F, h0, h⟩ := exF ((16777216 : Int) ^ 56).toNat
  refine ⟨F, h0, fun e h1 h2 => h e h1 ?_⟩
  rw [Int.toNat_of_nonneg (Int.pow_nonneg (by omega))]
  exact h2
theorem Fall.int {F : Int} (h : Fall F) {x : Rat} (hx : Sml x) : ∃ z : Int, x * (F : Rat) = (z : Rat) := by
  obtain ⟨E, z, h0, h1, h2, -, -⟩ := hx
  obtain ⟨t, ht⟩ := h.2 E h0 h1
  refine ⟨z * t, ?_⟩
  rw [ht, Rat.intCast_mul, Rat.intCast_mul, ← h2]
  grind
theorem fv_wv {M : mM} {f r : Nat} (hF : Fq M f r) (h : 0 ≤ fv M f) : sn M f = wv M (f + 1) := by
  have p : 0 < sd M f := hF.2.2.2.2
  have e := fv_sd hF
  have a := Rat.mul_nonneg h (Rat.le_of_lt (Rat.intCast_pos.2 p))
  rw [e] at a
  have b : 0 ≤ sn M f := ic_le (by have : ((0 : Int) : Rat) = 0 := rfl; rw [this]; exact a)
  have hn := hF.2.1.nonneg
  unfold sn at b ⊢
  split at b <;> (try rw [if_pos (by assumption)]) <;> (try rw [if_neg (by assumption)]) <;> omega
theorem ic_lt {x y : Int} : (x : Rat) < (y : Rat) ↔ x < y := by exact_mod_cast Iff.rfl
theorem fv_cmp {M : mM} {a b ra rb : Nat} (hA : Fq M a ra) (hB : Fq M b rb) (ha : 0 ≤ fv M a) (hb : 0 ≤ fv M b) : (wv M (a + 1) * wv M (b + 3) < wv M (b + 1) * wv M (a + 3) ↔ fv M a < fv M b) ∧ (wv M (a + 1) * wv M (b + 3) = wv M (b + 1) * wv M (a + 3) ↔ fv M a = fv M b) := by
  have p1 : 0 < sd M a := hA.2.2.2.2
  have p2 : 0 < sd M b := hB.2.2.2.2
  have e1 := fv_sd hA
  have e2 := fv_sd hB
  rw [fv_wv hA ha] at e1
  rw [fv_wv hB hb] at e2
  have q1 : (0 : Rat) < (sd M a : Rat) := Rat.intCast_pos.2 p1
  have q2 : (0 : Rat) < (sd M b : Rat) := Rat.intCast_pos.2 p2
  have s1 : sd M a = wv M (a + 3) := rfl
  have s2 : sd M b = wv M (b + 3) := rfl
  rw [s1] at e1 q1
  rw [s2] at e2 q2
  have c1 : ((wv M (a + 1) * wv M (b + 3) : Int) : Rat) = fv M a * ((wv M (a + 3) : Rat) * (wv M (b + 3) : Rat)) := by rw [Rat.intCast_mul, ← e1]; grind
  have c2 : ((wv M (b + 1) * wv M (a + 3) : Int) : Rat) = fv M b * ((wv M (a + 3) : Rat) * (wv M (b + 3) : Rat)) := by rw [Rat.intCast_mul, ← e2]; grind
  have hp := Rat.mul_pos q1 q2
  generalize (wv M (a + 3) : Rat) * (wv M (b + 3) : Rat) = P at *
  generalize fv M a = x at *
  generalize fv M b = y at *
  clear e1 e2 q1 q2
  refine ⟨⟨fun h => ?_, fun h => ?_⟩, ⟨fun h => ?_, fun h => ?_⟩⟩
  · have h' := ic_lt.2 h
    rw [c1, c2] at h'
    refine Classical.byContradiction (fun w => ?_)
    have a := Rat.mul_nonneg (a := x - y) (b := P) (by grind) (Rat.le_of_lt hp)
    grind
  · refine ic_lt.1 ?_
    rw [c1, c2]
    have a := Rat.mul_pos (a := y - x) (b := P) (by grind) hp
    grind
  · have h' : ((wv M (a + 1) * wv M (b + 3) : Int) : Rat) = ((wv M (b + 1) * wv M (a + 3) : Int) : Rat) := by rw [h]
    rw [c1, c2] at h'
    have i := Rat.mul_inv_cancel P (by grind)
    have e : x * P * P⁻¹ = y * P * P⁻¹ := by rw [h']
    grind
  · have h' : ((wv M (a + 1) * wv M (b + 3) : Int) : Rat) = ((wv M (b + 1) * wv M (a + 3) : Int) : Rat) := by rw [c1, c2, h]
    exact_mod_cast h'
/-- command i of state k is better for the player -/
def betP (M : mM) (s : Nat) (x : Nat → Rat) (q : Int) (k i : Nat) : Prop := if q = 1 then x k < cw M s (cx M s k i) x else cw M s (cx M s k i) x < x k
abbrev iS (s : Nat) : Nat → Prop := fun x => wS s x ∨ x = s + 35
/-- what improve leaves behind -/
def imQ (M : mM) (s : Nat) (x : Nat → Rat) (q : Int) (k : Nat) (r : Int) (M' : mM) : Prop := mOk M' ∧ Wk M' s ∧ FI (iS s) M M' ∧ ((r = 0 ∧ mI M' (s + 35) = mI M (s + 35) ∧ (mI M (s + 22) k = q → ∀ i : Nat, (i : Int) < mny M s k → mayP M s k i → ¬ betP M s x q k i)) ∨ (r = 1 ∧ mI M (s + 22) k = q ∧ ∃ i : Nat, (i : Int) < mny M s k ∧ mayP M s k i ∧ betP M s x q k i ∧ ∀ j, mI M' (s + 35) j = if j = k then (i : Int) else mI M (s + 35) j))
section VS
variable {G : mG} {d s n : Nat} {M : mM} {x : Nat → Rat}
theorem s_MS_improve {k : Nat} {q : Int} (hq : q = 1 ∨ q = 2) (hO : mOk M) (hV : Vk M s) (hG : GW M s) (hC : GB M s) (hn : mI M s 1 = n) (hk : (k : Int) < mI M s 1) (hW : Wk M s) (hX : Xt M s 88 n x) (h01 : ∀ t, t < n → 0 ≤ x t ∧ x t ≤ 1) :
    Ci G y_MS_improve (d + 6) [vr s, vi k, vi q] M (fun r M' => imQ M s x q k r M') := by
  have h2 := hG.2.1
  have h3 := hG.2.2.1
  have hc := hG.cmd hk
  have hm0 : 0 ≤ mny M s k ∧ mny M s k ≤ 4200 := by unfold mny; omega
  refine k_MS_improve hO ⟨by omega, by omega⟩ ⟨by omega, by omega⟩ ?_
  suffices H : ∀ (r i : Nat) (M2 : mM), r = (mny M s k).toNat - i → mOk M2 → FI (wS s) M M2 → Wk M2 s → (mI M (s + 22) k = q → ∀ i' : Nat, i' < i → (i' : Int) < mny M s k → mayP M s k i' → ¬ betP M s x q k i') → (i : Int) ≤ mny M s k → h_MS_improve_2 G (d + 5) s k q i M2 (fun r M' => imQ M s x q k r M') from
    H _ 0 M rfl hO FI.refl hW (fun _ i' hi' => by omega) (by omega)
  intro r
  induction r with
  | zero =>
    intro i M2 hr o2 f2 W2 hB hi
    have V2 := hV.fi f2
    have G2 : sameG M M2 s := sameG.of f2 (by omega) (fun y _ _ => by omega)
    have fe := f2.2.2.2.2.2.2
    refine k_MS_improve_2 o2 ⟨by omega, by omega⟩ ⟨by omega, by omega⟩ ⟨by omega, by omega⟩ ?_
    rw [V2.r4, V2.n22, fe (s + 22) (by omega), Int.toNat_natCast]
    refine ⟨V2.k0, V2.k22, by omega, fun e => (s_MS_many o2 V2 (G2.gw hG) (by rw [G2.1]; exact hk)).mono (fun y M3 h3' => ?_), fun e => ⟨o2, W2, f2.mono (fun y w => Or.inl w), Or.inl ⟨rfl, fe (s + 35) (by omega), fun w => absurd w e⟩⟩⟩
    obtain ⟨e3, hy⟩ := h3'
    subst e3
    rw [G2.hm] at hy
    exact ⟨⟨by omega, by omega⟩, o2, fun _ => ⟨o2, W2, f2.mono (fun y w => Or.inl w), Or.inl ⟨rfl, fe (s + 35) (by omega), fun w i' hi' => hB w i' (by omega) hi'⟩⟩, fun w => by omega⟩
  | succ r ih =>
    intro i M2 hr o2 f2 W2 hB hi
    have V2 := hV.fi f2
    have G2 : sameG M M2 s := sameG.of f2 (by omega) (fun y _ _ => by omega)
    have fe := f2.2.2.2.2.2.2
    have GG := G2.gw hG
    have hk2 : (k : Int) < mI M2 s 1 := by rw [G2.1]; exact hk
    have him : (i : Int) < mny M s k := by omega
    have hmay : mayP M2 s k i ↔ mayP M s k i := by
      unfold mayP
      rw [fe s (by omega), fe (s + 22) (by omega), fe (s + 32) (by omega)]
    refine k_MS_improve_2 o2 ⟨by omega, by omega⟩ ⟨by omega, by omega⟩ ⟨by omega, by omega⟩ ?_
    rw [V2.r4, V2.n22, fe (s + 22) (by omega), Int.toNat_natCast]
    refine ⟨V2.k0, V2.k22, by omega, fun e => (s_MS_many o2 V2 GG hk2).mono (fun y M3 h3' => ?_), fun e => ⟨o2, W2, f2.mono (fun y w => Or.inl w), Or.inl ⟨rfl, fe (s + 35) (by omega), fun w => absurd w e⟩⟩⟩
    obtain ⟨e3, hy⟩ := h3'
    subst e3
    rw [G2.hm] at hy
    refine ⟨⟨by omega, by omega⟩, o2, fun w => by omega, fun _ => ⟨V2.k0, (s_MS_may (by omega) o2 V2 GG hk2).mono (fun z M4 h4 => ?_)⟩⟩
    obtain ⟨e4, hz, hzq⟩ := h4
    subst e4
    refine ⟨⟨by omega, by omega⟩, o2, fun w => ?_, fun w => ?_⟩
    · refine ih (i + 1) M4 (by omega) o2 f2 W2 (fun w' i' hi' hi2 hm => ?_) (by omega)
      by_cases z' : i' = i
      · subst z'
        exact absurd w (hzq.2 (hmay.2 hm))
      · exact hB w' i' (by omega) hi2 hm
    · have hmi : mayP M s k i := hmay.1 (hzq.1 w)
      have X2 := hX.out f2 (fun y w => by omega)
      rw [V2.r21]
      refine ⟨V2.k0, (s_MS_worthOf (d := d) (n := n) (Or.inl ⟨rfl, rfl, rfl⟩) o2 V2 GG (G2.gb hC) (by rw [G2.1]; exact hn) hk2 (by rw [G2.hm]; exact him) W2 X2 h01).mono (fun M5 h5 => ?_)⟩
      obtain ⟨o5, f5, W5, F5, C5, v5, s5⟩ := h5
      rw [G2.hw, G2.hx] at v5 s5
      have V5 := V2.fi f5
      have f25 := f2.trans f5
      have fe5 := f25.2.2.2.2.2.2
      have X5 := X2.out f5 (fun y w => by omega)
      have xk := X5 k (by omega)
      have sz := smp_size F5 C5 (by rw [v5]; exact s5)
      have z3 := xk.1.2.1.1.2.2.2.2.2.2
      have z4 := xk.1.2.2.1.1.2.2.2.2.2.2
      have hx0 := h01 k (by omega)
      have hcx : (cx M s k i : Int) < mI M s 2 := by
        have := him
        unfold mny at this
        unfold cx
        omega
      have hw0 : 0 ≤ cw M s (cx M s k i) x := by
        have a := cw_le hC hcx (f := fun _ => 0) (g := x) (fun b hb => (h01 _ (by have := tg_lt hG hcx hb; omega)).1)
        rw [cw_const hC hcx] at a
        exact a
      rw [V5.r21, V5.r0, V5.r28, V5.n38, V5.f38 k (by omega)]
      refine ⟨o5, V5.k0, V5.k38, by omega, W5.1.1.1, (s_MU_compare (d := d + 3) o5 W5.1 F5 xk.1 (by unfold suO; omega) (by unfold suO; omega) (by omega) (by omega)).mono (fun c M6 h6 => ?_)⟩
      obtain ⟨o6, f6, Z6, hcv⟩ := h6
      have hcm := fv_cmp F5 xk.1 (by rw [v5]; exact hw0) (by rw [xk.2.2]; exact hx0.1)
      rw [v5, xk.2.2] at hcm
      have f6' : FI (wS s) M5 M6 := f6.mono (fun y w => by omega)
      have V6 := V5.fi f6
      have W6 : Wk M6 s := W5.out f6 Z6 (fun y w => by omega)
      have f26 := f25.trans f6'
      have fe6 := f26.2.2.2.2.2.2
      have hnext : ¬ betP M s x q k i → h_MS_improve_2 G (d + 5) s k q ((i : Int) + 1) M6 (fun r M' => imQ M s x q k r M') := fun hb => by
        refine ih (i + 1) M6 (by omega) o6 f26 W6 (fun w' i' hi' hi2 hm => ?_) (by omega)
        by_cases z' : i' = i
        · subst z'; exact hb
        · exact hB w' i' (by omega) hi2 hm
      have hend : betP M s x q k i → ∀ M7, M7 = mUI M6 (s + 35) k i → imQ M s x q k 1 M7 := fun hb M7 e7 => by
        have f7 : FI (fun y => y = s + 35) M6 M7 := by rw [e7]; exact FI.ui rfl
        have o7 : mOk M7 := by rw [e7]; exact mOk_UI o6 ⟨by omega, by omega⟩
        refine ⟨o7, W6.far f7 (fun y w => by omega), (f26.mono (fun y w => Or.inl w)).trans (f7.mono (fun y w => Or.inr w)), Or.inr ⟨rfl, e, i, him, hmi, hb, fun j => ?_⟩⟩
        rw [e7, mI_UI, fe6 (s + 35) (by omega)]
        by_cases z' : j = k
        · rw [if_pos ⟨rfl, z'⟩, if_pos z']
        · rw [if_neg (fun w => z' w.2), if_neg z']
      have hc3 : c = -1 ∨ c = 0 ∨ c = 1 := by split at hcv <;> (try split at hcv) <;> omega
      rw [V6.r18, V6.n35]
      refine ⟨⟨by omega, by omega⟩, o6, fun w1 => ⟨fun w2 => hnext ?_, fun w2 => ⟨V6.k0, V6.k35, by omega, hend ?_⟩⟩, fun w1 => ⟨fun w2 => hnext ?_, fun w2 => ⟨V6.k0, V6.k35, by omega, hend ?_⟩⟩⟩
      · unfold betP
        rw [if_pos w1]
        by_cases y1 : wv M5 (s + 52 + 1) * wv M5 (s + 88 + 25 * k + 3) < wv M5 (s + 88 + 25 * k + 1) * wv M5 (s + 52 + 3)
        · have := hcm.1.1 y1; grind
        · rw [if_neg y1] at hcv
          by_cases y2 : wv M5 (s + 52 + 1) * wv M5 (s + 88 + 25 * k + 3) = wv M5 (s + 88 + 25 * k + 1) * wv M5 (s + 52 + 3)
          · have := hcm.2.1 y2; grind
          · rw [if_neg y2] at hcv; omega
      · unfold betP
        rw [if_pos w1]
        by_cases y1 : wv M5 (s + 52 + 1) * wv M5 (s + 88 + 25 * k + 3) < wv M5 (s + 88 + 25 * k + 1) * wv M5 (s + 52 + 3)
        · rw [if_pos y1] at hcv; omega
        · rw [if_neg y1] at hcv
          by_cases y2 : wv M5 (s + 52 + 1) * wv M5 (s + 88 + 25 * k + 3) = wv M5 (s + 88 + 25 * k + 1) * wv M5 (s + 52 + 3)
          · rw [if_pos y2] at hcv; omega
          · have a1 : ¬ cw M s (cx M s k i) x < x k := fun y => y1 (hcm.1.2 y)
            have a2 : ¬ cw M s (cx M s k i) x = x k := fun y => y2 (hcm.2.2 y)
            grind
      · unfold betP
        rw [if_neg w1]
        by_cases y1 : wv M5 (s + 52 + 1) * wv M5 (s + 88 + 25 * k + 3) < wv M5 (s + 88 + 25 * k + 1) * wv M5 (s + 52 + 3)
        · rw [if_pos y1] at hcv; omega
        · exact fun y => y1 (hcm.1.2 y)
      · unfold betP
        rw [if_neg w1]
        by_cases y1 : wv M5 (s + 52 + 1) * wv M5 (s + 88 + 25 * k + 3) < wv M5 (s + 88 + 25 * k + 1) * wv M5 (s + 52 + 3)
        · exact hcm.1.1 y1
        · rw [if_neg y1] at hcv
          split at hcv <;> omega
end VS
