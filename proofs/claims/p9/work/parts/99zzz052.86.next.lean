section
/-! The solver: the next state; clearing, and telling it a game. -/
section NX
variable {G : mG} {d s n k : Nat} {M : mM}
/-- the share of branch b of command c -/
def shr (M : mM) (s c b : Nat) : Int := mI M (s + 27) (bg M s c + b) * (mI M (s + 24) c / mI M (s + 28) (bg M s c + b))
theorem sm_nn {f : Nat → Int} : ∀ (n : Nat), (∀ c, c < n → 0 ≤ f c) → 0 ≤ sm f n
  | 0, _ => by show (0 : Int) ≤ 0; omega
  | n + 1, h => by
    have h1 := sm_nn n (fun c hc => h c (by omega))
    have h2 := h n (by omega)
    rw [sm]
    omega
/-- the branch that r falls on -/
def nxtQ (M : mM) (s c : Nat) (r x : Int) : Prop := ∃ t, t < nb M s c ∧ x = mI M (s + 26) (bg M s c + t) ∧ r * mI M (s + 24) c < sm (shr M s c) (t + 1) * 2147483648 ∧ ∀ u, u < t → sm (shr M s c) (u + 1) * 2147483648 ≤ r * mI M (s + 24) c
theorem s_MS_nextOf {r : Int} (h0 : 0 ≤ r) (h1 : r < 2147483648) (hO : mOk M) (h : Sv M s n) (hk : k < n) : Ci G y_MS_nextOf (d + 1) [vr s, vi k, vi r] M (fun x M' => M' = M ∧ ((mny M s k = 0 ∧ x = k) ∨ (0 < mny M s k ∧ nxtQ M s (cx M s k (mI M (s + 32) k).toNat) r x))) := by
  have hn5 := h.n5
  obtain ⟨V, g, c, e, t, W, -⟩ := id h
  have h2 := g.2.1
  have h3 := g.2.2.1
  have h4 := g.2.2.2.1
  have hcm := g.cmd (i := k) (by omega)
  have hm0 : 0 ≤ mny M s k ∧ mny M s k ≤ 4200 := by unfold mny; omega
  refine k_MS_nextOf hO ⟨by omega, by omega⟩ ⟨by omega, by omega⟩ ⟨V.k0, (s_MS_many hO V g (by omega)).mono (fun y M1 h1' => ?_)⟩
  obtain ⟨e1, hy⟩ := h1'
  subst e1
  refine ⟨⟨by omega, by omega⟩, hO, fun y0 => ⟨rfl, Or.inl ⟨by omega, rfl⟩⟩, fun y0 => ?_⟩
  have ht := t k (by omega)
  have ht2 := ht.2 (by omega)
  have hcx : (cx M1 s k (mI M1 (s + 32) k).toNat : Int) = mI M1 (s + 23) k + mI M1 (s + 32) k := by unfold cx; omega
  have hc2 := cx_lt g (k := k) (i := (mI M1 (s + 32) k).toNat) (by omega) (by omega)
  rw [V.r5, V.r14, V.r6, V.r7, V.n23, V.n32, V.n24, V.n25, Int.toNat_natCast, ← hcx, Int.toNat_natCast]
  generalize hcc : cx M1 s k (mI M1 (s + 32) k).toNat = cc at *
  have hb := g.brn hc2
  obtain ⟨⟨m1, m2, m3⟩, hbr, hsum⟩ := c cc hc2
  have ebg : (bg M1 s cc : Int) = mI M1 (s + 25) cc := by unfold bg; omega
  have enb : (nb M1 s cc : Int) = mI M1 (s + 25) (cc + 1) - mI M1 (s + 25) cc := by unfold nb; omega
  have hsh : ∀ b, b < nb M1 s cc → 0 ≤ shr M1 s cc b := fun b hb => by
    obtain ⟨u1, u2, u3⟩ := hbr b hb
    exact Int.mul_nonneg (by omega) (Int.ediv_nonneg (by omega) (by omega))
  have hsm : sm (shr M1 s cc) (nb M1 s cc) = mI M1 (s + 24) cc := hsum
  have hpart : ∀ b, b ≤ nb M1 s cc → 0 ≤ sm (shr M1 s cc) b ∧ sm (shr M1 s cc) b ≤ mI M1 (s + 24) cc := fun b hb => by
    refine ⟨sm_nn b (fun j hj => hsh j (by omega)), ?_⟩
    have a := sm_part (f := shr M1 s cc) (a := b) (nb M1 s cc - b) (fun j hj => hsh j (by omega))
    rw [show b + (nb M1 s cc - b) = nb M1 s cc by omega, hsm] at a
    exact a
  have hnb : 0 < nb M1 s cc := by
    refine Classical.byContradiction (fun w => ?_)
    have e0 : nb M1 s cc = 0 := by omega
    rw [e0] at hsm
    have : sm (shr M1 s cc) 0 = 0 := rfl
    omega
  have hrm : 0 ≤ r * mI M1 (s + 24) cc ∧ r * mI M1 (s + 24) cc ≤ 2147483647 * mI M1 (s + 24) cc := ⟨Int.mul_nonneg h0 (by omega), Int.mul_le_mul_of_nonneg_right (by omega) (by omega)⟩
  refine ⟨V.k0, V.k23, by omega, V.k32, by omega, V.k24, by omega, V.k25, by omega, ?_⟩
  suffices H : ∀ (c t : Nat), t + c = nb M1 s cc → 0 < c → (∀ u, u < t → sm (shr M1 s cc) (u + 1) * 2147483648 ≤ r * mI M1 (s + 24) cc) → h_MS_nextOf_46 G d s r (mI M1 (s + 24) cc) (sm (shr M1 s cc) t) (mI M1 (s + 25) cc - 1 + t) M1 (fun x M' => M' = M1 ∧ ((mny M1 s k = 0 ∧ x = k) ∨ (0 < mny M1 s k ∧ nxtQ M1 s cc r x))) by
    have a := H (nb M1 s cc) 0 (by omega) hnb (fun u hu => by omega)
    have e0 : sm (shr M1 s cc) 0 = 0 := rfl
    rw [e0, show mI M1 (s + 25) cc - 1 + ((0 : Nat) : Int) = mI M1 (s + 25) cc - 1 by omega] at a
    exact a
  intro c'
  induction c' with
  | zero => intro t _ q; omega
  | succ c' ih =>
    intro t ht _ hlow
    have htn : t < nb M1 s cc := by omega
    have ei : (mI M1 (s + 25) cc - 1 + (t : Int) + 1).toNat = bg M1 s cc + t := by omega
    obtain ⟨u1, u2, u3⟩ := hbr t htn
    have pt := hpart t (by omega)
    have pt1 := hpart (t + 1) (by omega)
    have est : sm (shr M1 s cc) t + mI M1 (s + 27) (bg M1 s cc + t) * (mI M1 (s + 24) cc).tdiv (mI M1 (s + 28) (bg M1 s cc + t)) = sm (shr M1 s cc) (t + 1) := by
      rw [Int.tdiv_eq_ediv_of_nonneg (by omega)]
      rfl
    refine k_MS_nextOf_46 hO ⟨by omega, by omega⟩ ⟨by omega, by omega⟩ ⟨by omega, by omega⟩ ⟨by omega, by omega⟩ ?_
    rw [V.r9, V.r10, V.r8, V.n27, V.n28, V.n26, ei, est]
    refine ⟨V.k0, V.k27, by omega, V.k28, by omega, by omega, ⟨by omega, by omega⟩, ⟨by omega, by omega⟩, fun w => ?_, fun w => ⟨V.k26, by omega, rfl, Or.inr ⟨by omega, t, htn, rfl, ?_, hlow⟩⟩⟩
    · have hle : sm (shr M1 s cc) (t + 1) * 2147483648 ≤ r * mI M1 (s + 24) cc := by
        unfold cmpL at w
        split at w <;> (try split at w) <;> omega
      have hc0 : 0 < c' := by
        refine Classical.byContradiction (fun z => ?_)
        have e1 : t + 1 = nb M1 s cc := by omega
        rw [e1, hsm] at hle
        omega
      have a := ih (t + 1) (by omega) hc0 (fun u hu => by
        by_cases z : u = t
        · rw [z]; exact hle
        · exact hlow u (by omega))
      rw [show mI M1 (s + 25) cc - 1 + ((t + 1 : Nat) : Int) = mI M1 (s + 25) cc - 1 + (t : Int) + 1 by omega] at a
      exact a
    · unfold cmpL at w
      split at w <;> (try split at w) <;> omega
end NX
section CL
variable {G : mG} {d s : Nat} {M : mM}
/-- clear leaves an empty game -/
theorem s_MS_clear {n : Nat} (hO : mOk M) (h : Sv M s n) : Cv G y_MS_clear d [vr s] M (fun M' => mOk M' ∧ FI (vF s) M M' ∧ Sv M' s 0 ∧ mI M' s 2 = 0 ∧ mI M' s 3 = 0 ∧ ∀ w, w < 3 → mI M' (s + 30) w = 0) := by
  obtain ⟨V, g, c, e, t, W, T, R, H, hc⟩ := id h
  refine k_MS_clear hO ⟨V.k0, fun M1 e1 M2 e2 M3 e3 => ?_⟩
  have f3 : FI (fun y => y = s) M M3 := by
    have a1 : FI (fun y => y = s) M M1 := by rw [e1]; exact FI.ui rfl
    have a2 : FI (fun y => y = s) M1 M2 := by rw [e2]; exact FI.ui rfl
    have a3 : FI (fun y => y = s) M2 M3 := by rw [e3]; exact FI.ui rfl
    exact (a1.trans a2).trans a3
  have o3 : mOk M3 := by
    rw [e3, e2, e1]
    exact mOk_UI (mOk_UI (mOk_UI hO ⟨by omega, by omega⟩) ⟨by omega, by omega⟩) ⟨by omega, by omega⟩
  have s3 : mI M3 s 1 = 0 ∧ mI M3 s 2 = 0 ∧ mI M3 s 3 = 0 := by
    rw [e3, e2, e1]
    refine ⟨?_, ?_, ?_⟩ <;> simp [mI_UI]
  have V3 := V.fi f3
  rw [V3.r5, V3.n23]
  refine ⟨V3.k23, by omega, fun M4 e4 => ?_⟩
  have f4 : FI (fun y => y = s + 23) M3 M4 := by rw [e4]; exact FI.ui rfl
  have o4 : mOk M4 := by rw [e4]; exact mOk_UI o3 ⟨by omega, by omega⟩
  have V4 := V3.fi f4
  have i4 : mI M4 (s + 23) 0 = 0 := by rw [e4, mI_UI, if_pos ⟨rfl, rfl⟩]
  rw [V4.r7, V4.n25]
  refine ⟨V4.k25, by omega, fun M5 e5 => ?_⟩
  have f5 : FI (fun y => y = s + 25) M4 M5 := by rw [e5]; exact FI.ui rfl
  have o5 : mOk M5 := by rw [e5]; exact mOk_UI o4 ⟨by omega, by omega⟩
  have V5 := V4.fi f5
  have i5 : mI M5 (s + 25) 0 = 0 := by rw [e5, mI_UI, if_pos ⟨rfl, rfl⟩]
  have j5 : mI M5 (s + 23) 0 = 0 := by rw [f5.2.2.2.2.2.2 (s + 23) (by omega)]; exact i4
  have s5 : mI M5 s = mI M3 s := by rw [f5.2.2.2.2.2.2 s (by omega), f4.2.2.2.2.2.2 s (by omega)]
  have f05 : FI (fun y => y = s ∨ y = s + 23 ∨ y = s + 25) M M5 := ((f3.mono (fun y q => by omega)).trans (f4.mono (fun y q => by omega))).trans (f5.mono (fun y q => by omega))
  suffices Hh : ∀ (c w : Nat) (M6 : mM), w + c = 3 → mOk M6 → FI (fun y => y = s + 30) M5 M6 → (∀ j, j < w → mI M6 (s + 30) j = 0) → h_MS_clear_31 G d s w M6 (fun M' => mOk M' ∧ FI (vF s) M M' ∧ Sv M' s 0 ∧ mI M' s 2 = 0 ∧ mI M' s 3 = 0 ∧ ∀ w, w < 3 → mI M' (s + 30) w = 0) from
    Hh 3 0 M5 (by omega) o5 FI.refl (fun j hj => by omega)
  intro c'
  induction c' with
  | zero =>
    intro w M6 hw o6 f6 h6
    have ew : w = 3 := by omega
    subst ew
    refine k_MS_clear_31 o6 ⟨by omega, by omega⟩ ⟨fun _ => ?_, fun q => by omega⟩
    have fe := f6.2.2.2.2.2.2
    have s6 : mI M6 s = mI M3 s := by rw [fe s (by omega)]; exact s5
    have f06 : FI (fun y => y = s ∨ y = s + 23 ∨ y = s + 25 ∨ y = s + 30) M M6 := (f05.mono (fun y q => by omega)).trans (f6.mono (fun y q => by omega))
    have g6 : GW M6 s := by
      unfold GW
      rw [s6, s3.1, s3.2.1, s3.2.2, fe (s + 23) (by omega), fe (s + 25) (by omega), j5, i5]
      refine ⟨by omega, by omega, by omega, by omega, rfl, rfl, fun i j hij hj => ?_, j5, fun i j hij hj => ?_, i5, fun b hb => by omega⟩
      · have : i = 0 ∧ j = 0 := by omega
        rw [this.1, this.2]
        omega
      · have : i = 0 ∧ j = 0 := by omega
        rw [this.1, this.2]
        omega
    refine ⟨o6, f06.mono (fun y q => by omega), ⟨V5.fi f6, g6, fun c hc => ?_, by rw [s6]; exact s3.1, fun k hk => ?_, W.far f06 (fun y q => by omega), T.out f06 (fun y q => by omega), fun e he => (R e he).out f06 (fun y q => by omega), fun w hw => ⟨Or.inl (h6 w hw), fun q => by have := h6 w hw; omega⟩, fun q => by have := h6 0 (by omega); omega⟩, by rw [s6]; exact s3.2.1, by rw [s6]; exact s3.2.2, h6⟩
    · rw [s6, s3.2.1] at hc
      omega
    · rw [s6, s3.1] at hk
      omega
  | succ c' ih =>
    intro w M6 hw o6 f6 h6
    have V6 := V5.fi f6
    refine k_MS_clear_31 o6 ⟨by omega, by omega⟩ ⟨fun q => by omega, fun _ => ?_⟩
    rw [V6.r12, V6.n30, Int.toNat_natCast]
    refine ⟨V6.k0, V6.k30, by omega, fun M7 e7 => ?_⟩
    have f7 : FI (fun y => y = s + 30) M6 M7 := by rw [e7]; exact FI.ui rfl
    have o7 : mOk M7 := by rw [e7]; exact mOk_UI o6 ⟨by omega, by omega⟩
    refine ih (w + 1) M7 (by omega) o7 (f6.trans f7) (fun j hj => ?_)
    rw [e7, mI_UI]
    by_cases z : j = w
    · rw [if_pos ⟨rfl, z⟩]
    · rw [if_neg (fun q => z q.2)]
      exact h6 j (by omega)
theorem s_MS_addState {q : Int} {n : Nat} (hq : i32 q) (hO : mOk M) (hV : Vk M s) (hn : mI M s 1 = n) (hn5 : n < 512) : Cv G y_MS_addState d [vr s, vi q] M (fun M' => mOk M' ∧ FI (fun y => y = s ∨ y = s + 22 ∨ y = s + 23 ∨ y = s + 32) M M' ∧ (∀ j, mI M' s j = if j = 1 then (n : Int) + 1 else mI M s j) ∧ (∀ j, mI M' (s + 22) j = if j = n then q else mI M (s + 22) j) ∧ (∀ j, mI M' (s + 32) j = if j = n then 0 else mI M (s + 32) j) ∧ (∀ j, mI M' (s + 23) j = if j = n + 1 then mI M s 2 else mI M (s + 23) j)) := by
  refine k_MS_addState hO hq ?_
  rw [hV.r4, hV.n22, hn, Int.toNat_natCast]
  refine ⟨hV.k0, hV.k22, by omega, fun M1 e1 => ?_⟩
  have f1 : FI (fun y => y = s + 22) M M1 := by rw [e1]; exact FI.ui rfl
  have V1 := hV.fi f1
  have s1 : mI M1 s = mI M s := f1.2.2.2.2.2.2 s (by omega)
  rw [V1.r14, V1.n32, s1, hn, Int.toNat_natCast]
  refine ⟨V1.k32, by omega, fun M2 e2 => ?_⟩
  have f2 : FI (fun y => y = s + 32) M1 M2 := by rw [e2]; exact FI.ui rfl
  have V2 := V1.fi f2
  have s2 : mI M2 s = mI M s := by rw [f2.2.2.2.2.2.2 s (by omega)]; exact s1
  rw [s2, hn]
  refine ⟨⟨by omega, by omega⟩, fun M3 e3 => ?_⟩
  have f3 : FI (fun y => y = s) M2 M3 := by rw [e3]; exact FI.ui rfl
  have V3 := V2.fi f3
  have s3 : ∀ j, mI M3 s j = if j = 1 then (n : Int) + 1 else mI M s j := fun j => by
    rw [e3, mI_UI, s2]
    by_cases z : j = 1
    · rw [if_pos ⟨rfl, z⟩, if_pos z]
    · rw [if_neg (fun w => z w.2), if_neg z]
  have s31 : mI M3 s 1 = (n : Int) + 1 := by rw [s3, if_pos rfl]
  have s32 : mI M3 s 2 = mI M s 2 := by rw [s3, if_neg (by omega)]
  rw [V3.r5, V3.n23, s31, s32, show ((n : Int) + 1).toNat = n + 1 by omega]
  refine ⟨V3.k23, by omega, fun M4 e4 => ?_⟩
  have f4 : FI (fun y => y = s + 23) M3 M4 := by rw [e4]; exact FI.ui rfl
  have o4 : mOk M4 := by
    rw [e4, e3, e2, e1]
    exact mOk_UI (mOk_UI (mOk_UI (mOk_UI hO hq) ⟨by omega, by omega⟩) ⟨by omega, by omega⟩) (hO _ _).1
  refine ⟨o4, (((f1.mono (fun y q => by omega)).trans (f2.mono (fun y q => by omega))).trans (f3.mono (fun y q => by omega))).trans (f4.mono (fun y q => by omega)), fun j => by rw [f4.2.2.2.2.2.2 s (by omega)]; exact s3 j, fun j => ?_, fun j => ?_, fun j => ?_⟩
  · rw [f4.2.2.2.2.2.2 (s + 22) (by omega), f3.2.2.2.2.2.2 (s + 22) (by omega), f2.2.2.2.2.2.2 (s + 22) (by omega), e1, mI_UI]
    by_cases z : j = n
    · rw [if_pos ⟨rfl, z⟩, if_pos z]
    · rw [if_neg (fun w => z w.2), if_neg z]
  · rw [f4.2.2.2.2.2.2 (s + 32) (by omega), f3.2.2.2.2.2.2 (s + 32) (by omega), e2, mI_UI, f1.2.2.2.2.2.2 (s + 32) (by omega)]
    by_cases z : j = n
    · rw [if_pos ⟨rfl, z⟩, if_pos z]
    · rw [if_neg (fun w => z w.2), if_neg z]
  · rw [e4, mI_UI, f3.2.2.2.2.2.2 (s + 23) (by omega), f2.2.2.2.2.2.2 (s + 23) (by omega), f1.2.2.2.2.2.2 (s + 23) (by omega)]
    by_cases z : j = n + 1
    · rw [if_pos ⟨rfl, z⟩, if_pos z]
    · rw [if_neg (fun w => z w.2), if_neg z]
theorem s_MS_addCommand {q : Int} {n c : Nat} (hq : i32 q) (hO : mOk M) (hV : Vk M s) (hn : mI M s 1 = n) (hn5 : n ≤ 512) (hc : mI M s 2 = c) (hc5 : c < 4200) : Cv G y_MS_addCommand d [vr s, vi q] M (fun M' => mOk M' ∧ FI (fun y => y = s ∨ y = s + 23 ∨ y = s + 24 ∨ y = s + 25) M M' ∧ (∀ j, mI M' s j = if j = 2 then (c : Int) + 1 else mI M s j) ∧ (∀ j, mI M' (s + 24) j = if j = c then q else mI M (s + 24) j) ∧ (∀ j, mI M' (s + 25) j = if j = c + 1 then mI M s 3 else mI M (s + 25) j) ∧ (∀ j, mI M' (s + 23) j = if j = n then (c : Int) + 1 else mI M (s + 23) j)) := by
  refine k_MS_addCommand hO hq ?_
  rw [hV.r6, hV.n24, hc, Int.toNat_natCast]
  refine ⟨hV.k0, hV.k24, by omega, fun M1 e1 => ?_⟩
  have f1 : FI (fun y => y = s + 24) M M1 := by rw [e1]; exact FI.ui rfl
  have V1 := hV.fi f1
  have s1 : mI M1 s = mI M s := f1.2.2.2.2.2.2 s (by omega)
  rw [s1, hc]
  refine ⟨⟨by omega, by omega⟩, fun M2 e2 => ?_⟩
  have f2 : FI (fun y => y = s) M1 M2 := by rw [e2]; exact FI.ui rfl
  have V2 := V1.fi f2
  have s2 : ∀ j, mI M2 s j = if j = 2 then (c : Int) + 1 else mI M s j := fun j => by
    rw [e2, mI_UI, s1]
    by_cases z : j = 2
    · rw [if_pos ⟨rfl, z⟩, if_pos z]
    · rw [if_neg (fun w => z w.2), if_neg z]
  have s22 : mI M2 s 2 = (c : Int) + 1 := by rw [s2, if_pos rfl]
  have s23 : mI M2 s 3 = mI M s 3 := by rw [s2, if_neg (by omega)]
  have s21 : mI M2 s 1 = n := by rw [s2, if_neg (by omega)]; exact hn
  rw [V2.r7, V2.n25, s22, s23, show ((c : Int) + 1).toNat = c + 1 by omega]
  refine ⟨V2.k25, by omega, fun M3 e3 => ?_⟩
  have f3 : FI (fun y => y = s + 25) M2 M3 := by rw [e3]; exact FI.ui rfl
  have V3 := V2.fi f3
  have s3 : mI M3 s = mI M2 s := f3.2.2.2.2.2.2 s (by omega)
  rw [V3.r5, V3.n23, s3, s21, s22, Int.toNat_natCast]
  refine ⟨V3.k23, by omega, fun M4 e4 => ?_⟩
  have f4 : FI (fun y => y = s + 23) M3 M4 := by rw [e4]; exact FI.ui rfl
  have o4 : mOk M4 := by
    rw [e4, e3, e2, e1]
    exact mOk_UI (mOk_UI (mOk_UI (mOk_UI hO hq) ⟨by omega, by omega⟩) (hO _ _).1) ⟨by omega, by omega⟩
  refine ⟨o4, (((f1.mono (fun y q => by omega)).trans (f2.mono (fun y q => by omega))).trans (f3.mono (fun y q => by omega))).trans (f4.mono (fun y q => by omega)), fun j => by rw [f4.2.2.2.2.2.2 s (by omega), s3]; exact s2 j, fun j => ?_, fun j => ?_, fun j => ?_⟩
  · rw [f4.2.2.2.2.2.2 (s + 24) (by omega), f3.2.2.2.2.2.2 (s + 24) (by omega), f2.2.2.2.2.2.2 (s + 24) (by omega), e1, mI_UI]
    by_cases z : j = c
    · rw [if_pos ⟨rfl, z⟩, if_pos z]
    · rw [if_neg (fun w => z w.2), if_neg z]
  · rw [f4.2.2.2.2.2.2 (s + 25) (by omega), e3, mI_UI, f2.2.2.2.2.2.2 (s + 25) (by omega), f1.2.2.2.2.2.2 (s + 25) (by omega)]
    by_cases z : j = c + 1
    · rw [if_pos ⟨rfl, z⟩, if_pos z]
    · rw [if_neg (fun w => z w.2), if_neg z]
  · rw [e4, mI_UI, f3.2.2.2.2.2.2 (s + 23) (by omega), f2.2.2.2.2.2.2 (s + 23) (by omega), f1.2.2.2.2.2.2 (s + 23) (by omega)]
    by_cases z : j = n
    · rw [if_pos ⟨rfl, z⟩, if_pos z]
    · rw [if_neg (fun w => z w.2), if_neg z]
theorem s_MS_addBranch {q u v : Int} {c b : Nat} (hq : i32 q) (hu : i32 u) (hv : i32 v) (hO : mOk M) (hV : Vk M s) (hc : mI M s 2 = c) (hc5 : c ≤ 4200) (hb : mI M s 3 = b) (hb5 : b < 4096) : Cv G y_MS_addBranch d [vr s, vi q, vi u, vi v] M (fun M' => mOk M' ∧ FI (fun y => y = s ∨ y = s + 25 ∨ y = s + 26 ∨ y = s + 27 ∨ y = s + 28) M M' ∧ (∀ j, mI M' s j = if j = 3 then (b : Int) + 1 else mI M s j) ∧ (∀ j, mI M' (s + 26) j = if j = b then q else mI M (s + 26) j) ∧ (∀ j, mI M' (s + 27) j = if j = b then u else mI M (s + 27) j) ∧ (∀ j, mI M' (s + 28) j = if j = b then v else mI M (s + 28) j) ∧ (∀ j, mI M' (s + 25) j = if j = c then (b : Int) + 1 else mI M (s + 25) j)) := by
  refine k_MS_addBranch hO hq hu hv ?_
  rw [hV.r8, hV.n26, hb, Int.toNat_natCast]
  refine ⟨hV.k0, hV.k26, by omega, fun M1 e1 => ?_⟩
  have f1 : FI (fun y => y = s + 26) M M1 := by rw [e1]; exact FI.ui rfl
  have V1 := hV.fi f1
  have s1 : mI M1 s = mI M s := f1.2.2.2.2.2.2 s (by omega)
  rw [V1.r9, V1.n27, s1, hb, Int.toNat_natCast]
  refine ⟨V1.k27, by omega, fun M2 e2 => ?_⟩
  have f2 : FI (fun y => y = s + 27) M1 M2 := by rw [e2]; exact FI.ui rfl
  have V2 := V1.fi f2
  have s2 : mI M2 s = mI M s := by rw [f2.2.2.2.2.2.2 s (by omega)]; exact s1
  rw [V2.r10, V2.n28, s2, hb, Int.toNat_natCast]
  refine ⟨V2.k28, by omega, fun M3 e3 => ?_⟩
  have f3 : FI (fun y => y = s + 28) M2 M3 := by rw [e3]; exact FI.ui rfl
  have V3 := V2.fi f3
  have s3 : mI M3 s = mI M s := by rw [f3.2.2.2.2.2.2 s (by omega)]; exact s2
  rw [s3, hb]
  refine ⟨⟨by omega, by omega⟩, fun M4 e4 => ?_⟩
  have f4 : FI (fun y => y = s) M3 M4 := by rw [e4]; exact FI.ui rfl
  have V4 := V3.fi f4
  have s4 : ∀ j, mI M4 s j = if j = 3 then (b : Int) + 1 else mI M s j := fun j => by
    rw [e4, mI_UI, s3]
    by_cases z : j = 3
    · rw [if_pos ⟨rfl, z⟩, if_pos z]
    · rw [if_neg (fun w => z w.2), if_neg z]
  have s42 : mI M4 s 2 = c := by rw [s4, if_neg (by omega)]; exact hc
  have s43 : mI M4 s 3 = (b : Int) + 1 := by rw [s4, if_pos rfl]
  rw [V4.r7, V4.n25, s42, s43, Int.toNat_natCast]
  refine ⟨V4.k25, by omega, fun M5 e5 => ?_⟩
  have f5 : FI (fun y => y = s + 25) M4 M5 := by rw [e5]; exact FI.ui rfl
  have o5 : mOk M5 := by
    rw [e5, e4, e3, e2, e1]
    exact mOk_UI (mOk_UI (mOk_UI (mOk_UI (mOk_UI hO hq) hu) hv) ⟨by omega, by omega⟩) ⟨by omega, by omega⟩
  refine ⟨o5, ((((f1.mono (fun y q => by omega)).trans (f2.mono (fun y q => by omega))).trans (f3.mono (fun y q => by omega))).trans (f4.mono (fun y q => by omega))).trans (f5.mono (fun y q => by omega)), fun j => by rw [f5.2.2.2.2.2.2 s (by omega)]; exact s4 j, fun j => ?_, fun j => ?_, fun j => ?_, fun j => ?_⟩
  · rw [f5.2.2.2.2.2.2 (s + 26) (by omega), f4.2.2.2.2.2.2 (s + 26) (by omega), f3.2.2.2.2.2.2 (s + 26) (by omega), f2.2.2.2.2.2.2 (s + 26) (by omega), e1, mI_UI]
    by_cases z : j = b
    · rw [if_pos ⟨rfl, z⟩, if_pos z]
    · rw [if_neg (fun w => z w.2), if_neg z]
  · rw [f5.2.2.2.2.2.2 (s + 27) (by omega), f4.2.2.2.2.2.2 (s + 27) (by omega), f3.2.2.2.2.2.2 (s + 27) (by omega), e2, mI_UI, f1.2.2.2.2.2.2 (s + 27) (by omega)]
    by_cases z : j = b
    · rw [if_pos ⟨rfl, z⟩, if_pos z]
    · rw [if_neg (fun w => z w.2), if_neg z]
  · rw [f5.2.2.2.2.2.2 (s + 28) (by omega), f4.2.2.2.2.2.2 (s + 28) (by omega), e3, mI_UI, f2.2.2.2.2.2.2 (s + 28) (by omega), f1.2.2.2.2.2.2 (s + 28) (by omega)]
    by_cases z : j = b
    · rw [if_pos ⟨rfl, z⟩, if_pos z]
    · rw [if_neg (fun w => z w.2), if_neg z]
  · rw [e5, mI_UI, f4.2.2.2.2.2.2 (s + 25) (by omega), f3.2.2.2.2.2.2 (s + 25) (by omega), f2.2.2.2.2.2.2 (s + 25) (by omega), f1.2.2.2.2.2.2 (s + 25) (by omega)]
    by_cases z : j = c
    · rw [if_pos ⟨rfl, z⟩, if_pos z]
    · rw [if_neg (fun w => z w.2), if_neg z]
end CL
end
section
/-! The reference: the jobs of a node's parts. -/
def flat (n : Int) : List (Nat × Nat) → List Int
  | [] => []
  | (i, j) :: rs => (j : Int) :: (i : Int) :: n :: flat n rs
def rsum : List (Nat × Nat) → Nat
  | [] => 0
  | (i, j) :: rs => (j - i) + rsum rs
theorem flat_len {n : Int} : ∀ rs, (flat n rs).length = 3 * rs.length
  | [] => rfl
  | (i, j) :: rs => by show (flat n rs).length + 1 + 1 + 1 = 3 * (rs.length + 1); rw [flat_len rs]; omega
section RN
variable {G : mG} {d a N g T : Nat} {M M2 M3 : mM} {root : Int} {Q : Int → mM → Prop}
theorem Lk.mono {T T' f x l : Nat} (h : Lk M2 g T f x l) (hT : T ≤ T') (hn : ∀ n, n < T → np M3 g n = np M2 g n) : Lk M3 g T' f x l := by
  induction f generalizing x with
  | zero => exact h.elim
  | succ f ih =>
    obtain ⟨h0, h⟩ := h
    refine ⟨by omega, ?_⟩
    rw [hn x h0]
    rcases h with h | ⟨y, h1, h2⟩
    · exact Or.inl h
    · exact Or.inr ⟨y, h1, ih h2⟩
theorem chn.mono {T T' : Nat} {p : Int} (h : chn M2 g T p) (hp : p < T) (hT : T ≤ T') (hf : ∀ n, n < T → fp M3 g n = fp M2 g n ∧ np M3 g n = np M2 g n) : chn M3 g T' p := fun p0 => by
  rw [(hf p.toNat (by omega)).1]
  rcases h p0 with q | ⟨f, c, l, q1, q2⟩
  · exact Or.inl q
  · exact Or.inr ⟨f, c, l, q1, q2.mono hT (fun n hn => (hf n hn).2)⟩
theorem JE.pre {M1 : mM} {T : Nat} {p : Int} (h : JE M2 M3 g T p) (hp : p < T) (s : ∀ n, n < T → so M2 g n = so M1 g n ∧ va M2 g n = va M1 g n ∧ fp M2 g n = fp M1 g n ∧ np M2 g n = np M1 g n) : JE M1 M3 g T p := by
  refine ⟨fun n hn => ⟨(h.1 n hn).1.trans (s n hn).1, (h.1 n hn).2.trans (s n hn).2.1⟩, ?_⟩
  rcases h.2 with ⟨q1, q2⟩ | ⟨q0, q1, q2, q3⟩ | ⟨q0, f, c, l, q1, q2, q3, q4⟩
  · exact Or.inl ⟨q1, fun n hn => ⟨(q2 n hn).1.trans (s n hn).2.2.1, (q2 n hn).2.trans (s n hn).2.2.2⟩⟩
  · exact Or.inr (Or.inl ⟨q0, by rw [← (s p.toNat (by omega)).2.2.1]; exact q1, fun n hn => by rw [q2 n hn, (s n hn).2.2.1], fun n hn => (q3 n hn).trans (s n hn).2.2.2⟩)
  · exact Or.inr (Or.inr ⟨q0, f, c, l, by rw [← (s p.toNat (by omega)).2.2.1]; exact q1, q2.mono (Nat.le_refl _) (fun n hn => (s n hn).2.2.2.symm), fun n hn => (q3 n hn).trans (s n hn).2.2.1, fun n hn => by rw [q4 n hn, (s n hn).2.2.2]⟩)
theorem JE.post {M4 : mM} {T : Nat} {p : Int} (h : JE M2 M3 g T p) (s : ∀ n, n < T → so M4 g n = so M3 g n ∧ va M4 g n = va M3 g n ∧ fp M4 g n = fp M3 g n ∧ np M4 g n = np M3 g n) : JE M2 M4 g T p := by
  refine ⟨fun n hn => ⟨(s n hn).1.trans (h.1 n hn).1, (s n hn).2.1.trans (h.1 n hn).2⟩, ?_⟩
  rcases h.2 with ⟨q1, q2⟩ | ⟨q0, q1, q2, q3⟩ | ⟨q0, f, c, l, q1, q2, q3, q4⟩
  · exact Or.inl ⟨q1, fun n hn => ⟨(s n hn).2.2.1.trans (q2 n hn).1, (s n hn).2.2.2.trans (q2 n hn).2⟩⟩
  · exact Or.inr (Or.inl ⟨q0, q1, fun n hn => (s n hn).2.2.1.trans (q2 n hn), fun n hn => (s n hn).2.2.2.trans (q3 n hn)⟩)
  · exact Or.inr (Or.inr ⟨q0, f, c, l, q1, q2, fun n hn => (s n hn).2.2.1.trans (q3 n hn), fun n hn => (s n hn).2.2.2.trans (q4 n hn)⟩)
/-- a new node, not yet joined -/
theorem TI.nd {st : List Int} (h : TI M a g N T st M2) (m : Mv (tL g) (fun _ => False) M2 a M3) (hn : nd M3 g (T + 1)) : TI M a g N (T + 1) st M3 := by
  have w := h.2.1.1.1
  have hg := h.2.2.2.2.2
  obtain ⟨k1, k2, k3⟩ := h.wx m (fun q hq => Or.inl hq)
  exact ⟨k1, k2, k3, hn, h.2.2.2.2.1.same (m.lst n91 (fun z => (tL_no hg w).2.2.2.2 z)), hg⟩
/-- joined -/
theorem nj {st : List Int} {p : Int} {M6 M7 : mM} (hp : p < T) (hc : chn M2 g T p) (ho : ∀ n, n < T → so M6 g n = so M2 g n ∧ va M6 g n = va M2 g n ∧ fp M6 g n = fp M2 g n ∧ np M6 g n = np M2 g n) (hf : fp M6 g T = -1) (hn : np M6 g T = -1) (j : jnQ M6 g (T + 1) p T M7) : JE M2 M7 g T p ∧ fp M7 g T = -1 ∧ np M7 g T = -1 ∧ so M7 g T = so M6 g T ∧ va M7 g T = va M6 g T := by
  obtain ⟨j1, j2⟩ := j
  rcases j2 with ⟨q1, q2⟩ | ⟨q0, q1, q2, q3⟩ | ⟨q0, f, c, l, q1, q2, q3, q4⟩
  · refine ⟨⟨fun n hn => ⟨(j1 n).1.trans (ho n hn).1, (j1 n).2.trans (ho n hn).2.1⟩, Or.inl ⟨q1, fun n hn => ⟨(q2 n).1.trans (ho n hn).2.2.1, (q2 n).2.trans (ho n hn).2.2.2⟩⟩⟩, by rw [(q2 T).1]; exact hf, by rw [(q2 T).2]; exact hn, (j1 T).1, (j1 T).2⟩
  · refine ⟨⟨fun n hn => ⟨(j1 n).1.trans (ho n hn).1, (j1 n).2.trans (ho n hn).2.1⟩, Or.inr (Or.inl ⟨q0, by rw [← (ho p.toNat (by omega)).2.2.1]; exact q1, fun n hn => by rw [q2 n, (ho n hn).2.2.1], fun n hn => (q3 n).trans (ho n hn).2.2.2⟩)⟩, by rw [q2 T, if_neg (by omega)]; exact hf, by rw [q3 T]; exact hn, (j1 T).1, (j1 T).2⟩
  · -- the chain was there before the node
    have hcc := hc q0
    rw [← (ho p.toNat (by omega)).2.2.1, q1] at hcc
    obtain ⟨f0, c0, l0, k1, k2⟩ : ∃ f c' l : Nat, (c : Int) = c' ∧ Lk M2 g T f c' l := by
      rcases hcc with z | z
      · omega
      · exact z
    have ec : c0 = c := by omega
    subst ec
    have k3 : Lk M6 g (T + 1) f0 c0 l0 := k2.mono (by omega) (fun n hn => (ho n hn).2.2.2)
    have el := Lk.det q2 k3
    subst el
    have hlT := k2.lt
    refine ⟨⟨fun n hn => ⟨(j1 n).1.trans (ho n hn).1, (j1 n).2.trans (ho n hn).2.1⟩, Or.inr (Or.inr ⟨q0, f0, c0, l, by rw [← (ho p.toNat (by omega)).2.2.1]; exact q1, k2, fun n hn => (q3 n).trans (ho n hn).2.2.1, fun n hn => by rw [q4 n, (ho n hn).2.2.2]⟩)⟩, by rw [q3 T]; exact hf, by rw [q4 T, if_neg (by omega)]; exact hn, (j1 T).1, (j1 T).2⟩
/-- a node with its parts -/
theorem nd_fin {M7 M8 M9 : mM} {p : Int} {k T9 : Nat} (hpT : p < T) (je : JE M2 M7 g T p) (s78 : sameT M7 M8 g) (hf7 : fp M7 g T = -1) (hn7 : np M7 g T = -1) (je9 : JE M8 M9 g (T + 1) (T : Int)) (hk : 1 ≤ k) (ha : ari (so M7 g T) k) (to : To (nmw (wk M a) N) M9 g k (T + 1) T9) : JE M2 M9 g T p ∧ To (nmw (wk M a) N) M9 g 0 T T9 ∧ np M9 g T = -1 := by
  have c2 : fp M9 g T = ((T + 1 : Nat) : Int) ∧ (∀ n, n < T → fp M9 g n = fp M8 g n) ∧ ∀ n, n < T + 1 → np M9 g n = np M8 g n := by
    rcases je9.2 with ⟨q, -⟩ | ⟨q0, q1, q2, q3⟩ | ⟨q0, f, c, l, q1, q2, q3, q4⟩
    · omega
    · refine ⟨by rw [q2 T (by omega), if_pos (by omega)], fun n hn => by rw [q2 n (by omega), if_neg (by omega)], q3⟩
    · exfalso
      rw [Int.toNat_natCast, (s78 T).2.2.1, hf7] at q1
      omega
  refine ⟨je.post (fun n hn => ⟨(je9.1 n (by omega)).1.trans (s78 n).1, (je9.1 n (by omega)).2.trans (s78 n).2.1, (c2.2.1 n hn).trans (s78 n).2.2.1, (c2.2.2 n (by omega)).trans (s78 n).2.2.2⟩), To.node hk ?_ c2.1 to, ?_⟩
  · rw [(je9.1 T (by omega)).1, (s78 T).1]
    exact ha
  · rw [c2.2.2 T (by omega), (s78 T).2.2.2]
    exact hn7
end RN
end
section
/-! The reference: tree. -/
theorem JL.rs {w : Nat → Int} {p : Int} : ∀ {f i j : Nat} {s : List Int}, JL w p f i j s → ∃ rs, s = flat p rs ∧ rs ≠ [] ∧ (∀ i' j', (i', j') ∈ rs → Eo w 6 i' j' ∧ j' ≤ j ∧ j' - i' ≤ j - i) ∧ rsum rs ≤ j - i
  | 0, _, _, _, h => h.elim
  | f + 1, i, j, s, h => by
    rcases h with ⟨h1, h2⟩ | ⟨m, s2, h1, h2, h3, h4⟩
    · refine ⟨[(i, j)], h1, by simp, fun i' j' q => ?_, by show (j - i) + 0 ≤ _; omega⟩
      have q' := List.mem_singleton.1 q
      obtain ⟨q1, q2⟩ := Prod.mk.inj q'
      subst q1 q2
      exact ⟨h2, Nat.le_refl _, Nat.le_refl _⟩
    · obtain ⟨rs, k1, k2, k3, k4⟩ := JL.rs h4
      have p2 := h2.pr.1
      have hne : m + 1 < j := by
        cases rs with
        | nil => exact absurd rfl k2
        | cons x rs =>
          have a := k3 x.1 x.2 (List.mem_cons_self ..)
          have := a.1.pr.1
          have := a.2
          omega
      refine ⟨(i, m) :: rs, by rw [h3, k1]; rfl, by simp, fun i' j' q => ?_, by show (m - i) + rsum rs ≤ j - i; omega⟩
      rcases List.mem_cons.1 q with z | z
      · obtain ⟨q1, q2⟩ := Prod.mk.inj z
        subst q1 q2
        exact ⟨h2, by omega, by omega⟩
      · have a := k3 i' j' z
        exact ⟨a.1, a.2.1, by have := a.2.2; omega⟩
section MK
variable {G : mG} {d a N g : Nat} {M : mM} {root : Int} {Q : Int → mM → Prop}
end MK
end
section
/-! The reference: tree, the whole. -/
section TQ
variable {G : mG} {d a N g T i j : Nat} {M : mM}
/-- a tree more -/
def trQ (M : mM) (a g N T i j : Nat) (r : Int) (M' : mM) : Prop := Mv (trP a g) (fun _ => False) M a M' ∧ r = T ∧ ∃ T', nd M' g T' ∧ T < T' ∧ T' ≤ T + (j - i) ∧ To (nmw (wk M a) N) M' g 0 T T' ∧ np M' g T = -1 ∧ ∀ n, n < T → so M' g n = so M g n ∧ va M' g n = va M g n ∧ fp M' g n = fp M g n ∧ np M' g n = np M g n
end TQ
end
section
/-! The reference: turning a pile, looking a name up. -/
section LU
variable {G : mG} {d a N g T K : Nat} {M M2 : mM}
theorem n93 : a + 93 ∈ nums a := nums_o (by decide)
theorem n95 : a + 95 ∈ nums a := nums_o (by decide)
theorem s_MM_turn {L k : Nat} (hO : mOk M) (h : Wd M a) (hl : ln M (a + 95) = (L + 2 * k : Nat)) (hb : L + 2 * k ≤ 200000) (hk : 1 ≤ k) : Cv G y_MM_turn (d + 1) [vr a, vi L] M (fun M' => Mv (fun x => x = a + 95) (fun _ => False) M a M' ∧ ln M' (a + 95) = ln M (a + 95) ∧ (∀ j, j < k → nt M' (a + 95) (L + 2 * j) = nt M (a + 95) (L + 2 * (k - 1 - j))) ∧ ∀ i, (∀ j, j < k → i ≠ L + 2 * j) → nt M' (a + 95) i = nt M (a + 95) i) := by
  have r20 : ∀ (M3 : mM), Wd M3 a → mR M3 a 20 = a + 95 := fun M3 w => w.1.2.2.2.2.1.2.2.2.2.2.1
  have l0 : mI M (a + 95) 1 = (L + 2 * k : Nat) := hl
  refine k_MM_turn hO ⟨by omega, by omega⟩ ?_
  rw [r20 M h, l0]
  refine ⟨h.1.1, (h.nu n95).1, ?_⟩
  -- t pairs have been turned
  suffices H : ∀ (c t : Nat) (M3 : mM), c + t = k → Mv (fun x => x = a + 95) (fun _ => False) M a M3 → ln M3 (a + 95) = ln M (a + 95) → 2 * t ≤ k → (∀ j, j < k → nt M3 (a + 95) (L + 2 * j) = if j < t ∨ k - 1 - j < t then nt M (a + 95) (L + 2 * (k - 1 - j)) else nt M (a + 95) (L + 2 * j)) → (∀ i, (∀ j, j < k → i ≠ L + 2 * j) → nt M3 (a + 95) i = nt M (a + 95) i) → h_MM_turn_12 G d a (L + 2 * t : Nat) ((L + 2 * k : Nat) - 2 - 2 * (t : Int)) M3 (fun M' => Mv (fun x => x = a + 95) (fun _ => False) M a M' ∧ ln M' (a + 95) = ln M (a + 95) ∧ (∀ j, j < k → nt M' (a + 95) (L + 2 * j) = nt M (a + 95) (L + 2 * (k - 1 - j))) ∧ ∀ i, (∀ j, j < k → i ≠ L + 2 * j) → nt M' (a + 95) i = nt M (a + 95) i) by
    have := H k 0 M (by omega) (Mv.refl hO h (fun q hq => by rw [hq]; exact h.lt n95)) rfl (by omega) (fun j hj => by rw [if_neg (by omega)]) (fun i _ => rfl)
    rw [show L + 2 * 0 = L by omega, show ((L + 2 * k : Nat) : Int) - 2 - 2 * ((0 : Nat) : Int) = ((L + 2 * k : Nat) : Int) - 2 by omega] at this
    exact this
  intro c
  induction c with
  | zero => intro t M3 hc _ _ h2; omega
  | succ c ih =>
    intro t M3 hc m3 l3 ht h3 o3
    have w3 := m3.2.1
    have u3 := w3.nu (p := a + 95) n95
    have c3 : ((L + 2 * k : Nat) : Int) ≤ cp M3 (a + 95) := by rw [← hl, ← l3]; exact u3.2.2.2.1.2
    have ecp : mN M3 (mR M3 (a + 95) 0) = cp M3 (a + 95) := rfl
    refine k_MM_turn_12 m3.1 ⟨by omega, by omega⟩ ⟨by omega, by omega⟩ ⟨fun q => ⟨m3, l3, fun j hj => ?_, o3⟩, fun q => ?_⟩
    · rw [h3 j hj]
      by_cases z : j < t ∨ k - 1 - j < t
      · rw [if_pos z]
      · rw [if_neg z, show k - 1 - j = j by omega]
    · rw [r20 M3 w3]
      refine ⟨w3.1.1, u3.1, (s_MN_at m3.1 u3 (by omega)).mono (fun x M4 h4 => ?_)⟩
      obtain ⟨e4, hx⟩ := h4
      subst e4
      rw [r20 M4 w3, show ((L + 2 * k : Nat) : Int) - 2 - 2 * (t : Int) = ((L + 2 * (k - 1 - t) : Nat) : Int) by omega]
      refine ⟨by rw [hx]; exact (m3.1 _ _).1, m3.1, w3.1.1, u3.1, (s_MN_at m3.1 u3 (by omega)).mono (fun y M5 h5 => ?_)⟩
      obtain ⟨e5, hy⟩ := h5
      subst e5
      have hx32 : i32 x := by rw [hx]; exact (m3.1 _ _).1
      have hy32 : i32 y := by rw [hy]; exact (m3.1 _ _).1
      refine ⟨hy32, m3.1, u3.2.1, by omega, fun M6 e6 => ?_⟩
      rw [Int.toNat_natCast] at e6
      obtain ⟨m6, l6, k6, -⟩ := mv_el hy32 m3.1 w3 n95 e6
      have w6 := m6.2.1
      have u6 := w6.nu (p := a + 95) n95
      have c6 : ((L + 2 * k : Nat) : Int) ≤ cp M6 (a + 95) := by rw [← hl, ← l3, ← l6]; exact u6.2.2.2.1.2
      have ecp6 : mN M6 (mR M6 (a + 95) 0) = cp M6 (a + 95) := rfl
      rw [r20 M6 w6]
      refine ⟨w6.1.1, u6.1, u6.2.1, by omega, fun M7 e7 => ?_⟩
      rw [Int.toNat_natCast] at e7
      obtain ⟨m7, l7, k7, -⟩ := mv_el hx32 m6.1 w6 n95 e7
      have nx := ih (t + 1) M7 (by omega) ((m3.trans m6).trans m7) (by rw [l7, l6, l3]) (by omega) (fun j hj => ?_) (fun i hi => ?_)
      · rw [show ((L + 2 * (t + 1) : Nat) : Int) = ((L + 2 * t : Nat) : Int) + 2 by omega, show ((L + 2 * k : Nat) : Int) - 2 - 2 * ((t + 1 : Nat) : Int) = ((L + 2 * (k - 1 - t) : Nat) : Int) - 2 by omega] at nx
        exact nx
      · rw [k7, k6]
        by_cases z1 : j = k - 1 - t
        · rw [if_pos (by omega), hx, h3 t (by omega), if_neg (by omega), if_pos (by omega), z1, show k - 1 - (k - 1 - t) = t by omega]
        · rw [if_neg (by omega)]
          by_cases z2 : j = t
          · rw [if_pos (by omega), hy, h3 (k - 1 - t) (by omega), if_neg (by omega), if_pos (by omega), z2]
          · rw [if_neg (by omega), h3 j hj]
            by_cases z3 : j < t ∨ k - 1 - j < t
            · rw [if_pos z3, if_pos (by omega)]
            · rw [if_neg z3, if_neg (by omega)]
      · rw [k7, k6, if_neg (hi (k - 1 - t) (by omega)), if_neg (hi t (by omega))]
        exact o3 i hi
end LU
end
