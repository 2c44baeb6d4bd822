/-! The solver: the next state; clearing, and telling it a game. -/
section NX
variable {G : mG} {d s n k : Nat} {M : mM}
/-- the share of branch b of command c -/
def shr (M : mM) (s c b : Nat) : Int := mI M (s + 27) (bg M s c + b) * (mI M (s + 24) c / mI M (s + 28) (bg M s c + b))
theorem sm_nn {f : Nat → Int} : ∀ (n : Nat), (∀ c, c < n → 0 ≤ f c) → 0 ≤ sm f n
  | 0, _ => by show (0 : Int) ≤ 0; omega
  | n + 1, h => by
    have h1 := sm_nn n (fun c hc => h c (by omega))
    have h2 := h n (by omega)
    rw [sm]
    omega
/-- the branch that r falls on -/
def nxtQ (M : mM) (s c : Nat) (r x : Int) : Prop := ∃ t, t < nb M s c ∧ x = mI M (s + 26) (bg M s c + t) ∧ r * mI M (s + 24) c < sm (shr M s c) (t + 1) * 2147483648 ∧ ∀ u, u < t → sm (shr M s c) (u + 1) * 2147483648 ≤ r * mI M (s + 24) c
theorem s_MS_nextOf {r : Int} (h0 : 0 ≤ r) (h1 : r < 2147483648) (hO : mOk M) (h : Sv M s n) (hk : k < n) : Ci G y_MS_nextOf (d + 1) [vr s, vi k, vi r] M (fun x M' => M' = M ∧ ((mny M s k = 0 ∧ x = k) ∨ (0 < mny M s k ∧ nxtQ M s (cx M s k (mI M (s + 32) k).toNat) r x))) := by
  have hn5 := h.n5
  obtain ⟨V, g, c, e, t, W, -⟩ := id h
  have h2 := g.2.1
  have h3 := g.2.2.1
  have h4 := g.2.2.2.1
  have hcm := g.cmd (i := k) (by omega)
  have hm0 : 0 ≤ mny M s k ∧ mny M s k ≤ 4200 := by unfold mny; omega
  refine k_MS_nextOf hO ⟨by omega, by omega⟩ ⟨by omega, by omega⟩ ⟨V.k0, (s_MS_many hO V g (by omega)).mono (fun y M1 h1' => ?_)⟩
  obtain ⟨e1, hy⟩ := h1'
  subst e1
  refine ⟨⟨by omega, by omega⟩, hO, fun y0 => ⟨rfl, Or.inl ⟨by omega, rfl⟩⟩, fun y0 => ?_⟩
  have ht := t k (by omega)
  have ht2 := ht.2 (by omega)
  have hcx : (cx M1 s k (mI M1 (s + 32) k).toNat : Int) = mI M1 (s + 23) k + mI M1 (s + 32) k := by unfold cx; omega
  have hc2 := cx_lt g (k := k) (i := (mI M1 (s + 32) k).toNat) (by omega) (by omega)
  rw [V.r5, V.r14, V.r6, V.r7, V.n23, V.n32, V.n24, V.n25, Int.toNat_natCast, ← hcx, Int.toNat_natCast]
  generalize hcc : cx M1 s k (mI M1 (s + 32) k).toNat = cc at *
  have hb := g.brn hc2
  obtain ⟨⟨m1, m2, m3⟩, hbr, hsum⟩ := c cc hc2
  have ebg : (bg M1 s cc : Int) = mI M1 (s + 25) cc := by unfold bg; omega
  have enb : (nb M1 s cc : Int) = mI M1 (s + 25) (cc + 1) - mI M1 (s + 25) cc := by unfold nb; omega
  have hsh : ∀ b, b < nb M1 s cc → 0 ≤ shr M1 s cc b := fun b hb => by
    obtain ⟨u1, u2, u3⟩ := hbr b hb
    exact Int.mul_nonneg (by omega) (Int.ediv_nonneg (by omega) (by omega))
  have hsm : sm (shr M1 s cc) (nb M1 s cc) = mI M1 (s + 24) cc := hsum
  have hpart : ∀ b, b ≤ nb M1 s cc → 0 ≤ sm (shr M1 s cc) b ∧ sm (shr M1 s cc) b ≤ mI M1 (s + 24) cc := fun b hb => by
    refine ⟨sm_nn b (fun j hj => hsh j (by omega)), ?_⟩
    have a := sm_part (f := shr M1 s cc) (a := b) (nb M1 s cc - b) (fun j hj => hsh j (by omega))
    rw [show b + (nb M1 s cc - b) = nb M1 s cc by omega, hsm] at a
    exact a
  have hnb : 0 < nb M1 s cc := by
    refine Classical.byContradiction (fun w => ?_)
    have e0 : nb M1 s cc = 0 := by omega
    rw [e0] at hsm
    have : sm (shr M1 s cc) 0 = 0 := rfl
    omega
  have hrm : 0 ≤ r * mI M1 (s + 24) cc ∧ r * mI M1 (s + 24) cc ≤ 2147483647 * mI M1 (s + 24) cc := ⟨Int.mul_nonneg h0 (by omega), Int.mul_le_mul_of_nonneg_right (by omega) (by omega)⟩
  refine ⟨V.k0, V.k23, by omega, V.k32, by omega, V.k24, by omega, V.k25, by omega, ?_⟩
  suffices H : ∀ (c t : Nat), t + c = nb M1 s cc → 0 < c → (∀ u, u < t → sm (shr M1 s cc) (u + 1) * 2147483648 ≤ r * mI M1 (s + 24) cc) → h_MS_nextOf_46 G d s r (mI M1 (s + 24) cc) (sm (shr M1 s cc) t) (mI M1 (s + 25) cc - 1 + t) M1 (fun x M' => M' = M1 ∧ ((mny M1 s k = 0 ∧ x = k) ∨ (0 < mny M1 s k ∧ nxtQ M1 s cc r x))) by
    have a := H (nb M1 s cc) 0 (by omega) hnb (fun u hu => by omega)
    have e0 : sm (shr M1 s cc) 0 = 0 := rfl
    rw [e0, show mI M1 (s + 25) cc - 1 + ((0 : Nat) : Int) = mI M1 (s + 25) cc - 1 by omega] at a
    exact a
  intro c'
  induction c' with
  | zero => intro t _ q; omega
  | succ c' ih =>
    intro t ht _ hlow
    have htn : t < nb M1 s cc := by omega
    have ei : (mI M1 (s + 25) cc - 1 + (t : Int) + 1).toNat = bg M1 s cc + t := by omega
    obtain ⟨u1, u2, u3⟩ := hbr t htn
    have pt := hpart t (by omega)
    have pt1 := hpart (t + 1) (by omega)
    have est : sm (shr M1 s cc) t + mI M1 (s + 27) (bg M1 s cc + t) * (mI M1 (s + 24) cc).tdiv (mI M1 (s + 28) (bg M1 s cc + t)) = sm (shr M1 s cc) (t + 1) := by
      rw [Int.tdiv_eq_ediv_of_nonneg (by omega)]
      rfl
    refine k_MS_nextOf_46 hO ⟨by omega, by omega⟩ ⟨by omega, by omega⟩ ⟨by omega, by omega⟩ ⟨by omega, by omega⟩ ?_
    rw [V.r9, V.r10, V.r8, V.n27, V.n28, V.n26, ei, est]
    refine ⟨V.k0, V.k27, by omega, V.k28, by omega, by omega, ⟨by omega, by omega⟩, ⟨by omega, by omega⟩, fun w => ?_, fun w => ⟨V.k26, by omega, rfl, Or.inr ⟨by omega, t, htn, rfl, ?_, hlow⟩⟩⟩
    · have hle : sm (shr M1 s cc) (t + 1) * 2147483648 ≤ r * mI M1 (s + 24) cc := by
        unfold cmpL at w
        split at w <;> (try split at w) <;> omega
      have hc0 : 0 < c' := by
        refine Classical.byContradiction (fun z => ?_)
        have e1 : t + 1 = nb M1 s cc := by omega
        rw [e1, hsm] at hle
        omega
      have a := ih (t + 1) (by omega) hc0 (fun u hu => by
        by_cases z : u = t
        · rw [z]; exact hle
        · exact hlow u (by omega))
      rw [show mI M1 (s + 25) cc - 1 + ((t + 1 : Nat) : Int) = mI M1 (s + 25) cc - 1 + (t : Int) + 1 by omega] at a
      exact a
    · unfold cmpL at w
      split at w <;> (try split at w) <;> omega
end NX
section CL
variable {G : mG} {d s : Nat} {M : mM}
/-- clear leaves an empty game -/
theorem s_MS_clear {n : Nat} (hO : mOk M) (h : Sv M s n) : Cv G y_MS_clear d [vr s] M (fun M' => mOk M' ∧ FI (vF s) M M' ∧ Sv M' s 0 ∧ mI M' s 2 = 0 ∧ mI M' s 3 = 0 ∧ ∀ w, w < 3 → mI M' (s + 30) w = 0) := by
  obtain ⟨V, g, c, e, t, W, T, R, H, hc⟩ := id h
  refine k_MS_clear hO ⟨V.k0, fun M1 e1 M2 e2 M3 e3 => ?_⟩
  have f3 : FI (fun y => y = s) M M3 := by
    have a1 : FI (fun y => y = s) M M1 := by rw [e1]; exact FI.ui rfl
    have a2 : FI (fun y => y = s) M1 M2 := by rw [e2]; exact FI.ui rfl
    have a3 : FI (fun y => y = s) M2 M3 := by rw [e3]; exact FI.ui rfl
    exact (a1.trans a2).trans a3
  have o3 : mOk M3 := by
    rw [e3, e2, e1]
    exact mOk_UI (mOk_UI (mOk_UI hO ⟨by omega, by omega⟩) ⟨by omega, by omega⟩) ⟨by omega, by omega⟩
  have s3 : mI M3 s 1 = 0 ∧ mI M3 s 2 = 0 ∧ mI M3 s 3 = 0 := by
    rw [e3, e2, e1]
    refine ⟨?_, ?_, ?_⟩ <;> simp [mI_UI]
  have V3 := V.fi f3
  rw [V3.r5, V3.n23]
  refine ⟨V3.k23, by omega, fun M4 e4 => ?_⟩
  have f4 : FI (fun y => y = s + 23) M3 M4 := by rw [e4]; exact FI.ui rfl
  have o4 : mOk M4 := by rw [e4]; exact mOk_UI o3 ⟨by omega, by omega⟩
  have V4 := V3.fi f4
  have i4 : mI M4 (s + 23) 0 = 0 := by rw [e4, mI_UI, if_pos ⟨rfl, rfl⟩]
  rw [V4.r7, V4.n25]
  refine ⟨V4.k25, by omega, fun M5 e5 => ?_⟩
  have f5 : FI (fun y => y = s + 25) M4 M5 := by rw [e5]; exact FI.ui rfl
  have o5 : mOk M5 := by rw [e5]; exact mOk_UI o4 ⟨by omega, by omega⟩
  have V5 := V4.fi f5
  have i5 : mI M5 (s + 25) 0 = 0 := by rw [e5, mI_UI, if_pos ⟨rfl, rfl⟩]
  have j5 : mI M5 (s + 23) 0 = 0 := by rw [f5.2.2.2.2.2.2 (s + 23) (by omega)]; exact i4
  have s5 : mI M5 s = mI M3 s := by rw [f5.2.2.2.2.2.2 s (by omega), f4.2.2.2.2.2.2 s (by omega)]
  have f05 : FI (fun y => y = s ∨ y = s + 23 ∨ y = s + 25) M M5 := ((f3.mono (fun y q => by omega)).trans (f4.mono (fun y q => by omega))).trans (f5.mono (fun y q => by omega))
  suffices Hh : ∀ (c w : Nat) (M6 : mM), w + c = 3 → mOk M6 → FI (fun y => y = s + 30) M5 M6 → (∀ j, j < w → mI M6 (s + 30) j = 0) → h_MS_clear_31 G d s w M6 (fun M' => mOk M' ∧ FI (vF s) M M' ∧ Sv M' s 0 ∧ mI M' s 2 = 0 ∧ mI M' s 3 = 0 ∧ ∀ w, w < 3 → mI M' (s + 30) w = 0) from
    Hh 3 0 M5 (by omega) o5 FI.refl (fun j hj => by omega)
  intro c'
  induction c' with
  | zero =>
    intro w M6 hw o6 f6 h6
    have ew : w = 3 := by omega
    subst ew
    refine k_MS_clear_31 o6 ⟨by omega, by omega⟩ ⟨fun _ => ?_, fun q => by omega⟩
    have fe := f6.2.2.2.2.2.2
    have s6 : mI M6 s = mI M3 s := by rw [fe s (by omega)]; exact s5
    have f06 : FI (fun y => y = s ∨ y = s + 23 ∨ y = s + 25 ∨ y = s + 30) M M6 := (f05.mono (fun y q => by omega)).trans (f6.mono (fun y q => by omega))
    have g6 : GW M6 s := by
      unfold GW
      rw [s6, s3.1, s3.2.1, s3.2.2, fe (s + 23) (by omega), fe (s + 25) (by omega), j5, i5]
      refine ⟨by omega, by omega, by omega, by omega, rfl, rfl, fun i j hij hj => ?_, j5, fun i j hij hj => ?_, i5, fun b hb => by omega⟩
      · have : i = 0 ∧ j = 0 := by omega
        rw [this.1, this.2]
        omega
      · have : i = 0 ∧ j = 0 := by omega
        rw [this.1, this.2]
        omega
    refine ⟨o6, f06.mono (fun y q => by omega), ⟨V5.fi f6, g6, fun c hc => ?_, by rw [s6]; exact s3.1, fun k hk => ?_, W.far f06 (fun y q => by omega), T.out f06 (fun y q => by omega), fun e he => (R e he).out f06 (fun y q => by omega), fun w hw => ⟨Or.inl (h6 w hw), fun q => by have := h6 w hw; omega⟩, fun q => by have := h6 0 (by omega); omega⟩, by rw [s6]; exact s3.2.1, by rw [s6]; exact s3.2.2, h6⟩
    · rw [s6, s3.2.1] at hc
      omega
    · rw [s6, s3.1] at hk
      omega
  | succ c' ih =>
    intro w M6 hw o6 f6 h6
    have V6 := V5.fi f6
    refine k_MS_clear_31 o6 ⟨by omega, by omega⟩ ⟨fun q => by omega, fun _ => ?_⟩
    rw [V6.r12, V6.n30, Int.toNat_natCast]
    refine ⟨V6.k0, V6.k30, by omega, fun M7 e7 => ?_⟩
    have f7 : FI (fun y => y = s + 30) M6 M7 := by rw [e7]; exact FI.ui rfl
    have o7 : mOk M7 := by rw [e7]; exact mOk_UI o6 ⟨by omega, by omega⟩
    refine ih (w + 1) M7 (by omega) o7 (f6.trans f7) (fun j hj => ?_)
    rw [e7, mI_UI]
    by_cases z : j = w
    · rw [if_pos ⟨rfl, z⟩]
    · rw [if_neg (fun q => z q.2)]
      exact h6 j (by omega)
theorem s_MS_addState {q : Int} {n : Nat} (hq : i32 q) (hO : mOk M) (hV : Vk M s) (hn : mI M s 1 = n) (hn5 : n < 512) : Cv G y_MS_addState d [vr s, vi q] M (fun M' => mOk M' ∧ FI (fun y => y = s ∨ y = s + 22 ∨ y = s + 23 ∨ y = s + 32) M M' ∧ (∀ j, mI M' s j = if j = 1 then (n : Int) + 1 else mI M s j) ∧ (∀ j, mI M' (s + 22) j = if j = n then q else mI M (s + 22) j) ∧ (∀ j, mI M' (s + 32) j = if j = n then 0 else mI M (s + 32) j) ∧ (∀ j, mI M' (s + 23) j = if j = n + 1 then mI M s 2 else mI M (s + 23) j)) := by
  refine k_MS_addState hO hq ?_
  rw [hV.r4, hV.n22, hn, Int.toNat_natCast]
  refine ⟨hV.k0, hV.k22, by omega, fun M1 e1 => ?_⟩
  have f1 : FI (fun y => y = s + 22) M M1 := by rw [e1]; exact FI.ui rfl
  have V1 := hV.fi f1
  have s1 : mI M1 s = mI M s := f1.2.2.2.2.2.2 s (by omega)
  rw [V1.r14, V1.n32, s1, hn, Int.toNat_natCast]
  refine ⟨V1.k32, by omega, fun M2 e2 => ?_⟩
  have f2 : FI (fun y => y = s + 32) M1 M2 := by rw [e2]; exact FI.ui rfl
  have V2 := V1.fi f2
  have s2 : mI M2 s = mI M s := by rw [f2.2.2.2.2.2.2 s (by omega)]; exact s1
  rw [s2, hn]
  refine ⟨⟨by omega, by omega⟩, fun M3 e3 => ?_⟩
  have f3 : FI (fun y => y = s) M2 M3 := by rw [e3]; exact FI.ui rfl
  have V3 := V2.fi f3
  have s3 : ∀ j, mI M3 s j = if j = 1 then (n : Int) + 1 else mI M s j := fun j => by
    rw [e3, mI_UI, s2]
    by_cases z : j = 1
    · rw [if_pos ⟨rfl, z⟩, if_pos z]
    · rw [if_neg (fun w => z w.2), if_neg z]
  have s31 : mI M3 s 1 = (n : Int) + 1 := by rw [s3, if_pos rfl]
  have s32 : mI M3 s 2 = mI M s 2 := by rw [s3, if_neg (by omega)]
  rw [V3.r5, V3.n23, s31, s32, show ((n : Int) + 1).toNat = n + 1 by omega]
  refine ⟨V3.k23, by omega, fun M4 e4 => ?_⟩
  have f4 : FI (fun y => y = s + 23) M3 M4 := by rw [e4]; exact FI.ui rfl
  have o4 : mOk M4 := by
    rw [e4, e3, e2, e1]
    exact mOk_UI (mOk_UI (mOk_UI (mOk_UI hO hq) ⟨by omega, by omega⟩) ⟨by omega, by omega⟩) (hO _ _).1
  refine ⟨o4, (((f1.mono (fun y q => by omega)).trans (f2.mono (fun y q => by omega))).trans (f3.mono (fun y q => by omega))).trans (f4.mono (fun y q => by omega)), fun j => by rw [f4.2.2.2.2.2.2 s (by omega)]; exact s3 j, fun j => ?_, fun j => ?_, fun j => ?_⟩
  · rw [f4.2.2.2.2.2.2 (s + 22) (by omega), f3.2.2.2.2.2.2 (s + 22) (by omega), f2.2.2.2.2.2.2 (s + 22) (by omega), e1, mI_UI]
    by_cases z : j = n
    · rw [if_pos ⟨rfl, z⟩, if_pos z]
    · rw [if_neg (fun w => z w.2), if_neg z]
  · rw [f4.2.2.2.2.2.2 (s + 32) (by omega), f3.2.2.2.2.2.2 (s + 32) (by omega), e2, mI_UI, f1.2.2.2.2.2.2 (s + 32) (by omega)]
    by_cases z : j = n
    · rw [if_pos ⟨rfl, z⟩, if_pos z]
    · rw [if_neg (fun w => z w.2), if_neg z]
  · rw [e4, mI_UI, f3.2.2.2.2.2.2 (s + 23) (by omega), f2.2.2.2.2.2.2 (s + 23) (by omega), f1.2.2.2.2.2.2 (s + 23) (by omega)]
    by_cases z : j = n + 1
    · rw [if_pos ⟨rfl, z⟩, if_pos z]
    · rw [if_neg (fun w => z w.2), if_neg z]
theorem s_MS_addCommand {q : Int} {n c : Nat} (hq : i32 q) (hO : mOk M) (hV : Vk M s) (hn : mI M s 1 = n) (hn5 : n ≤ 512) (hc : mI M s 2 = c) (hc5 : c < 4200) : Cv G y_MS_addCommand d [vr s, vi q] M (fun M' => mOk M' ∧ FI (fun y => y = s ∨ y = s + 23 ∨ y = s + 24 ∨ y = s + 25) M M' ∧ (∀ j, mI M' s j = if j = 2 then (c : Int) + 1 else mI M s j) ∧ (∀ j, mI M' (s + 24) j = if j = c then q else mI M (s + 24) j) ∧ (∀ j, mI M' (s + 25) j = if j = c + 1 then mI M s 3 else mI M (s + 25) j) ∧ (∀ j, mI M' (s + 23) j = if j = n then (c : Int) + 1 else mI M (s + 23) j)) := by
  refine k_MS_addCommand hO hq ?_
  rw [hV.r6, hV.n24, hc, Int.toNat_natCast]
  refine ⟨hV.k0, hV.k24, by omega, fun M1 e1 => ?_⟩
  have f1 : FI (fun y => y = s + 24) M M1 := by rw [e1]; exact FI.ui rfl
  have V1 := hV.fi f1
  have s1 : mI M1 s = mI M s := f1.2.2.2.2.2.2 s (by omega)
  rw [s1, hc]
  refine ⟨⟨by omega, by omega⟩, fun M2 e2 => ?_⟩
  have f2 : FI (fun y => y = s) M1 M2 := by rw [e2]; exact FI.ui rfl
  have V2 := V1.fi f2
  have s2 : ∀ j, mI M2 s j = if j = 2 then (c : Int) + 1 else mI M s j := fun j => by
    rw [e2, mI_UI, s1]
    by_cases z : j = 2
    · rw [if_pos ⟨rfl, z⟩, if_pos z]
    · rw [if_neg (fun w => z w.2), if_neg z]
  have s22 : mI M2 s 2 = (c : Int) + 1 := by rw [s2, if_pos rfl]
  have s23 : mI M2 s 3 = mI M s 3 := by rw [s2, if_neg (by omega)]
  have s21 : mI M2 s 1 = n := by rw [s2, if_neg (by omega)]; exact hn
  rw [V2.r7, V2.n25, s22, s23, show ((c : Int) + 1).toNat = c + 1 by omega]
  refine ⟨V2.k25, by omega, fun M3 e3 => ?_⟩
  have f3 : FI (fun y => y = s + 25) M2 M3 := by rw [e3]; exact FI.ui rfl
  have V3 := V2.fi f3
  have s3 : mI M3 s = mI M2 s := f3.2.2.2.2.2.2 s (by omega)
  rw [V3.r5, V3.n23, s3, s21, s22, Int.toNat_natCast]
  refine ⟨V3.k23, by omega, fun M4 e4 => ?_⟩
  have f4 : FI (fun y => y = s + 23) M3 M4 := by rw [e4]; exact FI.ui rfl
  have o4 : mOk M4 := by
    rw [e4, e3, e2, e1]
    exact mOk_UI (mOk_UI (mOk_UI (mOk_UI hO hq) ⟨by omega, by omega⟩) (hO _ _).1) ⟨by omega, by omega⟩
  refine ⟨o4, (((f1.mono (fun y q => by omega)).trans (f2.mono (fun y q => by omega))).trans (f3.mono (fun y q => by omega))).trans (f4.mono (fun y q => by omega)), fun j => by rw [f4.2.2.2.2.2.2 s (by omega), s3]; exact s2 j, fun j => ?_, fun j => ?_, fun j => ?_⟩
  · rw [f4.2.2.2.2.2.2 (s + 24) (by omega), f3.2.2.2.2.2.2 (s + 24) (by omega), f2.2.2.2.2.2.2 (s + 24) (by omega), e1, mI_UI]
    by_cases z : j = c
    · rw [if_pos ⟨rfl, z⟩, if_pos z]
    · rw [if_neg (fun w => z w.2), if_neg z]
  · rw [f4.2.2.2.2.2.2 (s + 25) (by omega), e3, mI_UI, f2.2.2.2.2.2.2 (s + 25) (by omega), f1.2.2.2.2.2.2 (s + 25) (by omega)]
    by_cases z : j = c + 1
    · rw [if_pos ⟨rfl, z⟩, if_pos z]
    · rw [if_neg (fun w => z w.2), if_neg z]
  · rw [e4, mI_UI, f3.2.2.2.2.2.2 (s + 23) (by omega), f2.2.2.2.2.2.2 (s + 23) (by omega), f1.2.2.2.2.2.2 (s + 23) (by omega)]
    by_cases z : j = n
    · rw [if_pos ⟨rfl, z⟩, if_pos z]
    · rw [if_neg (fun w => z w.2), if_neg z]
theorem s_MS_addBranch {q u v : Int} {c b : Nat} (hq : i32 q) (hu : i32 u) (hv : i32 v) (hO : mOk M) (hV : Vk M s) (hc : mI M s 2 = c) (hc5 : c ≤ 4200) (hb : mI M s 3 = b) (hb5 : b < 4096) : Cv G y_MS_addBranch d [vr s, vi q, vi u, vi v] M (fun M' => mOk M' ∧ FI (fun y => y = s ∨ y = s + 25 ∨ y = s + 26 ∨ y = s + 27 ∨ y = s + 28) M M' ∧ (∀ j, mI M' s j = if j = 3 then (b : Int) + 1 else mI M s j) ∧ (∀ j, mI M' (s + 26) j = if j = b then q else mI M (s + 26) j) ∧ (∀ j, mI M' (s + 27) j = if j = b then u else mI M (s + 27) j) ∧ (∀ j, mI M' (s + 28) j = if j = b then v else mI M (s + 28) j) ∧ (∀ j, mI M' (s + 25) j = if j = c then (b : Int) + 1 else mI M (s + 25) j)) := by
  refine k_MS_addBranch hO hq hu hv ?_
  rw [hV.r8, hV.n26, hb, Int.toNat_natCast]
  refine ⟨hV.k0, hV.k26, by omega, fun M1 e1 => ?_⟩
  have f1 : FI (fun y => y = s + 26) M M1 := by rw [e1]; exact FI.ui rfl
  have V1 := hV.fi f1
  have s1 : mI M1 s = mI M s := f1.2.2.2.2.2.2 s (by omega)
  rw [V1.r9, V1.n27, s1, hb, Int.toNat_natCast]
  refine ⟨V1.k27, by omega, fun M2 e2 => ?_⟩
  have f2 : FI (fun y => y = s + 27) M1 M2 := by rw [e2]; exact FI.ui rfl
  have V2 := V1.fi f2
  have s2 : mI M2 s = mI M s := by rw [f2.2.2.2.2.2.2 s (by omega)]; exact s1
  rw [V2.r10, V2.n28, s2, hb, Int.toNat_natCast]
  refine ⟨V2.k28, by omega, fun M3 e3 => ?_⟩
  have f3 : FI (fun y => y = s + 28) M2 M3 := by rw [e3]; exact FI.ui rfl
  have V3 := V2.fi f3
  have s3 : mI M3 s = mI M s := by rw [f3.2.2.2.2.2.2 s (by omega)]; exact s2
  rw [s3, hb]
  refine ⟨⟨by omega, by omega⟩, fun M4 e4 => ?_⟩
  have f4 : FI (fun y => y = s) M3 M4 := by rw [e4]; exact FI.ui rfl
  have V4 := V3.fi f4
  have s4 : ∀ j, mI M4 s j = if j = 3 then (b : Int) + 1 else mI M s j := fun j => by
    rw [e4, mI_UI, s3]
    by_cases z : j = 3
    · rw [if_pos ⟨rfl, z⟩, if_pos z]
    · rw [if_neg (fun w => z w.2), if_neg z]
  have s42 : mI M4 s 2 = c := by rw [s4, if_neg (by omega)]; exact hc
  have s43 : mI M4 s 3 = (b : Int) + 1 := by rw [s4, if_pos rfl]
  rw [V4.r7, V4.n25, s42, s43, Int.toNat_natCast]
  refine ⟨V4.k25, by omega, fun M5 e5 => ?_⟩
  have f5 : FI (fun y => y = s + 25) M4 M5 := by rw [e5]; exact FI.ui rfl
  have o5 : mOk M5 := by
    rw [e5, e4, e3, e2, e1]
    exact mOk_UI (mOk_UI (mOk_UI (mOk_UI (mOk_UI hO hq) hu) hv) ⟨by omega, by omega⟩) ⟨by omega, by omega⟩
  refine ⟨o5, ((((f1.mono (fun y q => by omega)).trans (f2.mono (fun y q => by omega))).trans (f3.mono (fun y q => by omega))).trans (f4.mono (fun y q => by omega))).trans (f5.mono (fun y q => by omega)), fun j => by rw [f5.2.2.2.2.2.2 s (by omega)]; exact s4 j, fun j => ?_, fun j => ?_, fun j => ?_, fun j => ?_⟩
  · rw [f5.2.2.2.2.2.2 (s + 26) (by omega), f4.2.2.2.2.2.2 (s + 26) (by omega), f3.2.2.2.2.2.2 (s + 26) (by omega), f2.2.2.2.2.2.2 (s + 26) (by omega), e1, mI_UI]
    by_cases z : j = b
    · rw [if_pos ⟨rfl, z⟩, if_pos z]
    · rw [if_neg (fun w => z w.2), if_neg z]
  · rw [f5.2.2.2.2.2.2 (s + 27) (by omega), f4.2.2.2.2.2.2 (s + 27) (by omega), f3.2.2.2.2.2.2 (s + 27) (by omega), e2, mI_UI, f1.2.2.2.2.2.2 (s + 27) (by omega)]
    by_cases z : j = b
    · rw [if_pos ⟨rfl, z⟩, if_pos z]
    · rw [if_neg (fun w => z w.2), if_neg z]
  · rw [f5.2.2.2.2.2.2 (s + 28) (by omega), f4.2.2.2.2.2.2 (s + 28) (by omega), e3, mI_UI, f2.2.2.2.2.2.2 (s + 28) (by omega), f1.2.2.2.2.2.2 (s + 28) (by omega)]
    by_cases z : j = b
    · rw [if_pos ⟨rfl, z⟩, if_pos z]
    · rw [if_neg (fun w => z w.2), if_neg z]
  · rw [e5, mI_UI, f4.2.2.2.2.2.2 (s + 25) (by omega), f3.2.2.2.2.2.2 (s + 25) (by omega), f2.2.2.2.2.2.2 (s + 25) (by omega), f1.2.2.2.2.2.2 (s + 25) (by omega)]
    by_cases z : j = c
    · rw [if_pos ⟨rfl, z⟩, if_pos z]
    · rw [if_neg (fun w => z w.2), if_neg z]
end CL
