section
/-! The solver: the next state; clearing, and telling it a game. -/
section NX
variable {G : mG} {d s n k : Nat} {M : mM}
/-- the share of branch b of command c -/
def shr (M : mM) (s c b : Nat) : Int := mI M (s + 27) (bg M s c + b) * (mI M (s + 24) c / mI M (s + 28) (bg M s c + b))
theorem sm_nn {f : Nat → Int} : ∀ (n : Nat), (∀ c, c < n → 0 ≤ f c) → 0 ≤ sm f n
  | 0, _ => by show (0 : Int) ≤ 0; omega
  | n + 1, h => by
    have h1 := sm_nn n (fun c hc => h c (by omega))
    have h2 := h n (by omega)
    rw [sm]
    omega
/-- the branch that r falls on -/
def nxtQ (M : mM) (s c : Nat) (r x : Int) : Prop := ∃ t, t < nb M s c ∧ x = mI M (s + 26) (bg M s c + t) ∧ r * mI M (s + 24) c < sm (shr M s c) (t + 1) * 2147483648 ∧ ∀ u, u < t → sm (shr M s c) (u + 1) * 2147483648 ≤ r * mI M (s + 24) c
theorem s_MS_nextOf {r : Int} (h0 : 0 ≤ r) (h1 : r < 2147483648) (hO : mOk M) (h : Sv M s n) (hk : k < n) : Ci G y_MS_nextOf (d + 1) [vr s, vi k, vi r] M (fun x M' => M' = M ∧ ((mny M s k = 0 ∧ x = k) ∨ (0 < mny M s k ∧ nxtQ M s (cx M s k (mI M (s + 32) k).toNat) r x))) := by
  have hn5 := h.n5
  obtain ⟨V, g, c, e, t, W, -⟩ := id h
  have h2 := g.2.1
  have h3 := g.2.2.1
  have h4 := g.2.2.2.1
  have hcm := g.cmd (i := k) (by omega)
  have hm0 : 0 ≤ mny M s k ∧ mny M s k ≤ 4200 := by unfold mny; omega
  refine k_MS_nextOf hO ⟨by omega, by omega⟩ ⟨by omega, by omega⟩ ⟨V.k0, (s_MS_many hO V g (by omega)).mono (fun y M1 h1' => ?_)⟩
  obtain ⟨e1, hy⟩ := h1'
  subst e1
  refine ⟨⟨by omega, by omega⟩, hO, fun y0 => ⟨rfl, Or.inl ⟨by omega, rfl⟩⟩, fun y0 => ?_⟩
  have ht := t k (by omega)
  have ht2 := ht.2 (by omega)
  have hcx : (cx M1 s k (mI M1 (s + 32) k).toNat : Int) = mI M1 (s + 23) k + mI M1 (s + 32) k := by unfold cx; omega
  have hc2 := cx_lt g (k := k) (i := (mI M1 (s + 32) k).toNat) (by omega) (by omega)
  rw [V.r5, V.r14, V.r6, V.r7, V.n23, V.n32, V.n24, V.n25, Int.toNat_natCast, ← hcx, Int.toNat_natCast]
  generalize hcc : cx M1 s k (mI M1 (s + 32) k).toNat = cc at *
  have hb := g.brn hc2
  obtain ⟨⟨m1, m2, m3⟩, hbr, hsum⟩ := c cc hc2
  have ebg : (bg M1 s cc : Int) = mI M1 (s + 25) cc := by unfold bg; omega
  have enb : (nb M1 s cc : Int) = mI M1 (s + 25) (cc + 1) - mI M1 (s + 25) cc := by unfold nb; omega
  have hsh : ∀ b, b < nb M1 s cc → 0 ≤ shr M1 s cc b := fun b hb => by
    obtain ⟨u1, u2, u3⟩ := hbr b hb
    exact Int.mul_nonneg (by omega) (Int.ediv_nonneg (by omega) (by omega))
  have hsm : sm (shr M1 s cc) (nb M1 s cc) = mI M1 (s + 24) cc := hsum
  have hpart : ∀ b, b ≤ nb M1 s cc → 0 ≤ sm (shr M1 s cc) b ∧ sm (shr M1 s cc) b ≤ mI M1 (s + 24) cc := fun b hb => by
    refine ⟨sm_nn b (fun j hj => hsh j (by omega)), ?_⟩
    have a := sm_part (f := shr M1 s cc) (a := b) (nb M1 s cc - b) (fun j hj => hsh j (by omega))
    rw [show b + (nb M1 s cc - b) = nb M1 s cc by first | rfl | omega, hsm] at a
    exact a
  have hnb : 0 < nb M1 s cc := by
    refine Classical.byContradiction (fun w => ?_)
    have e0 : nb M1 s cc = 0 := by omega
    rw [e0] at hsm
    have : sm (shr M1 s cc) 0 = 0 := rfl
    omega
  have hrm : 0 ≤ r * mI M1 (s + 24) cc ∧ r * mI M1 (s + 24) cc ≤ 2147483647 * mI M1 (s + 24) cc := ⟨Int.mul_nonneg h0 (by omega), Int.mul_le_mul_of_nonneg_right (by omega) (by omega)⟩
  refine ⟨V.k0, V.k23, by omega, V.k32, by omega, V.k24, by omega, V.k25, by omega, ?_⟩
  suffices H : ∀ (c t : Nat), t + c = nb M1 s cc → 0 < c → (∀ u, u < t → sm (shr M1 s cc) (u + 1) * 2147483648 ≤ r * mI M1 (s + 24) cc) → h_MS_nextOf_46 G d s r (mI M1 (s + 24) cc) (sm (shr M1 s cc) t) (mI M1 (s + 25) cc - 1 + t) M1 (fun x M' => M' = M1 ∧ ((mny M1 s k = 0 ∧ x = k) ∨ (0 < mny M1 s k ∧ nxtQ M1 s cc r x))) by
    have a := H (nb M1 s cc) 0 (by omega) hnb (fun u hu => by omega)
    have e0 : sm (shr M1 s cc) 0 = 0 := rfl
    rw [e0, show mI M1 (s + 25) cc - 1 + ((0 : Nat) : Int) = mI M1 (s + 25) cc - 1 by first | rfl | omega] at a
    exact a
  intro c'
  induction c' with
  | zero => intro t _ q; omega
  | succ c' ih =>
    intro t ht _ hlow
    have htn : t < nb M1 s cc := by omega
    have ei : (mI M1 (s + 25) cc - 1 + (t : Int) + 1).toNat = bg M1 s cc + t := by omega
    obtain ⟨u1, u2, u3⟩ := hbr t htn
    have pt := hpart t (by omega)
    have pt1 := hpart (t + 1) (by omega)
    have est : sm (shr M1 s cc) t + mI M1 (s + 27) (bg M1 s cc + t) * (mI M1 (s + 24) cc).tdiv (mI M1 (s + 28) (bg M1 s cc + t)) = sm (shr M1 s cc) (t + 1) := by
      rw [Int.tdiv_eq_ediv_of_nonneg (by omega)]
      rfl
    refine k_MS_nextOf_46 hO ⟨by omega, by omega⟩ ⟨by omega, by omega⟩ ⟨by omega, by omega⟩ ⟨by omega, by omega⟩ ?_
    rw [V.r9, V.r10, V.r8, V.n27, V.n28, V.n26, ei, est]
    refine ⟨V.k0, V.k27, by omega, V.k28, by omega, by omega, ⟨by omega, by omega⟩, ⟨by omega, by omega⟩, fun w => ?_, fun w => ⟨V.k26, by omega, rfl, Or.inr ⟨by omega, t, htn, rfl, ?_, hlow⟩⟩⟩
    · have hle : sm (shr M1 s cc) (t + 1) * 2147483648 ≤ r * mI M1 (s + 24) cc := by
        unfold cmpL at w
        split at w <;> (try split at w) <;> omega
      have hc0 : 0 < c' := by
        refine Classical.byContradiction (fun z => ?_)
        have e1 : t + 1 = nb M1 s cc := by omega
        rw [e1, hsm] at hle
        omega
      have a := ih (t + 1) (by omega) hc0 (fun u hu => by
        by_cases z : u = t
        · rw [z]; exact hle
        · exact hlow u (by omega))
      rw [show mI M1 (s + 25) cc - 1 + ((t + 1 : Nat) : Int) = mI M1 (s + 25) cc - 1 + (t : Int) + 1 by first | rfl | omega] at a
      exact a
    · unfold cmpL at w
      split at w <;> (try split at w) <;> omega
end NX
section CL
variable {G : mG} {d s : Nat} {M : mM}
/-- clear leaves an empty game -/
theorem s_MS_clear {n : Nat} (hO : mOk M) (h : Sv M s n) : Cv G y_MS_clear d [vr s] M (fun M' => mOk M' ∧ FI (vF s) M M' ∧ Sv M' s 0 ∧ mI M' s 2 = 0 ∧ mI M' s 3 = 0 ∧ ∀ w, w < 3 → mI M' (s + 30) w = 0) := by
  obtain ⟨V, g, c, e, t, W, T, R, H, hc⟩ := id h
  refine k_MS_clear hO ⟨V.k0, fun M1 e1 M2 e2 M3 e3 => ?_⟩
  have f3 : FI (fun y => y = s) M M3 := by
    have a1 : FI (fun y => y = s) M M1 := by rw [e1]; exact FI.ui rfl
    have a2 : FI (fun y => y = s) M1 M2 := by rw [e2]; exact FI.ui rfl
    have a3 : FI (fun y => y = s) M2 M3 := by rw [e3]; exact FI.ui rfl
    exact (a1.trans a2).trans a3
  have o3 : mOk M3 := by
    rw [e3, e2, e1]
    exact mOk_UI (mOk_UI (mOk_UI hO ⟨by omega, by omega⟩) ⟨by omega, by omega⟩) ⟨by omega, by omega⟩
  have s3 : mI M3 s 1 = 0 ∧ mI M3 s 2 = 0 ∧ mI M3 s 3 = 0 := by
    rw [e3, e2, e1]
    refine ⟨?_, ?_, ?_⟩ <;> simp [mI_UI]
  have V3 := V.fi f3
  rw [V3.r5, V3.n23]
  refine ⟨V3.k23, by omega, fun M4 e4 => ?_⟩
  have f4 : FI (fun y => y = s + 23) M3 M4 := by rw [e4]; exact FI.ui rfl
  have o4 : mOk M4 := by rw [e4]; exact mOk_UI o3 ⟨by omega, by omega⟩
  have V4 := V3.fi f4
  have i4 : mI M4 (s + 23) 0 = 0 := by rw [e4, mI_UI, if_pos ⟨rfl, rfl⟩]
  rw [V4.r7, V4.n25]
  refine ⟨V4.k25, by omega, fun M5 e5 => ?_⟩
  have f5 : FI (fun y => y = s + 25) M4 M5 := by rw [e5]; exact FI.ui rfl
  have o5 : mOk M5 := by rw [e5]; exact mOk_UI o4 ⟨by omega, by omega⟩
  have V5 := V4.fi f5
  have i5 : mI M5 (s + 25) 0 = 0 := by rw [e5, mI_UI, if_pos ⟨rfl, rfl⟩]
  have j5 : mI M5 (s + 23) 0 = 0 := by rw [f5.2.2.2.2.2.2 (s + 23) (by omega)]; exact i4
  have s5 : mI M5 s = mI M3 s := by rw [f5.2.2.2.2.2.2 s (by omega), f4.2.2.2.2.2.2 s (by omega)]
  have f05 : FI (fun y => y = s ∨ y = s + 23 ∨ y = s + 25) M M5 := ((f3.mono (fun y q => by omega)).trans (f4.mono (fun y q => by omega))).trans (f5.mono (fun y q => by omega))
  suffices Hh : ∀ (c w : Nat) (M6 : mM), w + c = 3 → mOk M6 → FI (fun y => y = s + 30) M5 M6 → (∀ j, j < w → mI M6 (s + 30) j = 0) → h_MS_clear_31 G d s w M6 (fun M' => mOk M' ∧ FI (vF s) M M' ∧ Sv M' s 0 ∧ mI M' s 2 = 0 ∧ mI M' s 3 = 0 ∧ ∀ w, w < 3 → mI M' (s + 30) w = 0) from
    Hh 3 0 M5 (by omega) o5 FI.refl (fun j hj => by omega)
  intro c'
  induction c' with
  | zero =>
    intro w M6 hw o6 f6 h6
    have ew : w = 3 := by omega
    subst ew
    refine k_MS_clear_31 o6 ⟨by omega, by omega⟩ ⟨fun _ => ?_, fun q => by omega⟩
    have fe := f6.2.2.2.2.2.2
    have s6 : mI M6 s = mI M3 s := by rw [fe s (by omega)]; exact s5
    have f06 : FI (fun y => y = s ∨ y = s + 23 ∨ y = s + 25 ∨ y = s + 30) M M6 := (f05.mono (fun y q => by omega)).trans (f6.mono (fun y q => by omega))
    have g6 : GW M6 s := by
      unfold GW
      rw [s6, s3.1, s3.2.1, s3.2.2, fe (s + 23) (by omega), fe (s + 25) (by omega), j5, i5]
      refine ⟨by omega, by omega, by omega, by omega, rfl, rfl, fun i j hij hj => ?_, j5, fun i j hij hj => ?_, i5, fun b hb => by omega⟩
      · have : i = 0 ∧ j = 0 := by omega
        rw [this.1, this.2]
        omega
      · have : i = 0 ∧ j = 0 := by omega
        rw [this.1, this.2]
        omega
    refine ⟨o6, f06.mono (fun y q => by omega), ⟨V5.fi f6, g6, fun c hc => ?_, by rw [s6]; exact s3.1, fun k hk => ?_, W.far f06 (fun y q => by omega), T.out f06 (fun y q => by omega), fun e he => (R e he).out f06 (fun y q => by omega), fun w hw => ⟨Or.inl (h6 w hw), fun q => by have := h6 w hw; omega⟩, fun q => by have := h6 0 (by omega); omega⟩, by rw [s6]; exact s3.2.1, by rw [s6]; exact s3.2.2, h6⟩
    · rw [s6, s3.2.1] at hc
      omega
    · rw [s6, s3.1] at hk
      omega
  | succ c' ih =>
    intro w M6 hw o6 f6 h6
    have V6 := V5.fi f6
    refine k_MS_clear_31 o6 ⟨by omega, by omega⟩ ⟨fun q => by omega, fun _ => ?_⟩
    rw [V6.r12, V6.n30, Int.toNat_natCast]
    refine ⟨V6.k0, V6.k30, by omega, fun M7 e7 => ?_⟩
    have f7 : FI (fun y => y = s + 30) M6 M7 := by rw [e7]; exact FI.ui rfl
    have o7 : mOk M7 := by rw [e7]; exact mOk_UI o6 ⟨by omega, by omega⟩
    refine ih (w + 1) M7 (by omega) o7 (f6.trans f7) (fun j hj => ?_)
    rw [e7, mI_UI]
    by_cases z : j = w
    · rw [if_pos ⟨rfl, z⟩]
    · rw [if_neg (fun q => z q.2)]
      exact h6 j (by omega)
theorem s_MS_addState {q : Int} {n : Nat} (hq : i32 q) (hO : mOk M) (hV : Vk M s) (hn : mI M s 1 = n) (hn5 : n < 512) : Cv G y_MS_addState d [vr s, vi q] M (fun M' => mOk M' ∧ FI (fun y => y = s ∨ y = s + 22 ∨ y = s + 23 ∨ y = s + 32) M M' ∧ (∀ j, mI M' s j = if j = 1 then (n : Int) + 1 else mI M s j) ∧ (∀ j, mI M' (s + 22) j = if j = n then q else mI M (s + 22) j) ∧ (∀ j, mI M' (s + 32) j = if j = n then 0 else mI M (s + 32) j) ∧ (∀ j, mI M' (s + 23) j = if j = n + 1 then mI M s 2 else mI M (s + 23) j)) := by
  refine k_MS_addState hO hq ?_
  rw [hV.r4, hV.n22, hn, Int.toNat_natCast]
  refine ⟨hV.k0, hV.k22, by omega, fun M1 e1 => ?_⟩
  have f1 : FI (fun y => y = s + 22) M M1 := by rw [e1]; exact FI.ui rfl
  have V1 := hV.fi f1
  have s1 : mI M1 s = mI M s := f1.2.2.2.2.2.2 s (by omega)
  rw [V1.r14, V1.n32, s1, hn, Int.toNat_natCast]
  refine ⟨V1.k32, by omega, fun M2 e2 => ?_⟩
  have f2 : FI (fun y => y = s + 32) M1 M2 := by rw [e2]; exact FI.ui rfl
  have V2 := V1.fi f2
  have s2 : mI M2 s = mI M s := by rw [f2.2.2.2.2.2.2 s (by omega)]; exact s1
  rw [s2, hn]
  refine ⟨⟨by omega, by omega⟩, fun M3 e3 => ?_⟩
  have f3 : FI (fun y => y = s) M2 M3 := by rw [e3]; exact FI.ui rfl
  have V3 := V2.fi f3
  have s3 : ∀ j, mI M3 s j = if j = 1 then (n : Int) + 1 else mI M s j := fun j => by
    rw [e3, mI_UI, s2]
    by_cases z : j = 1
    · rw [if_pos ⟨rfl, z⟩, if_pos z]
    · rw [if_neg (fun w => z w.2), if_neg z]
  have s31 : mI M3 s 1 = (n : Int) + 1 := by rw [s3, if_pos rfl]
  have s32 : mI M3 s 2 = mI M s 2 := by rw [s3, if_neg (by omega)]
  rw [V3.r5, V3.n23, s31, s32, show ((n : Int) + 1).toNat = n + 1 by first | rfl | omega]
  refine ⟨V3.k23, by omega, fun M4 e4 => ?_⟩
  have f4 : FI (fun y => y = s + 23) M3 M4 := by rw [e4]; exact FI.ui rfl
  have o4 : mOk M4 := by
    rw [e4, e3, e2, e1]
    exact mOk_UI (mOk_UI (mOk_UI (mOk_UI hO hq) ⟨by omega, by omega⟩) ⟨by omega, by omega⟩) (hO _ _).1
  refine ⟨o4, (((f1.mono (fun y q => by omega)).trans (f2.mono (fun y q => by omega))).trans (f3.mono (fun y q => by omega))).trans (f4.mono (fun y q => by omega)), fun j => by rw [f4.2.2.2.2.2.2 s (by omega)]; exact s3 j, fun j => ?_, fun j => ?_, fun j => ?_⟩
  · rw [f4.2.2.2.2.2.2 (s + 22) (by omega), f3.2.2.2.2.2.2 (s + 22) (by omega), f2.2.2.2.2.2.2 (s + 22) (by omega), e1, mI_UI]
    by_cases z : j = n
    · rw [if_pos ⟨rfl, z⟩, if_pos z]
    · rw [if_neg (fun w => z w.2), if_neg z]
  · rw [f4.2.2.2.2.2.2 (s + 32) (by omega), f3.2.2.2.2.2.2 (s + 32) (by omega), e2, mI_UI, f1.2.2.2.2.2.2 (s + 32) (by omega)]
    by_cases z : j = n
    · rw [if_pos ⟨rfl, z⟩, if_pos z]
    · rw [if_neg (fun w => z w.2), if_neg z]
  · rw [e4, mI_UI, f3.2.2.2.2.2.2 (s + 23) (by omega), f2.2.2.2.2.2.2 (s + 23) (by omega), f1.2.2.2.2.2.2 (s + 23) (by omega)]
    by_cases z : j = n + 1
    · rw [if_pos ⟨rfl, z⟩, if_pos z]
    · rw [if_neg (fun w => z w.2), if_neg z]
theorem s_MS_addCommand {q : Int} {n c : Nat} (hq : i32 q) (hO : mOk M) (hV : Vk M s) (hn : mI M s 1 = n) (hn5 : n ≤ 512) (hc : mI M s 2 = c) (hc5 : c < 4200) : Cv G y_MS_addCommand d [vr s, vi q] M (fun M' => mOk M' ∧ FI (fun y => y = s ∨ y = s + 23 ∨ y = s + 24 ∨ y = s + 25) M M' ∧ (∀ j, mI M' s j = if j = 2 then (c : Int) + 1 else mI M s j) ∧ (∀ j, mI M' (s + 24) j = if j = c then q else mI M (s + 24) j) ∧ (∀ j, mI M' (s + 25) j = if j = c + 1 then mI M s 3 else mI M (s + 25) j) ∧ (∀ j, mI M' (s + 23) j = if j = n then (c : Int) + 1 else mI M (s + 23) j)) := by
  refine k_MS_addCommand hO hq ?_
  rw [hV.r6, hV.n24, hc, Int.toNat_natCast]
  refine ⟨hV.k0, hV.k24, by omega, fun M1 e1 => ?_⟩
  have f1 : FI (fun y => y = s + 24) M M1 := by rw [e1]; exact FI.ui rfl
  have V1 := hV.fi f1
  have s1 : mI M1 s = mI M s := f1.2.2.2.2.2.2 s (by omega)
  rw [s1, hc]
  refine ⟨⟨by omega, by omega⟩, fun M2 e2 => ?_⟩
  have f2 : FI (fun y => y = s) M1 M2 := by rw [e2]; exact FI.ui rfl
  have V2 := V1.fi f2
  have s2 : ∀ j, mI M2 s j = if j = 2 then (c : Int) + 1 else mI M s j := fun j => by
    rw [e2, mI_UI, s1]
    by_cases z : j = 2
    · rw [if_pos ⟨rfl, z⟩, if_pos z]
    · rw [if_neg (fun w => z w.2), if_neg z]
  have s22 : mI M2 s 2 = (c : Int) + 1 := by rw [s2, if_pos rfl]
  have s23 : mI M2 s 3 = mI M s 3 := by rw [s2, if_neg (by omega)]
  have s21 : mI M2 s 1 = n := by rw [s2, if_neg (by omega)]; exact hn
  rw [V2.r7, V2.n25, s22, s23, show ((c : Int) + 1).toNat = c + 1 by first | rfl | omega]
  refine ⟨V2.k25, by omega, fun M3 e3 => ?_⟩
  have f3 : FI (fun y => y = s + 25) M2 M3 := by rw [e3]; exact FI.ui rfl
  have V3 := V2.fi f3
  have s3 : mI M3 s = mI M2 s := f3.2.2.2.2.2.2 s (by omega)
  rw [V3.r5, V3.n23, s3, s21, s22, Int.toNat_natCast]
  refine ⟨V3.k23, by omega, fun M4 e4 => ?_⟩
  have f4 : FI (fun y => y = s + 23) M3 M4 := by rw [e4]; exact FI.ui rfl
  have o4 : mOk M4 := by
    rw [e4, e3, e2, e1]
    exact mOk_UI (mOk_UI (mOk_UI (mOk_UI hO hq) ⟨by omega, by omega⟩) (hO _ _).1) ⟨by omega, by omega⟩
  refine ⟨o4, (((f1.mono (fun y q => by omega)).trans (f2.mono (fun y q => by omega))).trans (f3.mono (fun y q => by omega))).trans (f4.mono (fun y q => by omega)), fun j => by rw [f4.2.2.2.2.2.2 s (by omega), s3]; exact s2 j, fun j => ?_, fun j => ?_, fun j => ?_⟩
  · rw [f4.2.2.2.2.2.2 (s + 24) (by omega), f3.2.2.2.2.2.2 (s + 24) (by omega), f2.2.2.2.2.2.2 (s + 24) (by omega), e1, mI_UI]
    by_cases z : j = c
    · rw [if_pos ⟨rfl, z⟩, if_pos z]
    · rw [if_neg (fun w => z w.2), if_neg z]
  · rw [f4.2.2.2.2.2.2 (s + 25) (by omega), e3, mI_UI, f2.2.2.2.2.2.2 (s + 25) (by omega), f1.2.2.2.2.2.2 (s + 25) (by omega)]
    by_cases z : j = c + 1
    · rw [if_pos ⟨rfl, z⟩, if_pos z]
    · rw [if_neg (fun w => z w.2), if_neg z]
  · rw [e4, mI_UI, f3.2.2.2.2.2.2 (s + 23) (by omega), f2.2.2.2.2.2.2 (s + 23) (by omega), f1.2.2.2.2.2.2 (s + 23) (by omega)]
    by_cases z : j = n
    · rw [if_pos ⟨rfl, z⟩, if_pos z]
    · rw [if_neg (fun w => z w.2), if_neg z]
theorem s_MS_addBranch {q u v : Int} {c b : Nat} (hq : i32 q) (hu : i32 u) (hv : i32 v) (hO : mOk M) (hV : Vk M s) (hc : mI M s 2 = c) (hc5 : c ≤ 4200) (hb : mI M s 3 = b) (hb5 : b < 4096) : Cv G y_MS_addBranch d [vr s, vi q, vi u, vi v] M (fun M' => mOk M' ∧ FI (fun y => y = s ∨ y = s + 25 ∨ y = s + 26 ∨ y = s + 27 ∨ y = s + 28) M M' ∧ (∀ j, mI M' s j = if j = 3 then (b : Int) + 1 else mI M s j) ∧ (∀ j, mI M' (s + 26) j = if j = b then q else mI M (s + 26) j) ∧ (∀ j, mI M' (s + 27) j = if j = b then u else mI M (s + 27) j) ∧ (∀ j, mI M' (s + 28) j = if j = b then v else mI M (s + 28) j) ∧ (∀ j, mI M' (s + 25) j = if j = c then (b : Int) + 1 else mI M (s + 25) j)) := by
  refine k_MS_addBranch hO hq hu hv ?_
  rw [hV.r8, hV.n26, hb, Int.toNat_natCast]
  refine ⟨hV.k0, hV.k26, by omega, fun M1 e1 => ?_⟩
  have f1 : FI (fun y => y = s + 26) M M1 := by rw [e1]; exact FI.ui rfl
  have V1 := hV.fi f1
  have s1 : mI M1 s = mI M s := f1.2.2.2.2.2.2 s (by omega)
  rw [V1.r9, V1.n27, s1, hb, Int.toNat_natCast]
  refine ⟨V1.k27, by omega, fun M2 e2 => ?_⟩
  have f2 : FI (fun y => y = s + 27) M1 M2 := by rw [e2]; exact FI.ui rfl
  have V2 := V1.fi f2
  have s2 : mI M2 s = mI M s := by rw [f2.2.2.2.2.2.2 s (by omega)]; exact s1
  rw [V2.r10, V2.n28, s2, hb, Int.toNat_natCast]
  refine ⟨V2.k28, by omega, fun M3 e3 => ?_⟩
  have f3 : FI (fun y => y = s + 28) M2 M3 := by rw [e3]; exact FI.ui rfl
  have V3 := V2.fi f3
  have s3 : mI M3 s = mI M s := by rw [f3.2.2.2.2.2.2 s (by omega)]; exact s2
  rw [s3, hb]
  refine ⟨⟨by omega, by omega⟩, fun M4 e4 => ?_⟩
  have f4 : FI (fun y => y = s) M3 M4 := by rw [e4]; exact FI.ui rfl
  have V4 := V3.fi f4
  have s4 : ∀ j, mI M4 s j = if j = 3 then (b : Int) + 1 else mI M s j := fun j => by
    rw [e4, mI_UI, s3]
    by_cases z : j = 3
    · rw [if_pos ⟨rfl, z⟩, if_pos z]
    · rw [if_neg (fun w => z w.2), if_neg z]
  have s42 : mI M4 s 2 = c := by rw [s4, if_neg (by omega)]; exact hc
  have s43 : mI M4 s 3 = (b : Int) + 1 := by rw [s4, if_pos rfl]
  rw [V4.r7, V4.n25, s42, s43, Int.toNat_natCast]
  refine ⟨V4.k25, by omega, fun M5 e5 => ?_⟩
  have f5 : FI (fun y => y = s + 25) M4 M5 := by rw [e5]; exact FI.ui rfl
  have o5 : mOk M5 := by
    rw [e5, e4, e3, e2, e1]
    exact mOk_UI (mOk_UI (mOk_UI (mOk_UI (mOk_UI hO hq) hu) hv) ⟨by omega, by omega⟩) ⟨by omega, by omega⟩
  refine ⟨o5, ((((f1.mono (fun y q => by omega)).trans (f2.mono (fun y q => by omega))).trans (f3.mono (fun y q => by omega))).trans (f4.mono (fun y q => by omega))).trans (f5.mono (fun y q => by omega)), fun j => by rw [f5.2.2.2.2.2.2 s (by omega)]; exact s4 j, fun j => ?_, fun j => ?_, fun j => ?_, fun j => ?_⟩
  · rw [f5.2.2.2.2.2.2 (s + 26) (by omega), f4.2.2.2.2.2.2 (s + 26) (by omega), f3.2.2.2.2.2.2 (s + 26) (by omega), f2.2.2.2.2.2.2 (s + 26) (by omega), e1, mI_UI]
    by_cases z : j = b
    · rw [if_pos ⟨rfl, z⟩, if_pos z]
    · rw [if_neg (fun w => z w.2), if_neg z]
  · rw [f5.2.2.2.2.2.2 (s + 27) (by omega), f4.2.2.2.2.2.2 (s + 27) (by omega), f3.2.2.2.2.2.2 (s + 27) (by omega), e2, mI_UI, f1.2.2.2.2.2.2 (s + 27) (by omega)]
    by_cases z : j = b
    · rw [if_pos ⟨rfl, z⟩, if_pos z]
    · rw [if_neg (fun w => z w.2), if_neg z]
  · rw [f5.2.2.2.2.2.2 (s + 28) (by omega), f4.2.2.2.2.2.2 (s + 28) (by omega), e3, mI_UI, f2.2.2.2.2.2.2 (s + 28) (by omega), f1.2.2.2.2.2.2 (s + 28) (by omega)]
    by_cases z : j = b
    · rw [if_pos ⟨rfl, z⟩, if_pos z]
    · rw [if_neg (fun w => z w.2), if_neg z]
  · rw [e5, mI_UI, f4.2.2.2.2.2.2 (s + 25) (by omega), f3.2.2.2.2.2.2 (s + 25) (by omega), f2.2.2.2.2.2.2 (s + 25) (by omega), f1.2.2.2.2.2.2 (s + 25) (by omega)]
    by_cases z : j = c
    · rw [if_pos ⟨rfl, z⟩, if_pos z]
    · rw [if_neg (fun w => z w.2), if_neg z]
end CL
end
section
/-! The reference: the jobs of a node's parts. -/
def flat (n : Int) : List (Nat × Nat) → List Int
  | [] => []
  | (i, j) :: rs => (j : Int) :: (i : Int) :: n :: flat n rs
def rsum : List (Nat × Nat) → Nat
  | [] => 0
  | (i, j) :: rs => (j - i) + rsum rs
theorem flat_len {n : Int} : ∀ rs, (flat n rs).length = 3 * rs.length
  | [] => rfl
  | (i, j) :: rs => by show (flat n rs).length + 1 + 1 + 1 = 3 * (rs.length + 1); rw [flat_len rs]; omega
section RN
variable {G : mG} {d a N g T : Nat} {M M2 M3 : mM} {root : Int} {Q : Int → mM → Prop}
theorem Lk.mono {T T' f x l : Nat} (h : Lk M2 g T f x l) (hT : T ≤ T') (hn : ∀ n, n < T → np M3 g n = np M2 g n) : Lk M3 g T' f x l := by
  induction f generalizing x with
  | zero => exact h.elim
  | succ f ih =>
    obtain ⟨h0, h⟩ := h
    refine ⟨by omega, ?_⟩
    rw [hn x h0]
    rcases h with h | ⟨y, h1, h2⟩
    · exact Or.inl h
    · exact Or.inr ⟨y, h1, ih h2⟩
theorem chn.mono {T T' : Nat} {p : Int} (h : chn M2 g T p) (hp : p < T) (hT : T ≤ T') (hf : ∀ n, n < T → fp M3 g n = fp M2 g n ∧ np M3 g n = np M2 g n) : chn M3 g T' p := fun p0 => by
  rw [(hf p.toNat (by omega)).1]
  rcases h p0 with q | ⟨f, c, l, q1, q2⟩
  · exact Or.inl q
  · exact Or.inr ⟨f, c, l, q1, q2.mono hT (fun n hn => (hf n hn).2)⟩
theorem JE.pre {M1 : mM} {T : Nat} {p : Int} (h : JE M2 M3 g T p) (hp : p < T) (s : ∀ n, n < T → so M2 g n = so M1 g n ∧ va M2 g n = va M1 g n ∧ fp M2 g n = fp M1 g n ∧ np M2 g n = np M1 g n) : JE M1 M3 g T p := by
  refine ⟨fun n hn => ⟨(h.1 n hn).1.trans (s n hn).1, (h.1 n hn).2.trans (s n hn).2.1⟩, ?_⟩
  rcases h.2 with ⟨q1, q2⟩ | ⟨q0, q1, q2, q3⟩ | ⟨q0, f, c, l, q1, q2, q3, q4⟩
  · exact Or.inl ⟨q1, fun n hn => ⟨(q2 n hn).1.trans (s n hn).2.2.1, (q2 n hn).2.trans (s n hn).2.2.2⟩⟩
  · exact Or.inr (Or.inl ⟨q0, by rw [← (s p.toNat (by omega)).2.2.1]; exact q1, fun n hn => by rw [q2 n hn, (s n hn).2.2.1], fun n hn => (q3 n hn).trans (s n hn).2.2.2⟩)
  · exact Or.inr (Or.inr ⟨q0, f, c, l, by rw [← (s p.toNat (by omega)).2.2.1]; exact q1, q2.mono (Nat.le_refl _) (fun n hn => (s n hn).2.2.2.symm), fun n hn => (q3 n hn).trans (s n hn).2.2.1, fun n hn => by rw [q4 n hn, (s n hn).2.2.2]⟩)
theorem JE.post {M4 : mM} {T : Nat} {p : Int} (h : JE M2 M3 g T p) (s : ∀ n, n < T → so M4 g n = so M3 g n ∧ va M4 g n = va M3 g n ∧ fp M4 g n = fp M3 g n ∧ np M4 g n = np M3 g n) : JE M2 M4 g T p := by
  refine ⟨fun n hn => ⟨(s n hn).1.trans (h.1 n hn).1, (s n hn).2.1.trans (h.1 n hn).2⟩, ?_⟩
  rcases h.2 with ⟨q1, q2⟩ | ⟨q0, q1, q2, q3⟩ | ⟨q0, f, c, l, q1, q2, q3, q4⟩
  · exact Or.inl ⟨q1, fun n hn => ⟨(s n hn).2.2.1.trans (q2 n hn).1, (s n hn).2.2.2.trans (q2 n hn).2⟩⟩
  · exact Or.inr (Or.inl ⟨q0, q1, fun n hn => (s n hn).2.2.1.trans (q2 n hn), fun n hn => (s n hn).2.2.2.trans (q3 n hn)⟩)
  · exact Or.inr (Or.inr ⟨q0, f, c, l, q1, q2, fun n hn => (s n hn).2.2.1.trans (q3 n hn), fun n hn => (s n hn).2.2.2.trans (q4 n hn)⟩)
/-- a new node, not yet joined -/
theorem TI.nd {st : List Int} (h : TI M a g N T st M2) (m : Mv (tL g) (fun _ => False) M2 a M3) (hn : nd M3 g (T + 1)) : TI M a g N (T + 1) st M3 := by
  have w := h.2.1.1.1
  have hg := h.2.2.2.2.2
  obtain ⟨k1, k2, k3⟩ := h.wx m (fun q hq => Or.inl hq)
  exact ⟨k1, k2, k3, hn, h.2.2.2.2.1.same (m.lst n91 (fun z => (tL_no hg w).2.2.2.2 z)), hg⟩
/-- joined -/
theorem nj {st : List Int} {p : Int} {M6 M7 : mM} (hp : p < T) (hc : chn M2 g T p) (ho : ∀ n, n < T → so M6 g n = so M2 g n ∧ va M6 g n = va M2 g n ∧ fp M6 g n = fp M2 g n ∧ np M6 g n = np M2 g n) (hf : fp M6 g T = -1) (hn : np M6 g T = -1) (j : jnQ M6 g (T + 1) p T M7) : JE M2 M7 g T p ∧ fp M7 g T = -1 ∧ np M7 g T = -1 ∧ so M7 g T = so M6 g T ∧ va M7 g T = va M6 g T := by
  obtain ⟨j1, j2⟩ := j
  rcases j2 with ⟨q1, q2⟩ | ⟨q0, q1, q2, q3⟩ | ⟨q0, f, c, l, q1, q2, q3, q4⟩
  · refine ⟨⟨fun n hn => ⟨(j1 n).1.trans (ho n hn).1, (j1 n).2.trans (ho n hn).2.1⟩, Or.inl ⟨q1, fun n hn => ⟨(q2 n).1.trans (ho n hn).2.2.1, (q2 n).2.trans (ho n hn).2.2.2⟩⟩⟩, by rw [(q2 T).1]; exact hf, by rw [(q2 T).2]; exact hn, (j1 T).1, (j1 T).2⟩
  · refine ⟨⟨fun n hn => ⟨(j1 n).1.trans (ho n hn).1, (j1 n).2.trans (ho n hn).2.1⟩, Or.inr (Or.inl ⟨q0, by rw [← (ho p.toNat (by omega)).2.2.1]; exact q1, fun n hn => by rw [q2 n, (ho n hn).2.2.1], fun n hn => (q3 n).trans (ho n hn).2.2.2⟩)⟩, by rw [q2 T, if_neg (by omega)]; exact hf, by rw [q3 T]; exact hn, (j1 T).1, (j1 T).2⟩
  · -- the chain was there before the node
    have hcc := hc q0
    rw [← (ho p.toNat (by omega)).2.2.1, q1] at hcc
    obtain ⟨f0, c0, l0, k1, k2⟩ : ∃ f c' l : Nat, (c : Int) = c' ∧ Lk M2 g T f c' l := by
      rcases hcc with z | z
      · omega
      · exact z
    have ec : c0 = c := by omega
    subst ec
    have k3 : Lk M6 g (T + 1) f0 c0 l0 := k2.mono (by omega) (fun n hn => (ho n hn).2.2.2)
    have el := Lk.det q2 k3
    subst el
    have hlT := k2.lt
    refine ⟨⟨fun n hn => ⟨(j1 n).1.trans (ho n hn).1, (j1 n).2.trans (ho n hn).2.1⟩, Or.inr (Or.inr ⟨q0, f0, c0, l, by rw [← (ho p.toNat (by omega)).2.2.1]; exact q1, k2, fun n hn => (q3 n).trans (ho n hn).2.2.1, fun n hn => by rw [q4 n, (ho n hn).2.2.2]⟩)⟩, by rw [q3 T]; exact hf, by rw [q4 T, if_neg (by omega)]; exact hn, (j1 T).1, (j1 T).2⟩
/-- a node with its parts -/
theorem nd_fin {M7 M8 M9 : mM} {p : Int} {k T9 : Nat} (hpT : p < T) (je : JE M2 M7 g T p) (s78 : sameT M7 M8 g) (hf7 : fp M7 g T = -1) (hn7 : np M7 g T = -1) (je9 : JE M8 M9 g (T + 1) (T : Int)) (hk : 1 ≤ k) (ha : ari (so M7 g T) k) (to : To (nmw (wk M a) N) M9 g k (T + 1) T9) : JE M2 M9 g T p ∧ To (nmw (wk M a) N) M9 g 0 T T9 ∧ np M9 g T = -1 := by
  have c2 : fp M9 g T = ((T + 1 : Nat) : Int) ∧ (∀ n, n < T → fp M9 g n = fp M8 g n) ∧ ∀ n, n < T + 1 → np M9 g n = np M8 g n := by
    rcases je9.2 with ⟨q, -⟩ | ⟨q0, q1, q2, q3⟩ | ⟨q0, f, c, l, q1, q2, q3, q4⟩
    · omega
    · refine ⟨by rw [q2 T (by omega), if_pos (by omega)], fun n hn => by rw [q2 n (by omega), if_neg (by omega)], q3⟩
    · exfalso
      rw [Int.toNat_natCast, (s78 T).2.2.1, hf7] at q1
      omega
  refine ⟨je.post (fun n hn => ⟨(je9.1 n (by omega)).1.trans (s78 n).1, (je9.1 n (by omega)).2.trans (s78 n).2.1, (c2.2.1 n hn).trans (s78 n).2.2.1, (c2.2.2 n (by omega)).trans (s78 n).2.2.2⟩), To.node hk ?_ c2.1 to, ?_⟩
  · rw [(je9.1 T (by omega)).1, (s78 T).1]
    exact ha
  · rw [c2.2.2 T (by omega), (s78 T).2.2.2]
    exact hn7
end RN
end
section
/-! The reference: tree. -/
theorem JL.rs {w : Nat → Int} {p : Int} : ∀ {f i j : Nat} {s : List Int}, JL w p f i j s → ∃ rs, s = flat p rs ∧ rs ≠ [] ∧ (∀ i' j', (i', j') ∈ rs → Eo w 6 i' j' ∧ j' ≤ j ∧ j' - i' ≤ j - i) ∧ rsum rs ≤ j - i
  | 0, _, _, _, h => h.elim
  | f + 1, i, j, s, h => by
    rcases h with ⟨h1, h2⟩ | ⟨m, s2, h1, h2, h3, h4⟩
    · refine ⟨[(i, j)], h1, by simp, fun i' j' q => ?_, by show (j - i) + 0 ≤ _; omega⟩
      have q' := List.mem_singleton.1 q
      obtain ⟨q1, q2⟩ := Prod.mk.inj q'
      subst q1 q2
      exact ⟨h2, Nat.le_refl _, Nat.le_refl _⟩
    · obtain ⟨rs, k1, k2, k3, k4⟩ := JL.rs h4
      have p2 := h2.pr.1
      have hne : m + 1 < j := by
        cases rs with
        | nil => exact absurd rfl k2
        | cons x rs =>
          have a := k3 x.1 x.2 (List.mem_cons_self ..)
          have := a.1.pr.1
          have := a.2
          omega
      refine ⟨(i, m) :: rs, by rw [h3, k1]; rfl, by simp, fun i' j' q => ?_, by show (m - i) + rsum rs ≤ j - i; omega⟩
      rcases List.mem_cons.1 q with z | z
      · obtain ⟨q1, q2⟩ := Prod.mk.inj z
        subst q1 q2
        exact ⟨h2, by omega, by omega⟩
      · have a := k3 i' j' z
        exact ⟨a.1, a.2.1, by have := a.2.2; omega⟩
section MK
variable {G : mG} {d a N g : Nat} {M : mM} {root : Int} {Q : Int → mM → Prop}
end MK
end
section
/-! The reference: tree, the whole. -/
section TQ
variable {G : mG} {d a N g T i j : Nat} {M : mM}
/-- a tree more -/
def trQ (M : mM) (a g N T i j : Nat) (r : Int) (M' : mM) : Prop := Mv (trP a g) (fun _ => False) M a M' ∧ r = T ∧ ∃ T', nd M' g T' ∧ T < T' ∧ T' ≤ T + (j - i) ∧ To (nmw (wk M a) N) M' g 0 T T' ∧ np M' g T = -1 ∧ ∀ n, n < T → so M' g n = so M g n ∧ va M' g n = va M g n ∧ fp M' g n = fp M g n ∧ np M' g n = np M g n
end TQ
end
section
/-! The reference: turning a pile, looking a name up. -/
section LU
variable {G : mG} {d a N g T K : Nat} {M M2 : mM}
theorem n93 : a + 93 ∈ nums a := nums_o (by decide)
theorem n95 : a + 95 ∈ nums a := nums_o (by decide)
theorem s_MM_turn {L k : Nat} (hO : mOk M) (h : Wd M a) (hl : ln M (a + 95) = (L + 2 * k : Nat)) (hb : L + 2 * k ≤ 200000) (hk : 1 ≤ k) : Cv G y_MM_turn (d + 1) [vr a, vi L] M (fun M' => Mv (fun x => x = a + 95) (fun _ => False) M a M' ∧ ln M' (a + 95) = ln M (a + 95) ∧ (∀ j, j < k → nt M' (a + 95) (L + 2 * j) = nt M (a + 95) (L + 2 * (k - 1 - j))) ∧ ∀ i, (∀ j, j < k → i ≠ L + 2 * j) → nt M' (a + 95) i = nt M (a + 95) i) := by
  have r20 : ∀ (M3 : mM), Wd M3 a → mR M3 a 20 = a + 95 := fun M3 w => w.1.2.2.2.2.1.2.2.2.2.2.1
  have l0 : mI M (a + 95) 1 = (L + 2 * k : Nat) := hl
  refine k_MM_turn hO ⟨by omega, by omega⟩ ?_
  rw [r20 M h, l0]
  refine ⟨h.1.1, (h.nu n95).1, ?_⟩
  -- t pairs have been turned
  suffices H : ∀ (c t : Nat) (M3 : mM), c + t = k → Mv (fun x => x = a + 95) (fun _ => False) M a M3 → ln M3 (a + 95) = ln M (a + 95) → 2 * t ≤ k → (∀ j, j < k → nt M3 (a + 95) (L + 2 * j) = if j < t ∨ k - 1 - j < t then nt M (a + 95) (L + 2 * (k - 1 - j)) else nt M (a + 95) (L + 2 * j)) → (∀ i, (∀ j, j < k → i ≠ L + 2 * j) → nt M3 (a + 95) i = nt M (a + 95) i) → h_MM_turn_12 G d a (L + 2 * t : Nat) ((L + 2 * k : Nat) - 2 - 2 * (t : Int)) M3 (fun M' => Mv (fun x => x = a + 95) (fun _ => False) M a M' ∧ ln M' (a + 95) = ln M (a + 95) ∧ (∀ j, j < k → nt M' (a + 95) (L + 2 * j) = nt M (a + 95) (L + 2 * (k - 1 - j))) ∧ ∀ i, (∀ j, j < k → i ≠ L + 2 * j) → nt M' (a + 95) i = nt M (a + 95) i) by
    have := H k 0 M (by omega) (Mv.refl hO h (fun q hq => by rw [hq]; exact h.lt n95)) rfl (by omega) (fun j hj => by rw [if_neg (by omega)]) (fun i _ => rfl)
    rw [show L + 2 * 0 = L by first | rfl | omega, show ((L + 2 * k : Nat) : Int) - 2 - 2 * ((0 : Nat) : Int) = ((L + 2 * k : Nat) : Int) - 2 by first | rfl | omega] at this
    exact this
  intro c
  induction c with
  | zero => intro t M3 hc _ _ h2; omega
  | succ c ih =>
    intro t M3 hc m3 l3 ht h3 o3
    have w3 := m3.2.1
    have u3 := w3.nu (p := a + 95) n95
    have c3 : ((L + 2 * k : Nat) : Int) ≤ cp M3 (a + 95) := by rw [← hl, ← l3]; exact u3.2.2.2.1.2
    have ecp : mN M3 (mR M3 (a + 95) 0) = cp M3 (a + 95) := rfl
    refine k_MM_turn_12 m3.1 ⟨by omega, by omega⟩ ⟨by omega, by omega⟩ ⟨fun q => ⟨m3, l3, fun j hj => ?_, o3⟩, fun q => ?_⟩
    · rw [h3 j hj]
      by_cases z : j < t ∨ k - 1 - j < t
      · rw [if_pos z]
      · rw [if_neg z, show k - 1 - j = j by first | rfl | omega]
    · rw [r20 M3 w3]
      refine ⟨w3.1.1, u3.1, (s_MN_at m3.1 u3 (by omega)).mono (fun x M4 h4 => ?_)⟩
      obtain ⟨e4, hx⟩ := h4
      subst e4
      rw [r20 M4 w3, show ((L + 2 * k : Nat) : Int) - 2 - 2 * (t : Int) = ((L + 2 * (k - 1 - t) : Nat) : Int) by first | rfl | omega]
      refine ⟨by rw [hx]; exact (m3.1 _ _).1, m3.1, w3.1.1, u3.1, (s_MN_at m3.1 u3 (by omega)).mono (fun y M5 h5 => ?_)⟩
      obtain ⟨e5, hy⟩ := h5
      subst e5
      have hx32 : i32 x := by rw [hx]; exact (m3.1 _ _).1
      have hy32 : i32 y := by rw [hy]; exact (m3.1 _ _).1
      refine ⟨hy32, m3.1, u3.2.1, by omega, fun M6 e6 => ?_⟩
      rw [Int.toNat_natCast] at e6
      obtain ⟨m6, l6, k6, -⟩ := mv_el hy32 m3.1 w3 n95 e6
      have w6 := m6.2.1
      have u6 := w6.nu (p := a + 95) n95
      have c6 : ((L + 2 * k : Nat) : Int) ≤ cp M6 (a + 95) := by rw [← hl, ← l3, ← l6]; exact u6.2.2.2.1.2
      have ecp6 : mN M6 (mR M6 (a + 95) 0) = cp M6 (a + 95) := rfl
      rw [r20 M6 w6]
      refine ⟨w6.1.1, u6.1, u6.2.1, by omega, fun M7 e7 => ?_⟩
      rw [Int.toNat_natCast] at e7
      obtain ⟨m7, l7, k7, -⟩ := mv_el hx32 m6.1 w6 n95 e7
      have nx := ih (t + 1) M7 (by omega) ((m3.trans m6).trans m7) (by rw [l7, l6, l3]) (by omega) (fun j hj => ?_) (fun i hi => ?_)
      · rw [show ((L + 2 * (t + 1) : Nat) : Int) = ((L + 2 * t : Nat) : Int) + 2 by first | rfl | omega, show ((L + 2 * k : Nat) : Int) - 2 - 2 * ((t + 1 : Nat) : Int) = ((L + 2 * (k - 1 - t) : Nat) : Int) - 2 by first | rfl | omega] at nx
        exact nx
      · rw [k7, k6]
        by_cases z1 : j = k - 1 - t
        · rw [if_pos (by omega), hx, h3 t (by omega), if_neg (by omega), if_pos (by omega), z1, show k - 1 - (k - 1 - t) = t by first | rfl | omega]
        · rw [if_neg (by omega)]
          by_cases z2 : j = t
          · rw [if_pos (by omega), hy, h3 (k - 1 - t) (by omega), if_neg (by omega), if_pos (by omega), z2]
          · rw [if_neg (by omega), h3 j hj]
            by_cases z3 : j < t ∨ k - 1 - j < t
            · rw [if_pos z3, if_pos (by omega)]
            · rw [if_neg z3, if_neg (by omega)]
      · rw [k7, k6, if_neg (hi (k - 1 - t) (by omega)), if_neg (hi t (by omega))]
        exact o3 i hi
end LU
end
section
/-! The reference: looking a name up. -/
section LK2
variable {G : mG} {d a N g T K : Nat} {M M2 : mM}
abbrev lkP (a g : Nat) : Nat → Prop := fun x => x = a + 93 ∨ x = a + 95 ∨ x = g + 7
theorem lkP_in {q : Nat} (hg : g = a + 13 ∨ g = a + 49) (h : lkP a g q) : q ∈ nums a := by
  rcases h with h | h | h
  · rw [h]; exact n93
  · rw [h]; exact n95
  · exact tL_in hg (by omega)
/-- a cell that belongs to no list -/
abbrev frO (o : Nat) : Prop := o < 21192 ∧ o ∉ nuO ∧ ∀ q, q ∈ nuO → o ≠ q + 1
theorem offx {o : Nat} (h : frO o) : a + o < a + 21192 ∧ a + o ∉ nums a ∧ (∀ q, q ∈ nums a → a + o ≠ q + 1) := by
  refine ⟨by have := h.1; omega, fun z => ?_, fun q z e => ?_⟩
  · obtain ⟨o', z1, z2⟩ := nums_off.1 z
    have : o' = o := by omega
    rw [this] at z1
    exact h.2.1 z1
  · obtain ⟨o', z1, z2⟩ := nums_off.1 z
    exact h.2.2 o' z1 (by omega)
theorem goffx {i : Nat} (hg : g = a + 13 ∨ g = a + 49) (h1 : frO (13 + i)) (h2 : frO (49 + i)) : g + i < a + 21192 ∧ g + i ∉ nums a ∧ (∀ q, q ∈ nums a → g + i ≠ q + 1) := by
  rcases hg with z | z
  · rw [z, Nat.add_assoc]
    exact offx h1
  · rw [z, Nat.add_assoc]
    exact offx h2
theorem Mv.cell {P S : Nat → Prop} {M3 : mM} {x : Nat} (m : Mv P S M2 a M3) (w : Wd M2 a) (hin : ∀ q, P q → q ∈ nums a) (hx : x < a + 21192) (h1 : x ∉ nums a) (h2 : ∀ q, q ∈ nums a → x ≠ q + 1) (hS : ¬ S x) : mI M3 x = mI M2 x := by
  have hz := w.2.2.2
  exact (m.2.2.2.1.2.2.2.1 x (by omega) (fun z => h1 (hin x z)) (fun q hq z => by
    rcases (w.arr (hin q hq)).2 with y | y
    · exact h2 q (hin q hq) (z.trans y)
    · omega) hS).1
theorem Mv.cellL {P S : Nat → Prop} {M3 : mM} {x : Nat} (m : Mv P S M2 a M3) (w : Wd M2 a) (hin : ∀ q, P q → q ∈ nums a) (hx : x < a + 21192 ∧ x ∉ nums a ∧ (∀ q, q ∈ nums a → x ≠ q + 1)) (hS : ¬ S x) : mI M3 x = mI M2 x ∧ mL M3 x = mL M2 x := by
  have hz := w.2.2.2
  exact m.2.2.2.1.2.2.2.1 x (by omega) (fun z => hx.2.1 (hin x z)) (fun q hq z => by
    rcases (w.arr (hin q hq)).2 with y | y
    · exact hx.2.2 q (hin q hq) (z.trans y)
    · omega) hS
/-- the draft while its trees are looked at -/
def Lc (M : mM) (a g N T K : Nat) : Prop := mOk M ∧ Wx M a N ∧ Nm M a g N K ∧ nd M g T ∧ mR M a 10 = g ∧ (g = a + 13 ∨ g = a + 49) ∧ (0 ≤ mI M g 6 ∧ mI M g 6 ≤ 60 ∧ 0 ≤ mI M g 12 ∧ mI M g 12 ≤ 12) ∧ T ≤ 30000
/-- nothing but values of names, truths and looks has changed -/
def LO (M : mM) (a g N T K : Nat) (M2 : mM) : Prop := Mv (lkP a g) (fun x => x = a) M a M2 ∧ Lc M2 a g N T K ∧ (∀ i, i ≠ 16 → i ≠ 17 → mI M2 a i = mI M a i) ∧ (∀ n, so M2 g n = so M g n ∧ fp M2 g n = fp M g n ∧ np M2 g n = np M g n) ∧ mI M2 g = mI M g
theorem lkP_no (hg : g = a + 13 ∨ g = a + 49) (h : Wd M a) : ¬ lkP a g (a + 5) ∧ ¬ lkP a g (a + 7) ∧ ¬ lkP a g (a + 9) ∧ ¬ lkP a g (mR M a 2) ∧ ¬ lkP a g (a + 85) ∧ ¬ lkP a g (a + 87) ∧ ¬ lkP a g (a + 89) := by
  have h1 := h.1.2.1
  refine ⟨by omega, by omega, by omega, ?_, by omega, by omega, by omega⟩
  rcases h1 with w | w <;> rw [w.2] <;> omega
/-- a step that changes only those -/
theorem Lc.step {P S : Nat → Prop} {M3 : mM} (h : Lc M2 a g N T K) (m : Mv P S M2 a M3) (hP : ∀ q, P q → lkP a g q) (hS : ∀ x, S x → x = a) (h7 : ln M3 (g + 7) = ln M2 (g + 7)) : Lc M3 a g N T K ∧ (∀ n, so M3 g n = so M2 g n ∧ fp M3 g n = fp M2 g n ∧ np M3 g n = np M2 g n) ∧ mI M3 g = mI M2 g ∧ Mv (lkP a g) (fun x => x = a) M2 a M3 := by
  obtain ⟨hO, hx, hn, hd, h10, hg, hb, hT⟩ := h
  have w := hx.1.1
  have hz := w.2.2.2
  have no := lkP_no hg w
  have hin : ∀ q, P q → q ∈ nums a := fun q hq => lkP_in hg (hP q hq)
  have keep : ∀ q, q ∈ nums a → ¬ lkP a g q → sameN M2 M3 q := fun q hq hne => m.lst hq (fun z => hne (hP q z))
  have gfree : g ∉ nums a := fun z => by
    obtain ⟨o, z1, z2⟩ := nums_off.1 z
    rcases hg with y | y
    · have : o = 13 := by omega
      rw [this] at z1; exact absurd z1 (by decide)
    · have : o = 49 := by omega
      rw [this] at z1; exact absurd z1 (by decide)
  have gI : mI M3 g = mI M2 g := (m.2.2.2.1.2.2.2.1 g (by omega) (fun z => gfree (hin g z)) (fun q hq z => by
    rcases (w.arr (hin q hq)).2 with y | y
    · have : g = q + 1 := by omega
      have q' := hP q hq
      omega
    · omega) (fun z => by have := hS g z; omega)).1
  have o13 := goffx (i := 13) hg (by decide) (by decide)
  have c13 : mI M3 (g + 13) = mI M2 (g + 13) := m.cell w hin o13.1 o13.2.1 o13.2.2 (fun z => by have := hS _ z; omega)
  have k1 := keep (g + 1) (tL_in hg (by omega)) (by omega)
  have k9 := keep (g + 9) (tL_in hg (by omega)) (by omega)
  have k11 := keep (g + 11) (tL_in hg (by omega)) (by omega)
  have k85 := keep _ (n85 (a := a)) no.2.2.2.2.1
  have k87 := keep _ (n87 (a := a)) no.2.2.2.2.2.1
  have k89 := keep _ (n89 (a := a)) no.2.2.2.2.2.2
  refine ⟨⟨m.1, hx.mv m hin (fun z => no.1 (hP _ z)) (fun z => no.2.1 (hP _ z)) (fun z => no.2.2.1 (hP _ z)) (fun z => no.2.2.2.1 (hP _ z)), ?_, fun q hq => ?_, by rw [m.rfl_a w hin]; exact h10, hg, by rw [gI]; exact hb, hT⟩, fun n => ⟨k1.2.1 n, k9.2.1 n, k11.2.1 n⟩, gI, m.mono hP hS (fun q hq => w.lt (lkP_in hg hq))⟩
  · obtain ⟨n1, n2, n3, n4, n5'⟩ := hn
    refine ⟨by rw [k85.1]; exact n1, by rw [k87.1]; exact n2, by rw [k89.1]; exact n3, n4, fun k hk => ?_⟩
    rw [k85.2.1, k87.2.1, k89.2.1, gI, c13]
    exact n5' k hk
  · by_cases z : q = g + 7
    · rw [z, h7]; exact hd _ (by omega)
    · rw [(keep q (tL_in hg hq) (by omega)).1]; exact hd q hq
theorem LO.step {P S : Nat → Prop} {M3 : mM} (h : LO M a g N T K M2) (m : Mv P S M2 a M3) (hP : ∀ q, P q → lkP a g q) (hS : ∀ x, S x → x = a) (h7 : ln M3 (g + 7) = ln M2 (g + 7)) (hf : ∀ i, i ≠ 16 → i ≠ 17 → mI M3 a i = mI M2 a i) : LO M a g N T K M3 := by
  obtain ⟨k1, k2, k3, k4⟩ := h.2.1.step m hP hS h7
  exact ⟨h.1.trans k4, k1, fun i a1 a2 => (hf i a1 a2).trans (h.2.2.1 i a1 a2), fun n => ⟨(k2 n).1.trans (h.2.2.2.1 n).1, (k2 n).2.1.trans (h.2.2.2.1 n).2.1, (k2 n).2.2.trans (h.2.2.2.1 n).2.2⟩, k3.trans h.2.2.2.2⟩
/-- a name as it is known: a rule, or 100 and a variable -/
def nmr (co : Int) (M : mM) (g : Nat) (v : Int) : Prop := (0 ≤ v ∧ v < mI M g 6 ∧ v < 60 ∧ (co ≠ 0 → mI M (g + 13) v.toNat = 0)) ∨ (co = 0 ∧ 100 ≤ v ∧ v < 100 + mI M g 12 ∧ v < 112)
theorem goff {x : Nat} (hg : g = a + 13 ∨ g = a + 49) (hx : x = g + 14 ∨ x = g + 18) : x < a + 21192 ∧ x ∉ nums a ∧ (∀ q, q ∈ nums a → x ≠ q + 1) ∧ x ≠ a := by
  refine ⟨by omega, fun z => ?_, fun q z e => ?_, by omega⟩
  · obtain ⟨o, z1, z2⟩ := nums_off.1 z
    have : o = 27 ∨ o = 31 ∨ o = 63 ∨ o = 67 := by omega
    rcases this with y | y | y | y <;> rw [y] at z1 <;> exact absurd z1 (by decide)
  · obtain ⟨o, z1, z2⟩ := nums_off.1 z
    have : o = 26 ∨ o = 30 ∨ o = 62 ∨ o = 66 := by omega
    rcases this with y | y | y | y <;> rw [y] at z1 <;> exact absurd z1 (by decide)
/-- the type of a name: 1 a truth, 0 a number -/
def tn (M : mM) (g : Nat) (v : Int) : Int := if (if 100 ≤ v then mI M (g + 18) (v - 100).toNat else mI M (g + 14) v.toNat) = 0 then 0 else 1
theorem LO.fm (w : Wd M a) (h : LO M a g N T K M2) : mI M2 (g + 13) = mI M (g + 13) := by
  have hg := h.2.1.2.2.2.2.2.1
  have o13 := goffx (i := 13) hg (by decide) (by decide)
  exact h.1.cell w (fun q hq => lkP_in hg hq) o13.1 o13.2.1 o13.2.2 (by omega)
theorem LO.tn (w : Wd M a) (h : LO M a g N T K M2) : mI M2 (g + 14) = mI M (g + 14) ∧ mI M2 (g + 18) = mI M (g + 18) := by
  have hg := h.2.1.2.2.2.2.2.1
  have a1 := goff (x := g + 14) hg (Or.inl rfl)
  have a2 := goff (x := g + 18) hg (Or.inr rfl)
  exact ⟨h.1.cell w (fun q hq => lkP_in hg hq) a1.1 a1.2.1 a1.2.2.1 a1.2.2.2, h.1.cell w (fun q hq => lkP_in hg hq) a2.1 a2.2.1 a2.2.2.1 a2.2.2.2⟩
end LK2
end
section
/-! The reference: looking at a node. -/
section LA
variable {G : mG} {d a N g T K n L : Nat} {M M2 M4 : mM}
/-- the type of a node, from its parts' types: 1 a truth, 0 a number -/
def tyr (s : Int) (k : Nat) (u : Nat → Int) (t : Int) : Prop := if s = 29 ∨ s = 30 ∨ s = 31 then (∀ j, j < k → u j = 1) ∧ t = 1 else if s = 18 ∨ s = 23 then u 0 = u 1 ∧ t = 1 else if s = 32 then u 0 = 1 ∧ u 1 = t ∧ u 2 = t else (∀ j, j < k → u j = 0) ∧ t = if 19 ≤ s ∧ s ≤ 22 then 1 else 0
def tyn (w : Int → Int) (s v : Int) (k : Nat) (u : Nat → Int) (t : Int) : Prop := if s = 1 then t = w v else if s = 2 then t = 0 else if s = 12 ∨ s = 13 then t = 1 else tyr s k u t
/-- what becomes of the names -/
def laE (co : Int) (M M2 : mM) (a g n k : Nat) (u : Nat → Int) (t : Int) (M3 : mM) : Prop := mI M3 a 16 ≠ 0 ∨ (mI M3 a 16 = mI M2 a 16 ∧ (so M2 g n = 1 → nmr co M g (va M3 g n)) ∧ (∀ k, (k ≠ n ∨ so M2 g n ≠ 1) → va M3 g k = va M2 g k) ∧ tyn (tn M g) (so M2 g n) (va M3 g n) k u t)
/-- how many parts a node has, as the program counts them -/
def pks (nm : Int → Prop) (M : mM) (g T n k : Nat) : Prop := (k = 0 ∧ fp M g n = -1 ∧ (so M g n = 1 ∨ so M g n = 2 ∨ so M g n = 12 ∨ so M g n = 13)) ∨ (1 ≤ k ∧ k ≤ 30000 ∧ ari (so M g n) k ∧ fp M g n = ((n + 1 : Nat) : Int) ∧ ∃ f e : Nat, e ≤ T ∧ Tn nm M g f k (n + 1) e)
theorem s_MM_parts {nm : Int → Prop} {k : Nat} (h : LO M a g N T K M2) (hn : n < T) (hk : pks nm M2 g T n k) : Ci G y_MM_parts (d + 1) [vr a, vi n] M2 (fun r M' => M' = M2 ∧ r = k) := by
  obtain ⟨hO, hw, -, hd, h10, hg, -, hT⟩ := id h.2.1
  have w := hw.1.1
  have gp := w.gp hg
  have r4 : mR M2 g 4 = g + 9 := gp.2.1.2.2.2.2.1
  have u9 := w.nu (tL_in (a := a) (q := g + 9) hg (tLk9 g))
  have l9 := hd (g + 9) (by first | exact tLk9 g | omega)
  refine k_MM_parts hO (i32s (by omega) (by omega)) ?_
  rw [h10, r4]
  refine ⟨w.1.1, gp.1, u9.1, (s_MN_at hO u9 (by omega)).mono (fun z M1 e1 => ?_)⟩
  obtain ⟨e1, hz⟩ := e1
  subst e1
  refine ⟨by rw [hz]; exact (hO _ _).1, hO, ?_⟩
  rcases hk with ⟨k0, k1, -⟩ | ⟨k0, k1, k2, k3, f, e, k4, k5⟩
  · have : z = -1 := hz.trans k1
    rw [this]
    exact k_MM_parts_14 hO ⟨by omega, by omega⟩ (i32s (by omega) (by omega)) ⟨fun _ => ⟨rfl, by omega⟩, fun q => by omega⟩
  · have : z = ((n + 1 : Nat) : Int) := hz.trans k3
    rw [this]
    have := s_pt14 (G := G) (d := d) hO w hg h10 hd (by omega) k f (n + 1) e 0 k0 k5 k4 (by omega) (by omega)
    rw [show (0 : Int) + (k : Int) = (k : Int) by first | rfl | omega] at this
    exact this
end LA
end
section
/-! The reference: looking at a node, to the end. -/
section LB
variable {G : mG} {d a N g T K n L : Nat} {M M2 : mM}
/-- a sum -/
def su (u : Nat → Int) : Nat → Int
  | 0 => 0
  | j + 1 => su u j + u j
theorem su_b {u : Nat → Int} : ∀ {k : Nat}, (∀ j, j < k → u j = 0 ∨ u j = 1) → 0 ≤ su u k ∧ su u k ≤ k ∧ (su u k = k → ∀ j, j < k → u j = 1) ∧ (su u k = 0 → ∀ j, j < k → u j = 0)
  | 0, _ => ⟨by rw [su]; omega, by rw [su]; omega, fun _ j hj => by omega, fun _ j hj => by omega⟩
  | k + 1, h => by
    obtain ⟨a1, a2, a3, a4⟩ := su_b (k := k) (fun j hj => h j (by omega))
    have := h k (by omega)
    rw [su]
    refine ⟨by omega, by omega, fun e j hj => ?_, fun e j hj => ?_⟩
    · by_cases z : j = k
      · rw [z]; omega
      · exact a3 (by omega) j (by omega)
    · by_cases z : j = k
      · rw [z]; omega
      · exact a4 (by omega) j (by omega)
end LB
end
section
/-! The reference: the pile of nodes to look at. -/
section LP
variable {G : mG} {d a N g T K : Nat} {M M2 M3 M4 : mM} {nm : Int → Prop}
/-- only the pile of looks has changed -/
def kp (M : mM) (a g N T K : Nat) (M3 M4 : mM) : Prop := LO M a g N T K M4 ∧ mI M4 a 16 = mI M3 a 16 ∧ (∀ k, va M4 g k = va M3 g k) ∧ sameN M3 M4 (a + 93)
theorem kp.refl (h : LO M a g N T K M3) : kp M a g N T K M3 M3 := ⟨h, rfl, fun _ => rfl, sameN.refl⟩
theorem kp.trans {M5 : mM} (h : kp M a g N T K M3 M4) (k : kp M a g N T K M4 M5) : kp M a g N T K M3 M5 :=
  ⟨k.1, k.2.1.trans h.2.1, fun n => (k.2.2.1 n).trans (h.2.2.1 n), h.2.2.2.trans k.2.2.2⟩
theorem kp.mk {S : Nat → Prop} (h : LO M a g N T K M3) (m : Mv (fun x => x = a + 95) S M3 a M4) (hS : ∀ x, ¬ S x) : kp M a g N T K M3 M4 := by
  obtain ⟨hO, hw, -, -, -, hg, -, -⟩ := id h.2.1
  have w := hw.1.1
  have f := (m.fld w (fun q hq => by rw [hq]; exact n95) (hS a)).1
  have s7 := m.lst (tL_in (a := a) (q := g + 7) hg (tLk7 g)) (by omega)
  exact ⟨h.step m (fun q hq => Or.inr (Or.inl hq)) (fun x hx => (hS x hx).elim) s7.1 (fun i _ _ => by rw [f]), by rw [f], s7.2.1, m.lst n93 (by omega)⟩
theorem Tn.lo {f md n e : Nat} (h : Tn nm M3 g f md n e) (h3 : LO M a g N T K M3) (h4 : LO M a g N T K M4) (hv : ∀ k, n ≤ k → k < e → va M4 g k = va M3 g k) : Tn nm M4 g f md n e := by
  have s : ∀ k, so M4 g k = so M3 g k ∧ fp M4 g k = fp M3 g k ∧ np M4 g k = np M3 g k := fun k => by
    have a1 := h3.2.2.2.1 k
    have a2 := h4.2.2.2.1 k
    exact ⟨a2.1.trans a1.1.symm, a2.2.1.trans a1.2.1.symm, a2.2.2.trans a1.2.2.symm⟩
  exact h.fr (fun k b1 b2 => ⟨(s k).1, hv k b1 b2, (s k).2.1⟩) (fun k _ _ => (s k).2.2) (fun _ => (s n).2.2)
theorem s_lk_push {X : Nat} {v : Int} (hv : i32 v) (h : LO M a g N T K M3) (hl : ln M3 (a + 95) = (X : Int)) (hX : X ≤ 65000) : Cv G y_MN_add d [vr (a + 95), vi v] M3 (fun M4 => mOk M4 ∧ kp M a g N T K M3 M4 ∧ ln M4 (a + 95) = (X + 1 : Nat) ∧ (∀ j, j < X → nt M4 (a + 95) j = nt M3 (a + 95) j) ∧ nt M4 (a + 95) X = v) := by
  obtain ⟨hO, hw, -⟩ := id h.2.1
  have w := hw.1.1
  refine (s_MN_addB (B := 65536) hv hO (w.nu n95) (by omega) (by decide)).mono (fun M4 t => ?_)
  have m := mv_addB w n95 (Or.inr (Or.inr (Or.inl rfl))) t
  obtain ⟨-, -, -, t1, t2, t3, -⟩ := t
  rw [hl] at t1 t2 t3
  rw [Int.toNat_natCast] at t3
  exact ⟨m.1, kp.mk h m (fun _ z => z), by rw [t1]; omega, fun j hj => t2 j (by omega), t3⟩
theorem s_lk_pop {X : Nat} (h : LO M a g N T K M3) (hl : ln M3 (a + 95) = (X + 1 : Nat)) : Ci G y_MN_take d [vr (a + 95)] M3 (fun x M4 => i32 x ∧ mOk M4 ∧ kp M a g N T K M3 M4 ∧ ln M4 (a + 95) = (X : Int) ∧ (∀ j, nt M4 (a + 95) j = nt M3 (a + 95) j) ∧ x = nt M3 (a + 95) X) := by
  obtain ⟨hO, hw, -⟩ := id h.2.1
  have w := hw.1.1
  refine (s_MN_take hO (w.nu n95) (by omega)).mono (fun x M4 t => ?_)
  have m := mv_take w n95 t
  obtain ⟨-, -, -, t1, t2, t3⟩ := t
  rw [hl] at t1 t3
  rw [show (((X + 1 : Nat) : Int) - 1).toNat = X by first | rfl | omega] at t3
  exact ⟨by rw [t3]; exact (hO _ _).1, m.1, kp.mk h m (fun _ z => z), by rw [t1]; omega, t2, t3⟩
/-- the brothers from n on -/
def ci (M : mM) (g n : Nat) : Nat → Int
  | 0 => n
  | j + 1 => np M g (ci M g n j).toNat
theorem ci_succ {n m : Nat} (h : np M g n = (m : Int)) : ∀ j, ci M g n (j + 1) = ci M g m j
  | 0 => h
  | j + 1 => by
    have := ci_succ h j
    rw [ci, this, ci]
theorem Tn.ge : ∀ {f md n e : Nat}, Tn nm M g f md n e → n + md ≤ e := by
  intro f
  induction f with
  | zero => intro md n e h; exact h.elim
  | succ f ih =>
    intro md n e h
    have hl := h.lt
    rw [Tn] at h
    by_cases c0 : md = 0
    · omega
    · rw [if_neg c0] at h
      by_cases c1 : md = 1
      · omega
      · rw [if_neg c1] at h
        obtain ⟨m, -, h2, h3⟩ := h
        have := h2.lt
        have := ih h3
        omega
/-- pushing the parts -/
theorem s_look126 {co : Int} {Q : Int → mM → Prop} {X : Nat} (hco : i32 co) (hX : X ≤ 65000) : ∀ (k f c e Y : Nat) (M3 : mM), 1 ≤ k → Tn nm M3 g f k c e → e ≤ T → LO M a g N T K M3 → ln M3 (a + 95) = (Y : Int) → Y + 2 * k ≤ 65000 → (∀ M4, kp M a g N T K M3 M4 → ln M4 (a + 95) = (Y + 2 * k : Nat) → (∀ j, j < Y → nt M4 (a + 95) j = nt M3 (a + 95) j) → (∀ j, j < k → nt M4 (a + 95) (Y + 2 * j) = ci M g c j ∧ nt M4 (a + 95) (Y + 2 * j + 1) = 0) → h_MM_look_126 G d a co (-1) X M4 Q) → h_MM_look_126 G d a co c X M3 Q := by
  intro k
  induction k with
  | zero => intro f c e Y M3 hk; omega
  | succ k ih =>
    intro f c e Y M3 hk ht he h3 l3 hY hQ
    obtain ⟨hO, hw, -, -, h10, hg, -, hT⟩ := id h3.2.1
    have w := hw.1.1
    have hlt := ht.lt
    have r20 : ∀ {M3 : mM}, Wd M3 a → mR M3 a 20 = a + 95 := fun w => w.1.2.2.2.2.1.2.2.2.2.2.1
    refine k_MM_look_126 hO hco (i32s (by omega) (by omega)) (i32s (by omega) (by omega)) ⟨fun q => by omega, fun _ => ?_⟩
    rw [r20 w]
    refine ⟨w.1.1, (w.nu n95).1, (s_lk_push (i32s (by omega) (by omega)) h3 l3 (by omega)).mono (fun M4 h4 => ?_)⟩
    obtain ⟨o4, k4, l4, e4, v4⟩ := h4
    have w4 := k4.1.2.1.2.1.1.1
    rw [r20 w4]
    refine ⟨o4, w4.1.1, (w4.nu n95).1, (s_lk_push (i32s (by omega) (by omega)) k4.1 l4 (by omega)).mono (fun M5 h5 => ?_)⟩
    obtain ⟨o5, k5, l5, e5, v5⟩ := h5
    obtain ⟨-, hw5, -, hd5, h105, -, -, -⟩ := id k5.1.2.1
    have w5 := hw5.1.1
    have gp := w5.gp hg
    have r5 : mR M5 g 5 = g + 11 := gp.2.1.2.2.2.2.2.1
    have u11 := w5.nu (tL_in (a := a) (q := g + 11) hg (tLk11 g))
    have l11 := hd5 (g + 11) (by omega)
    rw [h105, r5]
    refine ⟨o5, w5.1.1, gp.1, u11.1, (s_MN_at o5 u11 (by omega)).mono (fun z M6 e6 => ?_)⟩
    obtain ⟨e6, hz⟩ := e6
    subst e6
    refine ⟨by rw [hz]; exact (o5 _ _).1, o5, ?_⟩
    have kk := k4.trans k5
    have ht6 : Tn nm M6 g f (k + 1) c e := ht.lo h3 kk.1 (fun j _ _ => kk.2.2.1 j)
    have hnp : np M6 g c = np M g c := (kk.1.2.2.2.1 c).2.2
    have base : ∀ j, j < Y → nt M6 (a + 95) j = nt M3 (a + 95) j := fun j hj => (e5 j (by omega)).trans (e4 j hj)
    have b0 : nt M6 (a + 95) Y = (c : Int) := (e5 Y (by omega)).trans v4
    cases f with
    | zero => exact ht6.elim
    | succ f =>
      rw [Tn, if_neg (by omega)] at ht6
      by_cases k0 : k + 1 = 1
      · rw [if_pos k0] at ht6
        have : z = -1 := hz.trans ht6.1
        rw [this]
        refine hQ M6 kk (by rw [l5]; omega) base (fun j hj => ?_)
        have : j = 0 := by omega
        subst this
        exact ⟨b0, v5⟩
      · rw [if_neg k0] at ht6
        obtain ⟨m, q1, q2, q3⟩ := ht6
        have hzm : z = (m : Int) := hz.trans q1
        rw [hzm]
        refine ih f m e (Y + 2) M6 (by omega) q3 he kk.1 (by rw [l5]) (by omega) (fun M7 k7 l7 e7 v7 => ?_)
        refine hQ M7 (kk.trans k7) (by rw [l7]; omega) (fun j hj => (e7 j (by omega)).trans (base j hj)) (fun j hj => ?_)
        cases j with
        | zero => exact ⟨(e7 Y (by omega)).trans b0, (e7 (Y + 1) (by omega)).trans v5⟩
        | succ j =>
          have := v7 j (by omega)
          rw [ci_succ (hnp.symm.trans q1), show Y + 2 * (j + 1) = Y + 2 + 2 * j by first | rfl | omega]
          exact this
end LP
end
section
/-! The reference: trees with types. -/
section TY
variable {a N g T K : Nat} {M M3 M4 : mM} {nm : Int → Prop} {w : Int → Int}
/-- as Tn, and u tells the brothers' types -/
def Ty (nm : Int → Prop) (w : Int → Int) (M : mM) (g : Nat) : Nat → Nat → Nat → Nat → (Nat → Int) → Prop
  | 0, _, _, _, _ => False
  | f + 1, md, n, e, u => if md = 0 then n < e ∧ (u 0 = 0 ∨ u 0 = 1) ∧ ((e = n + 1 ∧ fp M g n = -1 ∧ (so M g n = 1 ∨ so M g n = 2 ∨ so M g n = 12 ∨ so M g n = 13) ∧ (so M g n = 2 → 0 ≤ va M g n ∧ va M g n < 1000000000) ∧ (so M g n = 1 → nm (va M g n)) ∧ tyn w (so M g n) (va M g n) 0 (fun _ => 0) (u 0)) ∨ ∃ (k : Nat) (c : Nat → Int), 1 ≤ k ∧ ari (so M g n) k ∧ fp M g n = ((n + 1 : Nat) : Int) ∧ Ty nm w M g f k (n + 1) e c ∧ tyn w (so M g n) (va M g n) k c (u 0))
    else if md = 1 then np M g n = -1 ∧ Ty nm w M g f 0 n e u else ∃ m : Nat, np M g n = (m : Int) ∧ Ty nm w M g f 0 n m u ∧ Ty nm w M g f (md - 1) m e (fun j => u (j + 1))
theorem Ty.tn : ∀ {f md n e : Nat} {u : Nat → Int}, Ty nm w M g f md n e u → Tn nm M g f md n e := by
  intro f
  induction f with
  | zero => intro md n e u h; exact h.elim
  | succ f ih =>
    intro md n e u h
    rw [Ty] at h
    rw [Tn]
    by_cases c0 : md = 0
    · rw [if_pos c0] at h ⊢
      obtain ⟨h1, -, h2⟩ := h
      refine ⟨h1, ?_⟩
      rcases h2 with ⟨b1, b2, b3, b4, b5, -⟩ | ⟨k, c, b1, b2, b3, b4, -⟩
      · exact Or.inl ⟨b1, b2, b3, b4, b5⟩
      · exact Or.inr ⟨k, b1, b2, b3, ih b4⟩
    · rw [if_neg c0] at h ⊢
      by_cases c1 : md = 1
      · rw [if_pos c1] at h ⊢
        exact ⟨h.1, ih h.2⟩
      · rw [if_neg c1] at h ⊢
        obtain ⟨m, q1, q2, q3⟩ := h
        exact ⟨m, q1, ih q2, ih q3⟩
theorem Ty.cg : ∀ {f md n e : Nat} {u v : Nat → Int}, Ty nm w M g f md n e u → (∀ j, j < md + (1 - md) → v j = u j) → Ty nm w M g f md n e v := by
  intro f
  induction f with
  | zero => intro md n e u v h; exact h.elim
  | succ f ih =>
    intro md n e u v h hv
    rw [Ty] at h ⊢
    have h0 := hv 0 (by omega)
    by_cases c0 : md = 0
    · rw [if_pos c0] at h ⊢
      rw [h0]
      exact h
    · rw [if_neg c0] at h ⊢
      by_cases c1 : md = 1
      · rw [if_pos c1] at h ⊢
        exact ⟨h.1, ih h.2 (fun j hj => hv j (by omega))⟩
      · rw [if_neg c1] at h ⊢
        obtain ⟨m, q1, q2, q3⟩ := h
        exact ⟨m, q1, ih q2 (fun j hj => hv j (by omega)), ih q3 (fun j hj => hv (j + 1) (by omega))⟩
theorem Ty.fr : ∀ {f md n e : Nat} {u : Nat → Int}, Ty nm w M3 g f md n e u → (∀ k, n ≤ k → k < e → so M4 g k = so M3 g k ∧ va M4 g k = va M3 g k ∧ fp M4 g k = fp M3 g k) → (∀ k, n < k → k < e → np M4 g k = np M3 g k) → (md ≠ 0 → np M4 g n = np M3 g n) → Ty nm w M4 g f md n e u := by
  intro f
  induction f with
  | zero => intro md n e u h; exact h.elim
  | succ f ih =>
    intro md n e u h h1 h2 h3
    have hlt := h.tn.lt
    rw [Ty] at h ⊢
    by_cases c0 : md = 0
    · rw [if_pos c0] at h ⊢
      have k := h1 n (Nat.le_refl _) hlt
      rw [k.1, k.2.1, k.2.2]
      refine ⟨h.1, h.2.1, ?_⟩
      rcases h.2.2 with q | ⟨k', c, q1, q2, q3, q4, q5⟩
      · exact Or.inl q
      · have := q4.tn.lt
        exact Or.inr ⟨k', c, q1, q2, q3, ih q4 (fun x a b => h1 x (by omega) b) (fun x a b => h2 x (by omega) b) (fun _ => h2 (n + 1) (by omega) this), q5⟩
    · rw [if_neg c0] at h ⊢
      by_cases c1 : md = 1
      · rw [if_pos c1] at h ⊢
        exact ⟨by rw [h3 c0]; exact h.1, ih h.2 h1 h2 (fun z => absurd rfl z)⟩
      · rw [if_neg c1] at h ⊢
        obtain ⟨m, q1, q2, q3⟩ := h
        have l1 := q2.tn.lt
        have l2 := q3.tn.lt
        exact ⟨m, by rw [h3 c0]; exact q1, ih q2 (fun x a b => h1 x a (by omega)) (fun x a b => h2 x a (by omega)) (fun z => absurd rfl z), ih q3 (fun x a b => h1 x (by omega) b) (fun x a b => h2 x (by omega) b) (fun _ => h2 m l1 l2)⟩
theorem Ty.lo {f md n e : Nat} {u : Nat → Int} (h : Ty nm w M3 g f md n e u) (h3 : LO M a g N T K M3) (h4 : LO M a g N T K M4) (hv : ∀ k, n ≤ k → k < e → va M4 g k = va M3 g k) : Ty nm w M4 g f md n e u := by
  have s : ∀ k, so M4 g k = so M3 g k ∧ fp M4 g k = fp M3 g k ∧ np M4 g k = np M3 g k := fun k => by
    have a1 := h3.2.2.2.1 k
    have a2 := h4.2.2.2.1 k
    exact ⟨a2.1.trans a1.1.symm, a2.2.1.trans a1.2.1.symm, a2.2.2.trans a1.2.2.symm⟩
  exact h.fr (fun k b1 b2 => ⟨(s k).1, hv k b1 b2, (s k).2.1⟩) (fun k _ _ => (s k).2.2) (fun _ => (s n).2.2)
/-- more names, the same types -/
theorem Ty.mono {nm' : Int → Prop} {w' : Int → Int} (hn : ∀ v, nm v → nm' v ∧ w' v = w v) : ∀ {f md n e : Nat} {u : Nat → Int}, Ty nm w M g f md n e u → Ty nm' w' M g f md n e u := by
  intro f
  induction f with
  | zero => intro md n e u h; exact h.elim
  | succ f ih =>
    intro md n e u h
    rw [Ty] at h ⊢
    by_cases c0 : md = 0
    · rw [if_pos c0] at h ⊢
      refine ⟨h.1, h.2.1, ?_⟩
      rcases h.2.2 with ⟨b1, b2, b3, b4, b5, b6⟩ | ⟨k', c, q1, q2, q3, q4, q5⟩
      · refine Or.inl ⟨b1, b2, b3, b4, fun z => (hn _ (b5 z)).1, ?_⟩
        unfold tyn at b6 ⊢
        by_cases z : so M g n = 1
        · rw [if_pos z] at b6 ⊢
          rw [(hn _ (b5 z)).2]
          exact b6
        · rw [if_neg z] at b6 ⊢
          exact b6
      · refine Or.inr ⟨k', c, q1, q2, q3, ih q4, ?_⟩
        have z : so M g n ≠ 1 := fun z => by unfold ari at q2; omega
        unfold tyn at q5 ⊢
        rw [if_neg z] at q5 ⊢
        exact q5
    · rw [if_neg c0] at h ⊢
      by_cases c1 : md = 1
      · rw [if_pos c1] at h ⊢
        exact ⟨h.1, ih h.2⟩
      · rw [if_neg c1] at h ⊢
        obtain ⟨m, q1, q2, q3⟩ := h
        exact ⟨m, q1, ih q2, ih q3⟩
end TY
end
section
/-! The reference: looking at a tree. -/
section LV
variable {G : mG} {d a N g T K : Nat} {M M2 M3 M4 : mM} {nm : Int → Prop} {Q : Int → mM → Prop} {co : Int}
theorem r20w (w : Wd M a) : mR M a 20 = a + 95 := w.1.2.2.2.2.1.2.2.2.2.2.1
/-- a pair is taken from the pile -/
theorem s_lk2 {n X : Nat} {s : Int} (hco : i32 co) (h : LO M a g N T K M2) (h16 : mI M2 a 16 = 0) (hn : n < T) (hl : ln M2 (a + 95) = (X + 2 : Nat)) (hX : X ≤ 64000) (e0 : nt M2 (a + 95) X = (n : Int)) (e1 : nt M2 (a + 95) (X + 1) = s)
    (hA : (s = 1 ∨ ¬ (0 ≤ fp M2 g n)) → ∀ M5, kp M a g N T K M2 M5 → ln M5 (a + 95) = (X : Int) → (∀ j, nt M5 (a + 95) j = nt M2 (a + 95) j) → Cv G y_MM_lookAt (d + 5) [vr a, vi n, vi co] M5 (fun M6 => mOk M6 ∧ h_MM_look_32 G (d + 5) a co M6 Q))
    (hB : ¬ (s = 1 ∨ ¬ (0 ≤ fp M2 g n)) → ∀ M6, kp M a g N T K M2 M6 → ln M6 (a + 95) = (X + 2 : Nat) → (∀ j, j < X → nt M6 (a + 95) j = nt M2 (a + 95) j) → nt M6 (a + 95) X = (n : Int) → nt M6 (a + 95) (X + 1) = 1 → h_MM_look_126 G (d + 5) a co (fp M2 g n) (X + 2 : Nat) M6 Q) : h_MM_look_32 G (d + 5) a co M2 Q := by
  obtain ⟨hO, hw, -, -, -, hg, -, hT⟩ := id h.2.1
  have w := hw.1.1
  have hl' : mI M2 (a + 95) 1 = (X + 2 : Nat) := hl
  refine k_MM_look_32 hO hco ?_
  rw [r20w w, hl', h16]
  refine ⟨w.1.1, (w.nu n95).1, fun q => by omega, fun _ => (s_lk_pop (X := X + 1) h hl).mono (fun x M4 h4 => ?_)⟩
  obtain ⟨i4, o4, k4, l4, t4, v4⟩ := h4
  have w4 := k4.1.2.1.2.1.1.1
  rw [r20w w4]
  refine ⟨i4, o4, w4.1.1, (w4.nu n95).1, (s_lk_pop (X := X) k4.1 l4).mono (fun y M5 h5 => ?_)⟩
  obtain ⟨i5, o5, k5, l5, t5, v5⟩ := h5
  have kk := k4.trans k5
  obtain ⟨-, hw5, -, hd5, h105, -, -, -⟩ := id kk.1.2.1
  have w5 := hw5.1.1
  have gp := w5.gp hg
  have r4 : mR M5 g 4 = g + 9 := gp.2.1.2.2.2.2.1
  have u9 := w5.nu (tL_in (a := a) (q := g + 9) hg (tLk9 g))
  have l9 := hd5 (g + 9) (by omega)
  have hy : y = (n : Int) := by rw [v5, t4, e0]
  have hx : x = s := by rw [v4, e1]
  subst hy
  subst hx
  rw [h105, r4]
  refine ⟨i5, o5, w5.1.1, gp.1, u9.1, (s_MN_at o5 u9 (by omega)).mono (fun z M6 e6 => ?_)⟩
  obtain ⟨e6, hz⟩ := e6
  subst e6
  have hz' : z = fp M2 g n := by
    have b1 := (kk.1.2.2.2.1 n).2.1
    have b2 := (h.2.2.2.1 n).2.1
    exact hz.trans (b1.trans b2.symm)
  refine ⟨by rw [hz]; exact (o5 _ _).1, o5, ?_⟩
  rw [hz']
  refine ⟨fun q => ⟨w5.1.1, hA q M6 kk l5 (fun j => (t5 j).trans (t4 j))⟩, fun q => ?_⟩
  rw [r20w w5]
  refine ⟨w5.1.1, (w5.nu n95).1, (s_lk_push (i32s (by omega) (by omega)) kk.1 l5 (by omega)).mono (fun M7 h7 => ?_)⟩
  obtain ⟨o7, k7, l7, t7, v7⟩ := h7
  have w7 := k7.1.2.1.2.1.1.1
  rw [r20w w7]
  refine ⟨o7, w7.1.1, (w7.nu n95).1, (s_lk_push (i32s (by omega) (by omega)) k7.1 l7 (by omega)).mono (fun M8 h8 => ?_)⟩
  obtain ⟨o8, k8, l8, t8, v8⟩ := h8
  have w8 := k8.1.2.1.2.1.1.1
  have l8' : mI M8 (a + 95) 1 = (X + 2 : Nat) := l8
  rw [r20w w8, l8']
  exact ⟨o8, w8.1.1, (w8.nu n95).1, hB q M8 (kk.trans (k7.trans k8)) l8 (fun j hj => by rw [t8 j (by omega), t7 j hj, t5, t4]) (by rw [t8 X (by omega), v7]) v8⟩
/-- trees have been looked at -/
def lkR (co : Int) (M : mM) (a g N T K Lk L kk f md n e : Nat) (M2 M3 : mM) : Prop := LO M a g N T K M3 ∧ mI M3 a 16 = 0 ∧ ln M3 (a + 95) = (Lk : Int) ∧ (∀ j, j < Lk → nt M3 (a + 95) j = nt M2 (a + 95) j) ∧ ln M3 (a + 93) = (L + kk : Nat) ∧ (∀ j, j < L → nt M3 (a + 93) j = nt M2 (a + 93) j) ∧ (∃ u : Nat → Int, (∀ j, j < kk → nt M3 (a + 93) (L + j) = u j) ∧ (∀ j, j < kk → u j = 0 ∨ u j = 1) ∧ Ty (nmr co M g) (tn M g) M3 g f md n e u) ∧ ∀ j, (j < n ∨ e ≤ j) → va M3 g j = va M2 g j
end LV
end
section
/-! The reference: look. -/
section LW
variable {G : mG} {d a N g T K : Nat} {M : mM} {nm : Int → Prop} {co : Int}
/-- a tree has been looked at: a fault was told, or its names are known -/
def lkQ (co : Int) (M : mM) (a g N T K n e : Nat) (r : Int) (M3 : mM) : Prop := LO M a g N T K M3 ∧ (r = 0 ∨ r = 1) ∧ (mI M3 a 16 ≠ 0 ∨ (mI M3 a 16 = 0 ∧ (∃ f, Ty (nmr co M g) (tn M g) M3 g f 0 n e (fun _ => r)) ∧ ∀ j, (j < n ∨ e ≤ j) → va M3 g j = va M g j))
theorem LO.refl (h : Lc M a g N T K) : LO M a g N T K M := by
  have w := h.2.1.1.1
  exact ⟨Mv.refl h.1 w (fun q hq => w.lt (lkP_in h.2.2.2.2.2.1 hq)), h, fun _ _ _ => rfl, fun _ => ⟨rfl, rfl, rfl⟩, rfl⟩
end LW
end
section
/-! The reference: a rule is read and looked at. -/
section RU
variable {G : mG} {d a N g T K i j : Nat} {M M2 M3 : mM} {r co tr : Int}
theorem goff0 (hg : g = a + 13 ∨ g = a + 49) : g < a + 21192 ∧ g ∉ nums a ∧ (∀ q, q ∈ nums a → g ≠ q + 1) ∧ g ≠ a := by
  refine ⟨by omega, fun z => ?_, fun q z e => ?_, by omega⟩
  · obtain ⟨o, z1, z2⟩ := nums_off.1 z
    have : o = 13 ∨ o = 49 := by omega
    rcases this with y | y <;> rw [y] at z1 <;> exact absurd z1 (by decide)
  · obtain ⟨o, z1, z2⟩ := nums_off.1 z
    have : o = 12 ∨ o = 48 := by omega
    rcases this with y | y <;> rw [y] at z1 <;> exact absurd z1 (by decide)
abbrev rlP (a g : Nat) : Nat → Prop := fun x => trP a g x ∨ lkP a g x
theorem rlP_in {q : Nat} (hg : g = a + 13 ∨ g = a + 49) (h : rlP a g q) : q ∈ nums a := h.elim (fun z => trP_in hg z) (fun z => lkP_in hg z)
/-- a tree has been made -/
theorem tr_lc (h : Lc M a g N T K) (hT : T + (j - i) ≤ 30000) (t : trQ M a g N T i j r M2) : r = T ∧ ∃ T', T < T' ∧ T' ≤ T + (j - i) ∧ Lc M2 a g N T' K ∧ To (nmw (wk M a) N) M2 g 0 T T' ∧ (mI M2 a = mI M a ∧ mI M2 g = mI M g ∧ (∀ co, nmr co M2 g = nmr co M g) ∧ tn M2 g = tn M g) ∧ Mv (rlP a g) (fun x => x = a) M a M2 ∧ ∀ n, n < T → so M2 g n = so M g n ∧ va M2 g n = va M g n ∧ fp M2 g n = fp M g n ∧ np M2 g n = np M g n := by
  obtain ⟨m, e, T', hn, t1, t2, t3, t4, t5⟩ := t
  obtain ⟨hO, hx, hnm, hd, h10, hg, hb, -⟩ := h
  have w := hx.1.1
  have hin : ∀ q, trP a g q → q ∈ nums a := fun q hq => trP_in hg hq
  have h2 : ¬ trP a g (mR M a 2) := by
    rcases w.1.2.1 with y | y <;> rw [y.2] <;> omega
  have a0 := goff0 hg
  have a1 := goff (x := g + 14) hg (Or.inl rfl)
  have a2 := goff (x := g + 18) hg (Or.inr rfl)
  have gI := m.cell w hin a0.1 a0.2.1 a0.2.2.1 (fun z => z)
  have o13 := goffx (i := 13) hg (by decide) (by decide)
  have g13 := m.cell w hin o13.1 o13.2.1 o13.2.2 (fun z => z)
  have g14 := m.cell w hin a1.1 a1.2.1 a1.2.2.1 (fun z => z)
  have g18 := m.cell w hin a2.1 a2.2.1 a2.2.2.1 (fun z => z)
  have aI := (m.fld w hin (fun z => z)).1
  have k85 := m.lst (n85 (a := a)) (by omega)
  have k87 := m.lst (n87 (a := a)) (by omega)
  have k89 := m.lst (n89 (a := a)) (by omega)
  refine ⟨e, T', t1, t2, ⟨m.1, hx.mv m hin (by omega) (by omega) (by omega) h2, ?_, hn, by rw [m.rfl_a w hin]; exact h10, hg, by rw [gI]; exact hb, by omega⟩, t3, ⟨aI, gI, ?_, ?_⟩, m.mono (fun q hq => Or.inl hq) (fun x hx => hx.elim) (fun q hq => w.lt (rlP_in hg hq)), t5⟩
  · obtain ⟨n1, n2, n3, n4, n5'⟩ := hnm
    refine ⟨by rw [k85.1]; exact n1, by rw [k87.1]; exact n2, by rw [k89.1]; exact n3, n4, fun k hk => ?_⟩
    rw [k85.2.1, k87.2.1, k89.2.1, gI, g13]
    exact n5' k hk
  · intro co
    funext v
    unfold nmr
    rw [gI, g13]
  · funext v
    unfold tn
    rw [g14, g18]
/-- a tree has been made and looked at -/
def rlR (co : Int) (M : mM) (a g N T K T' : Nat) (r : Int) (M3 : mM) : Prop := Mv (rlP a g) (fun x => x = a) M a M3 ∧ Lc M3 a g N T' K ∧ (∀ i, i ≠ 16 → i ≠ 17 → mI M3 a i = mI M a i) ∧ mI M3 g = mI M g ∧ (r = 0 ∨ r = 1) ∧ (mI M3 a 16 ≠ 0 ∨ (mI M3 a 16 = 0 ∧ (∃ f, Ty (nmr co M g) (tn M g) M3 g f 0 T T' (fun _ => r)) ∧ ∀ n, n < T → so M3 g n = so M g n ∧ va M3 g n = va M g n ∧ fp M3 g n = fp M g n ∧ np M3 g n = np M g n))
theorem tl_rl {T' : Nat} (hL : Lc M a g N T K) (h : Lc M2 a g N T' K) (e : mI M2 a = mI M a ∧ mI M2 g = mI M g ∧ (∀ co, nmr co M2 g = nmr co M g) ∧ tn M2 g = tn M g) (m : Mv (rlP a g) (fun x => x = a) M a M2) (s : ∀ n, n < T → so M2 g n = so M g n ∧ va M2 g n = va M g n ∧ fp M2 g n = fp M g n ∧ np M2 g n = np M g n) (q : lkQ co M2 a g N T' K T T' r M3) : rlR co M a g N T K T' r M3 := by
  obtain ⟨q1, q2, q3⟩ := q
  have hg := h.2.2.2.2.2.1
  have w2 := h.2.1.1.1
  refine ⟨m.trans (q1.1.mono (fun x hx => Or.inr hx) (fun x hx => hx) (fun x hx => w2.lt (rlP_in hg hx))), q1.2.1, fun i i1 i2 => by rw [q1.2.2.1 i i1 i2, e.1], q1.2.2.2.2.trans e.2.1, q2, ?_⟩
  rcases q3 with z | ⟨z1, z2, z3⟩
  · exact Or.inl z
  · rw [e.2.2.1, e.2.2.2] at z2
    refine Or.inr ⟨z1, z2, fun n hn => ?_⟩
    obtain ⟨b1, b2, b3, b4⟩ := s n hn
    obtain ⟨c1, c2, c3⟩ := q1.2.2.2.1 n
    exact ⟨c1.trans b1, (z3 n (Or.inl hn)).trans b2, c2.trans b3, c3.trans b4⟩
end RU
end
section
/-! The reference: the pile of what is to do. -/
section TD
variable {G : mG} {d a : Nat} {M : mM}
theorem n99 : a + 99 ∈ nums a := nums_o (by decide)
theorem r24w (w : Wd M a) : mR M a 24 = a + 99 := w.1.2.2.2.2.1.2.2.2.2.2.2.2.2.1
/-- two numbers are pushed -/
theorem s_MM_todo {X : Nat} {u v : Int} (hu : i32 u) (hv : i32 v) (hO : mOk M) (h : Wd M a) (hl : ln M (a + 99) = (X : Int)) (hX : X ≤ 65000) : Cv G y_MM_todo (d + 1) [vr a, vi u, vi v] M (fun M' => mOk M' ∧ Mv (fun x => x = a + 99) (fun _ => False) M a M' ∧ ln M' (a + 99) = (X + 2 : Nat) ∧ (∀ j, j < X → nt M' (a + 99) j = nt M (a + 99) j) ∧ nt M' (a + 99) X = u ∧ nt M' (a + 99) (X + 1) = v) := by
  refine k_MM_todo hO hu hv ?_
  rw [r24w h]
  refine ⟨h.1.1, (h.nu n99).1, (s_MN_addB (B := 65536) hu hO (h.nu n99) (by omega) (by decide)).mono (fun M1 t => ?_)⟩
  have m1 := mv_addB h n99 (Or.inr (Or.inr (Or.inr rfl))) t
  have w1 := m1.2.1
  obtain ⟨-, -, -, t1, t2, t3, -⟩ := t
  rw [hl] at t1 t2 t3
  rw [Int.toNat_natCast] at t3
  rw [r24w w1]
  refine ⟨m1.1, w1.1.1, (w1.nu n99).1, (s_MN_addB (B := 65536) hv m1.1 (w1.nu n99) (by omega) (by decide)).mono (fun M2 t' => ?_)⟩
  have m2 := mv_addB w1 n99 (Or.inr (Or.inr (Or.inr rfl))) t'
  obtain ⟨-, -, -, s1, s2, s3, -⟩ := t'
  rw [t1] at s1 s2 s3
  rw [show ((X : Int) + 1).toNat = X + 1 by first | rfl | omega] at s3
  exact ⟨m2.1, m2.1, m1.trans m2, by rw [s1]; omega, fun j hj => by rw [s2 j (by omega), t2 j (by omega)], by rw [s2 X (by omega)]; exact t3, s3⟩
theorem s_MM_turnTodo {L k : Nat} (hO : mOk M) (h : Wd M a) (hl : ln M (a + 99) = (L + 2 * k : Nat)) (hb : L + 2 * k ≤ 200000) (hk : 1 ≤ k) : Cv G y_MM_turnTodo (d + 1) [vr a, vi L] M (fun M' => Mv (fun x => x = a + 99) (fun _ => False) M a M' ∧ ln M' (a + 99) = ln M (a + 99) ∧ (∀ j, j < k → nt M' (a + 99) (L + 2 * j + 1) = nt M (a + 99) (L + 2 * (k - 1 - j) + 1)) ∧ ∀ i, (∀ j, j < k → i ≠ L + 2 * j + 1) → nt M' (a + 99) i = nt M (a + 99) i) := by
  have r24 : ∀ (M3 : mM), Wd M3 a → mR M3 a 24 = a + 99 := fun M3 w => w.1.2.2.2.2.1.2.2.2.2.2.2.2.2.1
  have l0 : mI M (a + 99) 1 = (L + 2 * k : Nat) := hl
  refine k_MM_turnTodo hO ⟨by omega, by omega⟩ ?_
  rw [r24 M h, l0]
  refine ⟨h.1.1, (h.nu n99).1, ?_⟩
  -- t pairs have been turned
  suffices H : ∀ (c t : Nat) (M3 : mM), c + t = k → Mv (fun x => x = a + 99) (fun _ => False) M a M3 → ln M3 (a + 99) = ln M (a + 99) → 2 * t ≤ k → (∀ j, j < k → nt M3 (a + 99) (L + 2 * j + 1) = if j < t ∨ k - 1 - j < t then nt M (a + 99) (L + 2 * (k - 1 - j) + 1) else nt M (a + 99) (L + 2 * j + 1)) → (∀ i, (∀ j, j < k → i ≠ L + 2 * j + 1) → nt M3 (a + 99) i = nt M (a + 99) i) → h_MM_turnTodo_12 G d a (L + 2 * t : Nat) ((L + 2 * k : Nat) - 2 - 2 * (t : Int)) M3 (fun M' => Mv (fun x => x = a + 99) (fun _ => False) M a M' ∧ ln M' (a + 99) = ln M (a + 99) ∧ (∀ j, j < k → nt M' (a + 99) (L + 2 * j + 1) = nt M (a + 99) (L + 2 * (k - 1 - j) + 1)) ∧ ∀ i, (∀ j, j < k → i ≠ L + 2 * j + 1) → nt M' (a + 99) i = nt M (a + 99) i) by
    have := H k 0 M (by omega) (Mv.refl hO h (fun q hq => by rw [hq]; exact h.lt n99)) rfl (by omega) (fun j hj => by rw [if_neg (by omega)]) (fun i _ => rfl)
    rw [show L + 2 * 0 = L by first | rfl | omega, show ((L + 2 * k : Nat) : Int) - 2 - 2 * ((0 : Nat) : Int) = ((L + 2 * k : Nat) : Int) - 2 by first | rfl | omega] at this
    exact this
  intro c
  induction c with
  | zero => intro t M3 hc _ _ h2; omega
  | succ c ih =>
    intro t M3 hc m3 l3 ht h3 o3
    have w3 := m3.2.1
    have u3 := w3.nu (p := a + 99) n99
    have c3 : ((L + 2 * k : Nat) : Int) ≤ cp M3 (a + 99) := by rw [← hl, ← l3]; exact u3.2.2.2.1.2
    have ecp : mN M3 (mR M3 (a + 99) 0) = cp M3 (a + 99) := rfl
    refine k_MM_turnTodo_12 m3.1 ⟨by omega, by omega⟩ ⟨by omega, by omega⟩ ⟨fun q => ⟨m3, l3, fun j hj => ?_, o3⟩, fun q => ?_⟩
    · rw [h3 j hj]
      by_cases z : j < t ∨ k - 1 - j < t
      · rw [if_pos z]
      · rw [if_neg z, show k - 1 - j = j by first | rfl | omega]
    · rw [r24 M3 w3, show ((L + 2 * t : Nat) : Int) + 1 = ((L + 2 * t + 1 : Nat) : Int) by first | rfl | omega, show ((L + 2 * k : Nat) : Int) - 2 - 2 * (t : Int) + 1 = ((L + 2 * (k - 1 - t) + 1 : Nat) : Int) by first | rfl | omega]
      refine ⟨w3.1.1, u3.1, (s_MN_at m3.1 u3 (by omega)).mono (fun x M4 h4 => ?_)⟩
      obtain ⟨e4, hx⟩ := h4
      subst e4
      rw [r24 M4 w3]
      refine ⟨by rw [hx]; exact (m3.1 _ _).1, m3.1, w3.1.1, u3.1, (s_MN_at m3.1 u3 (by omega)).mono (fun y M5 h5 => ?_)⟩
      obtain ⟨e5, hy⟩ := h5
      subst e5
      have hx32 : i32 x := by rw [hx]; exact (m3.1 _ _).1
      have hy32 : i32 y := by rw [hy]; exact (m3.1 _ _).1
      refine ⟨hy32, m3.1, u3.2.1, by omega, fun M6 e6 => ?_⟩
      rw [Int.toNat_natCast] at e6
      obtain ⟨m6, l6, k6, -⟩ := mv_el hy32 m3.1 w3 n99 e6
      have w6 := m6.2.1
      have u6 := w6.nu (p := a + 99) n99
      have c6 : ((L + 2 * k : Nat) : Int) ≤ cp M6 (a + 99) := by rw [← hl, ← l3, ← l6]; exact u6.2.2.2.1.2
      have ecp6 : mN M6 (mR M6 (a + 99) 0) = cp M6 (a + 99) := rfl
      rw [r24 M6 w6]
      refine ⟨w6.1.1, u6.1, u6.2.1, by omega, fun M7 e7 => ?_⟩
      rw [Int.toNat_natCast] at e7
      obtain ⟨m7, l7, k7, -⟩ := mv_el hx32 m6.1 w6 n99 e7
      have nx := ih (t + 1) M7 (by omega) ((m3.trans m6).trans m7) (by rw [l7, l6, l3]) (by omega) (fun j hj => ?_) (fun i hi => ?_)
      · rw [show ((L + 2 * (t + 1) : Nat) : Int) = ((L + 2 * t : Nat) : Int) + 2 by first | rfl | omega, show ((L + 2 * k : Nat) : Int) - 2 - 2 * ((t + 1 : Nat) : Int) = ((L + 2 * k : Nat) : Int) - 2 - 2 * (t : Int) - 2 by first | rfl | omega] at nx
        exact nx
      · rw [k7, k6]
        by_cases z1 : j = k - 1 - t
        · rw [if_pos (by omega), hx, h3 t (by omega), if_neg (by omega), if_pos (by omega), z1, show k - 1 - (k - 1 - t) = t by first | rfl | omega]
        · rw [if_neg (by omega)]
          by_cases z2 : j = t
          · rw [if_pos (by omega), hy, h3 (k - 1 - t) (by omega), if_neg (by omega), if_pos (by omega), z2]
          · rw [if_neg (by omega), h3 j hj]
            by_cases z3 : j < t ∨ k - 1 - j < t
            · rw [if_pos z3, if_pos (by omega)]
            · rw [if_neg z3, if_neg (by omega)]
      · rw [k7, k6, if_neg (hi (k - 1 - t) (by omega)), if_neg (hi t (by omega))]
        exact o3 i hi
end TD
end
section
/-! The reference: a name's value. -/
section NV
variable {G : mG} {F : Prop} {d a g R W T V X : Nat} {M : mM}
/-- a game whose constants, met formulas and variables have values of their types -/
def Ev (F : Prop) (M : mM) (a g R W T : Nat) : Prop := mOk M ∧ Wd M a ∧ (g = a + 13 ∨ g = a + 49) ∧ nd M g T ∧ (R ≤ 60 ∧ W ≤ 12 ∧ T ≤ 16384) ∧ (∀ r : Nat, r < R → (mI M (g + 13) r = 0 → vok (tn M g r) (mL M (g + 16) r) (mL M (g + 17) r)) ∧ (F → mI M (g + 13) r ≠ 0 → mI M (a + 102) r ≠ 0 → vok (tn M g r) (mL M (a + 103) r) (mL M (a + 104) r))) ∧ (F → ∀ v : Nat, v < W → vok (tn M g (100 + v)) (mI M (a + 101) v) (if mI M (g + 18) v = 0 then 1 else 0))
/-- the names a tree may hold: constants, and with F formulas and variables too -/
def nme (F : Prop) (M : mM) (g R W : Nat) (v : Int) : Prop := (0 ≤ v ∧ v < R ∧ (F ∨ mI M (g + 13) v.toNat = 0)) ∨ (F ∧ 100 ≤ v ∧ v < 100 + W)
/-- a formula is to be worked out -/
def nfQ (F : Prop) (M : mM) (a g X : Nat) (v : Int) (M' : mM) : Prop := F ∧ v < 100 ∧ mI M (g + 13) v.toNat ≠ 0 ∧ mI M (a + 102) v.toNat = 0 ∧ Mv (fun x => x = a + 99) (fun _ => False) M a M' ∧ ln M' (a + 99) = (X + 4 : Nat) ∧ (∀ j, j < X → nt M' (a + 99) j = nt M (a + 99) j) ∧ nt M' (a + 99) X = 3 ∧ nt M' (a + 99) (X + 1) = v ∧ nt M' (a + 99) (X + 2) = 0 ∧ nt M' (a + 99) (X + 3) = mI M (g + 15) v.toNat
theorem goff15 (hg : g = a + 13 ∨ g = a + 49) : g + 15 < a + 21192 ∧ g + 15 ∉ nums a ∧ (∀ q, q ∈ nums a → g + 15 ≠ q + 1) := by
  refine ⟨by omega, fun z => ?_, fun q z e => ?_⟩
  · obtain ⟨o, z1, z2⟩ := nums_off.1 z
    have : o = 28 ∨ o = 64 := by omega
    rcases this with y | y <;> rw [y] at z1 <;> exact absurd z1 (by decide)
  · obtain ⟨o, z1, z2⟩ := nums_off.1 z
    have : o = 27 ∨ o = 63 := by omega
    rcases this with y | y <;> rw [y] at z1 <;> exact absurd z1 (by decide)
end NV
end
section
/-! The reference: and, or, ask go on or end. -/
section CH
variable {G : mG} {F : Prop} {d a g R W T V X n c1 c2 : Nat} {M : mM}
end CH
end
section
/-! The reference: a node's value from its parts' values. -/
section FI2
variable {G : mG} {F : Prop} {d a g R W T V n : Nat} {M : mM} {Q : mM → Prop}
theorem s_fin32 {nm : Int → Prop} {s p : Int} (is : i32 s) (ip : i32 p) (h : Ev F M a g R W T) : ∀ (k f n e c : Nat), 1 ≤ k → Tn nm M g f k n e → e ≤ T → c + k ≤ 100000 → h_MM_finish_32 G d a g s p (c + k : Nat) (-1) M Q → h_MM_finish_32 G d a g s p c n M Q := by
  obtain ⟨hO, w, hg, hd, hB, -, -⟩ := h
  have gp := w.gp hg
  have i11 := tL_in (a := a) (q := g + 11) hg (tLk11 g)
  have l11 := hd (g + 11) (by first | exact tLk11 g | omega)
  have r5 : mR M g 5 = g + 11 := gp.2.1.2.2.2.2.2.1
  intro k
  induction k with
  | zero => intro f n e c hk; omega
  | succ k ih =>
    intro f n e c hk ht he hc hQ
    have hlt := ht.lt
    cases f with
    | zero => exact ht.elim
    | succ f =>
      have ht' : Tn nm M g (f + 1) (k + 1) n e := ht
      rw [Tn, if_neg (by omega)] at ht'
      refine k_MM_finish_32 hO is ip (i32s (by omega) (by omega)) (i32s (by omega) (by omega)) ⟨fun q => by omega, fun _ => ?_⟩
      rw [r5]
      refine ⟨gp.1, (w.nu i11).1, (s_MN_at hO (w.nu i11) (by omega)).mono (fun z M1 e1 => ?_)⟩
      obtain ⟨e1, hz⟩ := e1
      subst e1
      refine ⟨by rw [hz]; exact (hO _ _).1, hO, ?_⟩
      by_cases k0 : k + 1 = 1
      · rw [if_pos k0] at ht'
        rw [show z = -1 from hz.trans ht'.1, show (c : Int) + 1 = ((c + (k + 1) : Nat) : Int) by first | rfl | omega]
        exact hQ
      · rw [if_neg k0] at ht'
        obtain ⟨m, q1, q2, q3⟩ := ht'
        rw [show z = (m : Int) from hz.trans q1, show (c : Int) + 1 = ((c + 1 : Nat) : Int) by first | rfl | omega]
        refine ih f m e (c + 1) (by omega) q3 he (by omega) ?_
        rw [show c + 1 + k = c + (k + 1) by first | rfl | omega]
        exact hQ
/-- a field is written first -/
theorem rkQ.pre {t : Int} {M2 M' : mM} (m : Mv (fun _ => False) (fun x => x = a) M a M2) (f : ∀ i, i ≠ 23 → mI M2 a i = mI M a i) (w : Wd M a) (h : rkQ M2 a V t M') : rkQ M a V t M' := by
  have z := w.2.2.2
  have cl : ∀ x, x < mZ M → x ≠ a → mL M2 x = mL M x := fun x hx hne => (m.2.2.2.1.2.2.2.1 x hx (fun y => y) (fun p y => y.elim) hne).2
  obtain ⟨h1, h2, h3, h4⟩ := h
  refine ⟨(m.mono (fun _ y => y) (fun x y => Or.inl y) (fun _ y => y.elim)).trans h1, fun i i1 i2 i3 => (h2 i i1 i2 i3).trans (f i i3), fun k hk => ⟨by rw [(h3 k hk).1, cl _ (by omega) (by omega)], by rw [(h3 k hk).2, cl _ (by omega) (by omega)]⟩, ?_⟩
  rw [← f 16 (by omega)]
  exact h4
end FI2
end
section
/-! The reference: finish. -/
section FI3
variable {G : mG} {F : Prop} {d a g R W T V n : Nat} {M : mM}
end FI3
end
section
/-! The reference: a name is known. -/
section KN
variable {G : mG} {d a K : Nat} {M : mM}
abbrev knP (a : Nat) : Nat → Prop := fun x => x = a + 85 ∨ x = a + 87 ∨ x = a + 89
theorem knP_in {q : Nat} (h : knP a q) : q ∈ nums a := by
  rcases h with h | h | h
  · rw [h]; exact n85
  · rw [h]; exact n87
  · rw [h]; exact n89
theorem s_MM_know {u v x : Int} (hu : i32 u) (hv : i32 v) (hx : i32 x) (hO : mOk M) (h : Wd M a) (l1 : ln M (a + 85) = (K : Int)) (l2 : ln M (a + 87) = (K : Int)) (l3 : ln M (a + 89) = (K : Int)) (hK : K ≤ 1000) : Cv G y_MM_know (d + 1) [vr a, vi u, vi v, vi x] M (fun M' => mOk M' ∧ Mv (knP a) (fun _ => False) M a M' ∧ (ln M' (a + 85) = (K + 1 : Nat) ∧ ln M' (a + 87) = (K + 1 : Nat) ∧ ln M' (a + 89) = (K + 1 : Nat)) ∧ (∀ j, j < K → nt M' (a + 85) j = nt M (a + 85) j ∧ nt M' (a + 87) j = nt M (a + 87) j ∧ nt M' (a + 89) j = nt M (a + 89) j) ∧ nt M' (a + 85) K = u ∧ nt M' (a + 87) K = v ∧ nt M' (a + 89) K = x) := by
  have r13 : ∀ {M3 : mM}, Wd M3 a → mR M3 a 13 = a + 85 := fun w => w.1.2.2.2.2.1.1
  have r14 : ∀ {M3 : mM}, Wd M3 a → mR M3 a 14 = a + 87 := fun w => w.1.2.2.2.2.1.2.1
  have r15 : ∀ {M3 : mM}, Wd M3 a → mR M3 a 15 = a + 89 := fun w => w.1.2.2.2.2.1.2.2.1
  have lt : ∀ {M5 : mM}, Wd M5 a → ∀ q, knP a q → q < mZ M5 := fun w q hq => w.lt (knP_in hq)
  refine k_MM_know hO hu hv hx ?_
  rw [r13 h]
  refine ⟨h.1.1, (h.nu n85).1, (s_MN_add hu hO (h.nu n85) (by omega)).mono (fun M1 t => ?_)⟩
  have m1 := mv_add h n85 t
  have w1 := m1.2.1
  obtain ⟨-, -, -, a1, a2, a3, -⟩ := t
  rw [l1] at a1 a2 a3
  rw [Int.toNat_natCast] at a3
  have s17 := m1.lst (n87 (a := a)) (by omega)
  have s19 := m1.lst (n89 (a := a)) (by omega)
  rw [r14 w1]
  refine ⟨m1.1, w1.1.1, (w1.nu n87).1, (s_MN_add hv m1.1 (w1.nu n87) (by rw [s17.1]; omega)).mono (fun M2 t => ?_)⟩
  have m2 := mv_add w1 n87 t
  have w2 := m2.2.1
  obtain ⟨-, -, -, b1, b2, b3, -⟩ := t
  rw [s17.1, l2] at b1 b2 b3
  rw [Int.toNat_natCast] at b3
  have s25 := m2.lst (n85 (a := a)) (by omega)
  have s29 := m2.lst (n89 (a := a)) (by omega)
  rw [r15 w2]
  refine ⟨m2.1, w2.1.1, (w2.nu n89).1, (s_MN_add hx m2.1 (w2.nu n89) (by rw [s29.1, s19.1]; omega)).mono (fun M3 t => ?_)⟩
  have m3 := mv_add w2 n89 t
  obtain ⟨-, -, -, c1, c2, c3, -⟩ := t
  rw [s29.1, s19.1, l3] at c1 c2 c3
  rw [Int.toNat_natCast] at c3
  have s35 := m3.lst (n85 (a := a)) (by omega)
  have s37 := m3.lst (n87 (a := a)) (by omega)
  refine ⟨m3.1, m3.1, ((m1.mono (fun q hq => Or.inl hq) (fun _ z => z) (lt h)).trans (m2.mono (fun q hq => Or.inr (Or.inl hq)) (fun _ z => z) (lt w1))).trans (m3.mono (fun q hq => Or.inr (Or.inr hq)) (fun _ z => z) (lt w2)), ⟨by rw [s35.1, s25.1, a1]; omega, by rw [s37.1, b1]; omega, by rw [c1]; omega⟩, fun j hj => ⟨by rw [s35.2.1, s25.2.1, a2 j (by omega)], by rw [s37.2.1, b2 j (by omega), s17.2.1], by rw [c2 j (by omega), s29.2.1, s19.2.1]⟩, by rw [s35.2.1, s25.2.1]; exact a3, by rw [s37.2.1]; exact b3, c3⟩
end KN
end
section
/-! The reference: a node is begun. -/
section BG
variable {G : mG} {F : Prop} {d a g R W T V X n : Nat} {M : mM}
theorem Ev.rd {p j : Nat} {Q : Int → mM → Prop} (h : Ev F M a g R W T) (hp : p ∈ nums a) (hk : (j : Int) < ln M p) (hQ : ∀ z, z = nt M p j → i32 z → Q z M) : Ci G y_MN_at d [vr p, vi j] M Q := by
  refine (s_MN_at h.1 (h.2.1.nu hp) hk).mono (fun z M1 e1 => ?_)
  obtain ⟨e1, hz⟩ := e1
  subst e1
  exact hQ z hz (by rw [hz]; exact (h.1 _ _).1)
theorem s_bg {Q : mM → Prop} (h : Ev F M a g R W T) (hn : n < T)
    (h1 : so M g n = 1 → Cv G y_MM_name (d + 2) [vr a, vr g, vi (va M g n)] M (fun M' => mOk M' ∧ Q M'))
    (h2 : so M g n = 2 → Cv G y_MM_push (d + 2) [vr a, vl (va M g n), vl 1] M (fun M' => mOk M' ∧ Q M'))
    (h3 : so M g n = 12 ∨ so M g n = 13 → Cv G y_MM_pushTruth (d + 2) [vr a, vi (if so M g n = 12 then 1 else 0)] M (fun M' => mOk M' ∧ Q M'))
    (h4 : so M g n = 29 ∨ so M g n = 30 ∨ so M g n = 32 → Cv G y_MM_todo (d + 2) [vr a, vi 2, vi n] M (fun M1 => mOk M1 ∧ (mK M1 a = 14 ∧ Cv G y_MM_todo (d + 2) [vr a, vi 0, vi (fp M g n)] M1 (fun M2 => mOk M2 ∧ Q M2))))
    (h5 : ¬ (so M g n = 1 ∨ so M g n = 2 ∨ so M g n = 12 ∨ so M g n = 13 ∨ so M g n = 29 ∨ so M g n = 30 ∨ so M g n = 32) → Cv G y_MM_todo (d + 2) [vr a, vi 1, vi n] M (fun M1 => mOk M1 ∧ (mK M1 a = 14 ∧ mK M1 (mR M1 a 24) = 15 ∧ h_MM_begin_166 G (d + 2) a g (mI M1 (mR M1 a 24) 1) (fp M g n) M1 Q))) : Cv G y_MM_begin (d + 3) [vr a, vr g, vi n] M Q := by
  obtain ⟨hO, w, hg, hd, hB, -, -⟩ := id h
  have gp := w.gp hg
  have r0 : mR M g 0 = g + 1 := gp.2.1.1
  have r3 : mR M g 3 = g + 7 := gp.2.1.2.2.2.1
  have r4 : mR M g 4 = g + 9 := gp.2.1.2.2.2.2.1
  have i1 := tL_in (a := a) (q := g + 1) hg (tLk1 g)
  have i7 := tL_in (a := a) (q := g + 7) hg (tLk7 g)
  have i9 := tL_in (a := a) (q := g + 9) hg (tLk9 g)
  have l1 := hd (g + 1) (by first | exact tLk1 g | omega)
  have l7 := hd (g + 7) (by first | exact tLk7 g | omega)
  have l9 := hd (g + 9) (by first | exact tLk9 g | omega)
  refine k_MM_begin hO (i32s (by omega) (by omega)) ?_
  rw [r0]
  refine ⟨gp.1, (w.nu i1).1, h.rd i1 (by omega) (fun s hs is => ⟨is, hO, gp.1, ?_⟩)⟩
  have hs' : s = so M g n := hs
  rw [← hs'] at h1 h2 h3 h4 h5
  rw [r4]
  refine ⟨(w.nu i9).1, h.rd i9 (by omega) (fun x hx ix => ⟨ix, hO, fun q1 => ⟨gp.1, ?_⟩, fun q1 => ⟨fun q2 => ⟨gp.1, ?_⟩, fun q2 => ⟨fun q3 v hv => ⟨w.1.1, ?_⟩, fun q3 => ⟨fun q4 => ⟨w.1.1, ?_⟩, fun q4 => ⟨w.1.1, ?_⟩⟩⟩⟩⟩)⟩
  · rw [r3]
    refine ⟨(w.nu i7).1, h.rd i7 (by omega) (fun y hy iy => ⟨iy, hO, w.1.1, ?_⟩)⟩
    rw [show y = va M g n from hy]
    exact h1 q1
  · rw [r3]
    refine ⟨(w.nu i7).1, h.rd i7 (by omega) (fun y hy iy => ⟨iy, hO, w.1.1, ?_⟩)⟩
    rw [show y = va M g n from hy]
    exact h2 q2
  · rw [hv]
    exact h3 q3
  · rw [show x = fp M g n from hx]
    exact h4 q4
  · rw [show x = fp M g n from hx]
    exact h5 (by omega)
/-- and, or, ask begin with their first part -/
theorem s_bg_first (h : Ev F M a g R W T) (hn : n < T) (hs : so M g n = 29 ∨ so M g n = 30 ∨ so M g n = 32) (hl : ln M (a + 99) = (X : Int)) (hX : X ≤ 64000) : Cv G y_MM_begin (d + 3) [vr a, vr g, vi n] M (fun M' => mOk M' ∧ Mv (fun x => x = a + 99) (fun _ => False) M a M' ∧ ln M' (a + 99) = (X + 4 : Nat) ∧ (∀ j, j < X → nt M' (a + 99) j = nt M (a + 99) j) ∧ nt M' (a + 99) X = 2 ∧ nt M' (a + 99) (X + 1) = n ∧ nt M' (a + 99) (X + 2) = 0 ∧ nt M' (a + 99) (X + 3) = fp M g n) := by
  obtain ⟨hO, w, hg, hd, hB, -, -⟩ := id h
  refine s_bg h hn (fun q => by omega) (fun q => by omega) (fun q => by omega) (fun q => ?_) (fun q => by omega)
  refine (s_MM_todo (d := d + 1) ⟨by omega, by omega⟩ (i32s (by omega) (by omega)) hO w hl (by omega)).mono (fun M1 t => ?_)
  obtain ⟨o1, m1, l1, e1, x1, y1⟩ := t
  refine ⟨o1, m1.2.1.1.1, (s_MM_todo (d := d + 1) ⟨by omega, by omega⟩ (hO _ _).1 o1 m1.2.1 l1 (by omega)).mono (fun M2 t => ?_)⟩
  obtain ⟨o2, m2, l2, e2, x2, y2⟩ := t
  exact ⟨o2, o2, m1.trans m2, l2, fun j hj => by rw [e2 j (by omega), e1 j hj], by rw [e2 X (by omega)]; exact x1, by rw [e2 (X + 1) (by omega)]; exact y1, x2, y2⟩
/-- the parts are put on the pile -/
theorem s_bg166 {nm : Int → Prop} {Q : mM → Prop} {L : Int} (hL : i32 L) (h : Ev F M a g R W T) : ∀ (k f c e Y : Nat) (M3 : mM), 1 ≤ k → Tn nm M g f k c e → e ≤ T → Mv (fun x => x = a + 99) (fun _ => False) M a M3 → ln M3 (a + 99) = (Y : Int) → Y + 2 * k ≤ 65000 → (∀ M4, Mv (fun x => x = a + 99) (fun _ => False) M a M4 → ln M4 (a + 99) = (Y + 2 * k : Nat) → (∀ j, j < Y → nt M4 (a + 99) j = nt M3 (a + 99) j) → (∀ j, j < k → nt M4 (a + 99) (Y + 2 * j) = 0 ∧ nt M4 (a + 99) (Y + 2 * j + 1) = ci M g c j) → h_MM_begin_166 G (d + 2) a g L (-1) M4 Q) → h_MM_begin_166 G (d + 2) a g L c M3 Q := by
  obtain ⟨hO, w, hg, hd, hB, -, -⟩ := id h
  have i11 := tL_in (a := a) (q := g + 11) hg (tLk11 g)
  have l11 := hd (g + 11) (by first | exact tLk11 g | omega)
  intro k
  induction k with
  | zero => intro f c e Y M3 hk; omega
  | succ k ih =>
    intro f c e Y M3 hk ht he m3 l3 hY hQ
    have hlt := ht.lt
    have w3 := m3.2.1
    refine k_MM_begin_166 m3.1 hL (i32s (by omega) (by omega)) ⟨fun q => by omega, fun _ => ⟨w3.1.1, (s_MM_todo (d := d + 1) ⟨by omega, by omega⟩ (i32s (by omega) (by omega)) m3.1 w3 l3 (by omega)).mono (fun M4 t => ?_)⟩⟩
    obtain ⟨o4, m4, l4, e4, x4, y4⟩ := t
    have w4 := m4.2.1
    have gp := w4.gp hg
    have m34 := m3.trans m4
    have s11 := m34.lst i11 (by omega)
    rw [show mR M4 g 5 = g + 11 from gp.2.1.2.2.2.2.2.1]
    refine ⟨o4, gp.1, (w4.nu i11).1, (s_MN_at o4 (w4.nu i11) (by rw [s11.1]; omega)).mono (fun z M5 e5 => ?_)⟩
    obtain ⟨e5, hz⟩ := e5
    subst e5
    rw [s11.2.1] at hz
    refine ⟨by rw [hz]; exact (hO _ _).1, o4, ?_⟩
    cases f with
    | zero => exact ht.elim
    | succ f =>
      rw [Tn, if_neg (by omega)] at ht
      by_cases k0 : k + 1 = 1
      · rw [if_pos k0] at ht
        have : z = -1 := hz.trans ht.1
        rw [this]
        refine hQ M5 m34 (by rw [l4]; omega) (fun j hj => e4 j hj) (fun j hj => ?_)
        have : j = 0 := by omega
        subst this
        exact ⟨x4, y4⟩
      · rw [if_neg k0] at ht
        obtain ⟨m, q1, q2, q3⟩ := ht
        have hzm : z = (m : Int) := hz.trans q1
        rw [hzm]
        refine ih f m e (Y + 2) M5 (by omega) q3 he m34 (by rw [l4]) (by omega) (fun M7 m7 l7 e7 v7 => ?_)
        refine hQ M7 m7 (by rw [l7]; omega) (fun j hj => (e7 j (by omega)).trans (e4 j hj)) (fun j hj => ?_)
        cases j with
        | zero => exact ⟨(e7 Y (by omega)).trans x4, (e7 (Y + 1) (by omega)).trans y4⟩
        | succ j =>
          have := v7 j (by omega)
          rw [ci_succ q1, show Y + 2 * (j + 1) = Y + 2 + 2 * j by first | rfl | omega]
          exact this
/-- a node with parts puts itself and them on the pile -/
theorem s_bg_parts {nm : Int → Prop} {k f e : Nat} (h : Ev F M a g R W T) (hn : n < T) (hk : 1 ≤ k) (hs : ¬ (so M g n = 1 ∨ so M g n = 2 ∨ so M g n = 12 ∨ so M g n = 13 ∨ so M g n = 29 ∨ so M g n = 30 ∨ so M g n = 32)) (hf : fp M g n = ((n + 1 : Nat) : Int)) (ht : Tn nm M g f k (n + 1) e) (he : e ≤ T) (hl : ln M (a + 99) = (X : Int)) (hX : X + 2 * k ≤ 64000) : Cv G y_MM_begin (d + 3) [vr a, vr g, vi n] M (fun M' => mOk M' ∧ Mv (fun x => x = a + 99) (fun _ => False) M a M' ∧ ln M' (a + 99) = (X + 2 + 2 * k : Nat) ∧ (∀ j, j < X → nt M' (a + 99) j = nt M (a + 99) j) ∧ nt M' (a + 99) X = 1 ∧ nt M' (a + 99) (X + 1) = n ∧ ∀ j, j < k → nt M' (a + 99) (X + 2 + 2 * (k - 1 - j)) = 0 ∧ nt M' (a + 99) (X + 2 + 2 * (k - 1 - j) + 1) = ci M g (n + 1) j) := by
  obtain ⟨hO, w, hg, hd, hB, -, -⟩ := id h
  have hge := ht.ge
  refine s_bg h hn (fun q => absurd (by omega) hs) (fun q => absurd (by omega) hs) (fun q => absurd (by omega) hs) (fun q => absurd (by omega) hs) (fun q => ?_)
  refine (s_MM_todo (d := d + 1) ⟨by omega, by omega⟩ (i32s (by omega) (by omega)) hO w hl (by omega)).mono (fun M1 t => ?_)
  obtain ⟨o1, m1, l1, e1, x1, y1⟩ := t
  have w1 := m1.2.1
  have l1' : mI M1 (a + 99) 1 = (X + 2 : Nat) := l1
  rw [r24w w1, l1', hf]
  refine ⟨o1, w1.1.1, (w1.nu n99).1, s_bg166 (i32s (by omega) (by omega)) h k f (n + 1) e (X + 2) M1 hk ht he m1 l1 (by omega) (fun M4 m4 l4 e4 v4 => ?_)⟩
  have w4 := m4.2.1
  refine k_MM_begin_166 m4.1 (i32s (by omega) (by omega)) (i32s (by omega) (by omega)) ⟨fun _ => ⟨w4.1.1, (s_MM_turnTodo (d := d + 1) m4.1 w4 l4 (by omega) hk).mono (fun M5 t => ?_)⟩, fun q => absurd (by decide) q⟩
  obtain ⟨m5, l5, t5, u5⟩ := t
  have low : ∀ j, j < X + 2 → nt M5 (a + 99) j = nt M1 (a + 99) j := fun j hj => by rw [u5 j (fun i hi => by omega), e4 j hj]
  refine ⟨m5.1, m5.1, m4.trans m5, by rw [l5, l4], fun j hj => by rw [low j (by omega), e1 j hj], by rw [low X (by omega)]; exact x1, by rw [low (X + 1) (by omega)]; exact y1, fun j hj => ⟨?_, ?_⟩⟩
  · rw [u5 _ (fun i hi => by omega)]
    exact (v4 (k - 1 - j) (by omega)).1
  · rw [t5 (k - 1 - j) (by omega), show k - 1 - (k - 1 - j) = j by first | rfl | omega]
    exact (v4 j hj).2
end BG
end
section
/-! The reference: what working out may change. -/
section EO
variable {G : mG} {F : Prop} {d a g R W T V X n : Nat} {M M2 M3 M4 : mM} {P S : Nat → Prop}
/-- the game's rules and variables, and where the variables stand -/
def gsame (M : mM) (a g : Nat) (M3 : mM) : Prop := mI M3 (g + 13) = mI M (g + 13) ∧ mI M3 (g + 14) = mI M (g + 14) ∧ mI M3 (g + 15) = mI M (g + 15) ∧ mI M3 (g + 18) = mI M (g + 18) ∧ mL M3 (g + 16) = mL M (g + 16) ∧ mL M3 (g + 17) = mL M (g + 17) ∧ mI M3 (a + 101) = mI M (a + 101)
abbrev woS (a : Nat) : Nat → Prop := fun x => x = a ∨ x = a + 97 ∨ x = a + 98 ∨ x = a + 102 ∨ x = a + 103 ∨ x = a + 104
theorem gs_mv (hg : g = a + 13 ∨ g = a + 49) (w : Wd M a) (m : Mv P S M a M3) (hin : ∀ q, P q → q ∈ nums a) (hS : ∀ x, S x → woS a x) : gsame M a g M3 := by
  have no : ∀ i, 13 ≤ i → i ≤ 18 → ¬ S (g + i) := fun i i1 i2 z => by
    have : g + i = a ∨ g + i = a + 97 ∨ g + i = a + 98 ∨ g + i = a + 102 ∨ g + i = a + 103 ∨ g + i = a + 104 := hS _ z
    omega
  have c13 := m.cellL w hin (goffx (i := 13) hg (by decide) (by decide)) (no 13 (by omega) (by omega))
  have c14 := m.cellL w hin (goffx (i := 14) hg (by decide) (by decide)) (no 14 (by omega) (by omega))
  have c15 := m.cellL w hin (goffx (i := 15) hg (by decide) (by decide)) (no 15 (by omega) (by omega))
  have c16 := m.cellL w hin (goffx (i := 16) hg (by decide) (by decide)) (no 16 (by omega) (by omega))
  have c17 := m.cellL w hin (goffx (i := 17) hg (by decide) (by decide)) (no 17 (by omega) (by omega))
  have c18 := m.cellL w hin (goffx (i := 18) hg (by decide) (by decide)) (no 18 (by omega) (by omega))
  have c101 := m.cellL w hin (offx (a := a) (o := 101) (by decide)) (fun z => by
    have : a + 101 = a ∨ a + 101 = a + 97 ∨ a + 101 = a + 98 ∨ a + 101 = a + 102 ∨ a + 101 = a + 103 ∨ a + 101 = a + 104 := hS _ z
    omega)
  exact ⟨c13.1, c14.1, c15.1, c18.1, c16.2, c17.2, c101.1⟩
theorem gsame.tyn (h : gsame M a g M3) : tn M3 g = tn M g := by
  funext v
  unfold tn
  rw [h.2.1, h.2.2.2.1]
theorem Ev.step (h : Ev F M a g R W T) (m : Mv P S M a M3) (hP : ∀ q, P q → q = a + 99) (hS : ∀ x, S x → vS a x) : Ev F M3 a g R W T := by
  obtain ⟨hO, w, hg, hd, hB, hr, hw⟩ := h
  have hin : ∀ q, P q → q ∈ nums a := fun q hq => by rw [hP q hq]; exact n99
  have hS' : ∀ x, S x → woS a x := fun x z => by
    have : x = a ∨ x = a + 97 ∨ x = a + 98 := hS _ z
    show x = a ∨ x = a + 97 ∨ x = a + 98 ∨ x = a + 102 ∨ x = a + 103 ∨ x = a + 104
    omega
  have gs := gs_mv hg w m hin hS'
  have no : ∀ i, 102 ≤ i → i ≤ 104 → ¬ S (a + i) := fun i i1 i2 z => by
    have : a + i = a ∨ a + i = a + 97 ∨ a + i = a + 98 := hS _ z
    omega
  have c102 := (m.cellL w hin (offx (a := a) (o := 102) (by decide)) (no 102 (by omega) (by omega))).1
  have c103 := (m.cellL w hin (offx (a := a) (o := 103) (by decide)) (no 103 (by omega) (by omega))).2
  have c104 := (m.cellL w hin (offx (a := a) (o := 104) (by decide)) (no 104 (by omega) (by omega))).2
  have gt := gs.tyn
  obtain ⟨g13, g14, g15, g18, g16, g17, g101⟩ := gs
  refine ⟨m.1, m.2.1, hg, fun q hq => ?_, hB, ?_, ?_⟩
  · have hq' : q = g + 1 ∨ q = g + 3 ∨ q = g + 5 ∨ q = g + 7 ∨ q = g + 9 ∨ q = g + 11 := hq
    rw [(m.lst (tL_in hg hq) (fun z => by have := hP q z; omega)).1]
    exact hd q hq
  · rw [gt, g13, g16, g17, c102, c103, c104]
    exact hr
  · rw [gt, g18, g101]
    exact hw
/-- so far, working out has changed only what it may -/
def EO (F : Prop) (M : mM) (a g R W T : Nat) (M3 : mM) : Prop := Mv (fun x => x = a + 99) (woS a) M a M3 ∧ Ev F M3 a g R W T ∧ ∀ i, i ≠ 16 → i ≠ 17 → i ≠ 23 → mI M3 a i = mI M a i
theorem lt99 (w : Wd M a) : ∀ q, q = a + 99 → q < mZ M := fun q hq => by rw [hq]; exact w.lt n99
theorem EO.refl (h : Ev F M a g R W T) : EO F M a g R W T M := ⟨Mv.refl h.1 h.2.1 (lt99 h.2.1), h, fun _ _ _ _ => rfl⟩
theorem EO.step (h : EO F M a g R W T M2) (m : Mv P S M2 a M3) (hP : ∀ q, P q → q = a + 99) (hS : ∀ x, S x → vS a x) (hf : ∀ i, i ≠ 16 → i ≠ 17 → i ≠ 23 → mI M3 a i = mI M2 a i) : EO F M a g R W T M3 := by
  refine ⟨h.1.trans (m.mono hP (fun x hx => ?_) (lt99 h.1.2.1)), h.2.1.step m hP hS, fun i i1 i2 i3 => (hf i i1 i2 i3).trans (h.2.2 i i1 i2 i3)⟩
  have : x = a ∨ x = a + 97 ∨ x = a + 98 := hS _ hx
  show x = a ∨ x = a + 97 ∨ x = a + 98 ∨ x = a + 102 ∨ x = a + 103 ∨ x = a + 104
  omega
theorem EO.gs (w : Wd M a) (h : EO F M a g R W T M3) : gsame M a g M3 :=
  gs_mv h.2.1.2.2.1 w h.1 (fun q hq => by rw [hq]; exact n99) (fun x hx => hx)
theorem EO.nod (h : EO F M a g R W T M3) : ∀ n, so M3 g n = so M g n ∧ va M3 g n = va M g n ∧ fp M3 g n = fp M g n ∧ np M3 g n = np M g n := by
  have hg := h.2.1.2.2.1
  intro n
  exact ⟨(h.1.lst (tL_in (q := g + 1) hg (tLk1 g)) (by omega)).2.1 n, (h.1.lst (tL_in (q := g + 7) hg (tLk7 g)) (by omega)).2.1 n, (h.1.lst (tL_in (q := g + 9) hg (tLk9 g)) (by omega)).2.1 n, (h.1.lst (tL_in (q := g + 11) hg (tLk11 g)) (by omega)).2.1 n⟩
theorem EO.tnn {nm : Int → Prop} {f md n e : Nat} (h : EO F M a g R W T M3) (t : Tn nm M g f md n e) : Tn nm M3 g f md n e :=
  t.fr (fun k _ _ => ⟨(h.nod k).1, (h.nod k).2.1, (h.nod k).2.2.1⟩) (fun k _ _ => (h.nod k).2.2.2) (fun _ => (h.nod n).2.2.2)
/-- a step of the pile alone -/
theorem kp99 (w : Wd M2 a) (m : Mv (fun x => x = a + 99) (fun _ => False) M2 a M3) : mI M3 a = mI M2 a ∧ mL M3 (a + 97) = mL M2 (a + 97) ∧ mL M3 (a + 98) = mL M2 (a + 98) := by
  have hin : ∀ q, q = a + 99 → q ∈ nums a := fun q hq => by rw [hq]; exact n99
  exact ⟨(m.fld w hin (fun z => z)).1, (m.cellL w hin (offx (a := a) (o := 97) (by decide)) (fun z => z)).2, (m.cellL w hin (offx (a := a) (o := 98) (by decide)) (fun z => z)).2⟩
theorem EO.pile (h : EO F M a g R W T M2) (m : Mv (fun x => x = a + 99) (fun _ => False) M2 a M3) : EO F M a g R W T M3 :=
  h.step m (fun q hq => hq) (fun x hx => hx.elim) (fun i _ _ _ => by rw [(kp99 h.1.2.1 m).1])
theorem vok_i64 {t A B : Int} (h : vok t A B) : i64 A ∧ i64 B := by
  unfold vok at h
  exact ⟨⟨by omega, by omega⟩, ⟨by omega, by omega⟩⟩
/-- a formula's value is kept -/
theorem EO.met {r : Nat} {A B : Int} {M5 M6 : mM} (w0 : Wd M a) (h : EO F M a g R W T M3) (hv : vok (tn M g r) A B) (e4 : M4 = mUI M3 (a + 102) r 1) (e5 : M5 = mUL M4 (a + 103) r A) (e6 : M6 = mUL M5 (a + 104) r B) : EO F M a g R W T M6 ∧ mI M6 a = mI M3 a ∧ sameN M3 M6 (a + 99) ∧ mL M6 (a + 97) = mL M3 (a + 97) ∧ mL M6 (a + 98) = mL M3 (a + 98) := by
  have w3 := h.1.2.1
  have gs := h.gs w0
  obtain ⟨hA, hB⟩ := vok_i64 hv
  have o102 := offx (a := a) (o := 102) (by decide)
  have f4 : FI (fun x => x = a + 102) M3 M4 := by rw [e4]; exact FI.ui rfl
  have m4 : Mv (fun _ => False) (fun x => x = a + 102) M3 a M4 := mv_fi (by rw [e4]; exact mOk_UI h.1.1 ⟨by decide, by decide⟩) w3 f4 (fun x z => by rw [z]; exact ⟨by omega, by omega, o102.2.1, o102.2.2⟩)
  obtain ⟨m5, l5, i5⟩ := mv_ul hA m4.1 m4.2.1 e5
  obtain ⟨m6, l6, i6⟩ := mv_ul hB m5.1 m5.2.1 e6
  have no : ∀ q : Nat, False → q = a + 99 := fun _ z => z.elim
  have mm : Mv (fun x => x = a + 99) (woS a) M3 a M6 := ((m4.mono no (fun x z => Or.inr (Or.inr (Or.inr (Or.inl z)))) (lt99 w3)).trans (m5.mono no (fun x z => Or.inr (Or.inr (Or.inr (Or.inr (Or.inl z))))) (lt99 m4.2.1))).trans (m6.mono no (fun x z => Or.inr (Or.inr (Or.inr (Or.inr (Or.inr z))))) (lt99 m5.2.1))
  have iI : ∀ x, x ≠ a + 102 → mI M6 x = mI M3 x := fun x hx => by rw [i6, i5]; exact f4.2.2.2.2.2.2 x hx
  have lM4 : mL M4 = mL M3 := f4.2.2.2.1
  have lL : ∀ x, x ≠ a + 103 → x ≠ a + 104 → mL M6 x = mL M3 x := fun x h1 h2 => by
    funext k
    rw [l6, if_neg (fun z => h2 z.1), l5, if_neg (fun z => h1 z.1), lM4]
  have s99 : sameN M3 M6 (a + 99) := ((m4.lst n99 (fun z => z)).trans (m5.lst n99 (fun z => z))).trans (m6.lst n99 (fun z => z))
  obtain ⟨hO, w, hg, hd, hBd, hr, hw⟩ := id h.2.1
  have gs6 := gs_mv hg w3 mm (fun q hq => by rw [hq]; exact n99) (fun x hx => hx)
  have gt := gs6.tyn
  have gt3 := gs.tyn
  refine ⟨⟨h.1.trans mm, ⟨m6.1, m6.2.1, hg, fun q hq => ?_, hBd, ?_, ?_⟩, fun i i1 i2 i3 => by rw [iI a (by omega)]; exact h.2.2 i i1 i2 i3⟩, iI a (by omega), s99, lL _ (by omega) (by omega), lL _ (by omega) (by omega)⟩
  · have hq' : q = g + 1 ∨ q = g + 3 ∨ q = g + 5 ∨ q = g + 7 ∨ q = g + 9 ∨ q = g + 11 := hq
    rw [(mm.lst (tL_in hg hq) (by omega)).1]
    exact hd q hq
  · obtain ⟨g13, g14, g15, g18, g16, g17, g101⟩ := gs6
    rw [gt, g13, g16, g17]
    intro r' hr'
    refine ⟨(hr r' hr').1, fun hF q1 q2 => ?_⟩
    by_cases z : r' = r
    · rw [l6, l5, l6, if_neg (fun y => by omega), if_pos ⟨rfl, z⟩, if_pos ⟨rfl, z⟩, z, gt3]
      exact hv
    · rw [l6, l5, l6, l5, if_neg (fun y => z y.2), if_neg (fun y => z y.2), if_neg (fun y => z y.2), if_neg (fun y => z y.2), lM4]
      rw [i6, i5, e4, mI_UI, if_neg (fun y => z y.2)] at q2
      exact (hr r' hr').2 hF q1 q2
  · obtain ⟨g13, g14, g15, g18, g16, g17, g101⟩ := gs6
    rw [gt, g18, g101]
    exact hw
end EO
end
section
/-! The reference: working out, a step. -/
section WO
variable {G : mG} {F : Prop} {d a g R W T : Nat} {M M2 M3 M4 : mM} {Q : mM → Prop} {E : Nat → Nat}
/-- the formulas' trees -/
def Fm (M : mM) (g R W T : Nat) (E : Nat → Nat) : Prop := ∀ r : Nat, r < R → mI M (g + 13) r ≠ 0 → ∃ n f : Nat, mI M (g + 15) r = (n : Int) ∧ E r ≤ T ∧ (∀ r' : Nat, r' < r → mI M (g + 13) r' ≠ 0 → E r' ≤ n) ∧ Ty (nme True M g r W) (tn M g) M g f 0 n (E r) (fun _ => tn M g r)
/-- a pair has been taken from the pile -/
def tkd (M2 : mM) (a X : Nat) (M4 : mM) : Prop := Mv (fun x => x = a + 99) (fun _ => False) M2 a M4 ∧ ln M4 (a + 99) = (X : Int) ∧ ∀ j, nt M4 (a + 99) j = nt M2 (a + 99) j
theorem s_wo2 {n X : Nat} {s : Int} (h : EO F M a g R W T M2) (h16 : mI M2 a 16 = 0) (hl : ln M2 (a + 99) = (X + 2 : Nat)) (hs : s = 0 ∨ s = 1 ∨ s = 2 ∨ s = 3) (e0 : nt M2 (a + 99) X = s) (e1 : nt M2 (a + 99) (X + 1) = (n : Int))
    (h0 : s = 0 → ∀ M4, tkd M2 a X M4 → Cv G y_MM_begin (d + 3) [vr a, vr g, vi n] M4 (fun M5 => mOk M5 ∧ h_MM_workOut_19 G (d + 3) a g M5 Q))
    (h1 : s = 1 → ∀ M4, tkd M2 a X M4 → Cv G y_MM_finish (d + 3) [vr a, vr g, vi n] M4 (fun M5 => mOk M5 ∧ h_MM_workOut_19 G (d + 3) a g M5 Q))
    (h2 : s = 2 → ∀ M4, tkd M2 a X M4 → Cv G y_MM_choose0 (d + 3) [vr a, vr g, vi n] M4 (fun M5 => mOk M5 ∧ h_MM_workOut_19 G (d + 3) a g M5 Q))
    (h3 : s = 3 → ∀ M4, tkd M2 a X M4 → n < 60 ∧ ∃ V : Nat, mI M4 a 23 = (V + 1 : Nat) ∧ V < 16400 ∧ ∀ M5 M6 M7, M5 = mUI M4 (a + 102) n 1 → M6 = mUL M5 (a + 103) n (mL M4 (a + 97) V) → M7 = mUL M6 (a + 104) n (mL M4 (a + 98) V) → mOk M7 ∧ h_MM_workOut_19 G (d + 3) a g M7 Q) : h_MM_workOut_19 G (d + 3) a g M2 Q := by
  have hO := h.1.1
  have w := h.1.2.1
  have hl' : mI M2 (a + 99) 1 = (X + 2 : Nat) := hl
  refine k_MM_workOut_19 hO ?_
  rw [r24w w, hl', h16]
  refine ⟨w.1.1, (w.nu n99).1, fun q => by omega, fun _ => (s_MN_take hO (w.nu n99) (by omega)).mono (fun x M3 t => ?_)⟩
  have m3 := mv_take w n99 t
  have w3 := m3.2.1
  obtain ⟨-, -, -, t1, t2, t3⟩ := t
  rw [hl] at t1 t3
  rw [show (((X + 2 : Nat) : Int) - 1).toNat = X + 1 by first | rfl | omega, e1] at t3
  rw [r24w w3]
  refine ⟨by rw [t3, ← e1]; exact (hO _ _).1, m3.1, w3.1.1, (w3.nu n99).1, (s_MN_take m3.1 (w3.nu n99) (by omega)).mono (fun y M4 t => ?_)⟩
  have m4 := mv_take w3 n99 t
  have w4 := m4.2.1
  obtain ⟨-, -, -, u1, u2, u3⟩ := t
  rw [t1] at u1 u3
  rw [show (((X + 2 : Nat) : Int) - 1 - 1).toNat = X by first | rfl | omega, t2, e0] at u3
  subst t3
  subst u3
  have tk : tkd M2 a X M4 := ⟨m3.trans m4, by rw [u1]; omega, fun j => by rw [u2, t2]⟩
  have go : ∀ M5, mOk M5 ∧ h_MM_workOut_19 G (d + 3) a g M5 Q → mOk M5 ∧ h_MM_workOut_138 G (d + 3) a g M5 Q := fun M5 z => ⟨z.1, k_MM_workOut_138 z.1 z.2⟩
  refine ⟨i32s (by omega) (by omega), m4.1, fun q => ⟨w4.1.1, (h0 q M4 tk).mono go⟩, fun q0 => ⟨fun q => ⟨w4.1.1, (h1 q M4 tk).mono go⟩, fun q1 => ⟨fun q => ⟨w4.1.1, (h2 q M4 tk).mono go⟩, fun q2 => ?_⟩⟩⟩
  obtain ⟨n60, V, hV, hVb, hk⟩ := h3 (by omega) M4 tk
  have B := w4.1.2.2.2.2.1.2.2.2.2.2.2
  have r21 : mR M4 a 21 = a + 97 := B.1
  have r22 : mR M4 a 22 = a + 98 := B.2.1
  have r26 : mR M4 a 26 = a + 102 := B.2.2.2.2.1
  have r27 : mR M4 a 27 = a + 103 := B.2.2.2.2.2.1
  have r28 : mR M4 a 28 = a + 104 := B.2.2.2.2.2.2
  obtain ⟨A97, A98, A101, A102, A103, A104⟩ := w4.1.2.2.2.2.2.2.2.1
  rw [r26]
  refine ⟨w4.1.1, A102.1, by rw [A102.2]; omega, fun M5 e5 => ?_⟩
  rw [Int.toNat_natCast] at e5
  have R5 : mR M5 = mR M4 := by rw [e5]; rfl
  have K5 : mK M5 = mK M4 := by rw [e5]; rfl
  have N5 : mN M5 = mN M4 := by rw [e5]; rfl
  have L5 : mL M5 = mL M4 := by rw [e5]; rfl
  have I5 : mI M5 a 23 = (V + 1 : Nat) := by rw [e5, mI_UI, if_neg (fun z => by omega)]; exact hV
  rw [R5, K5, N5, L5, I5, r21, r27, show ((V + 1 : Nat) : Int) - 1 = (V : Int) by first | rfl | omega, Int.toNat_natCast, Int.toNat_natCast]
  refine ⟨A97.1, by rw [A97.2]; omega, A103.1, by rw [A103.2]; omega, fun M6 e6 => ?_⟩
  have R6 : mR M6 = mR M4 := by rw [e6]; exact R5
  have K6 : mK M6 = mK M4 := by rw [e6]; exact K5
  have N6 : mN M6 = mN M4 := by rw [e6]; exact N5
  have I6 : mI M6 a 23 = (V + 1 : Nat) := by rw [e6]; exact I5
  have L6 : mL M6 (a + 98) = mL M4 (a + 98) := by
    funext k
    rw [e6, mL_UL, if_neg (fun z => by omega), L5]
  rw [R6, K6, N6, I6, r22, r28, show ((V + 1 : Nat) : Int) - 1 = (V : Int) by first | rfl | omega, Int.toNat_natCast, L6]
  refine ⟨A98.1, by rw [A98.2]; omega, A104.1, by rw [A104.2]; omega, fun M7 e7 => ?_⟩
  have := hk M5 M6 M7 e5 e6 e7
  exact k_MM_workOut_138 this.1 this.2
theorem ci_cg {n : Nat} (h : ∀ k, np M4 g k = np M g k) : ∀ j, ci M4 g n j = ci M g n j
  | 0 => rfl
  | j + 1 => by rw [ci, ci, ci_cg h j]; exact h _
/-- trees have been worked out -/
def woR (F : Prop) (M : mM) (a g R W T Lk V kk : Nat) (u : Nat → Int) (M2 M3 : mM) : Prop := EO F M a g R W T M3 ∧ mI M3 a 16 = 0 ∧ ln M3 (a + 99) = (Lk : Int) ∧ (∀ j, j < Lk → nt M3 (a + 99) j = nt M2 (a + 99) j) ∧ mI M3 a 23 = (V + kk : Nat) ∧ (∀ j, j < V → mL M3 (a + 97) j = mL M2 (a + 97) j ∧ mL M3 (a + 98) j = mL M2 (a + 98) j) ∧ ∀ j, j < kk → vok (u j) (mL M3 (a + 97) (V + j)) (mL M3 (a + 98) (V + j))
theorem nme.up {b : Nat} {v : Int} (h : nme F M g b W v) (hb : b ≤ R) : nme F M g R W v := by
  rcases h with ⟨h1, h2, h3⟩ | h
  · exact Or.inl ⟨h1, by omega, h3⟩
  · exact Or.inr h
theorem nme.tr {b : Nat} {v : Int} (h : nme True M g b W v) (hF : F) : nme F M g b W v := by
  rcases h with ⟨h1, h2, h3⟩ | h
  · exact Or.inl ⟨h1, h2, Or.inl hF⟩
  · exact Or.inr ⟨hF, h.2⟩
theorem nme.gs {b : Nat} {v : Int} (h : nme F M g b W v) (gs : gsame M a g M3) : nme F M3 g b W v := by
  unfold nme
  rw [gs.1]
  exact h
end WO
end
section
/-! The reference: working out a tree. -/
section WR
variable {G : mG} {F : Prop} {d a g R W T : Nat} {M : mM} {Q : mM → Prop} {E : Nat → Nat}
end WR
end
section
/-! The reference: workOut. -/
section WT
variable {G : mG} {F : Prop} {d a g R W T : Nat} {M : mM} {E : Nat → Nat}
/-- a rule has been worked out, or a fault told -/
def wrkQ (F : Prop) (M : mM) (a g R W T : Nat) (t : Int) (M' : mM) : Prop := EO F M a g R W T M' ∧ (mI M' a 16 ≠ 0 ∨ (mI M' a 16 = 0 ∧ vok t (mL M' (a + 97) 0) (mL M' (a + 98) 0)))
end WT
end
