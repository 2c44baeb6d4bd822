/-! The solver: settle. -/
/-- 512 fractions have room -/
def Rm (M : mM) (s e : Nat) : Prop := ∀ i, i < 512 → Ft M (s + e + 25 * i) 56
abbrev eS (s e : Nat) : Nat → Prop := fun x => s + e ≤ x ∧ x < s + e + 12800 ∧ (x - (s + e)) % 25 ≤ 4
theorem Rm.out {S : Nat → Prop} {M M' : mM} {s e : Nat} (h : Rm M s e) (k : FI S M M') (hs : ∀ y, S y → y < s + e ∨ s + e + 12780 ≤ y) : Rm M' s e :=
  fun i hi => (h i hi).out k (fun y q => by have := hs y q; omega)
theorem Rm.put {M M' : mM} {s e i : Nat} (h : Rm M s e) (hi : i < 512) (k : FI (fS (s + e + 25 * i)) M M') (h1 : Ft M' (s + e + 25 * i) 56) : Rm M' s e := by
  intro j hj
  by_cases q : j = i
  · rw [q]; exact h1
  · exact (h j hj).out k (fun y w => by have w' : s + e + 25 * i ≤ y ∧ y ≤ s + e + 25 * i + 4 := w; omega)
theorem Xt.put {M M' : mM} {s e n i n' : Nat} {x x' : Nat → Rat} (h : Xt M s e n x) (k : FI (fS (s + e + 25 * i)) M M') (h1 : Fq M' (s + e + 25 * i) 56) (h2 : Fc M' (s + e + 25 * i)) (h3 : fv M' (s + e + 25 * i) = x' i) (hq : ∀ j, j < n' → j = i ∨ (j < n ∧ x' j = x j)) : Xt M' s e n' x' := by
  intro j hj
  by_cases q : j = i
  · rw [q]; exact ⟨h1, h2, h3⟩
  · have w : j < n ∧ x' j = x j := by
      rcases hq j hj with w | w
      · exact absurd w q
      · exact w
    obtain ⟨g1, g2, g3⟩ := h j w.1
    have hs' : ∀ y, fS (s + e + 25 * i) y → y < s + e + 25 * j ∨ s + e + 25 * j + 4 < y := fun y z => by have z' : s + e + 25 * i ≤ y ∧ y ≤ s + e + 25 * i + 4 := z; omega
    exact ⟨(g1.out k hs').1, g2.out g1 k hs', by rw [fv_out g1 k hs', g3, w.2]⟩
theorem Xt.congr {M : mM} {s e n : Nat} {x x' : Nat → Rat} (h : Xt M s e n x) (hq : ∀ j, j < n → x' j = x j) : Xt M s e n x' := fun j hj => by
  obtain ⟨g1, g2, g3⟩ := h j hj
  exact ⟨g1, g2, g3.trans (hq j hj).symm⟩
/-- the values -/
def valx (M : mM) (s m : Nat) : Nat → Rat := fun k => if mI M (s + 36) k ≠ 0 ∧ mI M (s + 22) k ≠ 3 then gq (rowp M s m) m (mI M (s + 40) k).toNat m else if mI M (s + 22) k = 3 then 1 else 0
/-- the values while they are copied -/
def valr (M : mM) (s m r : Nat) : Nat → Rat := fun k => if (mI M (s + 36) k ≠ 0 ∧ mI M (s + 22) k ≠ 3) ∧ (mI M (s + 40) k).toNat < r then gq (rowp M s m) m (mI M (s + 40) k).toNat m else if mI M (s + 22) k = 3 then 1 else 0
theorem valx_y {M : mM} {s m k : Nat} (h : mI M (s + 36) k ≠ 0 ∧ mI M (s + 22) k ≠ 3) : valx M s m k = gq (rowp M s m) m (mI M (s + 40) k).toNat m := if_pos h
theorem valx_n {M : mM} {s m k : Nat} (h : ¬ (mI M (s + 36) k ≠ 0 ∧ mI M (s + 22) k ≠ 3)) : valx M s m k = if mI M (s + 22) k = 3 then 1 else 0 := if_neg h
theorem valr_y {M : mM} {s m k r : Nat} (h : mI M (s + 36) k ≠ 0 ∧ mI M (s + 22) k ≠ 3) (h2 : (mI M (s + 40) k).toNat < r) : valr M s m r k = gq (rowp M s m) m (mI M (s + 40) k).toNat m := if_pos ⟨h, h2⟩
theorem valr_n {M : mM} {s m k r : Nat} (h : ¬ ((mI M (s + 36) k ≠ 0 ∧ mI M (s + 22) k ≠ 3) ∧ (mI M (s + 40) k).toNat < r)) : valr M s m r k = if mI M (s + 22) k = 3 then 1 else 0 := if_neg h
section VX
variable {M : mM} {s m : Nat} {N : Nat → Nat → Int} {D : Nat → Int}
theorem valx_01 (hE : Enu M s m) (hS : Sy m (rowp M s m) N D) {k : Nat} (hk : (k : Int) < mI M s 1) : 0 ≤ valx M s m k ∧ valx M s m k ≤ 1 := by
  unfold valx
  by_cases q : mI M (s + 36) k ≠ 0 ∧ mI M (s + 22) k ≠ 3
  · rw [if_pos q]
    obtain ⟨r1, r2, r3⟩ := hE.2.1 k hk q
    exact hS.q01 (by omega) (by omega) (by omega)
  · rw [if_neg q]
    split <;> exact ⟨by decide, by decide⟩
theorem valx_eq (hE : Enu M s m) (hG : GW M s) (hS : Sy m (rowp M s m) N D) {k : Nat} (hk : (k : Int) < mI M s 1) (hu : unk M s k) : valx M s m k = cw M s (cx M s k (pl M s k)) (valx M s m) := by
  obtain ⟨r1, r2, r3⟩ := hE.2.1 k hk hu
  have hi : (mI M (s + 40) k).toNat < m := by omega
  have euj : uu M s (mI M (s + 40) k).toNat = k := by unfold uu; omega
  obtain ⟨⟨h, g⟩, -⟩ := hS
  have e := gq_eq g m (by omega) (mI M (s + 40) k).toNat m
  have e1 : valx M s m k = gq (rowp M s m) m (mI M (s + 40) k).toNat m := if_pos hu
  rw [rowp_sum hE hG hi (fun t => gq (rowp M s m) m t m), rowp_m, ← cw_add] at e
  rw [e1, e]
  have e2 : rwc M s (mI M (s + 40) k).toNat = cx M s k (pl M s k) := by unfold rwc; rw [euj]
  rw [e2]
  refine cw_congr (fun b hb => ?_)
  generalize tg M s (bg M s (cx M s k (pl M s k)) + b) = t
  show (isT M s t : Rat) + eU M s (fun t => gq (rowp M s m) m t m) t = valx M s m t
  unfold isT eU valx
  have z0 : ((0 : Int) : Rat) = 0 := rfl
  have z1 : ((1 : Int) : Rat) = 1 := rfl
  by_cases q : mI M (s + 22) t = 3
  · rw [if_pos q, if_neg (fun w => w.2 q), if_neg (fun w => w.2 q), if_pos q, z1]; grind
  · rw [if_neg q, if_neg q, z0]
    by_cases z : mI M (s + 36) t ≠ 0 ∧ mI M (s + 22) t ≠ 3
    · rw [if_pos z]; exact Rat.zero_add _
    · rw [if_neg z]; exact Rat.zero_add _
end VX
abbrev tS (s : Nat) : Nat → Prop := fun x => (s + 2 ≤ x ∧ x ≤ s + 21) ∨ (s + 42 ≤ x ∧ x ≤ s + 51) ∨ (s + 57 ≤ x ∧ x ≤ s + 61) ∨ eS s 88 x ∨ (s + 12868 ≤ x ∧ x ≤ s + 21067)
section VS
variable {G : mG} {d s m n : Nat} {M : mM} {N : Nat → Nat → Int} {D : Nat → Int}
theorem s_MS_settle (hm : m ≤ 40) (hO : mOk M) (hV : Vk M s) (hG : GW M s) (hC : GB M s) (hn : mI M s 1 = n) (h24 : mI M s 24 = m) (hE : Enu M s m) (hS : Sy m (rowp M s m) N D) (hW : Wk M s) (hT : Ct M s) (hR : Rm M s 88) :
    Cv G y_MS_settle (d + 7) [vr s] M (fun M' => mOk M' ∧ FI (tS s) M M' ∧ Wk M' s ∧ Ct M' s ∧ Rm M' s 88 ∧ Xt M' s 88 n (valx M s m)) := by
  have h2 := hG.2.1
  have h1 := hG.1
  refine k_MS_settle hO ⟨hV.k0, (s_MS_writeRows (d := d + 1) hm hO hV hG hC h24 hE hW hT).mono (fun M1 g1 => ?_)⟩
  obtain ⟨o1, f1, W1, T1, B1⟩ := g1
  have V1 := hV.fi f1
  have fe1 := f1.2.2.2.2.2.2
  refine ⟨o1, V1.k0, (s_MS_solveRows (d := d) hm o1 V1 (by rw [fe1 s (by omega), h24]) W1 hS B1).mono (fun M2 g2 => ?_)⟩
  obtain ⟨o2, f2, W2, B2⟩ := g2
  have V2 := V1.fi f2
  have f12 : FI (tS s) M M2 := (f1.mono (fun y q => by omega)).trans (f2.mono (fun y q => by omega))
  have R2 : Rm M2 s 88 := (hR.out f1 (fun y q => by omega)).out f2 (fun y q => by omega)
  have T2 : Ct M2 s := fun i j hi hj => by
    by_cases q : i < m ∧ j ≤ m
    · exact (B2 i j q.1 q.2).1.ft
    · exact (T1 i j hi hj).out f2 (fun x w => by unfold cel; omega)
  refine ⟨o2, ?_⟩
  suffices H : ∀ (t i : Nat) (M3 : mM), i + t = n → mOk M3 → FI (tS s) M M3 → Wk M3 s → Ct M3 s → Tb M3 s m (tA (rowp M s m) m m) → Rm M3 s 88 → Xt M3 s 88 i (valr M s m 0) → h_MS_settle_10 G (d + 6) s i M3 (fun M' => mOk M' ∧ FI (tS s) M M' ∧ Wk M' s ∧ Ct M' s ∧ Rm M' s 88 ∧ Xt M' s 88 n (valx M s m)) from
    H n 0 M2 (by omega) o2 f12 W2 T2 B2 R2 (fun k hk => by omega)
  clear T2 R2 f12 V2 B2 W2 f2 o2 M2 fe1 V1 B1 T1 W1 f1 o1 M1
  intro t
  induction t with
  | zero =>
    intro i M3 hi o3 f3 W3 T3 B3 R3 X3
    have ei : i = n := by omega
    subst ei
    have V3 := hV.fi f3
    have fe := f3.2.2.2.2.2.2
    refine k_MS_settle_10 o3 ⟨by omega, by omega⟩ ?_
    rw [fe s (by omega), hn]
    refine ⟨V3.k0, fun _ => ?_, fun q => by omega⟩
    suffices H : ∀ (t r : Nat) (M3 : mM), r + t = m → mOk M3 → FI (tS s) M M3 → Wk M3 s → Ct M3 s → Tb M3 s m (tA (rowp M s m) m m) → Rm M3 s 88 → Xt M3 s 88 i (valr M s m r) → h_MS_settle_51 G (d + 6) s r M3 (fun M' => mOk M' ∧ FI (tS s) M M' ∧ Wk M' s ∧ Ct M' s ∧ Rm M' s 88 ∧ Xt M' s 88 i (valx M s m)) from
      H m 0 M3 (by omega) o3 f3 W3 T3 B3 R3 X3
    clear fe V3 X3 R3 B3 T3 W3 f3 o3 M3
    intro t
    induction t with
    | zero =>
      intro r M3 hr o3 f3 W3 T3 B3 R3 X3
      have er : r = m := by omega
      subst er
      have V3 := hV.fi f3
      have fe := f3.2.2.2.2.2.2
      refine k_MS_settle_51 o3 ⟨by omega, by omega⟩ ?_
      rw [fe s (by omega), h24]
      refine ⟨V3.k0, fun _ => ⟨o3, f3, W3, T3, R3, X3.congr (fun k hk => ?_)⟩, fun q => by omega⟩
      by_cases q : mI M (s + 36) k ≠ 0 ∧ mI M (s + 22) k ≠ 3
      · obtain ⟨r1, r2, r3⟩ := hE.2.1 k (by omega) q
        rw [valx_y q, valr_y q (by omega)]
      · rw [valx_n q, valr_n (fun w => q w.1)]
    | succ t ih =>
      intro r M3 hr o3 f3 W3 T3 B3 R3 X3
      have hrm : r < m := by omega
      have V3 := hV.fi f3
      have fe := f3.2.2.2.2.2.2
      obtain ⟨u1, u2, u3, u4⟩ := hE.1 r hrm
      have huu : (mI M (s + 39) r).toNat = uu M s r := rfl
      have huu2 : (uu M s r : Int) = mI M (s + 39) r := by unfold uu; omega
      refine k_MS_settle_51 o3 ⟨by omega, by omega⟩ ?_
      rw [V3.r22, V3.r21, V3.n39, V3.n38, fe s (by omega), h24, fe (s + 39) (by omega), Int.toNat_natCast, huu, V3.f38 _ (by omega)]
      refine ⟨V3.k0, fun q => by omega, fun _ => ⟨V3.k39, by omega, V3.k38, by omega, (s_MS_cell (by omega) (by omega) o3 V3).mono (fun x M4 h4 => ?_)⟩⟩
      obtain ⟨e4, hx⟩ := h4
      subst e4 hx
      have cr := B3 r m hrm (by omega)
      have rk := R3 (uu M s r) (by omega)
      refine ⟨o3, rk.1.1, (s_MF_copy o3 rk cr.1 (by unfold cel; omega) cr.1.2.1.1.2.2.2.2.2.2 cr.1.2.2.1.1.2.2.2.2.2.2).mono (fun M5 h5 => ?_)⟩
      obtain ⟨o5, f5, F5, w4, w5, w6⟩ := h5
      have C5 := fc_copy cr.2.1 w4 w5 w6
      have f5' : FI (eS s 88) M4 M5 := f5.mono (fun y q => by have q' : s + 88 + 25 * uu M s r ≤ y ∧ y ≤ s + 88 + 25 * uu M s r + 4 := q; omega)
      have e5 : fv M5 (s + 88 + 25 * uu M s r) = valr M s m (r + 1) (uu M s r) := by
        rw [C5.2, cr.2.2]
        unfold valr
        rw [if_pos ⟨u3, by omega⟩, u4, Int.toNat_natCast]
        unfold tA
        rw [if_pos rfl]
      have X5 := X3.put (x' := valr M s m (r + 1)) (n' := i) f5 F5 C5.1 e5 (fun j hj => by
        by_cases z : j = uu M s r
        · exact Or.inl z
        · refine Or.inr ⟨hj, ?_⟩
          by_cases q : mI M (s + 36) j ≠ 0 ∧ mI M (s + 22) j ≠ 3
          · obtain ⟨r1, r2, r3⟩ := hE.2.1 j (by omega) q
            have hne : (mI M (s + 40) j).toNat ≠ r := fun y => z (by unfold uu; rw [y] at r3; omega)
            by_cases y : (mI M (s + 40) j).toNat < r
            · rw [valr_y q (by omega), valr_y q y]
            · rw [valr_n (fun w => y (by have := w.2; omega)), valr_n (fun w => y w.2)]
          · rw [valr_n (fun w => q w.1), valr_n (fun w => q w.1)])
      exact ⟨o5, ih (r + 1) M5 (by omega) o5 (f3.trans (f5'.mono (fun y q => Or.inr (Or.inr (Or.inr (Or.inl q)))))) (W3.far f5' (fun y q => by have := q.1; omega)) (T3.out f5' (fun y q => by have := q.2.1; have := q.1; have := q.2.2; omega)) (B3.out f5' (fun y q => by have := q.2.1; have := q.1; have := q.2.2; omega)) (R3.put (by omega) f5 F5.ft) X5⟩
  | succ t ih =>
    intro i M3 hi o3 f3 W3 T3 B3 R3 X3
    have V3 := hV.fi f3
    have fe := f3.2.2.2.2.2.2
    have rk := R3 i (by omega)
    refine k_MS_settle_10 o3 ⟨by omega, by omega⟩ ?_
    rw [V3.r21, V3.r4, V3.n38, V3.n22, fe s (by omega), hn, fe (s + 22) (by omega), Int.toNat_natCast, V3.f38 _ (by omega)]
    refine ⟨V3.k0, fun q => by omega, fun _ => ⟨V3.k38, by omega, V3.k22, by omega, fun v hv => ⟨rk.1.1, (s_MF_set ⟨by split at hv <;> omega, by split at hv <;> omega⟩ (by split at hv <;> omega) ⟨by omega, by omega⟩ (by omega) o3 rk (by omega)).mono (fun M5 h5 => ?_)⟩⟩⟩
    obtain ⟨o5, f5, F5, y1, y2, y3⟩ := h5
    have C5 := fc_one F5 y2 (fun q => y3 (by omega))
    have f5' : FI (eS s 88) M3 M5 := f5.mono (fun y q => by have q' : s + 88 + 25 * i ≤ y ∧ y ≤ s + 88 + 25 * i + 4 := q; omega)
    have e5 : fv M5 (s + 88 + 25 * i) = valr M s m 0 i := by
      rw [fv_set y1 y2]
      have z0 : ((0 : Int) : Rat) = 0 := rfl
      have z1 : ((1 : Int) : Rat) = 1 := rfl
      unfold valr
      rw [if_neg (fun w => by have := w.2; omega), z1]
      by_cases q : mI M (s + 22) i = 3
      · rw [if_pos q] at hv ⊢
        rw [hv, z1]; grind
      · rw [if_neg q] at hv ⊢
        rw [hv, z0]; grind
    have X5 := X3.put (x' := valr M s m 0) (n' := i + 1) f5 F5 C5 e5 (fun j hj => by
      by_cases z : j = i
      · exact Or.inl z
      · exact Or.inr ⟨by omega, rfl⟩)
    exact ⟨o5, ih (i + 1) M5 (by omega) o5 (f3.trans (f5'.mono (fun y q => Or.inr (Or.inr (Or.inr (Or.inl q)))))) (W3.far f5' (fun y q => by have := q.1; omega)) (T3.out f5' (fun y q => by have := q.2.1; have := q.1; have := q.2.2; omega)) (B3.out f5' (fun y q => by have := q.2.1; have := q.1; have := q.2.2; omega)) (R3.put (by omega) f5 F5.ft) X5⟩
end VS
