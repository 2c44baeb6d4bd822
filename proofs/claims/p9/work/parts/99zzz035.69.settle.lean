section
/-! The solver: settle. -/
/-- 512 fractions have room -/
def Rm (M : mM) (s e : Nat) : Prop := ∀ i, i < 512 → Ft M (s + e + 25 * i) 56
abbrev eS (s e : Nat) : Nat → Prop := fun x => s + e ≤ x ∧ x < s + e + 12800 ∧ (x - (s + e)) % 25 ≤ 4
theorem Rm.out {S : Nat → Prop} {M M' : mM} {s e : Nat} (h : Rm M s e) (k : FI S M M') (hs : ∀ y, S y → y < s + e ∨ s + e + 12780 ≤ y) : Rm M' s e :=
  fun i hi => (h i hi).out k (fun y q => by have := hs y q; omega)
theorem Rm.put {M M' : mM} {s e i : Nat} (h : Rm M s e) (hi : i < 512) (k : FI (fS (s + e + 25 * i)) M M') (h1 : Ft M' (s + e + 25 * i) 56) : Rm M' s e := by
  intro j hj
  by_cases q : j = i
  · rw [q]; exact h1
  · exact (h j hj).out k (fun y w => by have w' : s + e + 25 * i ≤ y ∧ y ≤ s + e + 25 * i + 4 := w; omega)
theorem Xt.put {M M' : mM} {s e n i n' : Nat} {x x' : Nat → Rat} (h : Xt M s e n x) (k : FI (fS (s + e + 25 * i)) M M') (h1 : Fq M' (s + e + 25 * i) 56) (h2 : Fc M' (s + e + 25 * i)) (h3 : fv M' (s + e + 25 * i) = x' i) (hq : ∀ j, j < n' → j = i ∨ (j < n ∧ x' j = x j)) : Xt M' s e n' x' := by
  intro j hj
  by_cases q : j = i
  · rw [q]; exact ⟨h1, h2, h3⟩
  · have w : j < n ∧ x' j = x j := by
      rcases hq j hj with w | w
      · exact absurd w q
      · exact w
    obtain ⟨g1, g2, g3⟩ := h j w.1
    have hs' : ∀ y, fS (s + e + 25 * i) y → y < s + e + 25 * j ∨ s + e + 25 * j + 4 < y := fun y z => by have z' : s + e + 25 * i ≤ y ∧ y ≤ s + e + 25 * i + 4 := z; omega
    exact ⟨(g1.out k hs').1, g2.out g1 k hs', by rw [fv_out g1 k hs', g3, w.2]⟩
theorem Xt.congr {M : mM} {s e n : Nat} {x x' : Nat → Rat} (h : Xt M s e n x) (hq : ∀ j, j < n → x' j = x j) : Xt M s e n x' := fun j hj => by
  obtain ⟨g1, g2, g3⟩ := h j hj
  exact ⟨g1, g2, g3.trans (hq j hj).symm⟩
/-- the values -/
def valx (M : mM) (s m : Nat) : Nat → Rat := fun k => if mI M (s + 36) k ≠ 0 ∧ mI M (s + 22) k ≠ 3 then gq (rowp M s m) m (mI M (s + 40) k).toNat m else if mI M (s + 22) k = 3 then 1 else 0
/-- the values while they are copied -/
def valr (M : mM) (s m r : Nat) : Nat → Rat := fun k => if (mI M (s + 36) k ≠ 0 ∧ mI M (s + 22) k ≠ 3) ∧ (mI M (s + 40) k).toNat < r then gq (rowp M s m) m (mI M (s + 40) k).toNat m else if mI M (s + 22) k = 3 then 1 else 0
theorem valx_y {M : mM} {s m k : Nat} (h : mI M (s + 36) k ≠ 0 ∧ mI M (s + 22) k ≠ 3) : valx M s m k = gq (rowp M s m) m (mI M (s + 40) k).toNat m := if_pos h
theorem valx_n {M : mM} {s m k : Nat} (h : ¬ (mI M (s + 36) k ≠ 0 ∧ mI M (s + 22) k ≠ 3)) : valx M s m k = if mI M (s + 22) k = 3 then 1 else 0 := if_neg h
theorem valr_y {M : mM} {s m k r : Nat} (h : mI M (s + 36) k ≠ 0 ∧ mI M (s + 22) k ≠ 3) (h2 : (mI M (s + 40) k).toNat < r) : valr M s m r k = gq (rowp M s m) m (mI M (s + 40) k).toNat m := if_pos ⟨h, h2⟩
theorem valr_n {M : mM} {s m k r : Nat} (h : ¬ ((mI M (s + 36) k ≠ 0 ∧ mI M (s + 22) k ≠ 3) ∧ (mI M (s + 40) k).toNat < r)) : valr M s m r k = if mI M (s + 22) k = 3 then 1 else 0 := if_neg h
section VX
variable {M : mM} {s m : Nat} {N : Nat → Nat → Int} {D : Nat → Int}
theorem valx_01 (hE : Enu M s m) (hS : Sy m (rowp M s m) N D) {k : Nat} (hk : (k : Int) < mI M s 1) : 0 ≤ valx M s m k ∧ valx M s m k ≤ 1 := by
  unfold valx
  by_cases q : mI M (s + 36) k ≠ 0 ∧ mI M (s + 22) k ≠ 3
  · rw [if_pos q]
    obtain ⟨r1, r2, r3⟩ := hE.2.1 k hk q
    exact hS.q01 (by omega) (by omega) (by omega)
  · rw [if_neg q]
    split <;> exact ⟨by decide, by decide⟩
theorem valx_eq (hE : Enu M s m) (hG : GW M s) (hS : Sy m (rowp M s m) N D) {k : Nat} (hk : (k : Int) < mI M s 1) (hu : unk M s k) : valx M s m k = cw M s (cx M s k (pl M s k)) (valx M s m) := by
  obtain ⟨r1, r2, r3⟩ := hE.2.1 k hk hu
  have hi : (mI M (s + 40) k).toNat < m := by omega
  have euj : uu M s (mI M (s + 40) k).toNat = k := by unfold uu; omega
  obtain ⟨⟨h, g⟩, -⟩ := hS
  have e := gq_eq g m (by omega) (mI M (s + 40) k).toNat m
  have e1 : valx M s m k = gq (rowp M s m) m (mI M (s + 40) k).toNat m := if_pos hu
  rw [rowp_sum hE hG hi (fun t => gq (rowp M s m) m t m), rowp_m, ← cw_add] at e
  rw [e1, e]
  have e2 : rwc M s (mI M (s + 40) k).toNat = cx M s k (pl M s k) := by unfold rwc; rw [euj]
  rw [e2]
  refine cw_congr (fun b hb => ?_)
  generalize tg M s (bg M s (cx M s k (pl M s k)) + b) = t
  show (isT M s t : Rat) + eU M s (fun t => gq (rowp M s m) m t m) t = valx M s m t
  unfold isT eU valx
  have z0 : ((0 : Int) : Rat) = 0 := rfl
  have z1 : ((1 : Int) : Rat) = 1 := rfl
  by_cases q : mI M (s + 22) t = 3
  · rw [if_pos q, if_neg (fun w => w.2 q), if_neg (fun w => w.2 q), if_pos q, z1]; grind
  · rw [if_neg q, if_neg q, z0]
    by_cases z : mI M (s + 36) t ≠ 0 ∧ mI M (s + 22) t ≠ 3
    · rw [if_pos z]; exact Rat.zero_add _
    · rw [if_neg z]; exact Rat.zero_add _
end VX
abbrev tS (s : Nat) : Nat → Prop := fun x => (s + 2 ≤ x ∧ x ≤ s + 21) ∨ (s + 42 ≤ x ∧ x ≤ s + 51) ∨ (s + 57 ≤ x ∧ x ≤ s + 61) ∨ eS s 88 x ∨ (s + 12868 ≤ x ∧ x ≤ s + 21067)
section VS
variable {G : mG} {d s m n : Nat} {M : mM} {N : Nat → Nat → Int} {D : Nat → Int}
theorem s_MS_settle (hm : m ≤ 40) (hO : mOk M) (hV : Vk M s) (hG : GW M s) (hC : GB M s) (hn : mI M s 1 = n) (h24 : mI M s 24 = m) (hE : Enu M s m) (hS : Sy m (rowp M s m) N D) (hW : Wk M s) (hT : Ct M s) (hR : Rm M s 88) :
    Cv G y_MS_settle (d + 7) [vr s] M (fun M' => mOk M' ∧ FI (tS s) M M' ∧ Wk M' s ∧ Ct M' s ∧ Rm M' s 88 ∧ Xt M' s 88 n (valx M s m)) := by
  have h2 := hG.2.1
  have h1 := hG.1
  refine k_MS_settle hO ⟨hV.k0, (s_MS_writeRows (d := d + 1) hm hO hV hG hC h24 hE hW hT).mono (fun M1 g1 => ?_)⟩
  obtain ⟨o1, f1, W1, T1, B1⟩ := g1
  have V1 := hV.fi f1
  have fe1 := f1.2.2.2.2.2.2
  refine ⟨o1, V1.k0, (s_MS_solveRows (d := d) hm o1 V1 (by rw [fe1 s (by omega), h24]) W1 hS B1).mono (fun M2 g2 => ?_)⟩
  obtain ⟨o2, f2, W2, B2⟩ := g2
  have V2 := V1.fi f2
  have f12 : FI (tS s) M M2 := (f1.mono (fun y q => by omega)).trans (f2.mono (fun y q => by omega))
  have R2 : Rm M2 s 88 := (hR.out f1 (fun y q => by omega)).out f2 (fun y q => by omega)
  have T2 : Ct M2 s := fun i j hi hj => by
    by_cases q : i < m ∧ j ≤ m
    · exact (B2 i j q.1 q.2).1.ft
    · exact (T1 i j hi hj).out f2 (fun x w => by unfold cel; omega)
  refine ⟨o2, ?_⟩
  suffices H : ∀ (t i : Nat) (M3 : mM), i + t = n → mOk M3 → FI (tS s) M M3 → Wk M3 s → Ct M3 s → Tb M3 s m (tA (rowp M s m) m m) → Rm M3 s 88 → Xt M3 s 88 i (valr M s m 0) → h_MS_settle_10 G (d + 6) s i M3 (fun M' => mOk M' ∧ FI (tS s) M M' ∧ Wk M' s ∧ Ct M' s ∧ Rm M' s 88 ∧ Xt M' s 88 n (valx M s m)) from
    H n 0 M2 (by omega) o2 f12 W2 T2 B2 R2 (fun k hk => by omega)
  clear T2 R2 f12 V2 B2 W2 f2 o2 M2 fe1 V1 B1 T1 W1 f1 o1 M1
  intro t
  induction t with
  | zero =>
    intro i M3 hi o3 f3 W3 T3 B3 R3 X3
    have ei : i = n := by omega
    subst ei
    have V3 := hV.fi f3
    have fe := f3.2.2.2.2.2.2
    refine k_MS_settle_10 o3 ⟨by omega, by omega⟩ ?_
    rw [fe s (by omega), hn]
    refine ⟨V3.k0, fun _ => ?_, fun q => by omega⟩
    suffices H : ∀ (t r : Nat) (M3 : mM), r + t = m → mOk M3 → FI (tS s) M M3 → Wk M3 s → Ct M3 s → Tb M3 s m (tA (rowp M s m) m m) → Rm M3 s 88 → Xt M3 s 88 i (valr M s m r) → h_MS_settle_51 G (d + 6) s r M3 (fun M' => mOk M' ∧ FI (tS s) M M' ∧ Wk M' s ∧ Ct M' s ∧ Rm M' s 88 ∧ Xt M' s 88 i (valx M s m)) from
      H m 0 M3 (by omega) o3 f3 W3 T3 B3 R3 X3
    clear fe V3 X3 R3 B3 T3 W3 f3 o3 M3
    intro t
    induction t with
    | zero =>
      intro r M3 hr o3 f3 W3 T3 B3 R3 X3
      have er : r = m := by omega
      subst er
      have V3 := hV.fi f3
      have fe := f3.2.2.2.2.2.2
      refine k_MS_settle_51 o3 ⟨by omega, by omega⟩ ?_
      rw [fe s (by omega), h24]
      refine ⟨V3.k0, fun _ => ⟨o3, f3, W3, T3, R3, X3.congr (fun k hk => ?_)⟩, fun q => by omega⟩
      by_cases q : mI M (s + 36) k ≠ 0 ∧ mI M (s + 22) k ≠ 3
      · obtain ⟨r1, r2, r3⟩ := hE.2.1 k (by omega) q
        rw [valx_y q, valr_y q (by omega)]
      · rw [valx_n q, valr_n (fun w => q w.1)]
    | succ t ih =>
      intro r M3 hr o3 f3 W3 T3 B3 R3 X3
      have hrm : r < m := by omega
      have V3 := hV.fi f3
      have fe := f3.2.2.2.2.2.2
      obtain ⟨u1, u2, u3, u4⟩ := hE.1 r hrm
      have huu : (mI M (s + 39) r).toNat = uu M s r := rfl
      have huu2 : (uu M s r : Int) = mI M (s + 39) r := by unfold uu; omega
      refine k_MS_settle_51 o3 ⟨by omega, by omega⟩ ?_
      rw [V3.r22, V3.r21, V3.n39, V3.n38, fe s (by omega), h24, fe (s + 39) (by omega), Int.toNat_natCast, huu, V3.f38 _ (by omega)]
      refine ⟨V3.k0, fun q => by omega, fun _ => ⟨V3.k39, by omega, V3.k38, by omega, (s_MS_cell (by omega) (by omega) o3 V3).mono (fun x M4 h4 => ?_)⟩⟩
      obtain ⟨e4, hx⟩ := h4
      subst e4 hx
      have cr := B3 r m hrm (by omega)
      have rk := R3 (uu M s r) (by omega)
      refine ⟨o3, rk.1.1, (s_MF_copy o3 rk cr.1 (by unfold cel; omega) cr.1.2.1.1.2.2.2.2.2.2 cr.1.2.2.1.1.2.2.2.2.2.2).mono (fun M5 h5 => ?_)⟩
      obtain ⟨o5, f5, F5, w4, w5, w6⟩ := h5
      have C5 := fc_copy cr.2.1 w4 w5 w6
      have f5' : FI (eS s 88) M4 M5 := f5.mono (fun y q => by have q' : s + 88 + 25 * uu M s r ≤ y ∧ y ≤ s + 88 + 25 * uu M s r + 4 := q; omega)
      have e5 : fv M5 (s + 88 + 25 * uu M s r) = valr M s m (r + 1) (uu M s r) := by
        rw [C5.2, cr.2.2]
        unfold valr
        rw [if_pos ⟨u3, by omega⟩, u4, Int.toNat_natCast]
        unfold tA
        rw [if_pos rfl]
      have X5 := X3.put (x' := valr M s m (r + 1)) (n' := i) f5 F5 C5.1 e5 (fun j hj => by
        by_cases z : j = uu M s r
        · exact Or.inl z
        · refine Or.inr ⟨hj, ?_⟩
          by_cases q : mI M (s + 36) j ≠ 0 ∧ mI M (s + 22) j ≠ 3
          · obtain ⟨r1, r2, r3⟩ := hE.2.1 j (by omega) q
            have hne : (mI M (s + 40) j).toNat ≠ r := fun y => z (by unfold uu; rw [y] at r3; omega)
            by_cases y : (mI M (s + 40) j).toNat < r
            · rw [valr_y q (by omega), valr_y q y]
            · rw [valr_n (fun w => y (by have := w.2; omega)), valr_n (fun w => y w.2)]
          · rw [valr_n (fun w => q w.1), valr_n (fun w => q w.1)])
      exact ⟨o5, ih (r + 1) M5 (by omega) o5 (f3.trans (f5'.mono (fun y q => Or.inr (Or.inr (Or.inr (Or.inl q)))))) (W3.far f5' (fun y q => by have := q.1; omega)) (T3.out f5' (fun y q => by have := q.2.1; have := q.1; have := q.2.2; omega)) (B3.out f5' (fun y q => by have := q.2.1; have := q.1; have := q.2.2; omega)) (R3.put (by omega) f5 F5.ft) X5⟩
  | succ t ih =>
    intro i M3 hi o3 f3 W3 T3 B3 R3 X3
    have V3 := hV.fi f3
    have fe := f3.2.2.2.2.2.2
    have rk := R3 i (by omega)
    refine k_MS_settle_10 o3 ⟨by omega, by omega⟩ ?_
    rw [V3.r21, V3.r4, V3.n38, V3.n22, fe s (by omega), hn, fe (s + 22) (by omega), Int.toNat_natCast, V3.f38 _ (by omega)]
    refine ⟨V3.k0, fun q => by omega, fun _ => ⟨V3.k38, by omega, V3.k22, by omega, fun v hv => ⟨rk.1.1, (s_MF_set ⟨by split at hv <;> omega, by split at hv <;> omega⟩ (by split at hv <;> omega) ⟨by omega, by omega⟩ (by omega) o3 rk (by omega)).mono (fun M5 h5 => ?_)⟩⟩⟩
    obtain ⟨o5, f5, F5, y1, y2, y3⟩ := h5
    have C5 := fc_one F5 y2 (fun q => y3 (by omega))
    have f5' : FI (eS s 88) M3 M5 := f5.mono (fun y q => by have q' : s + 88 + 25 * i ≤ y ∧ y ≤ s + 88 + 25 * i + 4 := q; omega)
    have e5 : fv M5 (s + 88 + 25 * i) = valr M s m 0 i := by
      rw [fv_set y1 y2]
      have z0 : ((0 : Int) : Rat) = 0 := rfl
      have z1 : ((1 : Int) : Rat) = 1 := rfl
      unfold valr
      rw [if_neg (fun w => by have := w.2; omega), z1]
      by_cases q : mI M (s + 22) i = 3
      · rw [if_pos q] at hv ⊢
        rw [hv, z1]; grind
      · rw [if_neg q] at hv ⊢
        rw [hv, z0]; grind
    have X5 := X3.put (x' := valr M s m 0) (n' := i + 1) f5 F5 C5 e5 (fun j hj => by
      by_cases z : j = i
      · exact Or.inl z
      · exact Or.inr ⟨by omega, rfl⟩)
    exact ⟨o5, ih (i + 1) M5 (by omega) o5 (f3.trans (f5'.mono (fun y q => Or.inr (Or.inr (Or.inr (Or.inl q)))))) (W3.far f5' (fun y q => by have := q.1; omega)) (T3.out f5' (fun y q => by have := q.2.1; have := q.1; have := q.2.2; omega)) (B3.out f5' (fun y q => by have := q.2.1; have := q.1; have := q.2.2; omega)) (R3.put (by omega) f5 F5.ft) X5⟩
end VS
end
section
/-! The solver: improve. -/
theorem exF : ∀ n : Nat, ∃ F : Int, 0 < F ∧ ∀ e : Int, 0 < e → e < n → e ∣ F
  | 0 => ⟨1, by omega, fun e h1 h2 => by omega⟩
  | n + 1 => by
    obtain ⟨F, h0, h⟩ := exF n
    by_cases q : n = 0
    · exact ⟨F, h0, fun e h1 h2 => by omega⟩
    · refine ⟨F * n, Int.mul_pos h0 (by omega), fun e h1 h2 => ?_⟩
      by_cases z : e = n
      · rw [z]; exact Int.dvd_mul_left _ _
      · exact Int.dvd_trans (h e h1 (by omega)) (Int.dvd_mul_right _ _)
/-- F makes whole numbers of all small values -/
def Fall (F : Int) : Prop := 0 < F ∧ ∀ e : Int, 0 < e → e < 16777216 ^ 56 → e ∣ F
theorem fall_ex : ∃ F, Fall F := by
  obtain ⟨F, h0, h⟩ := exF ((16777216 : Int) ^ 56).toNat
  refine ⟨F, h0, fun e h1 h2 => h e h1 ?_⟩
  rw [Int.toNat_of_nonneg (Int.pow_nonneg (by omega))]
  exact h2
theorem Fall.int {F : Int} (h : Fall F) {x : Rat} (hx : Sml x) : ∃ z : Int, x * (F : Rat) = (z : Rat) := by
  obtain ⟨E, z, h0, h1, h2, -, -⟩ := hx
  obtain ⟨t, ht⟩ := h.2 E h0 h1
  refine ⟨z * t, ?_⟩
  rw [ht, Rat.intCast_mul, Rat.intCast_mul, ← h2]
  grind
theorem fv_wv {M : mM} {f r : Nat} (hF : Fq M f r) (h : 0 ≤ fv M f) : sn M f = wv M (f + 1) := by
  have p : 0 < sd M f := hF.2.2.2.2
  have e := fv_sd hF
  have a := Rat.mul_nonneg h (Rat.le_of_lt (Rat.intCast_pos.2 p))
  rw [e] at a
  have b : 0 ≤ sn M f := ic_le (by have : ((0 : Int) : Rat) = 0 := rfl; rw [this]; exact a)
  have hn := hF.2.1.nonneg
  unfold sn at b ⊢
  split at b <;> (try rw [if_pos (by assumption)]) <;> (try rw [if_neg (by assumption)]) <;> omega
theorem ic_lt {x y : Int} : (x : Rat) < (y : Rat) ↔ x < y := by exact_mod_cast Iff.rfl
theorem fv_cmp {M : mM} {a b ra rb : Nat} (hA : Fq M a ra) (hB : Fq M b rb) (ha : 0 ≤ fv M a) (hb : 0 ≤ fv M b) : (wv M (a + 1) * wv M (b + 3) < wv M (b + 1) * wv M (a + 3) ↔ fv M a < fv M b) ∧ (wv M (a + 1) * wv M (b + 3) = wv M (b + 1) * wv M (a + 3) ↔ fv M a = fv M b) := by
  have p1 : 0 < sd M a := hA.2.2.2.2
  have p2 : 0 < sd M b := hB.2.2.2.2
  have e1 := fv_sd hA
  have e2 := fv_sd hB
  rw [fv_wv hA ha] at e1
  rw [fv_wv hB hb] at e2
  have q1 : (0 : Rat) < (sd M a : Rat) := Rat.intCast_pos.2 p1
  have q2 : (0 : Rat) < (sd M b : Rat) := Rat.intCast_pos.2 p2
  have s1 : sd M a = wv M (a + 3) := rfl
  have s2 : sd M b = wv M (b + 3) := rfl
  rw [s1] at e1 q1
  rw [s2] at e2 q2
  have c1 : ((wv M (a + 1) * wv M (b + 3) : Int) : Rat) = fv M a * ((wv M (a + 3) : Rat) * (wv M (b + 3) : Rat)) := by rw [Rat.intCast_mul, ← e1]; grind
  have c2 : ((wv M (b + 1) * wv M (a + 3) : Int) : Rat) = fv M b * ((wv M (a + 3) : Rat) * (wv M (b + 3) : Rat)) := by rw [Rat.intCast_mul, ← e2]; grind
  have hp := Rat.mul_pos q1 q2
  generalize (wv M (a + 3) : Rat) * (wv M (b + 3) : Rat) = P at *
  generalize fv M a = x at *
  generalize fv M b = y at *
  clear e1 e2 q1 q2
  refine ⟨⟨fun h => ?_, fun h => ?_⟩, ⟨fun h => ?_, fun h => ?_⟩⟩
  · have h' := ic_lt.2 h
    rw [c1, c2] at h'
    refine Classical.byContradiction (fun w => ?_)
    have a := Rat.mul_nonneg (a := x - y) (b := P) (by grind) (Rat.le_of_lt hp)
    grind
  · refine ic_lt.1 ?_
    rw [c1, c2]
    have a := Rat.mul_pos (a := y - x) (b := P) (by grind) hp
    grind
  · have h' : ((wv M (a + 1) * wv M (b + 3) : Int) : Rat) = ((wv M (b + 1) * wv M (a + 3) : Int) : Rat) := by rw [h]
    rw [c1, c2] at h'
    have i := Rat.mul_inv_cancel P (by grind)
    have e : x * P * P⁻¹ = y * P * P⁻¹ := by rw [h']
    grind
  · have h' : ((wv M (a + 1) * wv M (b + 3) : Int) : Rat) = ((wv M (b + 1) * wv M (a + 3) : Int) : Rat) := by rw [c1, c2, h]
    exact_mod_cast h'
/-- command i of state k is better for the player -/
def betP (M : mM) (s : Nat) (x : Nat → Rat) (q : Int) (k i : Nat) : Prop := if q = 1 then x k < cw M s (cx M s k i) x else cw M s (cx M s k i) x < x k
abbrev iS (s : Nat) : Nat → Prop := fun x => wS s x ∨ x = s + 35
/-- what improve leaves behind -/
def imQ (M : mM) (s : Nat) (x : Nat → Rat) (q : Int) (k : Nat) (r : Int) (M' : mM) : Prop := mOk M' ∧ Wk M' s ∧ FI (iS s) M M' ∧ ((r = 0 ∧ mI M' (s + 35) = mI M (s + 35) ∧ (mI M (s + 22) k = q → ∀ i : Nat, (i : Int) < mny M s k → mayP M s k i → ¬ betP M s x q k i)) ∨ (r = 1 ∧ mI M (s + 22) k = q ∧ ∃ i : Nat, (i : Int) < mny M s k ∧ mayP M s k i ∧ betP M s x q k i ∧ ∀ j, mI M' (s + 35) j = if j = k then (i : Int) else mI M (s + 35) j))
section VS
variable {G : mG} {d s n : Nat} {M : mM} {x : Nat → Rat}
theorem s_MS_improve {k : Nat} {q : Int} (hq : q = 1 ∨ q = 2) (hO : mOk M) (hV : Vk M s) (hG : GW M s) (hC : GB M s) (hn : mI M s 1 = n) (hk : (k : Int) < mI M s 1) (hW : Wk M s) (hX : Xt M s 88 n x) (h01 : ∀ t, t < n → 0 ≤ x t ∧ x t ≤ 1) :
    Ci G y_MS_improve (d + 6) [vr s, vi k, vi q] M (fun r M' => imQ M s x q k r M') := by
  have h2 := hG.2.1
  have h3 := hG.2.2.1
  have hc := hG.cmd hk
  have hm0 : 0 ≤ mny M s k ∧ mny M s k ≤ 4200 := by unfold mny; omega
  refine k_MS_improve hO ⟨by omega, by omega⟩ ⟨by omega, by omega⟩ ?_
  suffices H : ∀ (r i : Nat) (M2 : mM), r = (mny M s k).toNat - i → mOk M2 → FI (wS s) M M2 → Wk M2 s → (mI M (s + 22) k = q → ∀ i' : Nat, i' < i → (i' : Int) < mny M s k → mayP M s k i' → ¬ betP M s x q k i') → (i : Int) ≤ mny M s k → h_MS_improve_2 G (d + 5) s k q i M2 (fun r M' => imQ M s x q k r M') from
    H _ 0 M rfl hO FI.refl hW (fun _ i' hi' => by omega) (by omega)
  intro r
  induction r with
  | zero =>
    intro i M2 hr o2 f2 W2 hB hi
    have V2 := hV.fi f2
    have G2 : sameG M M2 s := sameG.of f2 (by omega) (fun y _ _ => by omega)
    have fe := f2.2.2.2.2.2.2
    refine k_MS_improve_2 o2 ⟨by omega, by omega⟩ ⟨by omega, by omega⟩ ⟨by omega, by omega⟩ ?_
    rw [V2.r4, V2.n22, fe (s + 22) (by omega), Int.toNat_natCast]
    refine ⟨V2.k0, V2.k22, by omega, fun e => (s_MS_many o2 V2 (G2.gw hG) (by rw [G2.1]; exact hk)).mono (fun y M3 h3' => ?_), fun e => ⟨o2, W2, f2.mono (fun y w => Or.inl w), Or.inl ⟨rfl, fe (s + 35) (by omega), fun w => absurd w e⟩⟩⟩
    obtain ⟨e3, hy⟩ := h3'
    subst e3
    rw [G2.hm] at hy
    exact ⟨⟨by omega, by omega⟩, o2, fun _ => ⟨o2, W2, f2.mono (fun y w => Or.inl w), Or.inl ⟨rfl, fe (s + 35) (by omega), fun w i' hi' => hB w i' (by omega) hi'⟩⟩, fun w => by omega⟩
  | succ r ih =>
    intro i M2 hr o2 f2 W2 hB hi
    have V2 := hV.fi f2
    have G2 : sameG M M2 s := sameG.of f2 (by omega) (fun y _ _ => by omega)
    have fe := f2.2.2.2.2.2.2
    have GG := G2.gw hG
    have hk2 : (k : Int) < mI M2 s 1 := by rw [G2.1]; exact hk
    have him : (i : Int) < mny M s k := by omega
    have hmay : mayP M2 s k i ↔ mayP M s k i := by
      unfold mayP
      rw [fe s (by omega), fe (s + 22) (by omega), fe (s + 32) (by omega)]
    refine k_MS_improve_2 o2 ⟨by omega, by omega⟩ ⟨by omega, by omega⟩ ⟨by omega, by omega⟩ ?_
    rw [V2.r4, V2.n22, fe (s + 22) (by omega), Int.toNat_natCast]
    refine ⟨V2.k0, V2.k22, by omega, fun e => (s_MS_many o2 V2 GG hk2).mono (fun y M3 h3' => ?_), fun e => ⟨o2, W2, f2.mono (fun y w => Or.inl w), Or.inl ⟨rfl, fe (s + 35) (by omega), fun w => absurd w e⟩⟩⟩
    obtain ⟨e3, hy⟩ := h3'
    subst e3
    rw [G2.hm] at hy
    refine ⟨⟨by omega, by omega⟩, o2, fun w => by omega, fun _ => ⟨V2.k0, (s_MS_may (by omega) o2 V2 GG hk2).mono (fun z M4 h4 => ?_)⟩⟩
    obtain ⟨e4, hz, hzq⟩ := h4
    subst e4
    refine ⟨⟨by omega, by omega⟩, o2, fun w => ?_, fun w => ?_⟩
    · refine ih (i + 1) M4 (by omega) o2 f2 W2 (fun w' i' hi' hi2 hm => ?_) (by omega)
      by_cases z' : i' = i
      · subst z'
        exact absurd w (hzq.2 (hmay.2 hm))
      · exact hB w' i' (by omega) hi2 hm
    · have hmi : mayP M s k i := hmay.1 (hzq.1 w)
      have X2 := hX.out f2 (fun y w => by omega)
      rw [V2.r21]
      refine ⟨V2.k0, (s_MS_worthOf (d := d) (n := n) (Or.inl ⟨rfl, rfl, rfl⟩) o2 V2 GG (G2.gb hC) (by rw [G2.1]; exact hn) hk2 (by rw [G2.hm]; exact him) W2 X2 h01).mono (fun M5 h5 => ?_)⟩
      obtain ⟨o5, f5, W5, F5, C5, v5, s5⟩ := h5
      rw [G2.hw, G2.hx] at v5 s5
      have V5 := V2.fi f5
      have f25 := f2.trans f5
      have fe5 := f25.2.2.2.2.2.2
      have X5 := X2.out f5 (fun y w => by omega)
      have xk := X5 k (by omega)
      have sz := smp_size F5 C5 (by rw [v5]; exact s5)
      have z3 := xk.1.2.1.1.2.2.2.2.2.2
      have z4 := xk.1.2.2.1.1.2.2.2.2.2.2
      have hx0 := h01 k (by omega)
      have hcx : (cx M s k i : Int) < mI M s 2 := by
        have := him
        unfold mny at this
        unfold cx
        omega
      have hw0 : 0 ≤ cw M s (cx M s k i) x := by
        have a := cw_le hC hcx (f := fun _ => 0) (g := x) (fun b hb => (h01 _ (by have := tg_lt hG hcx hb; omega)).1)
        rw [cw_const hC hcx] at a
        exact a
      rw [V5.r21, V5.r0, V5.r28, V5.n38, V5.f38 k (by omega)]
      refine ⟨o5, V5.k0, V5.k38, by omega, W5.1.1.1, (s_MU_compare (d := d + 3) o5 W5.1 F5 xk.1 (by unfold suO; omega) (by unfold suO; omega) (by omega) (by omega)).mono (fun c M6 h6 => ?_)⟩
      obtain ⟨o6, f6, Z6, hcv⟩ := h6
      have hcm := fv_cmp F5 xk.1 (by rw [v5]; exact hw0) (by rw [xk.2.2]; exact hx0.1)
      rw [v5, xk.2.2] at hcm
      have f6' : FI (wS s) M5 M6 := f6.mono (fun y w => by omega)
      have V6 := V5.fi f6
      have W6 : Wk M6 s := W5.out f6 Z6 (fun y w => by omega)
      have f26 := f25.trans f6'
      have fe6 := f26.2.2.2.2.2.2
      have hnext : ¬ betP M s x q k i → h_MS_improve_2 G (d + 5) s k q ((i : Int) + 1) M6 (fun r M' => imQ M s x q k r M') := fun hb => by
        refine ih (i + 1) M6 (by omega) o6 f26 W6 (fun w' i' hi' hi2 hm => ?_) (by omega)
        by_cases z' : i' = i
        · subst z'; exact hb
        · exact hB w' i' (by omega) hi2 hm
      have hend : betP M s x q k i → ∀ M7, M7 = mUI M6 (s + 35) k i → imQ M s x q k 1 M7 := fun hb M7 e7 => by
        have f7 : FI (fun y => y = s + 35) M6 M7 := by rw [e7]; exact FI.ui rfl
        have o7 : mOk M7 := by rw [e7]; exact mOk_UI o6 ⟨by omega, by omega⟩
        refine ⟨o7, W6.far f7 (fun y w => by omega), (f26.mono (fun y w => Or.inl w)).trans (f7.mono (fun y w => Or.inr w)), Or.inr ⟨rfl, e, i, him, hmi, hb, fun j => ?_⟩⟩
        rw [e7, mI_UI, fe6 (s + 35) (by omega)]
        by_cases z' : j = k
        · rw [if_pos ⟨rfl, z'⟩, if_pos z']
        · rw [if_neg (fun w => z' w.2), if_neg z']
      have hc3 : c = -1 ∨ c = 0 ∨ c = 1 := by split at hcv <;> (try split at hcv) <;> omega
      rw [V6.r18, V6.n35]
      refine ⟨⟨by omega, by omega⟩, o6, fun w1 => ⟨fun w2 => hnext ?_, fun w2 => ⟨V6.k0, V6.k35, by omega, hend ?_⟩⟩, fun w1 => ⟨fun w2 => hnext ?_, fun w2 => ⟨V6.k0, V6.k35, by omega, hend ?_⟩⟩⟩
      · unfold betP
        rw [if_pos w1]
        by_cases y1 : wv M5 (s + 52 + 1) * wv M5 (s + 88 + 25 * k + 3) < wv M5 (s + 88 + 25 * k + 1) * wv M5 (s + 52 + 3)
        · have := hcm.1.1 y1; grind
        · rw [if_neg y1] at hcv
          by_cases y2 : wv M5 (s + 52 + 1) * wv M5 (s + 88 + 25 * k + 3) = wv M5 (s + 88 + 25 * k + 1) * wv M5 (s + 52 + 3)
          · have := hcm.2.1 y2; grind
          · rw [if_neg y2] at hcv; omega
      · unfold betP
        rw [if_pos w1]
        by_cases y1 : wv M5 (s + 52 + 1) * wv M5 (s + 88 + 25 * k + 3) < wv M5 (s + 88 + 25 * k + 1) * wv M5 (s + 52 + 3)
        · rw [if_pos y1] at hcv; omega
        · rw [if_neg y1] at hcv
          by_cases y2 : wv M5 (s + 52 + 1) * wv M5 (s + 88 + 25 * k + 3) = wv M5 (s + 88 + 25 * k + 1) * wv M5 (s + 52 + 3)
          · rw [if_pos y2] at hcv; omega
          · have a1 : ¬ cw M s (cx M s k i) x < x k := fun y => y1 (hcm.1.2 y)
            have a2 : ¬ cw M s (cx M s k i) x = x k := fun y => y2 (hcm.2.2 y)
            grind
      · unfold betP
        rw [if_neg w1]
        by_cases y1 : wv M5 (s + 52 + 1) * wv M5 (s + 88 + 25 * k + 3) < wv M5 (s + 88 + 25 * k + 1) * wv M5 (s + 52 + 3)
        · rw [if_pos y1] at hcv; omega
        · exact fun y => y1 (hcm.1.2 y)
      · unfold betP
        rw [if_neg w1]
        by_cases y1 : wv M5 (s + 52 + 1) * wv M5 (s + 88 + 25 * k + 3) < wv M5 (s + 88 + 25 * k + 1) * wv M5 (s + 52 + 3)
        · exact hcm.1.1 y1
        · rw [if_neg y1] at hcv
          split at hcv <;> omega
end VS
end
section
/-! Better choices move the values one way. -/
theorem argmaxP {P : Nat → Prop} {f : Nat → Rat} : ∀ n, (∃ k, k < n ∧ P k) → ∃ k, k < n ∧ P k ∧ ∀ j, j < n → P j → f j ≤ f k
  | 0, h => by obtain ⟨k, h, _⟩ := h; omega
  | n + 1, h => by
    by_cases q : ∃ k, k < n ∧ P k
    · obtain ⟨k, k1, k2, k3⟩ := argmaxP n q
      by_cases z : P n ∧ f k ≤ f n
      · refine ⟨n, by omega, z.1, fun j hj hp => ?_⟩
        by_cases y : j = n
        · rw [y]; exact Rat.le_refl
        · exact Rat.le_trans (k3 j (by omega) hp) z.2
      · refine ⟨k, by omega, k2, fun j hj hp => ?_⟩
        by_cases y : j = n
        · subst y
          have : ¬ f k ≤ f j := fun w => z ⟨hp, w⟩
          grind
        · exact k3 j (by omega) hp
    · obtain ⟨k, k1, k2⟩ := h
      have : k = n := Classical.byContradiction (fun w => q ⟨k, by omega, k2⟩)
      subst this
      refine ⟨k, by omega, k2, fun j hj hp => ?_⟩
      have : j = k := Classical.byContradiction (fun w => q ⟨j, by omega, hp⟩)
      rw [this]; exact Rat.le_refl
theorem argminN {P : Nat → Prop} {f : Nat → Nat} {n : Nat} : ∀ t k, f k = t → k < n → P k → ∃ k, k < n ∧ P k ∧ ∀ j, j < n → P j → f k ≤ f j := by
  intro t
  induction t using Nat.strongRecOn with
  | ind t ih =>
    intro k e hk hp
    by_cases q : ∃ j, j < n ∧ P j ∧ f j < t
    · obtain ⟨j, j1, j2, j3⟩ := q
      exact ih (f j) j3 j rfl j1 j2
    · exact ⟨k, hk, hp, fun j hj hpj => Classical.byContradiction (fun w => q ⟨j, hj, hpj, by omega⟩)⟩
/-- command i of state k may lead into T -/
def LD (M : mM) (s k i : Nat) (T : Nat → Prop) : Prop := ∃ b, b < nb M s (cx M s k i) ∧ T (tg M s (bg M s (cx M s k i) + b))
section UP
variable {M : mM} {s n : Nat} {x : Nat → Rat}
theorem leadQ_LD {T : Nat → Prop} (hG : GW M s) {k i : Nat} (hk : (k : Int) < mI M s 1) (hi : (i : Int) < mny M s k) : leadQ T M s k i ↔ LD M s k i T := by
  have hc := hG.cmd hk
  have hi' := hi
  unfold mny at hi'
  have hcx : (cx M s k i : Int) = mI M (s + 23) k + i := by unfold cx; omega
  have hb := hG.brn (c := cx M s k i) (by omega)
  have e : (mI M (s + 23) k).toNat + i = cx M s k i := rfl
  unfold leadQ LD
  rw [e]
  constructor
  · rintro ⟨b, b1, b2, b3⟩
    refine ⟨b - bg M s (cx M s k i), by unfold nb bg; omega, ?_⟩
    rw [show bg M s (cx M s k i) + (b - bg M s (cx M s k i)) = b by unfold bg; omega]
    exact b3
  · rintro ⟨b, b1, b2⟩
    exact ⟨bg M s (cx M s k i) + b, by unfold bg; omega, by unfold nb bg at *; omega, b2⟩
theorem cx_lt (hG : GW M s) {k i : Nat} (hk : (k : Int) < mI M s 1) (hi : (i : Int) < mny M s k) : (cx M s k i : Int) < mI M s 2 := by
  have hc := hG.cmd hk
  unfold mny at hi
  unfold cx
  omega
/-- all branches of a command lead to where x is at most c; one leads to where it is less -/
theorem cw_below (hG : GW M s) (hC : GB M s) {k i : Nat} (hk : (k : Int) < mI M s 1) (hi : (i : Int) < mny M s k) {c : Rat} {T : Nat → Prop} (hT : ∀ t : Nat, (t : Int) < mI M s 1 → T t → x t ≤ c) (hn : ¬ LD M s k i (fun t => ¬ T t)) : cw M s (cx M s k i) x ≤ c ∧ (LD M s k i (fun t => x t < c) → cw M s (cx M s k i) x < c) := by
  have hcx := cx_lt hG hk hi
  have hb : ∀ b, b < nb M s (cx M s k i) → x (tg M s (bg M s (cx M s k i) + b)) ≤ c := fun b hb => hT _ (tg_lt hG hcx hb) (Classical.byContradiction (fun w => hn ⟨b, hb, w⟩))
  refine ⟨?_, fun hl => ?_⟩
  · have a := cw_le hC hcx (f := x) (g := fun _ => c) hb
    rw [cw_const hC hcx] at a
    exact a
  · obtain ⟨b, b1, b2⟩ := hl
    have a := cw_lt hC hcx (f := x) (g := fun _ => c) hb ⟨b, b1, b2⟩
    rw [cw_const hC hcx] at a
    exact a
theorem up0 (hG : GW M s) (hC : GB M s) (hn : mI M s 1 = n) {A A' : Nat → Prop} {ρ σ σ' : Nat → Nat}
    (hA : ∀ k, k < n → A k → mI M (s + 22) k ≠ 3 → (mI M (s + 22) k = 1 ∧ (σ k : Int) < mny M s k ∧ LD M s k (σ k) (fun t => A t ∧ ρ t < ρ k)) ∨ (mI M (s + 22) k = 2 ∧ 0 < mny M s k ∧ ∀ i : Nat, (i : Int) < mny M s k → mayP M s k i → LD M s k i (fun t => A t ∧ ρ t < ρ k)))
    (hA3 : ∀ k, k < n → mI M (s + 22) k = 3 → A' k)
    (hA' : ∀ k, k < n → ¬ A' k → (mI M (s + 22) k = 1 → (σ' k : Int) < mny M s k → ¬ LD M s k (σ' k) A') ∧ (mI M (s + 22) k = 2 → 0 < mny M s k → ∃ i : Nat, (i : Int) < mny M s k ∧ mayP M s k i ∧ ¬ LD M s k i A'))
    (hx0 : ∀ k, k < n → ¬ A k → mI M (s + 22) k ≠ 3 → x k = 0)
    (hx1 : ∀ k, k < n → A k → mI M (s + 22) k = 1 → x k = cw M s (cx M s k (σ k)) x)
    (hx2 : ∀ k, k < n → A k → mI M (s + 22) k = 2 → ∀ i : Nat, (i : Int) < mny M s k → mayP M s k i → x k ≤ cw M s (cx M s k i) x)
    (hσ : ∀ k, k < n → mI M (s + 22) k = 1 → σ' k = σ k ∨ ((σ' k : Int) < mny M s k ∧ x k < cw M s (cx M s k (σ' k)) x)) :
    ∀ k, k < n → ¬ A' k → x k ≤ 0 := by
  intro k0 hk0 hu0
  refine Classical.byContradiction (fun hpos => ?_)
  obtain ⟨k1, a1, a2, a3⟩ := argmaxP (P := fun k => ¬ A' k) (f := x) n ⟨k0, hk0, hu0⟩
  have hc0 : 0 < x k1 := by have := a3 k0 hk0 hu0; grind
  obtain ⟨k, b1, b2, b3⟩ := argminN (P := fun k => ¬ A' k ∧ x k = x k1) (f := ρ) (n := n) (ρ k1) k1 rfl a1 ⟨a2, rfl⟩
  generalize x k1 = c at *
  obtain ⟨b2, b4⟩ := b2
  have hK3 : mI M (s + 22) k ≠ 3 := fun w => b2 (hA3 k b1 w)
  have hAk : A k := Classical.byContradiction (fun w => by have := hx0 k b1 w hK3; grind)
  have hkI : (k : Int) < mI M s 1 := by omega
  have key : ∀ i : Nat, (i : Int) < mny M s k → ¬ LD M s k i A' → LD M s k i (fun t => A t ∧ ρ t < ρ k) → cw M s (cx M s k i) x < c := fun i hi h1 h2 => by
    have hcx := cx_lt hG hkI hi
    have hb := cw_below (x := x) hG hC hkI hi (c := c) (T := fun t => ¬ A' t) (fun t ht ha => a3 t (by omega) ha) (fun ⟨b, w1, w2⟩ => h1 ⟨b, w1, Classical.byContradiction (fun w3 => w2 w3)⟩)
    refine hb.2 ?_
    obtain ⟨b, w1, w2, w3⟩ := h2
    have htl := tg_lt hG hcx w1
    have hnt : ¬ A' (tg M s (bg M s (cx M s k i) + b)) := fun w => h1 ⟨b, w1, w⟩
    refine ⟨b, w1, ?_⟩
    have h3 := a3 _ (by omega) hnt
    refine Classical.byContradiction (fun w => ?_)
    have h4 := b3 (tg M s (bg M s (cx M s k i) + b)) (by omega) ⟨hnt, by grind⟩
    omega
  rcases hA k b1 hAk hK3 with ⟨c1, c2, c3⟩ | ⟨c1, c2, c3⟩
  · rcases hσ k b1 c1 with e | ⟨e1, e2⟩
    · have h1 := (hA' k b1 b2).1 c1 (by rw [e]; exact c2)
      rw [e] at h1
      have h2 := key (σ k) c2 h1 c3
      have h3 := hx1 k b1 hAk c1
      grind
    · have h1 := (hA' k b1 b2).1 c1 e1
      have hb := cw_below (x := x) hG hC hkI e1 (c := c) (T := fun t => ¬ A' t) (fun t ht ha => a3 t (by omega) ha) (fun ⟨b, w1, w2⟩ => h1 ⟨b, w1, Classical.byContradiction (fun w3 => w2 w3)⟩)
      have := hb.1
      grind
  · obtain ⟨i, d1, d2, d3⟩ := (hA' k b1 b2).2 c1 c2
    have h2 := key i d1 d3 (c3 i d1 d2)
    have h3 := hx2 k b1 hAk c1 i d1 d2
    grind
end UP
section SB
variable {M : mM} {s m n : Nat} {N : Nat → Nat → Int} {D : Nat → Int} {x : Nat → Rat}
theorem cw_sub {f g : Nat → Rat} {c : Nat} : cw M s c (fun k => f k - g k) = cw M s c f - cw M s c g := by
  have e : cw M s c (fun k => f k - g k) = cw M s c (fun k => f k + (-1) * g k) := cw_congr (fun b hb => by grind)
  rw [e, cw_add, cw_mul]
  grind
theorem sub_le (hE : Enu M s m) (hG : GW M s) (hC : GB M s) (hS : Sy m (rowp M s m) N D) (h1 : ∀ k : Nat, (k : Int) < mI M s 1 → unk M s k → x k ≤ cw M s (cx M s k (pl M s k)) x) (h2 : ∀ k : Nat, (k : Int) < mI M s 1 → ¬ unk M s k → x k ≤ valx M s m k) : ∀ k : Nat, (k : Int) < mI M s 1 → x k ≤ valx M s m k := by
  obtain ⟨⟨h, g⟩, -⟩ := id hS
  have hz : ∀ r, r < m → x (uu M s r) - valx M s m (uu M s r) ≤ 0 := by
    refine maxp g (z := fun r => x (uu M s r) - valx M s m (uu M s r)) (fun r hr => ?_)
    obtain ⟨c1, c2, -⟩ := hE.cmd hG hr
    have hu := (hE.1 r hr).2.2.1
    rw [rowp_sum hE hG hr]
    have e1 := h1 _ c1 hu
    have e2 := valx_eq hE hG hS c1 hu
    have e3 : cx M s (uu M s r) (pl M s (uu M s r)) = rwc M s r := rfl
    rw [e3] at e1 e2
    have e4 := cw_le hC c2 (f := fun k => x k - valx M s m k) (g := eU M s (fun r => x (uu M s r) - valx M s m (uu M s r))) (fun b hb => by
      have ht := tg_lt hG c2 hb
      generalize tg M s (bg M s (rwc M s r) + b) = t at *
      unfold eU
      by_cases q : mI M (s + 36) t ≠ 0 ∧ mI M (s + 22) t ≠ 3
      · rw [if_pos q]
        have r3 := (hE.2.1 t ht q).2.2
        have euj : uu M s (mI M (s + 40) t).toNat = t := by unfold uu; omega
        show x t - valx M s m t ≤ x (uu M s (mI M (s + 40) t).toNat) - valx M s m (uu M s (mI M (s + 40) t).toNat)
        rw [euj]
        exact Rat.le_refl
      · rw [if_neg q]
        have := h2 t ht q
        grind)
    rw [cw_sub] at e4
    grind
  intro k hk
  by_cases q : unk M s k
  · obtain ⟨r1, r2, r3⟩ := hE.2.1 k hk q
    have euj : uu M s (mI M (s + 40) k).toNat = k := by unfold uu; omega
    have a := hz (mI M (s + 40) k).toNat (by omega)
    rw [euj] at a
    grind
  · exact h2 k hk q
theorem sup_ge (hE : Enu M s m) (hG : GW M s) (hC : GB M s) (hS : Sy m (rowp M s m) N D) (h1 : ∀ k : Nat, (k : Int) < mI M s 1 → unk M s k → cw M s (cx M s k (pl M s k)) x ≤ x k) (h2 : ∀ k : Nat, (k : Int) < mI M s 1 → ¬ unk M s k → valx M s m k ≤ x k) : ∀ k : Nat, (k : Int) < mI M s 1 → valx M s m k ≤ x k := by
  obtain ⟨⟨h, g⟩, -⟩ := id hS
  have hz : ∀ r, r < m → valx M s m (uu M s r) - x (uu M s r) ≤ 0 := by
    refine maxp g (z := fun r => valx M s m (uu M s r) - x (uu M s r)) (fun r hr => ?_)
    obtain ⟨c1, c2, -⟩ := hE.cmd hG hr
    have hu := (hE.1 r hr).2.2.1
    rw [rowp_sum hE hG hr]
    have e1 := h1 _ c1 hu
    have e2 := valx_eq hE hG hS c1 hu
    have e3 : cx M s (uu M s r) (pl M s (uu M s r)) = rwc M s r := rfl
    rw [e3] at e1 e2
    have e4 := cw_le hC c2 (f := fun k => valx M s m k - x k) (g := eU M s (fun r => valx M s m (uu M s r) - x (uu M s r))) (fun b hb => by
      have ht := tg_lt hG c2 hb
      generalize tg M s (bg M s (rwc M s r) + b) = t at *
      unfold eU
      by_cases q : mI M (s + 36) t ≠ 0 ∧ mI M (s + 22) t ≠ 3
      · rw [if_pos q]
        have r3 := (hE.2.1 t ht q).2.2
        have euj : uu M s (mI M (s + 40) t).toNat = t := by unfold uu; omega
        show valx M s m t - x t ≤ valx M s m (uu M s (mI M (s + 40) t).toNat) - x (uu M s (mI M (s + 40) t).toNat)
        rw [euj]
        exact Rat.le_refl
      · rw [if_neg q]
        have := h2 t ht q
        grind)
    rw [cw_sub] at e4
    grind
  intro k hk
  by_cases q : unk M s k
  · obtain ⟨r1, r2, r3⟩ := hE.2.1 k hk q
    have euj : uu M s (mI M (s + 40) k).toNat = k := by unfold uu; omega
    have a := hz (mI M (s + 40) k).toNat (by omega)
    rw [euj] at a
    grind
  · exact h2 k hk q
end SB
end
