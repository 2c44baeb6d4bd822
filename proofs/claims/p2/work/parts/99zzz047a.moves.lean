section
/-! The reference's solver: WITHIN by its tables. -/
section MVX
variable {M M' : mM} {s n k f r i : Nat} {x x' : Nat → Rat}
/-- a state's best number after i commands -/
noncomputable def bq9 (M : mM) (s k : Nat) (x : Nat → Rat) : Nat → Rat
  | 0 => if mI M (s + 22) k = 3 then 1 else 0
  | i + 1 => bst9 (mI M (s + 22) k = 1) (fun j => cw M s (cx M s k j) x) i
noncomputable def wiR (M : mM) (s : Nat) : Nat → Nat → Rat
  | 0 => fun k => if mI M (s + 22) k = 3 then 1 else 0
  | m + 1 => fun k => bq9 M s k (wiR M s m) (mny M s k).toNat
/-- one more command -/
theorem bq_s (hi : i ≠ 0) : bq9 M s k x (i + 1) = @ite Rat ((mI M (s + 22) k = 1 ∧ bq9 M s k x i < cw M s (cx M s k i) x) ∨ (¬ mI M (s + 22) k = 1 ∧ cw M s (cx M s k i) x < bq9 M s k x i)) (Classical.propDecidable _) (cw M s (cx M s k i) x) (bq9 M s k x i) := by
  cases i with
  | zero => exact absurd rfl hi
  | succ j => rfl
theorem bq_cg (sg : sameG M M' s) (hG : GW M s) (hn : mI M s 1 = n) (hk : k < n) (h : ∀ t, t < n → x t = x' t) : ∀ i, i ≤ (mny M s k).toNat → bq9 M' s k x i = bq9 M s k x' i
  | 0, _ => by
    show (if mI M' (s + 22) k = 3 then (1 : Rat) else 0) = (if mI M (s + 22) k = 3 then 1 else 0)
    rw [sg.2.2.2 (s + 22) (by omega) (by omega)]
  | i + 1, hi => by
    show bst9 (mI M' (s + 22) k = 1) (fun j => cw M' s (cx M' s k j) x) i = bst9 (mI M (s + 22) k = 1) (fun j => cw M s (cx M s k j) x') i
    rw [sg.2.2.2 (s + 22) (by omega) (by omega), sg.hw, sg.hx]
    refine bst_cg i (fun j hj => ?_)
    have lt := cx_lt hG (k := k) (i := j) (by omega) (by omega)
    exact cw_congr (fun b hb => h _ (by have := tg_lt hG lt hb; omega))
theorem ftv (F : Fq M f r) (p : 0 ≤ fv M f) (h1 : wv M (f + 1) < 2 ^ 480) (h2 : wv M (f + 3) < 2 ^ 480) : ft9 (fv M f) := by
  have e := fv_sd F
  rw [fv_wv F p] at e
  exact ⟨wv M (f + 1), wv M (f + 3), ⟨F.2.1.nonneg, F.2.2.2.2⟩, ⟨h1, h2⟩, e⟩
theorem nftv (F : Fq M f r) (C : Fc M f) (p : 0 ≤ fv M f) (h : 2 ^ 480 ≤ wv M (f + 1) ∨ 2 ^ 480 ≤ wv M (f + 3)) : ¬ ft9 (fv M f) := by
  have e := fv_sd F
  have a0 := F.2.1.nonneg
  have b0 : 0 < wv M (f + 3) := F.2.2.2.2
  rw [fv_wv F p] at e
  refine nft_of e a0 b0 ?_ h
  have c := C.1
  have e3 : xn M (f + 1) = (wv M (f + 1)).natAbs := by
    unfold xn
    omega
  have e4 : xn M (f + 3) = (wv M (f + 3)).natAbs := by
    unfold xn
    omega
  rw [e3, e4] at c
  exact c
theorem rat3 {p q : Rat} : (p < q → ¬ q < p) ∧ (¬ p < q → ¬ p = q → q < p) := by
  constructor
  · intro h
    grind
  · intro h h'
    grind
/-- what comparing tells -/
theorem cmp_u {a b ra rb : Nat} {u : Int} (hA : Fq M a ra) (hB : Fq M b rb) (ha : 0 ≤ fv M a) (hb : 0 ≤ fv M b) (hu : u = if wv M (a + 1) * wv M (b + 3) < wv M (b + 1) * wv M (a + 3) then -1 else if wv M (a + 1) * wv M (b + 3) = wv M (b + 1) * wv M (a + 3) then 0 else 1) : (0 < u ↔ fv M b < fv M a) ∧ (u < 0 ↔ fv M a < fv M b) := by
  obtain ⟨c1, c2⟩ := fv_cmp hA hB ha hb
  by_cases y : fv M a < fv M b
  · rw [if_pos (c1.2 y)] at hu
    exact ⟨⟨fun w => by omega, fun w => absurd w (rat3.1 y)⟩, fun _ => y, fun _ => by omega⟩
  · rw [if_neg (fun w => y (c1.1 w))] at hu
    by_cases z : fv M a = fv M b
    · rw [if_pos (c2.2 z)] at hu
      exact ⟨⟨fun w => by omega, fun w => absurd w (by rw [z]; exact Rat.lt_irrefl)⟩, fun w => by omega, fun w => absurd w y⟩
    · rw [if_neg (fun w => z (c2.1 w))] at hu
      exact ⟨⟨fun _ => rat3.2 y z, fun _ => by omega⟩, fun w => by omega, fun w => absurd w y⟩
end MVX
section MVY
variable {M : mM} {s n : Nat} {T : xt9}
/-- 0 and 1 fit -/
theorem ft_01 {p : Prop} {dp : Decidable p} : ∀ (_ : p ∨ ¬ p), ft9 (if p then 1 else 0) := fun _ => by
  split
  · exact ⟨1, 1, ⟨by decide, by decide⟩, ⟨by decide, by decide⟩, by have z1 : ((1 : Int) : Rat) = 1 := rfl; rw [z1]; grind⟩
  · exact ⟨0, 1, ⟨by decide, by decide⟩, ⟨by decide, by decide⟩, by have z0 : ((0 : Int) : Rat) = 0 := rfl; rw [z0]; grind⟩
/-- WITHIN by the solver's tables is that of what was explored -/
theorem ref_wi (hS : SvT M s T) : ∀ (m k : Nat), k < T.length → wiR M s m k = wi9 T m k
  | 0, k, hk => by
    have hx := List.getElem?_eq_getElem (l := T) (i := k) hk
    obtain ⟨a1, -⟩ := hS.2 k _ hx
    show (if mI M (s + 22) k = 3 then (1 : Rat) else 0) = ((T[k]?).map (fun y => if y.1 = 3 then (1 : Rat) else 0)).getD 0
    rw [hx, a1]
    all_goals rfl
  | m + 1, k, hk => by
    have hx := List.getElem?_eq_getElem (l := T) (i := k) hk
    obtain ⟨a1, a2, a3⟩ := hS.2 k _ hx
    show bq9 M s k (wiR M s m) (mny M s k).toNat = ((T[k]?).map (fun y => stv9 (wi9 T m) y)).getD 0
    rw [hx, a2, Int.toNat_natCast]
    show bq9 M s k (wiR M s m) (T[k]).2.length = stv9 (wi9 T m) T[k]
    generalize T[k] = y at *
    unfold stv9
    generalize hl : y.2.length = l at *
    cases l with
    | zero =>
      show (if mI M (s + 22) k = 3 then (1 : Rat) else 0) = (if y.1 = 3 then (1 : Rat) else 0)
      rw [a1]
    | succ j =>
      show bst9 (mI M (s + 22) k = 1) (fun i => cw M s (cx M s k i) (wiR M s m)) j = bst9 (y.1 = 1) (fun i => wr9 (wi9 T m) (cq0 y i)) j
      rw [a1]
      refine bst_cg j (fun i hi => ?_)
      have hc := List.getElem?_eq_getElem (l := y.2) (i := i) (by omega)
      obtain ⟨-, -, b1, b2⟩ := a3 i _ hc
      rw [b2, cq0_of hc]
      exact wr_cg (fun b hb => ref_wi hS m b.1 (b1 b hb))
end MVY
end
section
/-! The solver: move and within. -/
theorem p480e : (2 : Int) ^ 480 = 16777216 ^ 20 := by decide
def Bt (M : mM) (s n : Nat) (x : Nat → Rat) : Prop := Vk M s ∧ GW M s ∧ GB M s ∧ mI M s 1 = n ∧ Wk M s ∧ Xt M s 88 n x ∧ ∀ k, k < n → Smp 21 (x k) ∧ 0 ≤ x k
abbrev bmS (s : Nat) : Nat → Prop := fun y => wS s y ∨ (s + 62 ≤ y ∧ y ≤ s + 66)
theorem Bt.out {M M' : mM} {s n : Nat} {x : Nat → Rat} (h : Bt M s n x) (f : FI (bmS s) M M') (hW : Wk M' s) : Bt M' s n x := by
  obtain ⟨V, g, c, e, -, X, b⟩ := h
  have G : sameG M M' s := sameG.of f (by omega) (fun y _ _ => by omega)
  exact ⟨V.fi f, G.gw g, G.gb c, by rw [G.1]; exact e, hW, X.out f (fun y q => by omega), b⟩
/-- the best so far -/
def bsI (M : mM) (s : Nat) (M2 : mM) : Prop := mOk M2 ∧ FI (bmS s) M M2 ∧ Wk M2 s ∧ Fq M2 (s + 62) 900 ∧ Fc M2 (s + 62) ∧ 0 ≤ fv M2 (s + 62) ∧ Smp 185 (fv M2 (s + 62))
abbrev nxS (s k : Nat) : Nat → Prop := fun y => bmS s y ∨ fS (s + 83 + 25 * k) y
/-- a fraction that may stay -/
def okF (M : mM) (f : Nat) : Prop := Fq M f 56 ∧ Fc M f ∧ Smp 21 (fv M f) ∧ 0 ≤ fv M f
def mvQ (M : mM) (s k : Nat) (x : Nat → Rat) (r : Int) (M' : mM) : Prop := mOk M' ∧ FI (nxS s k) M M' ∧ Wk M' s ∧ ((r = 0 ∧ FI (bmS s) M M' ∧ ¬ ft9 (bq9 M s k x (mny M s k).toNat)) ∨ (r = 1 ∧ okF M' (s + 83 + 25 * k) ∧ fv M' (s + 83 + 25 * k) = bq9 M s k x (mny M s k).toNat ∧ ft9 (bq9 M s k x (mny M s k).toNat)))
section MV
variable {G : mG} {d s n : Nat} {M : mM} {x : Nat → Rat}
theorem bs_fit {M2 : mM} {y z : Int} (h : bsI M s M2) (h1 : wv M2 (s + 62 + 1) < 2 ^ y.toNat) (h2 : wv M2 (s + 62 + 3) < 2 ^ z.toNat) (hy : y ≤ 480) (hz : z ≤ 480) : mI M2 (s + 62 + 1) 1 ≤ 56 ∧ mI M2 (s + 62 + 3) 1 ≤ 56 ∧ Smp 21 (fv M2 (s + 62)) := by
  obtain ⟨-, -, -, F, C, p, q⟩ := h
  have a1 : (2 : Int) ^ y.toNat ≤ 2 ^ 480 := two_pow_le (by omega)
  have a2 : (2 : Int) ^ z.toNat ≤ 2 ^ 480 := two_pow_le (by omega)
  rw [p480e] at a1 a2
  have b1 := F.2.1.size (k := 20) (Int.lt_of_lt_of_le h1 a1)
  have b2 := F.2.2.1.size (k := 20) (Int.lt_of_lt_of_le h2 a2)
  refine ⟨by omega, by omega, sd M2 (s + 62), sn M2 (s + 62), F.2.2.2.2, ?_, fv_sd F, (smp_b q).1, (smp_b q).2⟩
  exact Int.lt_of_lt_of_le (Int.lt_of_lt_of_le h2 a2) (pow_mono (by omega))
theorem s_MS_move {k : Nat} (hO : mOk M) (hB : Bt M s n x) (hk : k < n) (hR : Rm M s 83) : Ci G y_MS_move (d + 6) [vr s, vi k] M (mvQ M s k x) := by
  have hB0 := hB
  obtain ⟨hV, hG, hC, hn, hW, hX, h01⟩ := hB
  have h2 := hG.2.1
  have h3 := hG.2.2.1
  have hc := hG.cmd (i := k) (by omega)
  have hm0 : 0 ≤ mny M s k ∧ mny M s k ≤ 4200 := by unfold mny; omega
  have h01' : ∀ t, t < n → 0 ≤ x t ∧ x t ≤ 1 := fun t ht => ⟨(h01 t ht).2, (smp_b (h01 t ht).1).1⟩
  have hxs : ∀ t, t < n → Smp 21 (x t) := fun t ht => (h01 t ht).1
  refine k_MS_move hO ⟨by omega, by omega⟩ ?_
  rw [hV.r4, hV.n22, hV.r30]
  refine ⟨hV.k0, hV.k22, by omega, fun v hv => ⟨hW.2.2.2.2.2.1.1, (s_MF_set ⟨by split at hv <;> omega, by split at hv <;> omega⟩ (by split at hv <;> omega) ⟨by omega, by omega⟩ (by omega) hO hW.2.2.2.2.2 (by omega)).mono (fun M1 h1 => ?_)⟩⟩
  obtain ⟨o1, f1, F1, y1, y2, y3⟩ := h1
  have hv01 : v = 0 ∨ v = 1 := by split at hv <;> omega
  have C1 := fc_one F1 y2 (fun q => y3 (by omega))
  have e1 : fv M1 (s + 62) = 0 ∨ fv M1 (s + 62) = 1 := by
    rw [fv_set y1 y2]
    have z0 : ((0 : Int) : Rat) = 0 := rfl
    have z1 : ((1 : Int) : Rat) = 1 := rfl
    rcases hv01 with z | z
    · left; rw [z, z0]; grind
    · right; rw [z, z1]; grind
  have b0 : fv M1 (s + 62) = bq9 M s k x 0 := by
    have z0 : ((0 : Int) : Rat) = 0 := rfl
    have z1 : ((1 : Int) : Rat) = 1 := rfl
    show fv M1 (s + 62) = (if mI M (s + 22) k = 3 then (1 : Rat) else 0)
    rw [fv_set y1 y2, hv]
    split
    · rw [z1]; grind
    · rw [z0, z1]; grind
  refine ⟨o1, ?_⟩
  suffices H : ∀ (c i : Nat) (M2 : mM), i + c = (mny M s k).toNat → bsI M s M2 → fv M2 (s + 62) = bq9 M s k x i → h_MS_move_25 G (d + 5) s k i M2 (mvQ M s k x) by
    refine H (mny M s k).toNat 0 M1 (by omega) ⟨o1, f1.mono (fun y q => by have : s + 62 ≤ y ∧ y ≤ s + 62 + 4 := q; omega), hW.put f1 F1.ft (by omega), F1, C1, ?_, ?_⟩ b0
    · rcases e1 with z | z <;> rw [z] <;> decide
    · rcases e1 with z | z <;> rw [z]
      · exact ⟨1, 0, by omega, by decide, by grind, by grind, by grind⟩
      · exact ⟨1, 1, by omega, by decide, by grind, by grind, by grind⟩
  clear b0 e1 C1 y3 y2 y1 F1 f1 o1 M1
  intro c
  induction c with
  | zero =>
    intro i M2 hi h hb
    obtain ⟨o2, f2, W2, F2, C2, p2, q2⟩ := id h
    obtain ⟨V2, G2, -, n2, -⟩ := hB0.out f2 W2
    have sg : sameG M M2 s := sameG.of f2 (by omega) (fun y _ _ => by omega)
    have ei : i = (mny M s k).toNat := by omega
    rw [ei] at hb
    have h141 : ¬ ft9 (fv M2 (s + 62)) → h_MS_move_141 G (d + 5) s k 0 M2 (mvQ M s k x) := fun nf =>
      k_MS_move_141 o2 ⟨by omega, by omega⟩ ⟨by omega, by omega⟩ ⟨fun _ => ⟨Or.inl rfl, o2, f2.mono (fun y q => Or.inl q), W2, Or.inl ⟨rfl, f2, by rw [← hb]; exact nf⟩⟩, fun q => absurd rfl q⟩
    refine k_MS_move_25 o2 ⟨by omega, by omega⟩ ⟨by omega, by omega⟩ ⟨V2.k0, (s_MS_many o2 V2 G2 (by omega)).mono (fun y M3 h3' => ?_)⟩
    obtain ⟨e3, hy⟩ := h3'
    subst e3
    rw [sg.hm] at hy
    rw [V2.r30, F2.1.2.1]
    refine ⟨⟨by omega, by omega⟩, o2, fun _ => ⟨V2.k0, F2.1.1, F2.2.1.1.1, (s_MW_places o2 F2.2.1).mono (fun u M4 h4 => ?_)⟩, fun q => by omega⟩
    obtain ⟨e4, u1, u2, u3, u4⟩ := h4
    subst e4
    rw [V2.r30, F2.1.2.2]
    refine ⟨⟨by omega, by omega⟩, o2, fun hu => h141 (nftv F2 C2 p2 (Or.inl (Int.le_trans (two_pow_le (by omega)) (u4 (by omega))))), fun hu => ⟨V2.k0, F2.1.1, F2.2.2.1.1.1, (s_MW_places o2 F2.2.2.1).mono (fun z M5 h5 => ?_)⟩⟩
    obtain ⟨e5, z1, z2, z3, z4⟩ := h5
    subst e5
    refine ⟨⟨by omega, by omega⟩, o2, fun hz => h141 (nftv F2 C2 p2 (Or.inr (Int.le_trans (two_pow_le (by omega)) (z4 (by omega))))), fun hz => ?_⟩
    have fit := ftv F2 p2 (Int.lt_of_lt_of_le u3 (two_pow_le (by omega))) (Int.lt_of_lt_of_le z3 (two_pow_le (by omega)))
    rw [hb] at fit
    have hfit := bs_fit h u3 z3 (by omega) (by omega)
    have rk : Ft M5 (s + 83 + 25 * k) 56 := (hR k (by omega)).out f2 (fun y q => by omega)
    refine k_MS_move_141 o2 ⟨by omega, by omega⟩ ⟨by omega, by omega⟩ ⟨fun q => by omega, fun _ => ?_⟩
    rw [V2.r13, V2.n31, V2.r30, Int.toNat_natCast, V2.f31 k (by omega)]
    refine ⟨V2.k0, V2.k31, by omega, rk.1.1, (s_MF_copy o2 rk F2 (by omega) hfit.1 hfit.2.1).mono (fun M6 h6 => ?_)⟩
    obtain ⟨o6, f6, F6, w4, w5, w6⟩ := h6
    have C6 := fc_copy C2 w4 w5 w6
    exact ⟨o6, Or.inr rfl, o6, (f2.mono (fun y q => Or.inl q)).trans (f6.mono (fun y q => Or.inr q)), W2.far f6 (fun y q => by have : s + 83 + 25 * k ≤ y ∧ y ≤ s + 83 + 25 * k + 4 := q; omega), Or.inr ⟨rfl, ⟨F6, C6.1, by rw [C6.2]; exact hfit.2.2, by rw [C6.2]; exact p2⟩, by rw [C6.2]; exact hb, fit⟩⟩
  | succ c ih =>
    intro i M2 hi h hb
    obtain ⟨o2, f2, W2, F2, C2, p2, q2⟩ := id h
    have B2 := hB0.out f2 W2
    obtain ⟨V2, G2, C2', n2, -, X2, -⟩ := id B2
    have sg : sameG M M2 s := sameG.of f2 (by omega) (fun y _ _ => by omega)
    have him : (i : Int) < mny M2 s k := by rw [sg.hm]; omega
    refine k_MS_move_25 o2 ⟨by omega, by omega⟩ ⟨by omega, by omega⟩ ⟨V2.k0, (s_MS_many o2 V2 G2 (by omega)).mono (fun y M3 h3' => ?_)⟩
    obtain ⟨e3, hy⟩ := h3'
    subst e3
    rw [sg.hm] at hy
    rw [V2.r21]
    refine ⟨⟨by omega, by omega⟩, o2, fun q => by omega, fun _ => ⟨V2.k0, (s_worthG (d := d) (n := n) (p := 21) (by omega) hxs (Or.inl ⟨rfl, rfl, rfl⟩) o2 V2 G2 C2' n2 (by omega) him W2 X2 h01').mono (fun M4 h4 => ?_)⟩⟩
    obtain ⟨o4, f4, W4, F4, C4, v4, s4⟩ := h4
    have V4 := V2.fi f4
    have hcx := cx_lt G2 (k := k) (i := i) (by omega) him
    have hw0 : 0 ≤ cw M3 s (cx M3 s k i) x := by
      have a := cw_le C2' hcx (f := fun _ => 0) (g := x) (fun b hb => (h01' _ (by have := tg_lt G2 hcx hb; omega)).1)
      rw [cw_const C2' hcx] at a
      exact a
    have b4 := F2.out f4 (fun y q => by omega)
    have c4 := C2.out F2 f4 (fun y q => by omega)
    have e4 := fv_out F2 f4 (fun y q => by omega)
    have sz1 := smp_size F4 C4 (k := 185) (by rw [v4]; exact s4)
    have sz2 := smp_size b4.1 c4 (k := 185) (by rw [e4]; exact q2)
    rw [V4.r0, V4.r28, V4.r30]
    refine ⟨o4, V4.k0, W4.1.1.1, (s_MU_compare (d := d + 3) o4 W4.1 F4 b4.1 (by unfold suO; omega) (by unfold suO; omega) (by omega) (by omega)).mono (fun u M5 h5 => ?_)⟩
    obtain ⟨o5, f5, Z5, hcv⟩ := h5
    have hc3 : u = -1 ∨ u = 0 ∨ u = 1 := by split at hcv <;> (try split at hcv) <;> omega
    have V5 := V4.fi f5
    have W5 : Wk M5 s := W4.out f5 Z5 (fun y q => by omega)
    have b5 := b4.1.out f5 (fun y q => by omega)
    have c5 := c4.out b4.1 f5 (fun y q => by omega)
    have e5 := fv_out b4.1 f5 (fun y q => by omega)
    have F5 := F4.out f5 (fun y q => by omega)
    have C5 := C4.out F4 f5 (fun y q => by omega)
    have v5 := fv_out F4 f5 (fun y q => by omega)
    have f25 : FI (bmS s) M M5 := (f2.trans (f4.mono (fun y q => Or.inl q))).trans (f5.mono (fun y q => by omega))
    have eW : fv M4 (s + 52) = cw M s (cx M s k i) x := by rw [v4, sg.hw, sg.hx]
    have eB : fv M4 (s + 62) = bq9 M s k x i := by rw [e4]; exact hb
    have cu := cmp_u F4 b4.1 (by rw [v4]; exact hw0) (by rw [e4]; exact p2) hcv
    rw [eW, eB] at cu
    have hI5 : bsI M s M5 := ⟨o5, f25, W5, b5.1, c5, by rw [e5, e4]; exact p2, by rw [e5, e4]; exact q2⟩
    have hnext : ∀ M6, bsI M s M6 → fv M6 (s + 62) = bq9 M s k x (i + 1) → h_MS_move_98 G (d + 5) s k i M6 (mvQ M s k x) := fun M6 h6 hb6 =>
      k_MS_move_98 h6.1 ⟨by omega, by omega⟩ ⟨by omega, by omega⟩ (ih (i + 1) M6 (by omega) h6 hb6)
    have sz3 := smp_size F5.1 C5 (k := 185) (by rw [v5, v4]; exact s4)
    have hcopy : bq9 M s k x (i + 1) = cw M s (cx M s k i) x → Cv G y_MF_copy (d + 5) [vr (s + 62), vr (s + 52)] M5 (fun M6 => mOk M6 ∧ h_MS_move_98 G (d + 5) s k i M6 (mvQ M s k x)) := by
      intro eq
      refine (s_MF_copy o5 W5.2.2.2.2.2 F5.1 (by omega) (by omega) (by omega)).mono (fun M6 h6 => ?_)
      obtain ⟨o6, f6, F6, w4, w5, w6⟩ := h6
      have C6 := fc_copy C5 w4 w5 w6
      exact ⟨o6, hnext M6 ⟨o6, f25.trans (f6.mono (fun y q => by have : s + 62 ≤ y ∧ y ≤ s + 62 + 4 := q; omega)), W5.put f6 F6.ft (by omega), F6, C6.1, by rw [C6.2, v5, v4]; exact hw0, by rw [C6.2, v5, v4]; exact s4⟩ (by rw [C6.2, v5, eW, eq])⟩
    have e22 : mI M5 (s + 22) = mI M (s + 22) := f25.2.2.2.2.2.2 _ (by omega)
    have keep : fv M5 (s + 62) = bq9 M s k x i := by rw [e5]; exact eB
    rw [V5.r30, V5.r28, V5.r4, V5.n22, e22, Int.toNat_natCast]
    refine ⟨⟨by omega, by omega⟩, o5, fun i0 => ⟨V5.k0, b5.1.1.1, hcopy ?_⟩, fun i0 => ⟨V5.k0, V5.k22, by omega, fun kd => ⟨fun u0 => hnext M5 hI5 ?_, fun u0 => ⟨b5.1.1.1, hcopy ?_⟩⟩, fun kd => ⟨fun u0 => hnext M5 hI5 ?_, fun u0 => ⟨b5.1.1.1, hcopy ?_⟩⟩⟩⟩
    · have z0 : i = 0 := by omega
      rw [z0]
      all_goals rfl
    · rw [bq_s (by omega), if_neg, keep]
      intro y
      rcases y with y | y
      · have := cu.1.2 y.2
        omega
      · exact y.1 kd
    · rw [bq_s (by omega), if_pos]
      exact Or.inl ⟨kd, cu.1.1 (by omega)⟩
    · rw [bq_s (by omega), if_neg, keep]
      intro y
      rcases y with y | y
      · exact kd y.1
      · have := cu.2.2 y.2
        omega
    · rw [bq_s (by omega), if_pos]
      exact Or.inr ⟨kd, cu.2.1 (by omega)⟩
end MV
end
section
/-! The solver: within. -/
def Ok (M : mM) (s e n : Nat) : Prop := ∀ k, k < n → okF M (s + e + 25 * k)
abbrev inF (s : Nat) : Nat → Prop := fun y => bmS s y ∨ y = s + 30 ∨ eS s 73 y ∨ eS s 83 y ∨ eS s 88 y
theorem okF.out {S : Nat → Prop} {M M' : mM} {f : Nat} (h : okF M f) (k : FI S M M') (hs : ∀ y, S y → y < f ∨ f + 4 < y) : okF M' f := by
  obtain ⟨h1, h2, h3, h4⟩ := h
  have e := fv_out h1 k hs
  exact ⟨(h1.out k hs).1, h2.out h1 k hs, by rw [e]; exact h3, by rw [e]; exact h4⟩
theorem Ok.out {S : Nat → Prop} {M M' : mM} {s e n : Nat} (h : Ok M s e n) (k : FI S M M') (hs : ∀ i y, i < n → S y → y < s + e + 25 * i ∨ s + e + 25 * i + 4 < y) : Ok M' s e n :=
  fun i hi => (h i hi).out k (fun y q => hs i y hi q)
theorem Ok.xt {M : mM} {s e n : Nat} (h : Ok M s e n) : Xt M s e n (fun k => fv M (s + e + 25 * k)) ∧ ∀ k, k < n → Smp 21 (fv M (s + e + 25 * k)) ∧ 0 ≤ fv M (s + e + 25 * k) :=
  ⟨fun k hk => ⟨(h k hk).1, (h k hk).2.1, rfl⟩, fun k hk => (h k hk).2.2⟩
theorem inF_far {s e i y : Nat} (he : e = 68 ∨ e = 78) (hi : i < 512) (q : inF s y) : y < s + e + 25 * i ∨ s + e + 25 * i + 4 < y := by
  rcases he with z | z <;> subst z <;> omega
theorem inF_vH {s y : Nat} (q : inF s y) : vH s y := by omega
theorem inF_ct {s y : Nat} (q : inF s y) : y < s + 12868 := by omega
theorem inF_lo {s y : Nat} (q : inF s y) : s < y ∧ (y < s + 22 ∨ s + 28 < y) ∧ y ≠ s + 32 ∧ y ≠ s + 33 ∧ y ≠ s + 34 := by omega
/-- copying one of 512 fractions to another place -/
theorem ok_copy {G : mG} {d s k a b : Nat} {M : mM} {Q : mM → Prop} (hO : mOk M) (hR : Rm M s a) (hk : k < 512) (h : okF M (s + b + 25 * k)) (hne : a + 4 < b ∨ b + 4 < a) (hQ : ∀ M', mOk M' → FI (fS (s + a + 25 * k)) M M' → okF M' (s + a + 25 * k) → Rm M' s a → fv M' (s + a + 25 * k) = fv M (s + b + 25 * k) → Q M') : Cv G y_MF_copy (d + 1) [vr (s + a + 25 * k), vr (s + b + 25 * k)] M Q := by
  obtain ⟨h1, h2, h3, h4⟩ := h
  refine (s_MF_copy hO (hR k hk) h1 (by omega) h1.2.1.1.2.2.2.2.2.2 h1.2.2.1.1.2.2.2.2.2.2).mono (fun M' h' => ?_)
  obtain ⟨o', f', F', w4, w5, w6⟩ := h'
  have C' := fc_copy h2 w4 w5 w6
  exact hQ M' o' f' ⟨F', C'.1, by rw [C'.2]; exact h3, by rw [C'.2]; exact h4⟩ (hR.put hk f' F'.ft) C'.2
def wiI (M : mM) (s n : Nat) (M2 : mM) : Prop := mOk M2 ∧ FI (inF s) M M2 ∧ Wk M2 s ∧ Rm M2 s 73 ∧ Rm M2 s 83 ∧ Rm M2 s 88 ∧ Ok M2 s 88 n
/-- numbers after r moves -/
def Vwr (M0 : mM) (s e n r : Nat) (M : mM) : Prop := ∀ k, k < n → fv M (s + e + 25 * k) = wiR M0 s r k
theorem Vwr.out {S : Nat → Prop} {M0 M M' : mM} {s e n r : Nat} (v : Vwr M0 s e n r M) (h : Ok M s e n) (k : FI S M M') (hs : ∀ i y, i < n → S y → y < s + e + 25 * i ∨ s + e + 25 * i + 4 < y) : Vwr M0 s e n r M' := fun i hi => by
  rw [fv_out (h i hi).1 k (fun y q => hs i y hi q)]
  exact v i hi
/-- all up to r moves fit -/
def Frr (M0 : mM) (s n r : Nat) : Prop := ∀ m, m ≤ r → ∀ k, k < n → ft9 (wiR M0 s m k)
def wiQ (M : mM) (s n L : Nat) (r : Int) (M' : mM) : Prop := mOk M' ∧ FI (inF s) M M' ∧ Wk M' s ∧ Rm M' s 73 ∧ Rm M' s 83 ∧ Rm M' s 88 ∧ (∀ j, j ≠ 1 → mI M' (s + 30) j = mI M (s + 30) j) ∧ ((r = 0 ∧ mI M' (s + 30) 1 = 1 ∧ Ok M' s 73 n ∧ Frr M s n L) ∨ (r = 6 ∧ mI M' (s + 30) 1 = 0 ∧ ∃ m, m ≤ L ∧ ∃ k, k < n ∧ ¬ ft9 (wiR M s m k)))
section WI
variable {G : mG} {d s n L : Nat} {M : mM} {l1 : Int}
/-- where has[1] is off -/
abbrev h30 (M : mM) (s : Nat) (M2 : mM) : Prop := (∀ j, j ≠ 1 → mI M2 (s + 30) j = mI M (s + 30) j) ∧ mI M2 (s + 30) 1 = 0
theorem s_wi121 (hV : Vk M s) (hn : mI M s 1 = n) (hn5 : n ≤ 512) (hf : Frr M s n L) : ∀ (c k : Nat) (M2 : mM), k + c = n → wiI M s n M2 → h30 M s M2 → Ok M2 s 73 k → h_MS_within_121 G (d + 6) s k M2 (wiQ M s n L) := by
  intro c
  induction c with
  | zero =>
    intro k M2 hk h hh hok
    have ek : k = n := by omega
    subst ek
    obtain ⟨o2, f2, W2, R7, R8, R9, K2⟩ := h
    have V2 := hV.fi f2
    have fe := f2.2.2.2.2.2.2
    refine k_MS_within_121 o2 ⟨by omega, by omega⟩ ?_
    rw [fe s (fun q => by have := inF_lo q; omega), hn, V2.r12, V2.n30]
    refine ⟨V2.k0, fun _ => ⟨V2.k30, by omega, fun M3 e3 => ?_⟩, fun q => by omega⟩
    have f3 : FI (fun y => y = s + 30) M2 M3 := by rw [e3]; exact FI.ui rfl
    have o3 : mOk M3 := by rw [e3]; exact mOk_UI o2 ⟨by omega, by omega⟩
    refine ⟨o3, f2.trans (f3.mono (fun y q => Or.inr (Or.inl q))), W2.far f3 (fun y q => by omega), R7.out f3 (fun y q => by omega), R8.out f3 (fun y q => by omega), R9.out f3 (fun y q => by omega), fun j hj => ?_, Or.inl ⟨rfl, ?_, hok.out f3 (fun i y hi q => by omega), hf⟩⟩
    · rw [e3, mI_UI, if_neg (fun w => hj w.2)]
      exact hh.1 j hj
    · rw [e3, mI_UI, if_pos ⟨rfl, rfl⟩]
  | succ c ih =>
    intro k M2 hk h hh hok
    obtain ⟨o2, f2, W2, R7, R8, R9, K2⟩ := h
    have V2 := hV.fi f2
    have fe := f2.2.2.2.2.2.2
    have ea : mR M2 (s + 29) (3 * (k : Int) + 1).toNat = s + 73 + 25 * k := by
      rw [show (3 * (k : Int) + 1).toNat = 3 * k + 1 by omega, V2.f29 k 1 (by omega) (by omega)]
      omega
    refine k_MS_within_121 o2 ⟨by omega, by omega⟩ ?_
    rw [fe s (fun q => by have := inF_lo q; omega), hn, V2.r11, V2.r21, V2.n29, V2.n38, ea, Int.toNat_natCast, V2.f38 k (by omega)]
    refine ⟨V2.k0, fun q => by omega, fun _ => ⟨V2.k29, by omega, V2.k38, by omega, (R7 k (by omega)).1.1, ok_copy (d := d + 5) o2 R7 (by omega) (K2 k (by omega)) (by omega) (fun M3 o3 f3 k3 r3 _ => ?_)⟩⟩
    have f3' : ∀ y, fS (s + 73 + 25 * k) y → s + 73 + 25 * k ≤ y ∧ y ≤ s + 73 + 25 * k + 4 := fun y q => q
    refine ⟨o3, ih (k + 1) M3 (by omega) ⟨o3, f2.trans (f3.mono (fun y q => by have := f3' y q; omega)), W2.far f3 (fun y q => by have := f3' y q; omega), r3, R8.out2 f3 (fun i y hi q => by have := f3' y q; omega), R9.out2 f3 (fun i y hi q => by have := f3' y q; omega), K2.out f3 (fun i y hi q => by have := f3' y q; omega)⟩ ?_ (fun j hj => ?_)⟩
    · unfold h30
      rw [f3.2.2.2.2.2.2 (s + 30) (fun q => by have := f3' _ q; omega)]
      exact hh
    · by_cases z : j = k
      · rw [z]; exact k3
      · exact (hok j (by omega)).out f3 (fun y q => by have := f3' y q; omega)
theorem s_wi84 {r : Nat} (hV : Vk M s) (hn : mI M s 1 = n) (hn5 : n ≤ 512) (h0 : 0 ≤ l1) (hl : l1 ≤ 32) (hr : r ≤ 32) (hQ : ∀ M', wiI M s n M' → h30 M s M' → Vwr M s 88 n (r + 1) M' → h_MS_within_50 G (d + 6) s l1 ((r : Int) + 1) M' (wiQ M s n L)) : ∀ (c k : Nat) (M2 : mM), k + c = n → wiI M s n M2 → h30 M s M2 → Ok M2 s 83 n → Vwr M s 83 n (r + 1) M2 → (∀ j, j < k → fv M2 (s + 88 + 25 * j) = wiR M s (r + 1) j) → h_MS_within_84 G (d + 6) s l1 r k M2 (wiQ M s n L) := by
  intro c
  induction c with
  | zero =>
    intro k M2 hk h hh hok v83 v88
    obtain ⟨o2, f2, -⟩ := id h
    have V2 := hV.fi f2
    refine k_MS_within_84 o2 ⟨by omega, by omega⟩ ⟨by omega, by omega⟩ ⟨by omega, by omega⟩ ?_
    rw [f2.2.2.2.2.2.2 s (fun q => by have := inF_lo q; omega), hn]
    exact ⟨V2.k0, fun _ => hQ M2 h hh (fun j hj => v88 j (by omega)), fun q => by omega⟩
  | succ c ih =>
    intro k M2 hk h hh hok v83 v88
    obtain ⟨o2, f2, W2, R7, R8, R9, K2⟩ := h
    have V2 := hV.fi f2
    have fe := f2.2.2.2.2.2.2
    refine k_MS_within_84 o2 ⟨by omega, by omega⟩ ⟨by omega, by omega⟩ ⟨by omega, by omega⟩ ?_
    rw [fe s (fun q => by have := inF_lo q; omega), hn, V2.r13, V2.r21, V2.n31, V2.n38, Int.toNat_natCast, V2.f38 k (by omega), V2.f31 k (by omega)]
    refine ⟨V2.k0, fun q => by omega, fun _ => ⟨V2.k38, by omega, V2.k31, by omega, (R9 k (by omega)).1.1, ok_copy (d := d + 5) o2 R9 (by omega) (hok k (by omega)) (by omega) (fun M3 o3 f3 k3 r3 ev => ?_)⟩⟩
    have f3' : ∀ y, fS (s + 88 + 25 * k) y → s + 88 + 25 * k ≤ y ∧ y ≤ s + 88 + 25 * k + 4 := fun y q => q
    refine ⟨o3, ih (k + 1) M3 (by omega) ⟨o3, f2.trans (f3.mono (fun y q => by have := f3' y q; omega)), W2.far f3 (fun y q => by have := f3' y q; omega), R7.out2 f3 (fun i y hi q => by have := f3' y q; omega), R8.out2 f3 (fun i y hi q => by have := f3' y q; omega), r3, fun j hj => ?_⟩ ?_ (hok.out f3 (fun i y hi q => by have := f3' y q; omega)) (v83.out hok f3 (fun i y hi q => by have := f3' y q; omega)) (fun j hj => ?_)⟩
    rotate_left 2
    · by_cases z : j = k
      · rw [z, ev]; exact v83 k (by omega)
      · rw [fv_out (K2 j (by omega)).1 f3 (fun y q => by have := f3' y q; omega)]
        exact v88 j (by omega)
    · by_cases z : j = k
      · rw [z]; exact k3
      · exact (K2 j hj).out f3 (fun y q => by have := f3' y q; omega)
    · unfold h30
      rw [f3.2.2.2.2.2.2 (s + 30) (fun q => by have := f3' _ q; omega)]
      exact hh
theorem s_wi50 (hV : Vk M s) (hG : GW M s) (hC : GB M s) (hn : mI M s 1 = n) (hn5 : n ≤ 512) (h0 : 0 ≤ l1) (hl : l1 ≤ 32) (hL : L = l1.toNat) : ∀ (t r : Nat) (M2 : mM), (r : Int) + t = l1 → wiI M s n M2 → h30 M s M2 → Vwr M s 88 n r M2 → Frr M s n r → h_MS_within_50 G (d + 6) s l1 r M2 (wiQ M s n L) := by
  intro t
  induction t with
  | zero =>
    intro r M2 ht h hh hv hf
    have eL : L = r := by omega
    exact k_MS_within_50 h.1 ⟨by omega, by omega⟩ ⟨by omega, by omega⟩ ⟨fun _ => s_wi121 hV hn hn5 (by rw [eL]; exact hf) n 0 M2 (by omega) h hh (fun j hj => by omega), fun q => by omega⟩
  | succ t ih =>
    intro r M2 ht h hh hv hf
    refine k_MS_within_50 h.1 ⟨by omega, by omega⟩ ⟨by omega, by omega⟩ ⟨fun q => by omega, fun _ => ?_⟩
    suffices H : ∀ (c k : Nat) (M3 : mM), k + c = n → wiI M s n M3 → h30 M s M3 → Ok M3 s 83 k → Vwr M s 88 n r M3 → (∀ j, j < k → fv M3 (s + 83 + 25 * j) = wiR M s (r + 1) j ∧ ft9 (wiR M s (r + 1) j)) → h_MS_within_57 G (d + 6) s l1 r k M3 (wiQ M s n L) from H n 0 M2 (by omega) h hh (fun j hj => by omega) hv (fun j hj => by omega)
    clear h hh hv M2
    intro c
    induction c with
    | zero =>
      intro k M3 hk h hh hok hv hw
      have ek : k = n := by omega
      subst ek
      obtain ⟨o2, f2, -⟩ := id h
      have V2 := hV.fi f2
      refine k_MS_within_57 o2 ⟨by omega, by omega⟩ ⟨by omega, by omega⟩ ⟨by omega, by omega⟩ ?_
      rw [f2.2.2.2.2.2.2 s (fun q => by have := inF_lo q; omega), hn]
      exact ⟨V2.k0, fun _ => s_wi84 hV hn hn5 h0 hl (by omega) (fun M' h' hh' hv' => ih (r + 1) M' (by omega) h' hh' hv' (fun m hm j hj => by
        by_cases z : m = r + 1
        · rw [z]; exact (hw j hj).2
        · exact hf m (by omega) j hj)) k 0 M3 (by omega) h hh hok (fun j hj => (hw j hj).1) (fun j hj => by omega), fun q => by omega⟩
    | succ c ihc =>
      intro k M3 hk h hh hok hv hw
      obtain ⟨o3, f3, W3, R7, R8, R9, K3⟩ := id h
      have V3 := hV.fi f3
      have sg : sameG M M3 s := sameG.of f3 (fun q => by have := inF_lo q; omega) (fun y a b q => by have := inF_lo q; omega)
      have x3 := K3.xt
      refine k_MS_within_57 o3 ⟨by omega, by omega⟩ ⟨by omega, by omega⟩ ⟨by omega, by omega⟩ ?_
      rw [sg.1, hn]
      refine ⟨V3.k0, fun q => by omega, fun _ => (s_MS_move (d := d) o3 ⟨V3, sg.gw hG, sg.gb hC, by rw [sg.1]; exact hn, W3, x3.1, x3.2⟩ (by omega) R8).mono (fun y M4 h4 => ?_)⟩
      obtain ⟨o4, f4, W4, h4⟩ := h4
      have eb : bq9 M3 s k (fun k => fv M3 (s + 88 + 25 * k)) (mny M3 s k).toNat = wiR M s (r + 1) k := by
        rw [sg.hm]
        exact bq_cg sg hG hn (by omega) (fun t ht => hv t ht) _ (Nat.le_refl _)
      rw [eb] at h4
      have f4' : ∀ y, nxS s k y → bmS s y ∨ (s + 83 + 25 * k ≤ y ∧ y ≤ s + 83 + 25 * k + 4) := fun y q => q
      have e30 : mI M4 (s + 30) = mI M3 (s + 30) := f4.2.2.2.2.2.2 _ (fun q => by have := f4' _ q; omega)
      have hh4 : h30 M s M4 := by unfold h30; rw [e30]; exact hh
      have f04 : FI (inF s) M M4 := f3.trans (f4.mono (fun y q => by have := f4' y q; omega))
      have R74 : Rm M4 s 73 := R7.out2 f4 (fun i y hi q => by have := f4' y q; omega)
      have R94 : Rm M4 s 88 := R9.out2 f4 (fun i y hi q => by have := f4' y q; omega)
      have K4 : Ok M4 s 88 n := K3.out f4 (fun i y hi q => by have := f4' y q; omega)
      have hv4 : Vwr M s 88 n r M4 := hv.out K3 f4 (fun i y hi q => by have := f4' y q; omega)
      rcases h4 with ⟨y0, g4, nf⟩ | ⟨y1, k4, e4, ft⟩
      · subst y0
        have R84 : Rm M4 s 83 := R8.out g4 (fun y q => by omega)
        exact ⟨⟨by omega, by omega⟩, o4, fun _ => ⟨o4, f04, W4, R74, R84, R94, hh4.1, Or.inr ⟨rfl, hh4.2, r + 1, by omega, k, by omega, nf⟩⟩, fun q => absurd rfl q⟩
      · subst y1
        have R84 : Rm M4 s 83 := fun i hi => by
          by_cases z : i = k
          · rw [z]; exact k4.1.ft
          · exact (R8 i hi).out f4 (fun y q => by have := f4' y q; omega)
        refine ⟨⟨by omega, by omega⟩, o4, fun q => by omega, fun _ => ihc (k + 1) M4 (by omega) ⟨o4, f04, W4, R74, R84, R94, K4⟩ hh4 (fun j hj => ?_) hv4 (fun j hj => ?_)⟩
        · by_cases z : j = k
          · rw [z]; exact k4
          · exact (hok j (by omega)).out f4 (fun y q => by have := f4' y q; omega)
        · by_cases z : j = k
          · rw [z]; exact ⟨e4, ft⟩
          · rw [fv_out (hok j (by omega)).1 f4 (fun y q => by have := f4' y q; omega)]
            exact hw j (by omega)
theorem s_MS_within (h0 : 0 ≤ l1) (hl : l1 ≤ 32) (hO : mOk M) (h : Sv M s n) : Ci G y_MS_within (d + 7) [vr s, vi l1] M (fun r M' => (mOk M' ∧ FI (vH s) M M' ∧ Sv M' s n ∧ (r = 0 ∨ r = 6)) ∧ mI M' (s + 30) 0 = mI M (s + 30) 0 ∧ ∀ T : xt9, SvT M s T → anA9 T l1.toNat r) := by
  have hn5 := h.n5
  obtain ⟨V, g, c, hn, t, W, T, R, H, hc⟩ := id h
  have hfin : ∀ r M', wiQ M s n l1.toNat r M' → ((mOk M' ∧ FI (vH s) M M' ∧ Sv M' s n ∧ (r = 0 ∨ r = 6)) ∧ mI M' (s + 30) 0 = mI M (s + 30) 0 ∧ ∀ T : xt9, SvT M s T → anA9 T l1.toNat r) := fun r M' k => by
    obtain ⟨o', f', W', R7, R8, R9, k30, kr⟩ := k
    have sg : sameG M M' s := sameG.of f' (fun q => by have := inF_lo q; omega) (fun y a b q => by have := inF_lo q; omega)
    have fe := f'.2.2.2.2.2.2
    refine ⟨⟨o', f'.mono (fun y q => inF_vH q), ⟨V.fi f', sg.gw g, sg.gb c, by rw [sg.1]; exact hn, t.out sg (fe _ (fun q => by have := inF_lo q; omega)), W', T.out f' (fun y q => inF_ct q), fun e he => ?_, fun w hw => ?_, fun q => ?_⟩, by rcases kr with z | z; exact Or.inl z.1; exact Or.inr z.1⟩, k30 0 (by omega), fun T hT => ?_⟩
    rotate_right
    · have eT : T.length = n := by have := hT.1; omega
      rcases kr with ⟨z1, -, -, z2⟩ | ⟨z1, -, m, z2, k, z3, z4⟩
      · exact Or.inl ⟨z1, fun m hm k hk => by rw [← ref_wi hT m k hk]; exact z2 m hm k (by omega)⟩
      · exact Or.inr ⟨z1, m, z2, k, by omega, by rw [← ref_wi hT m k (by omega)]; exact z4⟩
    · rcases he with z | z | z | z | z <;> subst z
      · exact (R 68 (by omega)).out2 f' (fun i y hi q => inF_far (by omega) hi q)
      · exact R7
      · exact (R 78 (by omega)).out2 f' (fun i y hi q => inF_far (by omega) hi q)
      · exact R8
      · exact R9
    · by_cases z : w = 1
      · subst z
        rcases kr with ⟨z1, z2, z3, -⟩ | ⟨z1, z2, -⟩
        · have x3 := z3.xt
          exact ⟨Or.inr z2, fun _ => ⟨_, x3.1, x3.2⟩⟩
        · exact ⟨Or.inl z2, fun q => by omega⟩
      · obtain ⟨a1, a2⟩ := H w hw
        unfold Hs
        rw [k30 w z]
        refine ⟨a1, fun q => ?_⟩
        obtain ⟨x, X, v⟩ := a2 q
        exact ⟨x, X.out2 f' (fun i y hi q => inF_far (by omega) (by omega) q), v⟩
    · rw [k30 0 (by omega)] at q
      exact (hc q).out sg (fe _ (fun q => by have := inF_lo q; omega))
  refine Ci.mono (Q := wiQ M s n l1.toNat) ?_ hfin
  refine k_MS_within hO ⟨by omega, by omega⟩ ?_
  rw [V.r12, V.n30]
  refine ⟨V.k0, V.k30, by omega, fun M1 e1 => ?_⟩
  have f1 : FI (fun y => y = s + 30) M M1 := by rw [e1]; exact FI.ui rfl
  have o1 : mOk M1 := by rw [e1]; exact mOk_UI hO ⟨by omega, by omega⟩
  have hh1 : h30 M s M1 := ⟨fun j hj => by rw [e1, mI_UI, if_neg (fun w => hj w.2)], by rw [e1, mI_UI, if_pos ⟨rfl, rfl⟩]⟩
  suffices H : ∀ (c k : Nat) (M2 : mM), k + c = n → mOk M2 → FI (inF s) M M2 → Wk M2 s → Rm M2 s 73 → Rm M2 s 83 → Rm M2 s 88 → h30 M s M2 → Ok M2 s 88 k → (∀ j, j < k → fv M2 (s + 88 + 25 * j) = wiR M s 0 j) → h_MS_within_9 G (d + 6) s l1 k M2 (wiQ M s n l1.toNat) from
    H n 0 M1 (by omega) o1 (f1.mono (fun y q => Or.inr (Or.inl q))) (W.far f1 (fun y q => by omega)) ((R 73 (by omega)).out f1 (fun y q => by omega)) ((R 83 (by omega)).out f1 (fun y q => by omega)) ((R 88 (by omega)).out f1 (fun y q => by omega)) hh1 (fun j hj => by omega) (fun j hj => by omega)
  intro c'
  induction c' with
  | zero =>
    intro k M2 hk o2 f2 W2 R7 R8 R9 hh hok hv
    have ek : k = n := by omega
    subst ek
    have V2 := V.fi f2
    refine k_MS_within_9 o2 ⟨by omega, by omega⟩ ⟨by omega, by omega⟩ ?_
    rw [f2.2.2.2.2.2.2 s (fun q => by have := inF_lo q; omega), hn]
    exact ⟨V2.k0, fun _ => s_wi50 V g c hn hn5 h0 hl rfl l1.toNat 0 M2 (by omega) ⟨o2, f2, W2, R7, R8, R9, hok⟩ hh hv (fun m hm j hj => by
      have m0 : m = 0 := by omega
      rw [m0]
      exact ft_01 (Classical.em _)), fun q => by omega⟩
  | succ c' ih =>
    intro k M2 hk o2 f2 W2 R7 R8 R9 hh hok hv
    have V2 := V.fi f2
    have fe := f2.2.2.2.2.2.2
    have rk := R9 k (by omega)
    refine k_MS_within_9 o2 ⟨by omega, by omega⟩ ⟨by omega, by omega⟩ ?_
    rw [fe s (fun q => by have := inF_lo q; omega), hn, V2.r21, V2.r4, V2.n38, V2.n22, Int.toNat_natCast, V2.f38 k (by omega)]
    refine ⟨V2.k0, fun q => by omega, fun _ => ⟨V2.k38, by omega, V2.k22, by omega, fun v hv9 => ⟨rk.1.1, (s_MF_set ⟨by split at hv9 <;> omega, by split at hv9 <;> omega⟩ (by split at hv9 <;> omega) ⟨by omega, by omega⟩ (by omega) o2 rk (by omega)).mono (fun M3 h3 => ?_)⟩⟩⟩
    obtain ⟨o3, f3, F3, y1, y2, y3⟩ := h3
    have hv01 : v = 0 ∨ v = 1 := by split at hv9 <;> omega
    have C3 := fc_one F3 y2 (fun q => y3 (by omega))
    have e3 : fv M3 (s + 88 + 25 * k) = 0 ∨ fv M3 (s + 88 + 25 * k) = 1 := by
      rw [fv_set y1 y2]
      have z0 : ((0 : Int) : Rat) = 0 := rfl
      have z1 : ((1 : Int) : Rat) = 1 := rfl
      rcases hv01 with z | z
      · left; rw [z, z0]; grind
      · right; rw [z, z1]; grind
    have k3 : okF M3 (s + 88 + 25 * k) := by
      rcases e3 with z | z
      · exact ⟨F3, C3, by rw [z]; exact smp_zero, by rw [z]; decide⟩
      · exact ⟨F3, C3, by rw [z]; exact smp_one, by rw [z]; decide⟩
    have f3' : ∀ y, fS (s + 88 + 25 * k) y → s + 88 + 25 * k ≤ y ∧ y ≤ s + 88 + 25 * k + 4 := fun y q => q
    refine ⟨o3, ih (k + 1) M3 (by omega) o3 (f2.trans (f3.mono (fun y q => by have := f3' y q; omega))) (W2.far f3 (fun y q => by have := f3' y q; omega)) (R7.out2 f3 (fun i y hi q => by have := f3' y q; omega)) (R8.out2 f3 (fun i y hi q => by have := f3' y q; omega)) (R9.put (by omega) f3 F3.ft) ?_ (fun j hj => ?_) (fun j hj => ?_)⟩
    rotate_left 2
    · by_cases z : j = k
      · rw [z, fv_set y1 y2, hv9]
        have z0 : ((0 : Int) : Rat) = 0 := rfl
        have z1 : ((1 : Int) : Rat) = 1 := rfl
        show ((if mI M2 (s + 22) k = 3 then (1 : Int) else 0 : Int) : Rat) * ((1 : Int) : Rat)⁻¹ = (if mI M (s + 22) k = 3 then (1 : Rat) else 0)
        rw [fe (s + 22) (fun q => by have := inF_lo q; omega)]
        split
        · rw [z1]; grind
        · rw [z0, z1]; grind
      · rw [fv_out (hok j (by omega)).1 f3 (fun y q => by have := f3' y q; omega)]
        exact hv j (by omega)
    · unfold h30
      rw [f3.2.2.2.2.2.2 (s + 30) (fun q => by have := f3' _ q; omega)]
      exact hh
    · by_cases z : j = k
      · rw [z]; exact k3
      · exact (hok j (by omega)).out f3 (fun y q => by have := f3' y q; omega)
end WI
end
section
/-! The solver: what it tells. -/
theorem s_digits2 {G : mG} {d u a ra c : Nat} {M : mM} {D : Nat} (hO : mOk M) (hZ : Sz M u) (hA : W3 M a ra) (oa : a + 1 < u + 11 ∨ u + 12 < a) (z1 : mI M a 1 ≤ 900) (hc : mK M c = 30) (hn : D ≤ mN M c) (hD : 0 < D) (hD2 : D < 100000) (hv : wv M a < 10 ^ D) (oc : c < u + 1 ∨ u + 20 < c) :
    Ci G y_MU_digits (d + 2) [vr u, vr a, vr c] M (fun x M' => mOk M' ∧ FI (fun x => x = u + 11 ∨ x = u + 12 ∨ x = c) M M' ∧ Sz M' u ∧ 0 < x ∧ x ≤ D ∧ ∀ j : Nat, (j : Int) < x → 0 ≤ mI M' c j ∧ mI M' c j ≤ 9) := by
  refine k_MU_digits hO ?_
  rw [hZ.1.2.2.2.1]
  refine ⟨hZ.1.1, (hZ.wh 11 (by decide)).1, (s_MW_copy hO (hZ.wh 11 (by decide)) hA (by omega) z1).mono (fun M1 h1 => ?_)⟩
  obtain ⟨g1, g2, g3, g4⟩ := h1
  have Z1 := hZ.step (c := 11) (by decide) rfl g2 g3.1
  refine ⟨g1, ?_⟩
  suffices H : ∀ (k : Nat) (l : Int) (M1 : mM), l + k + 1 = D → 0 ≤ l → mOk M1 → FI (fun x => x = u + 11 ∨ x = u + 12 ∨ x = c) M M1 → Sz M1 u → W3 M1 (u + 11) 900 → wv M1 (u + 11) < 10 ^ (k + 1) → (∀ j : Nat, (j : Int) < l → 0 ≤ mI M1 c j ∧ mI M1 c j ≤ 9) → h_MU_digits_10 G (d + 1) u c l M1 (fun x M' => mOk M' ∧ FI (fun x => x = u + 11 ∨ x = u + 12 ∨ x = c) M M' ∧ Sz M' u ∧ 0 < x ∧ x ≤ D ∧ ∀ j : Nat, (j : Int) < x → 0 ≤ mI M' c j ∧ mI M' c j ≤ 9) from
    H (D - 1) 0 M1 (by omega) (by omega) g1 (g2.mono (fun x q => by omega)) Z1 g3 (by rw [g4, show D - 1 + 1 = D by omega]; exact hv) (fun j hj => by omega)
  intro k
  induction k with
  | zero =>
    intro l M1 hk h0 hO1 F1 Z1 W1 hw hd
    refine k_MU_digits_10 hO1 ⟨by omega, by omega⟩ ?_
    rw [Z1.1.2.2.2.1]
    refine ⟨Z1.1.1, W1.1.1, (s_MW_tenth hO1 W1).mono (fun x M2 h2 => ?_)⟩
    obtain ⟨k1, k2, k3, k4, k5⟩ := h2
    have Z2 := Z1.step (c := 11) (by decide) rfl k2 k3.1
    have F2 := F1.trans (k2.mono (fun x q => by omega))
    have n2 : mN M2 c = mN M c := by rw [F2.2.1]
    refine ⟨⟨by omega, by omega⟩, k1, by rw [F2.1]; exact hc, by omega, fun M3 e3 => ?_⟩
    have f3 : FI (fun x => x = c) M2 M3 := by rw [e3]; exact FI.ui rfl
    have o3 : mOk M3 := by rw [e3]; exact mOk_UI k1 ⟨by omega, by omega⟩
    have hd3 : ∀ j : Nat, (j : Int) < l + 1 → 0 ≤ mI M3 c j ∧ mI M3 c j ≤ 9 := fun j hj => by
      rw [e3, mI_UI]
      by_cases z : j = l.toNat
      · rw [if_pos ⟨rfl, z⟩]
        omega
      · rw [if_neg (fun w => z w.2), k2.2.2.2.2.2.2 c (by omega)]
        exact hd j (by omega)
    have Z3 : Sz M3 u := ⟨Z2.1.fi f3, Z2.2.1.fi f3, Z2.2.2.1.fi f3, fun e he => (Z2.wh e he).out f3 (by
      have h1 : ∀ e ∈ szL, 1 ≤ e ∧ e ≤ 20 := by decide
      have h2 := h1 e he
      omega)⟩
    obtain ⟨W3', v3⟩ := k3.out f3 (by omega) (by omega)
    rw [Z3.1.2.2.2.1]
    refine ⟨Z3.1.1, W3'.1.1, (s_MW_isZero o3 W3'.1).mono (fun y M4 h4 => ?_)⟩
    obtain ⟨e4, hy⟩ := h4
    subst e4
    have hz : mI M4 (u + 11) 1 = 0 := W3'.zero.2 (by have hw' : wv M1 (u + 11) < 10 := hw; have := W1.nonneg; omega)
    rw [if_pos hz] at hy
    exact ⟨⟨by omega, by omega⟩, o3, fun q => by omega, fun _ => ⟨o3, F2.trans (f3.mono (fun x q => by omega)), Z3, by omega, by omega, hd3⟩⟩
  | succ k ih =>
    intro l M1 hk h0 hO1 F1 Z1 W1 hw hd
    refine k_MU_digits_10 hO1 ⟨by omega, by omega⟩ ?_
    rw [Z1.1.2.2.2.1]
    refine ⟨Z1.1.1, W1.1.1, (s_MW_tenth hO1 W1).mono (fun x M2 h2 => ?_)⟩
    obtain ⟨k1, k2, k3, k4, k5⟩ := h2
    have Z2 := Z1.step (c := 11) (by decide) rfl k2 k3.1
    have F2 := F1.trans (k2.mono (fun x q => by omega))
    have n2 : mN M2 c = mN M c := by rw [F2.2.1]
    refine ⟨⟨by omega, by omega⟩, k1, by rw [F2.1]; exact hc, by omega, fun M3 e3 => ?_⟩
    have f3 : FI (fun x => x = c) M2 M3 := by rw [e3]; exact FI.ui rfl
    have o3 : mOk M3 := by rw [e3]; exact mOk_UI k1 ⟨by omega, by omega⟩
    have hd3 : ∀ j : Nat, (j : Int) < l + 1 → 0 ≤ mI M3 c j ∧ mI M3 c j ≤ 9 := fun j hj => by
      rw [e3, mI_UI]
      by_cases z : j = l.toNat
      · rw [if_pos ⟨rfl, z⟩]
        omega
      · rw [if_neg (fun w => z w.2), k2.2.2.2.2.2.2 c (by omega)]
        exact hd j (by omega)
    have Z3 : Sz M3 u := ⟨Z2.1.fi f3, Z2.2.1.fi f3, Z2.2.2.1.fi f3, fun e he => (Z2.wh e he).out f3 (by
      have h1 : ∀ e ∈ szL, 1 ≤ e ∧ e ≤ 20 := by decide
      have h2 := h1 e he
      omega)⟩
    obtain ⟨W3', v3⟩ := k3.out f3 (by omega) (by omega)
    rw [Z3.1.2.2.2.1]
    refine ⟨Z3.1.1, W3'.1.1, (s_MW_isZero o3 W3'.1).mono (fun y M4 h4 => ?_)⟩
    obtain ⟨e4, hy⟩ := h4
    subst e4
    refine ⟨⟨by split at hy <;> omega, by split at hy <;> omega⟩, o3, fun q => ih (l + 1) M4 (by omega) (by omega) o3 (F2.trans (f3.mono (fun x q => by omega))) Z3 W3' ?_ hd3, fun _ => ⟨o3, F2.trans (f3.mono (fun x q => by omega)), Z3, by omega, by omega, hd3⟩⟩
    rw [v3, k4]
    have : (10 : Int) ^ (k + 1 + 1) = 10 ^ (k + 1) * 10 := Int.pow_succ _ _
    generalize (10 : Int) ^ (k + 1) = P at *
    omega
theorem Hs.out {S : Nat → Prop} {M M' : mM} {s n w : Nat} (h : Hs M s n w) (f : FI S M M') (h0 : ¬ S (s + 30)) (hs : ∀ y, S y → y < s + 68) (hw : w < 3) : Hs M' s n w := by
  obtain ⟨h1, h2⟩ := h
  unfold Hs
  rw [f.2.2.2.2.2.2 _ h0]
  refine ⟨h1, fun q => ?_⟩
  obtain ⟨x, X, v⟩ := h2 q
  exact ⟨x, X.out f (fun y q => by have := hs y q; omega), v⟩
theorem Sv.out {S : Nat → Prop} {M M' : mM} {s n : Nat} (h : Sv M s n) (f : FI S M M') (hs : ∀ y, S y → (s < y ∧ y < s + 22) ∨ (s + 42 ≤ y ∧ y ≤ s + 67) ∨ y < s ∨ s + 21067 < y) (hW : Wk M' s) : Sv M' s n := by
  have hn5 := h.n5
  obtain ⟨V, g, c, e, t, W, T, R, H, hc⟩ := h
  have sg : sameG M M' s := sameG.of f (fun q => by have := hs s q; omega) (fun y a b q => by have := hs y q; omega)
  have fe := f.2.2.2.2.2.2
  refine ⟨V.fi f, sg.gw g, sg.gb c, by rw [sg.1]; exact e, t.out sg (fe _ (fun q => by have := hs _ q; omega)), hW, fun i j hi hj => (T i j hi hj).out f (fun y q => by have := hs y q; unfold cel; omega), fun e he => (R e he).out f (fun y q => by have := hs y q; omega), fun w hw => ?_, fun q => (hc (by rw [← fe (s + 30) (fun q => by have := hs _ q; omega)]; exact q)).out sg (fe _ (fun q => by have := hs _ q; omega))⟩
  obtain ⟨h1, h2⟩ := H w hw
  unfold Hs
  rw [fe _ (fun q => by have := hs _ q; omega)]
  refine ⟨h1, fun q => ?_⟩
  obtain ⟨x, X, v⟩ := h2 q
  exact ⟨x, X.out2 f (fun i y hi q => by have := hs y q; omega), v⟩
theorem fv_top {M : mM} {f r : Nat} (hF : Fq M f r) (h0 : 0 ≤ fv M f) (h1 : fv M f ≤ 1) : wv M (f + 1) ≤ wv M (f + 3) := by
  have a := fv_abs hF h1 (by grind)
  rw [fv_wv hF h0] at a
  exact a.1
theorem p160 : (16777216 : Int) ^ 21 < 10 ^ 160 := by decide
section PR
variable {G : mG} {d s n k w : Nat} {M : mM}
/-- the fraction of state k for w -/
abbrev frc (s k w : Nat) : Nat := s + (68 + 5 * w) + 25 * k
theorem Sv.frac (h : Sv M s n) (hk : k < n) (hw : w < 3) (hh : mI M (s + 30) w ≠ 0) : okF M (frc s k w) ∧ mR M (s + 29) (3 * (k : Int) + (w : Int)).toNat = frc s k w := by
  have hn5 := h.n5
  obtain ⟨V, g, c, e, t, W, T, R, H, hc⟩ := h
  obtain ⟨h1, h2⟩ := H w hw
  obtain ⟨x, X, v⟩ := h2 (by omega)
  obtain ⟨x1, x2, x3⟩ := X k hk
  refine ⟨⟨x1, x2, by rw [x3]; exact (v k hk).1, by rw [x3]; exact (v k hk).2⟩, ?_⟩
  rw [show (3 * (k : Int) + (w : Int)).toNat = 3 * k + w by omega, V.f29 k w (by omega) hw]
  unfold frc
  omega
theorem okF.low {M : mM} {f : Nat} (h : okF M f) : wv M (f + 1) ≤ wv M (f + 3) ∧ mI M (f + 1) 1 ≤ 21 ∧ mI M (f + 3) 1 ≤ 21 ∧ wv M (f + 1) < 10 ^ 160 ∧ wv M (f + 3) < 10 ^ 160 := by
  obtain ⟨h1, h2, h3, h4⟩ := h
  have a := fv_top h1 h4 (smp_b h3).1
  have b := smp_size h1 h2 h3
  have c1 := h1.2.1.lt
  have c2 := h1.2.2.1.lt
  have d1 : (16777216 : Int) ^ (mI M (f + 1) 1).toNat ≤ 16777216 ^ 21 := pow_mono (by omega)
  have d2 : (16777216 : Int) ^ (mI M (f + 3) 1).toNat ≤ 16777216 ^ 21 := pow_mono (by omega)
  have := p160
  exact ⟨a, b.1, b.2, by omega, by omega⟩
theorem s_MS_isThere {l1 l2 : Int} (h1 : i32 l1) (h2 : i32 l2) (hO : mOk M) (h : Sv M s n) : Ci G y_MS_isThere d [vr s, vi l1, vi l2] M (fun r M' => M' = M ∧ (r = 0 ∨ r = 1) ∧ (r ≠ 0 ↔ (0 ≤ l1 ∧ l1 < n ∧ 0 ≤ l2 ∧ l2 ≤ 2 ∧ mI M (s + 30) l2.toNat ≠ 0))) := by
  obtain ⟨V, g, c, e, -⟩ := h
  refine k_MS_isThere hO h1 h2 ?_
  rw [V.r12, V.n30, e]
  refine ⟨fun _ => ⟨V.k0, fun _ _ _ => ⟨V.k30, by omega⟩⟩, fun v hv => ⟨rfl, by split at hv <;> omega, ?_⟩⟩
  by_cases q : l1 < 0 ∨ ((n : Int) ≤ l1 ∨ (l2 < 0 ∨ (2 < l2 ∨ mI M (s + 30) l2.toNat = 0)))
  · rw [if_pos q] at hv
    exact ⟨fun w => absurd hv w, fun w => by omega⟩
  · rw [if_neg q] at hv
    exact ⟨fun _ => by omega, fun _ => by omega⟩
theorem s_MS_compare {j w' : Nat} (hO : mOk M) (h : Sv M s n) (hk : k < n) (hw : w < 3) (hh : mI M (s + 30) w ≠ 0) (hj : j < n) (hw' : w' < 3) (hh' : mI M (s + 30) w' ≠ 0) : Ci G y_MS_compare (d + 3) [vr s, vi k, vi w, vi j, vi w'] M (fun r M' => mOk M' ∧ FI (vK s) M M' ∧ Sv M' s n ∧ -1 ≤ r ∧ r ≤ 1) := by
  have hn5 := h.n5
  obtain ⟨a1, a2⟩ := h.frac hk hw hh
  obtain ⟨b1, b2⟩ := h.frac hj hw' hh'
  have al := a1.low
  have bl := b1.low
  obtain ⟨V, g, c, e, t, W, -⟩ := id h
  refine k_MS_compare hO ⟨by omega, by omega⟩ ⟨by omega, by omega⟩ ⟨by omega, by omega⟩ ⟨by omega, by omega⟩ ?_
  rw [V.r11, V.n29, V.r0, a2, b2]
  refine ⟨V.k0, V.k29, by omega, by omega, W.1.1.1, (s_MU_compare (d := d) hO W.1 a1.1 b1.1 (by unfold suO frc; omega) (by unfold suO frc; omega) (by omega) (by omega)).mono (fun u M1 h1 => ?_)⟩
  obtain ⟨o1, f1, Z1, hu⟩ := h1
  have hu3 : u = -1 ∨ u = 0 ∨ u = 1 := by split at hu <;> (try split at hu) <;> omega
  exact ⟨⟨by omega, by omega⟩, o1, o1, f1.mono (fun y q => by omega), h.out f1 (fun y q => by omega) (W.out f1 Z1 (fun y q => by omega)), by omega, by omega⟩
end PR
end
section
/-! The solver: printing, telling, adopting, the next state. -/
section PR
variable {G : mG} {d s n k w : Nat} {M : mM}
abbrev syS (s o : Nat) : Nat → Prop := fun y => y = s + 12 ∨ y = s + 13 ∨ y = s + 67 ∨ y = o
theorem s_MS_say {a o ra p : Nat} (hO : mOk M) (h : Sv M s n) (hA : W3 M a ra) (oa : s + 67 < a) (z1 : mI M a 1 ≤ 900) (hv : wv M a < 10 ^ 160) (ho : mK M o = 30) (hp : p + 160 ≤ mN M o) (hp2 : p < 10000) (oo : o < s ∨ s + 21067 < o) :
    Ci G y_MS_say (d + 3) [vr s, vr a, vr o, vi p] M (fun r M' => mOk M' ∧ FI (syS s o) M M' ∧ Sv M' s n ∧ (p : Int) < r ∧ r ≤ (p : Int) + 160) := by
  obtain ⟨V, g, c, e, t, W, -⟩ := id h
  refine k_MS_say hO ⟨by omega, by omega⟩ ?_
  rw [V.r0, V.r31]
  refine ⟨V.k0, W.1.1.1, (s_digits2 (d := d) (D := 160) hO W.1 hA (by omega) z1 V.k67 (by rw [V.n67]; omega) (by omega) (by omega) hv (by omega)).mono (fun x M1 h1 => ?_)⟩
  obtain ⟨o1, f1, Z1, x0, x1, hd⟩ := h1
  have W1 : Wk M1 s := W.out f1 Z1 (fun y q => by omega)
  have S1 : Sv M1 s n := h.out f1 (fun y q => by omega) W1
  refine ⟨⟨by omega, by omega⟩, o1, ?_⟩
  suffices H : ∀ (c l : Nat) (M2 : mM), (l : Int) + c = x → mOk M2 → FI (fun y => y = o) M1 M2 → h_MS_say_17 G (d + 2) s o p x l M2 (fun r M' => mOk M' ∧ FI (syS s o) M M' ∧ Sv M' s n ∧ (p : Int) < r ∧ r ≤ (p : Int) + 160) from
    H x.toNat 0 M1 (by omega) o1 FI.refl
  intro c
  induction c with
  | zero =>
    intro l M2 hl o2 f2
    exact k_MS_say_17 o2 ⟨by omega, by omega⟩ ⟨by omega, by omega⟩ ⟨by omega, by omega⟩ ⟨fun _ => ⟨o2, (f1.mono (fun y q => by omega)).trans (f2.mono (fun y q => by omega)), S1.out f2 (fun y q => by omega) (W1.out f2 (W1.1.far f2 (fun y q => by omega)) (fun y q => by omega)), by omega, by omega⟩, fun q => by omega⟩
  | succ c ih =>
    intro l M2 hl o2 f2
    have V2 := S1.1.fi f2
    have n2 : mN M2 o = mN M o := by rw [f2.2.1, f1.2.1]
    have k2 : mK M2 o = 30 := by rw [f2.1, f1.1]; exact ho
    have hdl := hd (x - 1 - l).toNat (by omega)
    refine k_MS_say_17 o2 ⟨by omega, by omega⟩ ⟨by omega, by omega⟩ ⟨by omega, by omega⟩ ⟨fun q => by omega, fun _ => ?_⟩
    rw [V2.r31, V2.n67, n2, f2.2.2.2.2.2.2 (s + 67) (by omega)]
    refine ⟨V2.k0, V2.k67, by omega, k2, by omega, ⟨by omega, by omega⟩, fun M3 e3 => ?_⟩
    have f3 : FI (fun y => y = o) M2 M3 := by rw [e3]; exact FI.ui rfl
    have o3 : mOk M3 := by rw [e3]; exact mOk_UI o2 ⟨by omega, by omega⟩
    exact ih (l + 1) M3 (by omega) o3 (f2.trans f3)
theorem s_MS_print {o : Nat} (hO : mOk M) (h : Sv M s n) (hk : k < n) (hw : w < 3) (hh : mI M (s + 30) w ≠ 0) (ho : mK M o = 30) (hp : 400 ≤ mN M o) (oo : o < s ∨ s + 21067 < o) :
    Ci G y_MS_print (d + 4) [vr s, vi k, vi w, vr o] M (fun r M' => mOk M' ∧ FI (syS s o) M M' ∧ Sv M' s n ∧ 0 ≤ r ∧ r ≤ 321) := by
  have hn5 := h.n5
  obtain ⟨a1, a2⟩ := h.frac hk hw hh
  have al := a1.low
  obtain ⟨V, g, c, e, t, W, -⟩ := id h
  obtain ⟨F, -, -, -⟩ := id a1
  refine k_MS_print hO ⟨by omega, by omega⟩ ⟨by omega, by omega⟩ ?_
  rw [V.r11, V.n29, a2, F.1.2.1]
  refine ⟨V.k0, V.k29, by omega, F.1.1, (s_MS_say (d := d) (p := 0) hO h F.2.1 (by unfold frc; omega) (by omega) al.2.2.2.1 ho (by omega) (by omega) oo).mono (fun x M1 h1 => ?_)⟩
  obtain ⟨o1, f1, S1, x0, x1⟩ := h1
  have hs1 : ∀ y, syS s o y → y < frc s k w ∨ frc s k w + 4 < y := fun y q => by unfold frc; omega
  have F1 := F.out f1 hs1
  have a1' := a1.out f1 hs1
  have al1 := a1'.low
  rw [F1.1.1.2.2]
  refine ⟨⟨by omega, by omega⟩, o1, F1.1.1.1, F1.1.2.2.1.1.1, (s_MW_isOne o1 F1.1.2.2.1).mono (fun y M2 h2 => ?_)⟩
  obtain ⟨e2, hy⟩ := h2
  subst e2
  refine ⟨⟨by split at hy <;> omega, by split at hy <;> omega⟩, o1, fun _ => ⟨by rw [f1.1]; exact ho, by rw [f1.2.1]; omega, fun M3 e3 => ?_⟩, fun _ => ⟨o1, f1, S1, by omega, by omega⟩⟩
  have f3 : FI (fun y => y = o) M2 M3 := by rw [e3]; exact FI.ui rfl
  have o3 : mOk M3 := by rw [e3]; exact mOk_UI o1 ⟨by omega, by omega⟩
  have W1 := S1.2.2.2.2.2.1
  have S3 : Sv M3 s n := S1.out f3 (fun y q => by omega) (W1.out f3 (W1.1.far f3 (fun y q => by omega)) (fun y q => by omega))
  have hs3 : ∀ y, y = o → y < frc s k w ∨ frc s k w + 4 < y := fun y q => by unfold frc; omega
  have F3 := F1.1.out f3 hs3
  have al3 := (a1'.out f3 hs3).low
  rw [F3.1.1.2.2, show x + 1 = ((x + 1).toNat : Int) by omega]
  refine ⟨F3.1.1.1, S3.1.k0, (s_MS_say (d := d) (p := (x + 1).toNat) o3 S3 F3.1.2.2.1 (by unfold frc; omega) (by omega) al3.2.2.2.2 (by rw [f3.1, f1.1]; exact ho) (by rw [f3.2.1, f1.2.1]; omega) (by omega) oo).mono (fun z M4 h4 => ?_)⟩
  obtain ⟨o4, f4, S4, z0, z1⟩ := h4
  exact ⟨⟨by omega, by omega⟩, o4, o4, (f1.trans (f3.mono (fun y q => by omega))).trans f4, S4, by omega, by omega⟩
/-- only told commands have changed -/
theorem Sv.told {M' : mM} (h : Sv M s n) (f : FI (fun y => y = s + 32) M M') (ht : TW M' s) : Sv M' s n := by
  have hn5 := h.n5
  obtain ⟨V, g, c, e, t, W, T, R, H, hc⟩ := h
  have sg : sameG M M' s := sameG.of f (by omega) (fun y a b q => by omega)
  have fe := f.2.2.2.2.2.2
  exact ⟨V.fi f, sg.gw g, sg.gb c, by rw [sg.1]; exact e, ht, W.far f (fun y q => by omega), T.out f (fun y q => by omega), fun e he => (R e he).out f (fun y q => by omega), fun w hw => (H w hw).out f (by omega) (fun y q => by omega) hw, fun q => (hc (by rw [← fe (s + 30) (by omega)]; exact q)).out sg (fe _ (by omega))⟩
theorem s_MS_tell {i : Nat} (hO : mOk M) (h : Sv M s n) (hk : k < n) (hi : (i : Int) < mny M s k) : Cv G y_MS_tell d [vr s, vi k, vi i] M (fun M' => mOk M' ∧ FI (vK s) M M' ∧ Sv M' s n) := by
  have hn5 := h.n5
  obtain ⟨V, g, c, e, t, W, -⟩ := id h
  have h3 := g.2.2.1
  have hcm := g.cmd (i := k) (by omega)
  have hm0 : mny M s k ≤ 4200 := by unfold mny; omega
  refine k_MS_tell hO ⟨by omega, by omega⟩ ⟨by omega, by omega⟩ ?_
  rw [V.r14, V.n32, Int.toNat_natCast]
  refine ⟨V.k0, V.k32, by omega, fun M1 e1 => ?_⟩
  have f1 : FI (fun y => y = s + 32) M M1 := by rw [e1]; exact FI.ui rfl
  have o1 : mOk M1 := by rw [e1]; exact mOk_UI hO ⟨by omega, by omega⟩
  have sg : sameG M M1 s := sameG.of f1 (by omega) (fun y a b q => by omega)
  refine ⟨o1, f1.mono (fun y q => by omega), h.told f1 (fun j hj => ?_)⟩
  rw [sg.1] at hj
  rw [sg.hm, e1, mI_UI]
  by_cases z : j = k
  · rw [if_pos ⟨rfl, z⟩, z]
    exact ⟨by omega, fun _ => hi⟩
  · rw [if_neg (fun w => z w.2)]
    exact t j hj
theorem s_MS_adopt (hO : mOk M) (h : Sv M s n) (hh : mI M (s + 30) 0 = 1) : Cv G y_MS_adopt (d + 1) [vr s] M (fun M' => mOk M' ∧ FI (vK s) M M' ∧ Sv M' s n) := by
  have hn5 := h.n5
  obtain ⟨V, g, c, e, t, W, T, R, H, hc⟩ := id h
  have hc := hc hh
  refine k_MS_adopt hO ?_
  suffices Hh : ∀ (c k : Nat) (M2 : mM), k + c = n → mOk M2 → FI (fun y => y = s + 32) M M2 → TW M2 s → h_MS_adopt_2 G d s k M2 (fun M' => mOk M' ∧ FI (vK s) M M' ∧ Sv M' s n) from
    Hh n 0 M (by omega) hO FI.refl t
  intro c
  induction c with
  | zero =>
    intro k M2 hk o2 f2 t2
    have V2 := V.fi f2
    refine k_MS_adopt_2 o2 ⟨by omega, by omega⟩ ?_
    rw [f2.2.2.2.2.2.2 s (by omega), e]
    exact ⟨V2.k0, fun _ => ⟨o2, f2.mono (fun y q => by omega), h.told f2 t2⟩, fun q => by omega⟩
  | succ c ih =>
    intro k M2 hk o2 f2 t2
    have S2 := h.told f2 t2
    have V2 := V.fi f2
    have sg : sameG M M2 s := sameG.of f2 (by omega) (fun y a b q => by omega)
    have g2 := sg.gw g
    have h3 := g2.2.2.1
    have e2 : mI M2 s 1 = n := by rw [sg.1]; exact e
    have hcm := g2.cmd (i := k) (by omega)
    have hm0 : 0 ≤ mny M2 s k ∧ mny M2 s k ≤ 4200 := by unfold mny; omega
    refine k_MS_adopt_2 o2 ⟨by omega, by omega⟩ ?_
    rw [e2, V2.r14]
    refine ⟨V2.k0, fun q => by omega, fun _ => (s_MS_many o2 V2 g2 (by omega)).mono (fun y M3 h3' => ?_)⟩
    obtain ⟨e3, hy⟩ := h3'
    subst e3
    rw [V2.r15, V2.n33, V2.n32, Int.toNat_natCast, f2.2.2.2.2.2.2 (s + 33) (by omega)]
    refine ⟨⟨by omega, by omega⟩, o2, fun _ => ⟨V2.k0, V2.k33, by omega⟩, fun v hv => ?_⟩
    have hck := hc k (by omega)
    rw [← sg.hm] at hck
    have hv2 : 0 ≤ v ∧ (0 < mny M3 s k → v < mny M3 s k) ∧ v ≤ 4200 := by
      by_cases z : y = 0
      · rw [if_pos z] at hv
        omega
      · rw [if_neg z] at hv
        have := hck (by omega)
        omega
    refine ⟨V2.k32, by omega, ⟨by omega, by omega⟩, fun M4 e4 => ?_⟩
    have f4 : FI (fun y => y = s + 32) M3 M4 := by rw [e4]; exact FI.ui rfl
    have o4 : mOk M4 := by rw [e4]; exact mOk_UI o2 ⟨by omega, by omega⟩
    have sg4 : sameG M3 M4 s := sameG.of f4 (by omega) (fun y a b q => by omega)
    refine ih (k + 1) M4 (by omega) o4 (f2.trans f4) (fun j hj => ?_)
    rw [sg4.1] at hj
    rw [sg4.hm, e4, mI_UI]
    by_cases z : j = k
    · rw [if_pos ⟨rfl, z⟩, z]
      exact ⟨hv2.1, hv2.2.1⟩
    · rw [if_neg (fun w => z w.2)]
      exact t2 j hj
theorem s_MS_hasValues (hO : mOk M) (h : Sv M s n) : Ci G y_MS_hasValues d [vr s] M (fun r M' => M' = M ∧ (r = 0 ∨ r = 1) ∧ r = mI M (s + 30) 0) := by
  obtain ⟨V, g, c, e, t, W, T, R, H, hc⟩ := id h
  have a := (H 0 (by omega)).1
  refine k_MS_hasValues hO ?_
  rw [V.r12, V.n30]
  exact ⟨V.k0, V.k30, by omega, a, rfl, a, rfl⟩
end PR
end
section
/-! The solver: the next state; clearing, and telling it a game. -/
section NX
variable {G : mG} {d s n k : Nat} {M : mM}
/-- the share of branch b of command c -/
def shr (M : mM) (s c b : Nat) : Int := mI M (s + 27) (bg M s c + b) * (mI M (s + 24) c / mI M (s + 28) (bg M s c + b))
theorem sm_nn {f : Nat → Int} : ∀ (n : Nat), (∀ c, c < n → 0 ≤ f c) → 0 ≤ sm f n
  | 0, _ => by show (0 : Int) ≤ 0; omega
  | n + 1, h => by
    have h1 := sm_nn n (fun c hc => h c (by omega))
    have h2 := h n (by omega)
    rw [sm]
    omega
/-- the branch that r falls on -/
def nxtQ (M : mM) (s c : Nat) (r x : Int) : Prop := ∃ t, t < nb M s c ∧ x = mI M (s + 26) (bg M s c + t) ∧ r * mI M (s + 24) c < sm (shr M s c) (t + 1) * 2147483648 ∧ ∀ u, u < t → sm (shr M s c) (u + 1) * 2147483648 ≤ r * mI M (s + 24) c
theorem s_MS_nextOf {r : Int} (h0 : 0 ≤ r) (h1 : r < 2147483648) (hO : mOk M) (h : Sv M s n) (hk : k < n) : Ci G y_MS_nextOf (d + 1) [vr s, vi k, vi r] M (fun x M' => M' = M ∧ ((mny M s k = 0 ∧ x = k) ∨ (0 < mny M s k ∧ nxtQ M s (cx M s k (mI M (s + 32) k).toNat) r x))) := by
  have hn5 := h.n5
  obtain ⟨V, g, c, e, t, W, -⟩ := id h
  have h2 := g.2.1
  have h3 := g.2.2.1
  have h4 := g.2.2.2.1
  have hcm := g.cmd (i := k) (by omega)
  have hm0 : 0 ≤ mny M s k ∧ mny M s k ≤ 4200 := by unfold mny; omega
  refine k_MS_nextOf hO ⟨by omega, by omega⟩ ⟨by omega, by omega⟩ ⟨V.k0, (s_MS_many hO V g (by omega)).mono (fun y M1 h1' => ?_)⟩
  obtain ⟨e1, hy⟩ := h1'
  subst e1
  refine ⟨⟨by omega, by omega⟩, hO, fun y0 => ⟨rfl, Or.inl ⟨by omega, rfl⟩⟩, fun y0 => ?_⟩
  have ht := t k (by omega)
  have ht2 := ht.2 (by omega)
  have hcx : (cx M1 s k (mI M1 (s + 32) k).toNat : Int) = mI M1 (s + 23) k + mI M1 (s + 32) k := by unfold cx; omega
  have hc2 := cx_lt g (k := k) (i := (mI M1 (s + 32) k).toNat) (by omega) (by omega)
  rw [V.r5, V.r14, V.r6, V.r7, V.n23, V.n32, V.n24, V.n25, Int.toNat_natCast, ← hcx, Int.toNat_natCast]
  generalize hcc : cx M1 s k (mI M1 (s + 32) k).toNat = cc at *
  have hb := g.brn hc2
  obtain ⟨⟨m1, m2, m3⟩, hbr, hsum⟩ := c cc hc2
  have ebg : (bg M1 s cc : Int) = mI M1 (s + 25) cc := by unfold bg; omega
  have enb : (nb M1 s cc : Int) = mI M1 (s + 25) (cc + 1) - mI M1 (s + 25) cc := by unfold nb; omega
  have hsh : ∀ b, b < nb M1 s cc → 0 ≤ shr M1 s cc b := fun b hb => by
    obtain ⟨u1, u2, u3⟩ := hbr b hb
    exact Int.mul_nonneg (by omega) (Int.ediv_nonneg (by omega) (by omega))
  have hsm : sm (shr M1 s cc) (nb M1 s cc) = mI M1 (s + 24) cc := hsum
  have hpart : ∀ b, b ≤ nb M1 s cc → 0 ≤ sm (shr M1 s cc) b ∧ sm (shr M1 s cc) b ≤ mI M1 (s + 24) cc := fun b hb => by
    refine ⟨sm_nn b (fun j hj => hsh j (by omega)), ?_⟩
    have a := sm_part (f := shr M1 s cc) (a := b) (nb M1 s cc - b) (fun j hj => hsh j (by omega))
    rw [show b + (nb M1 s cc - b) = nb M1 s cc by omega, hsm] at a
    exact a
  have hnb : 0 < nb M1 s cc := by
    refine Classical.byContradiction (fun w => ?_)
    have e0 : nb M1 s cc = 0 := by omega
    rw [e0] at hsm
    have : sm (shr M1 s cc) 0 = 0 := rfl
    omega
  have hrm : 0 ≤ r * mI M1 (s + 24) cc ∧ r * mI M1 (s + 24) cc ≤ 2147483647 * mI M1 (s + 24) cc := ⟨Int.mul_nonneg h0 (by omega), Int.mul_le_mul_of_nonneg_right (by omega) (by omega)⟩
  refine ⟨V.k0, V.k23, by omega, V.k32, by omega, V.k24, by omega, V.k25, by omega, ?_⟩
  suffices H : ∀ (c t : Nat), t + c = nb M1 s cc → 0 < c → (∀ u, u < t → sm (shr M1 s cc) (u + 1) * 2147483648 ≤ r * mI M1 (s + 24) cc) → h_MS_nextOf_46 G d s r (mI M1 (s + 24) cc) (sm (shr M1 s cc) t) (mI M1 (s + 25) cc - 1 + t) M1 (fun x M' => M' = M1 ∧ ((mny M1 s k = 0 ∧ x = k) ∨ (0 < mny M1 s k ∧ nxtQ M1 s cc r x))) by
    have a := H (nb M1 s cc) 0 (by omega) hnb (fun u hu => by omega)
    have e0 : sm (shr M1 s cc) 0 = 0 := rfl
    rw [e0, show mI M1 (s + 25) cc - 1 + ((0 : Nat) : Int) = mI M1 (s + 25) cc - 1 by omega] at a
    exact a
  intro c'
  induction c' with
  | zero => intro t _ q; omega
  | succ c' ih =>
    intro t ht _ hlow
    have htn : t < nb M1 s cc := by omega
    have ei : (mI M1 (s + 25) cc - 1 + (t : Int) + 1).toNat = bg M1 s cc + t := by omega
    obtain ⟨u1, u2, u3⟩ := hbr t htn
    have pt := hpart t (by omega)
    have pt1 := hpart (t + 1) (by omega)
    have est : sm (shr M1 s cc) t + mI M1 (s + 27) (bg M1 s cc + t) * (mI M1 (s + 24) cc).tdiv (mI M1 (s + 28) (bg M1 s cc + t)) = sm (shr M1 s cc) (t + 1) := by
      rw [Int.tdiv_eq_ediv_of_nonneg (by omega)]
      rfl
    refine k_MS_nextOf_46 hO ⟨by omega, by omega⟩ ⟨by omega, by omega⟩ ⟨by omega, by omega⟩ ⟨by omega, by omega⟩ ?_
    rw [V.r9, V.r10, V.r8, V.n27, V.n28, V.n26, ei, est]
    refine ⟨V.k0, V.k27, by omega, V.k28, by omega, by omega, ⟨by omega, by omega⟩, ⟨by omega, by omega⟩, fun w => ?_, fun w => ⟨V.k26, by omega, rfl, Or.inr ⟨by omega, t, htn, rfl, ?_, hlow⟩⟩⟩
    · have hle : sm (shr M1 s cc) (t + 1) * 2147483648 ≤ r * mI M1 (s + 24) cc := by
        unfold cmpL at w
        split at w <;> (try split at w) <;> omega
      have hc0 : 0 < c' := by
        refine Classical.byContradiction (fun z => ?_)
        have e1 : t + 1 = nb M1 s cc := by omega
        rw [e1, hsm] at hle
        omega
      have a := ih (t + 1) (by omega) hc0 (fun u hu => by
        by_cases z : u = t
        · rw [z]; exact hle
        · exact hlow u (by omega))
      rw [show mI M1 (s + 25) cc - 1 + ((t + 1 : Nat) : Int) = mI M1 (s + 25) cc - 1 + (t : Int) + 1 by omega] at a
      exact a
    · unfold cmpL at w
      split at w <;> (try split at w) <;> omega
end NX
section CL
variable {G : mG} {d s : Nat} {M : mM}
/-- clear leaves an empty game -/
theorem s_MS_clear {n : Nat} (hO : mOk M) (h : Sv M s n) : Cv G y_MS_clear d [vr s] M (fun M' => mOk M' ∧ FI (vF s) M M' ∧ Sv M' s 0 ∧ mI M' s 2 = 0 ∧ mI M' s 3 = 0 ∧ ∀ w, w < 3 → mI M' (s + 30) w = 0) := by
  obtain ⟨V, g, c, e, t, W, T, R, H, hc⟩ := id h
  refine k_MS_clear hO ⟨V.k0, fun M1 e1 M2 e2 M3 e3 => ?_⟩
  have f3 : FI (fun y => y = s) M M3 := by
    have a1 : FI (fun y => y = s) M M1 := by rw [e1]; exact FI.ui rfl
    have a2 : FI (fun y => y = s) M1 M2 := by rw [e2]; exact FI.ui rfl
    have a3 : FI (fun y => y = s) M2 M3 := by rw [e3]; exact FI.ui rfl
    exact (a1.trans a2).trans a3
  have o3 : mOk M3 := by
    rw [e3, e2, e1]
    exact mOk_UI (mOk_UI (mOk_UI hO ⟨by omega, by omega⟩) ⟨by omega, by omega⟩) ⟨by omega, by omega⟩
  have s3 : mI M3 s 1 = 0 ∧ mI M3 s 2 = 0 ∧ mI M3 s 3 = 0 := by
    rw [e3, e2, e1]
    refine ⟨?_, ?_, ?_⟩ <;> simp [mI_UI]
  have V3 := V.fi f3
  rw [V3.r5, V3.n23]
  refine ⟨V3.k23, by omega, fun M4 e4 => ?_⟩
  have f4 : FI (fun y => y = s + 23) M3 M4 := by rw [e4]; exact FI.ui rfl
  have o4 : mOk M4 := by rw [e4]; exact mOk_UI o3 ⟨by omega, by omega⟩
  have V4 := V3.fi f4
  have i4 : mI M4 (s + 23) 0 = 0 := by rw [e4, mI_UI, if_pos ⟨rfl, rfl⟩]
  rw [V4.r7, V4.n25]
  refine ⟨V4.k25, by omega, fun M5 e5 => ?_⟩
  have f5 : FI (fun y => y = s + 25) M4 M5 := by rw [e5]; exact FI.ui rfl
  have o5 : mOk M5 := by rw [e5]; exact mOk_UI o4 ⟨by omega, by omega⟩
  have V5 := V4.fi f5
  have i5 : mI M5 (s + 25) 0 = 0 := by rw [e5, mI_UI, if_pos ⟨rfl, rfl⟩]
  have j5 : mI M5 (s + 23) 0 = 0 := by rw [f5.2.2.2.2.2.2 (s + 23) (by omega)]; exact i4
  have s5 : mI M5 s = mI M3 s := by rw [f5.2.2.2.2.2.2 s (by omega), f4.2.2.2.2.2.2 s (by omega)]
  have f05 : FI (fun y => y = s ∨ y = s + 23 ∨ y = s + 25) M M5 := ((f3.mono (fun y q => by omega)).trans (f4.mono (fun y q => by omega))).trans (f5.mono (fun y q => by omega))
  suffices Hh : ∀ (c w : Nat) (M6 : mM), w + c = 3 → mOk M6 → FI (fun y => y = s + 30) M5 M6 → (∀ j, j < w → mI M6 (s + 30) j = 0) → h_MS_clear_31 G d s w M6 (fun M' => mOk M' ∧ FI (vF s) M M' ∧ Sv M' s 0 ∧ mI M' s 2 = 0 ∧ mI M' s 3 = 0 ∧ ∀ w, w < 3 → mI M' (s + 30) w = 0) from
    Hh 3 0 M5 (by omega) o5 FI.refl (fun j hj => by omega)
  intro c'
  induction c' with
  | zero =>
    intro w M6 hw o6 f6 h6
    have ew : w = 3 := by omega
    subst ew
    refine k_MS_clear_31 o6 ⟨by omega, by omega⟩ ⟨fun _ => ?_, fun q => by omega⟩
    have fe := f6.2.2.2.2.2.2
    have s6 : mI M6 s = mI M3 s := by rw [fe s (by omega)]; exact s5
    have f06 : FI (fun y => y = s ∨ y = s + 23 ∨ y = s + 25 ∨ y = s + 30) M M6 := (f05.mono (fun y q => by omega)).trans (f6.mono (fun y q => by omega))
    have g6 : GW M6 s := by
      unfold GW
      rw [s6, s3.1, s3.2.1, s3.2.2, fe (s + 23) (by omega), fe (s + 25) (by omega), j5, i5]
      refine ⟨by omega, by omega, by omega, by omega, rfl, rfl, fun i j hij hj => ?_, j5, fun i j hij hj => ?_, i5, fun b hb => by omega⟩
      · have : i = 0 ∧ j = 0 := by omega
        rw [this.1, this.2]
        omega
      · have : i = 0 ∧ j = 0 := by omega
        rw [this.1, this.2]
        omega
    refine ⟨o6, f06.mono (fun y q => by omega), ⟨V5.fi f6, g6, fun c hc => ?_, by rw [s6]; exact s3.1, fun k hk => ?_, W.far f06 (fun y q => by omega), T.out f06 (fun y q => by omega), fun e he => (R e he).out f06 (fun y q => by omega), fun w hw => ⟨Or.inl (h6 w hw), fun q => by have := h6 w hw; omega⟩, fun q => by have := h6 0 (by omega); omega⟩, by rw [s6]; exact s3.2.1, by rw [s6]; exact s3.2.2, h6⟩
    · rw [s6, s3.2.1] at hc
      omega
    · rw [s6, s3.1] at hk
      omega
  | succ c' ih =>
    intro w M6 hw o6 f6 h6
    have V6 := V5.fi f6
    refine k_MS_clear_31 o6 ⟨by omega, by omega⟩ ⟨fun q => by omega, fun _ => ?_⟩
    rw [V6.r12, V6.n30, Int.toNat_natCast]
    refine ⟨V6.k0, V6.k30, by omega, fun M7 e7 => ?_⟩
    have f7 : FI (fun y => y = s + 30) M6 M7 := by rw [e7]; exact FI.ui rfl
    have o7 : mOk M7 := by rw [e7]; exact mOk_UI o6 ⟨by omega, by omega⟩
    refine ih (w + 1) M7 (by omega) o7 (f6.trans f7) (fun j hj => ?_)
    rw [e7, mI_UI]
    by_cases z : j = w
    · rw [if_pos ⟨rfl, z⟩]
    · rw [if_neg (fun q => z q.2)]
      exact h6 j (by omega)
theorem s_MS_addState {q : Int} {n : Nat} (hq : i32 q) (hO : mOk M) (hV : Vk M s) (hn : mI M s 1 = n) (hn5 : n < 512) : Cv G y_MS_addState d [vr s, vi q] M (fun M' => mOk M' ∧ FI (fun y => y = s ∨ y = s + 22 ∨ y = s + 23 ∨ y = s + 32) M M' ∧ (∀ j, mI M' s j = if j = 1 then (n : Int) + 1 else mI M s j) ∧ (∀ j, mI M' (s + 22) j = if j = n then q else mI M (s + 22) j) ∧ (∀ j, mI M' (s + 32) j = if j = n then 0 else mI M (s + 32) j) ∧ (∀ j, mI M' (s + 23) j = if j = n + 1 then mI M s 2 else mI M (s + 23) j)) := by
  refine k_MS_addState hO hq ?_
  rw [hV.r4, hV.n22, hn, Int.toNat_natCast]
  refine ⟨hV.k0, hV.k22, by omega, fun M1 e1 => ?_⟩
  have f1 : FI (fun y => y = s + 22) M M1 := by rw [e1]; exact FI.ui rfl
  have V1 := hV.fi f1
  have s1 : mI M1 s = mI M s := f1.2.2.2.2.2.2 s (by omega)
  rw [V1.r14, V1.n32, s1, hn, Int.toNat_natCast]
  refine ⟨V1.k32, by omega, fun M2 e2 => ?_⟩
  have f2 : FI (fun y => y = s + 32) M1 M2 := by rw [e2]; exact FI.ui rfl
  have V2 := V1.fi f2
  have s2 : mI M2 s = mI M s := by rw [f2.2.2.2.2.2.2 s (by omega)]; exact s1
  rw [s2, hn]
  refine ⟨⟨by omega, by omega⟩, fun M3 e3 => ?_⟩
  have f3 : FI (fun y => y = s) M2 M3 := by rw [e3]; exact FI.ui rfl
  have V3 := V2.fi f3
  have s3 : ∀ j, mI M3 s j = if j = 1 then (n : Int) + 1 else mI M s j := fun j => by
    rw [e3, mI_UI, s2]
    by_cases z : j = 1
    · rw [if_pos ⟨rfl, z⟩, if_pos z]
    · rw [if_neg (fun w => z w.2), if_neg z]
  have s31 : mI M3 s 1 = (n : Int) + 1 := by rw [s3, if_pos rfl]
  have s32 : mI M3 s 2 = mI M s 2 := by rw [s3, if_neg (by omega)]
  rw [V3.r5, V3.n23, s31, s32, show ((n : Int) + 1).toNat = n + 1 by omega]
  refine ⟨V3.k23, by omega, fun M4 e4 => ?_⟩
  have f4 : FI (fun y => y = s + 23) M3 M4 := by rw [e4]; exact FI.ui rfl
  have o4 : mOk M4 := by
    rw [e4, e3, e2, e1]
    exact mOk_UI (mOk_UI (mOk_UI (mOk_UI hO hq) ⟨by omega, by omega⟩) ⟨by omega, by omega⟩) (hO _ _).1
  refine ⟨o4, (((f1.mono (fun y q => by omega)).trans (f2.mono (fun y q => by omega))).trans (f3.mono (fun y q => by omega))).trans (f4.mono (fun y q => by omega)), fun j => by rw [f4.2.2.2.2.2.2 s (by omega)]; exact s3 j, fun j => ?_, fun j => ?_, fun j => ?_⟩
  · rw [f4.2.2.2.2.2.2 (s + 22) (by omega), f3.2.2.2.2.2.2 (s + 22) (by omega), f2.2.2.2.2.2.2 (s + 22) (by omega), e1, mI_UI]
    by_cases z : j = n
    · rw [if_pos ⟨rfl, z⟩, if_pos z]
    · rw [if_neg (fun w => z w.2), if_neg z]
  · rw [f4.2.2.2.2.2.2 (s + 32) (by omega), f3.2.2.2.2.2.2 (s + 32) (by omega), e2, mI_UI, f1.2.2.2.2.2.2 (s + 32) (by omega)]
    by_cases z : j = n
    · rw [if_pos ⟨rfl, z⟩, if_pos z]
    · rw [if_neg (fun w => z w.2), if_neg z]
  · rw [e4, mI_UI, f3.2.2.2.2.2.2 (s + 23) (by omega), f2.2.2.2.2.2.2 (s + 23) (by omega), f1.2.2.2.2.2.2 (s + 23) (by omega)]
    by_cases z : j = n + 1
    · rw [if_pos ⟨rfl, z⟩, if_pos z]
    · rw [if_neg (fun w => z w.2), if_neg z]
theorem s_MS_addCommand {q : Int} {n c : Nat} (hq : i32 q) (hO : mOk M) (hV : Vk M s) (hn : mI M s 1 = n) (hn5 : n ≤ 512) (hc : mI M s 2 = c) (hc5 : c < 4200) : Cv G y_MS_addCommand d [vr s, vi q] M (fun M' => mOk M' ∧ FI (fun y => y = s ∨ y = s + 23 ∨ y = s + 24 ∨ y = s + 25) M M' ∧ (∀ j, mI M' s j = if j = 2 then (c : Int) + 1 else mI M s j) ∧ (∀ j, mI M' (s + 24) j = if j = c then q else mI M (s + 24) j) ∧ (∀ j, mI M' (s + 25) j = if j = c + 1 then mI M s 3 else mI M (s + 25) j) ∧ (∀ j, mI M' (s + 23) j = if j = n then (c : Int) + 1 else mI M (s + 23) j)) := by
  refine k_MS_addCommand hO hq ?_
  rw [hV.r6, hV.n24, hc, Int.toNat_natCast]
  refine ⟨hV.k0, hV.k24, by omega, fun M1 e1 => ?_⟩
  have f1 : FI (fun y => y = s + 24) M M1 := by rw [e1]; exact FI.ui rfl
  have V1 := hV.fi f1
  have s1 : mI M1 s = mI M s := f1.2.2.2.2.2.2 s (by omega)
  rw [s1, hc]
  refine ⟨⟨by omega, by omega⟩, fun M2 e2 => ?_⟩
  have f2 : FI (fun y => y = s) M1 M2 := by rw [e2]; exact FI.ui rfl
  have V2 := V1.fi f2
  have s2 : ∀ j, mI M2 s j = if j = 2 then (c : Int) + 1 else mI M s j := fun j => by
    rw [e2, mI_UI, s1]
    by_cases z : j = 2
    · rw [if_pos ⟨rfl, z⟩, if_pos z]
    · rw [if_neg (fun w => z w.2), if_neg z]
  have s22 : mI M2 s 2 = (c : Int) + 1 := by rw [s2, if_pos rfl]
  have s23 : mI M2 s 3 = mI M s 3 := by rw [s2, if_neg (by omega)]
  have s21 : mI M2 s 1 = n := by rw [s2, if_neg (by omega)]; exact hn
  rw [V2.r7, V2.n25, s22, s23, show ((c : Int) + 1).toNat = c + 1 by omega]
  refine ⟨V2.k25, by omega, fun M3 e3 => ?_⟩
  have f3 : FI (fun y => y = s + 25) M2 M3 := by rw [e3]; exact FI.ui rfl
  have V3 := V2.fi f3
  have s3 : mI M3 s = mI M2 s := f3.2.2.2.2.2.2 s (by omega)
  rw [V3.r5, V3.n23, s3, s21, s22, Int.toNat_natCast]
  refine ⟨V3.k23, by omega, fun M4 e4 => ?_⟩
  have f4 : FI (fun y => y = s + 23) M3 M4 := by rw [e4]; exact FI.ui rfl
  have o4 : mOk M4 := by
    rw [e4, e3, e2, e1]
    exact mOk_UI (mOk_UI (mOk_UI (mOk_UI hO hq) ⟨by omega, by omega⟩) (hO _ _).1) ⟨by omega, by omega⟩
  refine ⟨o4, (((f1.mono (fun y q => by omega)).trans (f2.mono (fun y q => by omega))).trans (f3.mono (fun y q => by omega))).trans (f4.mono (fun y q => by omega)), fun j => by rw [f4.2.2.2.2.2.2 s (by omega), s3]; exact s2 j, fun j => ?_, fun j => ?_, fun j => ?_⟩
  · rw [f4.2.2.2.2.2.2 (s + 24) (by omega), f3.2.2.2.2.2.2 (s + 24) (by omega), f2.2.2.2.2.2.2 (s + 24) (by omega), e1, mI_UI]
    by_cases z : j = c
    · rw [if_pos ⟨rfl, z⟩, if_pos z]
    · rw [if_neg (fun w => z w.2), if_neg z]
  · rw [f4.2.2.2.2.2.2 (s + 25) (by omega), e3, mI_UI, f2.2.2.2.2.2.2 (s + 25) (by omega), f1.2.2.2.2.2.2 (s + 25) (by omega)]
    by_cases z : j = c + 1
    · rw [if_pos ⟨rfl, z⟩, if_pos z]
    · rw [if_neg (fun w => z w.2), if_neg z]
  · rw [e4, mI_UI, f3.2.2.2.2.2.2 (s + 23) (by omega), f2.2.2.2.2.2.2 (s + 23) (by omega), f1.2.2.2.2.2.2 (s + 23) (by omega)]
    by_cases z : j = n
    · rw [if_pos ⟨rfl, z⟩, if_pos z]
    · rw [if_neg (fun w => z w.2), if_neg z]
theorem s_MS_addBranch {q u v : Int} {c b : Nat} (hq : i32 q) (hu : i32 u) (hv : i32 v) (hO : mOk M) (hV : Vk M s) (hc : mI M s 2 = c) (hc5 : c ≤ 4200) (hb : mI M s 3 = b) (hb5 : b < 4096) : Cv G y_MS_addBranch d [vr s, vi q, vi u, vi v] M (fun M' => mOk M' ∧ FI (fun y => y = s ∨ y = s + 25 ∨ y = s + 26 ∨ y = s + 27 ∨ y = s + 28) M M' ∧ (∀ j, mI M' s j = if j = 3 then (b : Int) + 1 else mI M s j) ∧ (∀ j, mI M' (s + 26) j = if j = b then q else mI M (s + 26) j) ∧ (∀ j, mI M' (s + 27) j = if j = b then u else mI M (s + 27) j) ∧ (∀ j, mI M' (s + 28) j = if j = b then v else mI M (s + 28) j) ∧ (∀ j, mI M' (s + 25) j = if j = c then (b : Int) + 1 else mI M (s + 25) j)) := by
  refine k_MS_addBranch hO hq hu hv ?_
  rw [hV.r8, hV.n26, hb, Int.toNat_natCast]
  refine ⟨hV.k0, hV.k26, by omega, fun M1 e1 => ?_⟩
  have f1 : FI (fun y => y = s + 26) M M1 := by rw [e1]; exact FI.ui rfl
  have V1 := hV.fi f1
  have s1 : mI M1 s = mI M s := f1.2.2.2.2.2.2 s (by omega)
  rw [V1.r9, V1.n27, s1, hb, Int.toNat_natCast]
  refine ⟨V1.k27, by omega, fun M2 e2 => ?_⟩
  have f2 : FI (fun y => y = s + 27) M1 M2 := by rw [e2]; exact FI.ui rfl
  have V2 := V1.fi f2
  have s2 : mI M2 s = mI M s := by rw [f2.2.2.2.2.2.2 s (by omega)]; exact s1
  rw [V2.r10, V2.n28, s2, hb, Int.toNat_natCast]
  refine ⟨V2.k28, by omega, fun M3 e3 => ?_⟩
  have f3 : FI (fun y => y = s + 28) M2 M3 := by rw [e3]; exact FI.ui rfl
  have V3 := V2.fi f3
  have s3 : mI M3 s = mI M s := by rw [f3.2.2.2.2.2.2 s (by omega)]; exact s2
  rw [s3, hb]
  refine ⟨⟨by omega, by omega⟩, fun M4 e4 => ?_⟩
  have f4 : FI (fun y => y = s) M3 M4 := by rw [e4]; exact FI.ui rfl
  have V4 := V3.fi f4
  have s4 : ∀ j, mI M4 s j = if j = 3 then (b : Int) + 1 else mI M s j := fun j => by
    rw [e4, mI_UI, s3]
    by_cases z : j = 3
    · rw [if_pos ⟨rfl, z⟩, if_pos z]
    · rw [if_neg (fun w => z w.2), if_neg z]
  have s42 : mI M4 s 2 = c := by rw [s4, if_neg (by omega)]; exact hc
  have s43 : mI M4 s 3 = (b : Int) + 1 := by rw [s4, if_pos rfl]
  rw [V4.r7, V4.n25, s42, s43, Int.toNat_natCast]
  refine ⟨V4.k25, by omega, fun M5 e5 => ?_⟩
  have f5 : FI (fun y => y = s + 25) M4 M5 := by rw [e5]; exact FI.ui rfl
  have o5 : mOk M5 := by
    rw [e5, e4, e3, e2, e1]
    exact mOk_UI (mOk_UI (mOk_UI (mOk_UI (mOk_UI hO hq) hu) hv) ⟨by omega, by omega⟩) ⟨by omega, by omega⟩
  refine ⟨o5, ((((f1.mono (fun y q => by omega)).trans (f2.mono (fun y q => by omega))).trans (f3.mono (fun y q => by omega))).trans (f4.mono (fun y q => by omega))).trans (f5.mono (fun y q => by omega)), fun j => by rw [f5.2.2.2.2.2.2 s (by omega)]; exact s4 j, fun j => ?_, fun j => ?_, fun j => ?_, fun j => ?_⟩
  · rw [f5.2.2.2.2.2.2 (s + 26) (by omega), f4.2.2.2.2.2.2 (s + 26) (by omega), f3.2.2.2.2.2.2 (s + 26) (by omega), f2.2.2.2.2.2.2 (s + 26) (by omega), e1, mI_UI]
    by_cases z : j = b
    · rw [if_pos ⟨rfl, z⟩, if_pos z]
    · rw [if_neg (fun w => z w.2), if_neg z]
  · rw [f5.2.2.2.2.2.2 (s + 27) (by omega), f4.2.2.2.2.2.2 (s + 27) (by omega), f3.2.2.2.2.2.2 (s + 27) (by omega), e2, mI_UI, f1.2.2.2.2.2.2 (s + 27) (by omega)]
    by_cases z : j = b
    · rw [if_pos ⟨rfl, z⟩, if_pos z]
    · rw [if_neg (fun w => z w.2), if_neg z]
  · rw [f5.2.2.2.2.2.2 (s + 28) (by omega), f4.2.2.2.2.2.2 (s + 28) (by omega), e3, mI_UI, f2.2.2.2.2.2.2 (s + 28) (by omega), f1.2.2.2.2.2.2 (s + 28) (by omega)]
    by_cases z : j = b
    · rw [if_pos ⟨rfl, z⟩, if_pos z]
    · rw [if_neg (fun w => z w.2), if_neg z]
  · rw [e5, mI_UI, f4.2.2.2.2.2.2 (s + 25) (by omega), f3.2.2.2.2.2.2 (s + 25) (by omega), f2.2.2.2.2.2.2 (s + 25) (by omega), f1.2.2.2.2.2.2 (s + 25) (by omega)]
    by_cases z : j = c
    · rw [if_pos ⟨rfl, z⟩, if_pos z]
    · rw [if_neg (fun w => z w.2), if_neg z]
end CL
end
section
/-! The reference: the jobs of a node's parts. -/
def flat (n : Int) : List (Nat × Nat) → List Int
  | [] => []
  | (i, j) :: rs => (j : Int) :: (i : Int) :: n :: flat n rs
def rsum : List (Nat × Nat) → Nat
  | [] => 0
  | (i, j) :: rs => (j - i) + rsum rs
theorem flat_len {n : Int} : ∀ rs, (flat n rs).length = 3 * rs.length
  | [] => rfl
  | (i, j) :: rs => by show (flat n rs).length + 1 + 1 + 1 = 3 * (rs.length + 1); rw [flat_len rs]; omega
section RN
variable {G : mG} {d a N g T : Nat} {M M2 M3 : mM} {root : Int} {Q : Int → mM → Prop}
theorem Lk.mono {T T' f x l : Nat} (h : Lk M2 g T f x l) (hT : T ≤ T') (hn : ∀ n, n < T → np M3 g n = np M2 g n) : Lk M3 g T' f x l := by
  induction f generalizing x with
  | zero => exact h.elim
  | succ f ih =>
    obtain ⟨h0, h⟩ := h
    refine ⟨by omega, ?_⟩
    rw [hn x h0]
    rcases h with h | ⟨y, h1, h2⟩
    · exact Or.inl h
    · exact Or.inr ⟨y, h1, ih h2⟩
theorem chn.mono {T T' : Nat} {p : Int} (h : chn M2 g T p) (hp : p < T) (hT : T ≤ T') (hf : ∀ n, n < T → fp M3 g n = fp M2 g n ∧ np M3 g n = np M2 g n) : chn M3 g T' p := fun p0 => by
  rw [(hf p.toNat (by omega)).1]
  rcases h p0 with q | ⟨f, c, l, q1, q2⟩
  · exact Or.inl q
  · exact Or.inr ⟨f, c, l, q1, q2.mono hT (fun n hn => (hf n hn).2)⟩
theorem JE.pre {M1 : mM} {T : Nat} {p : Int} (h : JE M2 M3 g T p) (hp : p < T) (s : ∀ n, n < T → so M2 g n = so M1 g n ∧ va M2 g n = va M1 g n ∧ fp M2 g n = fp M1 g n ∧ np M2 g n = np M1 g n) : JE M1 M3 g T p := by
  refine ⟨fun n hn => ⟨(h.1 n hn).1.trans (s n hn).1, (h.1 n hn).2.trans (s n hn).2.1⟩, ?_⟩
  rcases h.2 with ⟨q1, q2⟩ | ⟨q0, q1, q2, q3⟩ | ⟨q0, f, c, l, q1, q2, q3, q4⟩
  · exact Or.inl ⟨q1, fun n hn => ⟨(q2 n hn).1.trans (s n hn).2.2.1, (q2 n hn).2.trans (s n hn).2.2.2⟩⟩
  · exact Or.inr (Or.inl ⟨q0, by rw [← (s p.toNat (by omega)).2.2.1]; exact q1, fun n hn => by rw [q2 n hn, (s n hn).2.2.1], fun n hn => (q3 n hn).trans (s n hn).2.2.2⟩)
  · exact Or.inr (Or.inr ⟨q0, f, c, l, by rw [← (s p.toNat (by omega)).2.2.1]; exact q1, q2.mono (Nat.le_refl _) (fun n hn => (s n hn).2.2.2.symm), fun n hn => (q3 n hn).trans (s n hn).2.2.1, fun n hn => by rw [q4 n hn, (s n hn).2.2.2]⟩)
theorem JE.post {M4 : mM} {T : Nat} {p : Int} (h : JE M2 M3 g T p) (s : ∀ n, n < T → so M4 g n = so M3 g n ∧ va M4 g n = va M3 g n ∧ fp M4 g n = fp M3 g n ∧ np M4 g n = np M3 g n) : JE M2 M4 g T p := by
  refine ⟨fun n hn => ⟨(s n hn).1.trans (h.1 n hn).1, (s n hn).2.1.trans (h.1 n hn).2⟩, ?_⟩
  rcases h.2 with ⟨q1, q2⟩ | ⟨q0, q1, q2, q3⟩ | ⟨q0, f, c, l, q1, q2, q3, q4⟩
  · exact Or.inl ⟨q1, fun n hn => ⟨(s n hn).2.2.1.trans (q2 n hn).1, (s n hn).2.2.2.trans (q2 n hn).2⟩⟩
  · exact Or.inr (Or.inl ⟨q0, q1, fun n hn => (s n hn).2.2.1.trans (q2 n hn), fun n hn => (s n hn).2.2.2.trans (q3 n hn)⟩)
  · exact Or.inr (Or.inr ⟨q0, f, c, l, q1, q2, fun n hn => (s n hn).2.2.1.trans (q3 n hn), fun n hn => (s n hn).2.2.2.trans (q4 n hn)⟩)
/-- a new node, not yet joined -/
theorem TI.nd {st : List Int} (h : TI M a g N T st M2) (m : Mv (tL g) (fun _ => False) M2 a M3) (hn : nd M3 g (T + 1)) : TI M a g N (T + 1) st M3 := by
  have w := h.2.1.1.1
  have hg := h.2.2.2.2.2
  obtain ⟨k1, k2, k3⟩ := h.wx m (fun q hq => Or.inl hq)
  exact ⟨k1, k2, k3, hn, h.2.2.2.2.1.same (m.lst n91 (fun z => (tL_no hg w).2.2.2.2 z)), hg⟩
/-- joined -/
theorem nj {st : List Int} {p : Int} {M6 M7 : mM} (hp : p < T) (hc : chn M2 g T p) (ho : ∀ n, n < T → so M6 g n = so M2 g n ∧ va M6 g n = va M2 g n ∧ fp M6 g n = fp M2 g n ∧ np M6 g n = np M2 g n) (hf : fp M6 g T = -1) (hn : np M6 g T = -1) (j : jnQ M6 g (T + 1) p T M7) : JE M2 M7 g T p ∧ fp M7 g T = -1 ∧ np M7 g T = -1 ∧ so M7 g T = so M6 g T ∧ va M7 g T = va M6 g T := by
  obtain ⟨j1, j2⟩ := j
  rcases j2 with ⟨q1, q2⟩ | ⟨q0, q1, q2, q3⟩ | ⟨q0, f, c, l, q1, q2, q3, q4⟩
  · refine ⟨⟨fun n hn => ⟨(j1 n).1.trans (ho n hn).1, (j1 n).2.trans (ho n hn).2.1⟩, Or.inl ⟨q1, fun n hn => ⟨(q2 n).1.trans (ho n hn).2.2.1, (q2 n).2.trans (ho n hn).2.2.2⟩⟩⟩, by rw [(q2 T).1]; exact hf, by rw [(q2 T).2]; exact hn, (j1 T).1, (j1 T).2⟩
  · refine ⟨⟨fun n hn => ⟨(j1 n).1.trans (ho n hn).1, (j1 n).2.trans (ho n hn).2.1⟩, Or.inr (Or.inl ⟨q0, by rw [← (ho p.toNat (by omega)).2.2.1]; exact q1, fun n hn => by rw [q2 n, (ho n hn).2.2.1], fun n hn => (q3 n).trans (ho n hn).2.2.2⟩)⟩, by rw [q2 T, if_neg (by omega)]; exact hf, by rw [q3 T]; exact hn, (j1 T).1, (j1 T).2⟩
  · -- the chain was there before the node
    have hcc := hc q0
    rw [← (ho p.toNat (by omega)).2.2.1, q1] at hcc
    obtain ⟨f0, c0, l0, k1, k2⟩ : ∃ f c' l : Nat, (c : Int) = c' ∧ Lk M2 g T f c' l := by
      rcases hcc with z | z
      · omega
      · exact z
    have ec : c0 = c := by omega
    subst ec
    have k3 : Lk M6 g (T + 1) f0 c0 l0 := k2.mono (by omega) (fun n hn => (ho n hn).2.2.2)
    have el := Lk.det q2 k3
    subst el
    have hlT := k2.lt
    refine ⟨⟨fun n hn => ⟨(j1 n).1.trans (ho n hn).1, (j1 n).2.trans (ho n hn).2.1⟩, Or.inr (Or.inr ⟨q0, f0, c0, l, by rw [← (ho p.toNat (by omega)).2.2.1]; exact q1, k2, fun n hn => (q3 n).trans (ho n hn).2.2.1, fun n hn => by rw [q4 n, (ho n hn).2.2.2]⟩)⟩, by rw [q3 T]; exact hf, by rw [q4 T, if_neg (by omega)]; exact hn, (j1 T).1, (j1 T).2⟩
/-- a node with its parts -/
theorem nd_fin {M7 M8 M9 : mM} {p : Int} {k T9 : Nat} (hpT : p < T) (je : JE M2 M7 g T p) (s78 : sameT M7 M8 g) (hf7 : fp M7 g T = -1) (hn7 : np M7 g T = -1) (je9 : JE M8 M9 g (T + 1) (T : Int)) (hk : 1 ≤ k) (ha : ari (so M7 g T) k) (to : To (nmw (wk M a) N) M9 g k (T + 1) T9) : JE M2 M9 g T p ∧ To (nmw (wk M a) N) M9 g 0 T T9 ∧ np M9 g T = -1 := by
  have c2 : fp M9 g T = ((T + 1 : Nat) : Int) ∧ (∀ n, n < T → fp M9 g n = fp M8 g n) ∧ ∀ n, n < T + 1 → np M9 g n = np M8 g n := by
    rcases je9.2 with ⟨q, -⟩ | ⟨q0, q1, q2, q3⟩ | ⟨q0, f, c, l, q1, q2, q3, q4⟩
    · omega
    · refine ⟨by rw [q2 T (by omega), if_pos (by omega)], fun n hn => by rw [q2 n (by omega), if_neg (by omega)], q3⟩
    · exfalso
      rw [Int.toNat_natCast, (s78 T).2.2.1, hf7] at q1
      omega
  refine ⟨je.post (fun n hn => ⟨(je9.1 n (by omega)).1.trans (s78 n).1, (je9.1 n (by omega)).2.trans (s78 n).2.1, (c2.2.1 n hn).trans (s78 n).2.2.1, (c2.2.2 n (by omega)).trans (s78 n).2.2.2⟩), To.node hk ?_ c2.1 to, ?_⟩
  · rw [(je9.1 T (by omega)).1, (s78 T).1]
    exact ha
  · rw [c2.2.2 T (by omega), (s78 T).2.2.2]
    exact hn7
end RN
end
section
/-! The reference: tree. -/
theorem JL.rs {w : Nat → Int} {p : Int} : ∀ {f i j : Nat} {s : List Int}, JL w p f i j s → ∃ rs, s = flat p rs ∧ rs ≠ [] ∧ (∀ i' j', (i', j') ∈ rs → Eo w 6 i' j' ∧ j' ≤ j ∧ j' - i' ≤ j - i) ∧ rsum rs ≤ j - i
  | 0, _, _, _, h => h.elim
  | f + 1, i, j, s, h => by
    rcases h with ⟨h1, h2⟩ | ⟨m, s2, h1, h2, h3, h4⟩
    · refine ⟨[(i, j)], h1, by simp, fun i' j' q => ?_, by show (j - i) + 0 ≤ _; omega⟩
      have q' := List.mem_singleton.1 q
      obtain ⟨q1, q2⟩ := Prod.mk.inj q'
      subst q1 q2
      exact ⟨h2, Nat.le_refl _, Nat.le_refl _⟩
    · obtain ⟨rs, k1, k2, k3, k4⟩ := JL.rs h4
      have p2 := h2.pr.1
      have hne : m + 1 < j := by
        cases rs with
        | nil => exact absurd rfl k2
        | cons x rs =>
          have a := k3 x.1 x.2 (List.mem_cons_self ..)
          have := a.1.pr.1
          have := a.2
          omega
      refine ⟨(i, m) :: rs, by rw [h3, k1]; rfl, by simp, fun i' j' q => ?_, by show (m - i) + rsum rs ≤ j - i; omega⟩
      rcases List.mem_cons.1 q with z | z
      · obtain ⟨q1, q2⟩ := Prod.mk.inj z
        subst q1 q2
        exact ⟨h2, by omega, by omega⟩
      · have a := k3 i' j' z
        exact ⟨a.1, a.2.1, by have := a.2.2; omega⟩
section MK
variable {G : mG} {d a N g : Nat} {M : mM} {root : Int} {Q : Int → mM → Prop}
end MK
end
