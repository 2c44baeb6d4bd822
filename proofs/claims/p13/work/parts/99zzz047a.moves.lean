/-! The reference's solver: WITHIN by its tables. -/
section MVX
variable {M M' : mM} {s n k f r i : Nat} {x x' : Nat → Rat}
/-- a state's best number after i commands -/
noncomputable def bq9 (M : mM) (s k : Nat) (x : Nat → Rat) : Nat → Rat
  | 0 => if mI M (s + 22) k = 3 then 1 else 0
  | i + 1 => bst9 (mI M (s + 22) k = 1) (fun j => cw M s (cx M s k j) x) i
noncomputable def wiR (M : mM) (s : Nat) : Nat → Nat → Rat
  | 0 => fun k => if mI M (s + 22) k = 3 then 1 else 0
  | m + 1 => fun k => bq9 M s k (wiR M s m) (mny M s k).toNat
/-- one more command -/
theorem bq_s (hi : i ≠ 0) : bq9 M s k x (i + 1) = @ite Rat ((mI M (s + 22) k = 1 ∧ bq9 M s k x i < cw M s (cx M s k i) x) ∨ (¬ mI M (s + 22) k = 1 ∧ cw M s (cx M s k i) x < bq9 M s k x i)) (Classical.propDecidable _) (cw M s (cx M s k i) x) (bq9 M s k x i) := by
  cases i with
  | zero => exact absurd rfl hi
  | succ j => rfl
theorem bq_cg (sg : sameG M M' s) (hG : GW M s) (hn : mI M s 1 = n) (hk : k < n) (h : ∀ t, t < n → x t = x' t) : ∀ i, i ≤ (mny M s k).toNat → bq9 M' s k x i = bq9 M s k x' i
  | 0, _ => by
    show (if mI M' (s + 22) k = 3 then (1 : Rat) else 0) = (if mI M (s + 22) k = 3 then 1 else 0)
    rw [sg.2.2.2 (s + 22) (by omega) (by omega)]
  | i + 1, hi => by
    show bst9 (mI M' (s + 22) k = 1) (fun j => cw M' s (cx M' s k j) x) i = bst9 (mI M (s + 22) k = 1) (fun j => cw M s (cx M s k j) x') i
    rw [sg.2.2.2 (s + 22) (by omega) (by omega), sg.hw, sg.hx]
    refine bst_cg i (fun j hj => ?_)
    have lt := cx_lt hG (k := k) (i := j) (by omega) (by omega)
    exact cw_congr (fun b hb => h _ (by have := tg_lt hG lt hb; omega))
theorem ftv (F : Fq M f r) (p : 0 ≤ fv M f) (h1 : wv M (f + 1) < 2 ^ 480) (h2 : wv M (f + 3) < 2 ^ 480) : ft9 (fv M f) := by
  have e := fv_sd F
  rw [fv_wv F p] at e
  exact ⟨wv M (f + 1), wv M (f + 3), ⟨F.2.1.nonneg, F.2.2.2.2⟩, ⟨h1, h2⟩, e⟩
theorem nftv (F : Fq M f r) (C : Fc M f) (p : 0 ≤ fv M f) (h : 2 ^ 480 ≤ wv M (f + 1) ∨ 2 ^ 480 ≤ wv M (f + 3)) : ¬ ft9 (fv M f) := by
  have e := fv_sd F
  have a0 := F.2.1.nonneg
  have b0 : 0 < wv M (f + 3) := F.2.2.2.2
  rw [fv_wv F p] at e
  refine nft_of e a0 b0 ?_ h
  have c := C.1
  have e3 : xn M (f + 1) = (wv M (f + 1)).natAbs := by
    unfold xn
    omega
  have e4 : xn M (f + 3) = (wv M (f + 3)).natAbs := by
    unfold xn
    omega
  rw [e3, e4] at c
  exact c
theorem rat3 {p q : Rat} : (p < q → ¬ q < p) ∧ (¬ p < q → ¬ p = q → q < p) := by
  constructor
  · intro h
    grind
  · intro h h'
    grind
/-- what comparing tells -/
theorem cmp_u {a b ra rb : Nat} {u : Int} (hA : Fq M a ra) (hB : Fq M b rb) (ha : 0 ≤ fv M a) (hb : 0 ≤ fv M b) (hu : u = if wv M (a + 1) * wv M (b + 3) < wv M (b + 1) * wv M (a + 3) then -1 else if wv M (a + 1) * wv M (b + 3) = wv M (b + 1) * wv M (a + 3) then 0 else 1) : (0 < u ↔ fv M b < fv M a) ∧ (u < 0 ↔ fv M a < fv M b) := by
  obtain ⟨c1, c2⟩ := fv_cmp hA hB ha hb
  by_cases y : fv M a < fv M b
  · rw [if_pos (c1.2 y)] at hu
    exact ⟨⟨fun w => by omega, fun w => absurd w (rat3.1 y)⟩, fun _ => y, fun _ => by omega⟩
  · rw [if_neg (fun w => y (c1.1 w))] at hu
    by_cases z : fv M a = fv M b
    · rw [if_pos (c2.2 z)] at hu
      exact ⟨⟨fun w => by omega, fun w => absurd w (by rw [z]; exact Rat.lt_irrefl)⟩, fun w => by omega, fun w => absurd w y⟩
    · rw [if_neg (fun w => z (c2.1 w))] at hu
      exact ⟨⟨fun _ => rat3.2 y z, fun _ => by omega⟩, fun w => by omega, fun w => absurd w y⟩
end MVX
section MVY
variable {M : mM} {s n : Nat} {T : xt9}
/-- 0 and 1 fit -/
theorem ft_01 {p : Prop} {dp : Decidable p} : ∀ (_ : p ∨ ¬ p), ft9 (if p then 1 else 0) := fun _ => by
  split
  · exact ⟨1, 1, ⟨by decide, by decide⟩, ⟨by decide, by decide⟩, by have z1 : ((1 : Int) : Rat) = 1 := rfl; rw [z1]; grind⟩
  · exact ⟨0, 1, ⟨by decide, by decide⟩, ⟨by decide, by decide⟩, by have z0 : ((0 : Int) : Rat) = 0 := rfl; rw [z0]; grind⟩
/-- WITHIN by the solver's tables is that of what was explored -/
theorem ref_wi (hS : SvT M s T) : ∀ (m k : Nat), k < T.length → wiR M s m k = wi9 T m k
  | 0, k, hk => by
    have hx := List.getElem?_eq_getElem (l := T) (i := k) hk
    obtain ⟨a1, -⟩ := hS.2 k _ hx
    show (if mI M (s + 22) k = 3 then (1 : Rat) else 0) = ((T[k]?).map (fun y => if y.1 = 3 then (1 : Rat) else 0)).getD 0
    rw [hx, a1]
    all_goals rfl
  | m + 1, k, hk => by
    have hx := List.getElem?_eq_getElem (l := T) (i := k) hk
    obtain ⟨a1, a2, a3⟩ := hS.2 k _ hx
    show bq9 M s k (wiR M s m) (mny M s k).toNat = ((T[k]?).map (fun y => stv9 (wi9 T m) y)).getD 0
    rw [hx, a2, Int.toNat_natCast]
    show bq9 M s k (wiR M s m) (T[k]).2.length = stv9 (wi9 T m) T[k]
    generalize T[k] = y at *
    unfold stv9
    generalize hl : y.2.length = l at *
    cases l with
    | zero =>
      show (if mI M (s + 22) k = 3 then (1 : Rat) else 0) = (if y.1 = 3 then (1 : Rat) else 0)
      rw [a1]
    | succ j =>
      show bst9 (mI M (s + 22) k = 1) (fun i => cw M s (cx M s k i) (wiR M s m)) j = bst9 (y.1 = 1) (fun i => wr9 (wi9 T m) (cq0 y i)) j
      rw [a1]
      refine bst_cg j (fun i hi => ?_)
      have hc := List.getElem?_eq_getElem (l := y.2) (i := i) (by omega)
      obtain ⟨-, -, b1, b2⟩ := a3 i _ hc
      rw [b2, cq0_of hc]
      exact wr_cg (fun b hb => ref_wi hS m b.1 (b1 b hb))
end MVY
