section
variable {M M' : mM} {g V cn k a m c cc bc bc0 : Nat}
/-- a command of the game -/
def cmm (M : mM) (g c : Nat) : sc9 := ((mI M (g + 5) c).toNat, mI M (g + 6) c, brl M g (mI M (g + 7) c).toNat ((mI M (g + 7) (c + 1)).toNat - (mI M (g + 7) c).toNat))
/-- m commands from a on -/
def cml (M : mM) (g a : Nat) : Nat → List sc9
  | 0 => []
  | m + 1 => cml M g a m ++ [cmm M g (a + m)]
/-- a state's kind and commands -/
def stm (M : mM) (g j : Nat) : Int × List sc9 := (mI M (g + 2) j, cml M g (mI M (g + 4) j).toNat ((mI M (g + 4) (j + 1)).toNat - (mI M (g + 4) j).toNat))
/-- the first k states -/
def xtm (M : mM) (g : Nat) : Nat → xt9
  | 0 => []
  | k + 1 => xtm M g k ++ [stm M g k]
theorem cml_cg : ∀ m, (∀ c, a ≤ c → c < a + m → cmm M' g c = cmm M g c) → cml M' g a m = cml M g a m
  | 0, _ => rfl
  | m + 1, h => by
    show cml M' g a m ++ [cmm M' g (a + m)] = cml M g a m ++ [cmm M g (a + m)]
    rw [cml_cg m (fun c h1 h2 => h c h1 (by omega)), h (a + m) (by omega) (by omega)]
theorem xtm_cg : ∀ k, (∀ j, j < k → mI M' (g + 2) j = mI M (g + 2) j) → (∀ j, j ≤ k → mI M' (g + 4) j = mI M (g + 4) j) → (∀ j, j < k → (mI M (g + 4) (j + 1)).toNat ≤ cc) → (∀ c, c < cc → cmm M' g c = cmm M g c) → xtm M' g k = xtm M g k
  | 0, _, _, _, _ => rfl
  | k + 1, h1, h2, h3, h4 => by
    show xtm M' g k ++ [stm M' g k] = xtm M g k ++ [stm M g k]
    rw [xtm_cg k (fun j hj => h1 j (by omega)) (fun j hj => h2 j (by omega)) (fun j hj => h3 j (by omega)) h4]
    unfold stm
    rw [h1 k (by omega), h2 k (by omega), h2 (k + 1) (by omega)]
    rw [cml_cg (M' := M') (M := M) _ (fun c c1 c2 => h4 c (by have := h3 k (by omega); omega))]
theorem cmm_cg (h : cmdG M g cn bc c) (e7 : mI M' (g + 7) c = mI M (g + 7) c ∧ mI M' (g + 7) (c + 1) = mI M (g + 7) (c + 1)) (e6 : mI M' (g + 6) c = mI M (g + 6) c) (e5 : mI M' (g + 5) c = mI M (g + 5) c) (e8 : ∀ i, i < bc → mI M' (g + 8) i = mI M (g + 8) i ∧ mI M' (g + 9) i = mI M (g + 9) i) : cmm M' g c = cmm M g c := by
  obtain ⟨x, y, mu, h1, h2, h3, h4, -⟩ := h
  unfold cmm
  rw [e7.1, e7.2, e6, e5, h1, h2, Int.toNat_natCast, Int.toNat_natCast, brl_cg (M' := M') (M := M) _ (fun i i1 i2 => e8 i (by omega))]
theorem nbq_app (l r : List sc9) : nbq9 (l ++ r) = nbq9 l + nbq9 r := by
  induction l with
  | nil => show nbq9 r = 0 + nbq9 r; omega
  | cons x l ih =>
    show x.2.2.length + nbq9 (l ++ r) = x.2.2.length + nbq9 l + nbq9 r
    rw [ih]
    omega
theorem nbx_app (l r : xt9) : nbx9 (l ++ r) = nbx9 l + nbx9 r := by
  induction l with
  | nil => show nbx9 r = 0 + nbx9 r; omega
  | cons x l ih =>
    show nbq9 x.2 + nbx9 (l ++ r) = nbq9 x.2 + nbx9 l + nbx9 r
    rw [ih]
    omega
theorem lch_len : ∀ n, (lch9 M g n).length = n
  | 0 => rfl
  | n + 1 => by
    show (lch9 M g n ++ [_]).length = n + 1
    rw [List.length_append, lch_len n]
    rfl
theorem lch_get {b : Nat} : ∀ n, b < n → (lch9 M g n)[b]? = some (mI M (g + 21) b, mI M (g + 22) b)
  | 0, h => absurd h (Nat.not_lt_zero _)
  | n + 1, h => by
    show (lch9 M g n ++ [(mI M (g + 21) n, mI M (g + 22) n)])[b]? = _
    by_cases y : b < n
    · rw [List.getElem?_append_left (by rw [lch_len]; exact y)]
      exact lch_get n y
    · have e : b = n := by omega
      subst e
      rw [List.getElem?_append_right (by rw [lch_len]; exact Nat.le_refl _), lch_len, Nat.sub_self]
      rfl
end
