/-! WITHIN: what within answers. Pure. -/
section WIT
variable {T : xt9} {x x' : Nat → Rat} {n : Nat} {r r' : Int} {f g : Nat → Rat} {mx : Prop}
/-- shares times numbers -/
def wsL9 (x : Nat → Rat) : List (Nat × Int) → Rat
  | [] => 0
  | b :: l => (b.2 : Rat) * x b.1 + wsL9 x l
/-- a command's worth -/
def wr9 (x : Nat → Rat) (c : sc9) : Rat := wsL9 x c.2.2 * (c.2.1 : Rat)⁻¹
/-- the best of the commands 0 to i -/
noncomputable def bst9 (mx : Prop) (f : Nat → Rat) : Nat → Rat
  | 0 => f 0
  | i + 1 => @ite Rat ((mx ∧ bst9 mx f i < f (i + 1)) ∨ (¬ mx ∧ f (i + 1) < bst9 mx f i)) (Classical.propDecidable _) (f (i + 1)) (bst9 mx f i)
theorem bst_cg : ∀ i, (∀ j, j ≤ i → f j = g j) → bst9 mx f i = bst9 mx g i
  | 0, h => h 0 (Nat.le_refl _)
  | i + 1, h => by
    have a := bst_cg i (fun j hj => h j (by omega))
    have b := h (i + 1) (Nat.le_refl _)
    unfold bst9
    rw [a, b]
/-- command i of a state -/
def cq0 (y : Int × List sc9) (i : Nat) : sc9 := y.2.getD i (0, 1, [])
/-- a state's number after one more move -/
noncomputable def stv9 (x : Nat → Rat) (y : Int × List sc9) : Rat := match y.2.length with
  | 0 => if y.1 = 3 then 1 else 0
  | j + 1 => bst9 (y.1 = 1) (fun i => wr9 x (cq0 y i)) j
/-- WITHIN -/
noncomputable def wi9 (T : xt9) : Nat → Nat → Rat
  | 0 => fun k => ((T[k]?).map (fun y => if y.1 = 3 then (1 : Rat) else 0)).getD 0
  | m + 1 => fun k => ((T[k]?).map (fun y => stv9 (wi9 T m) y)).getD 0
/-- a number whose parts have at most 480 bits -/
def ft9 (q : Rat) : Prop := ∃ a b : Int, (0 ≤ a ∧ 0 < b) ∧ (a < 2 ^ 480 ∧ b < 2 ^ 480) ∧ q * (b : Rat) = (a : Rat)
/-- what within answers -/
def anA9 (T : xt9) (n : Nat) (r : Int) : Prop := (r = 0 ∧ ∀ m, m ≤ n → ∀ k, k < T.length → ft9 (wi9 T m k)) ∨ (r = 6 ∧ ∃ m, m ≤ n ∧ ∃ k, k < T.length ∧ ¬ ft9 (wi9 T m k))
theorem anA9.same (h : anA9 T n r) (h' : anA9 T n r') : r = r' := by
  rcases h with ⟨a1, a2⟩ | ⟨a1, m, a2, k, a3, a4⟩
  · rcases h' with ⟨b1, b2⟩ | ⟨b1, m', b2, k', b3, b4⟩
    · rw [a1, b1]
    · exact absurd (a2 m' b2 k' b3) b4
  · rcases h' with ⟨b1, b2⟩ | ⟨b1, m', b2, k', b3, b4⟩
    · exact absurd (b2 m a2 k a3) a4
    · rw [a1, b1]
theorem wsL_cg : ∀ l : List (Nat × Int), (∀ b, b ∈ l → x b.1 = x' b.1) → wsL9 x l = wsL9 x' l
  | [], _ => rfl
  | b :: l, h => by
    show (b.2 : Rat) * x b.1 + wsL9 x l = (b.2 : Rat) * x' b.1 + wsL9 x' l
    rw [h b List.mem_cons_self, wsL_cg l (fun c hc => h c (List.mem_cons_of_mem _ hc))]
theorem wr_cg {c : sc9} (h : ∀ b, b ∈ c.2.2 → x b.1 = x' b.1) : wr9 x c = wr9 x' c := by
  unfold wr9
  rw [wsL_cg c.2.2 h]
theorem cq0_of {y : Int × List sc9} {i : Nat} {c : sc9} (h : y.2[i]? = some c) : cq0 y i = c := by
  unfold cq0
  rw [List.getD_eq_getElem?_getD, h]
  all_goals rfl
/-- no parts of at most 480 bits: those in least terms are longer -/
theorem nft_of {q : Rat} {a b : Int} (e : q * (b : Rat) = (a : Rat)) (a0 : 0 ≤ a) (b0 : 0 < b) (hg : Int.gcd a b = 1) (h : 2 ^ 480 ≤ a ∨ 2 ^ 480 ≤ b) : ¬ ft9 q := by
  rintro ⟨a', b', ⟨c0, c1⟩, ⟨c2, c3⟩, e'⟩
  have x1 : ((a * b' : Int) : Rat) = ((a' * b : Int) : Rat) := by
    rw [Rat.intCast_mul, Rat.intCast_mul, ← e, ← e']
    grind
  have x2 : a * b' = a' * b := by exact_mod_cast x1
  have hc : Nat.Coprime b.natAbs a.natAbs := by
    unfold Nat.Coprime
    rw [Nat.gcd_comm]
    exact hg
  have hd : b.natAbs ∣ a.natAbs * b'.natAbs := by
    rw [← Int.natAbs_mul, x2, Int.natAbs_mul]
    exact Nat.dvd_mul_left _ _
  have d2 : b ∣ b' := Int.natAbs_dvd_natAbs.1 (hc.dvd_of_dvd_mul_left hd)
  obtain ⟨t, ht⟩ := d2
  have t1 : 1 ≤ t := by
    rcases Int.lt_or_le 0 t with u | u
    · omega
    · have w := Int.mul_le_mul_of_nonneg_left u (Int.le_of_lt b0)
      rw [Int.mul_zero, ← ht] at w
      omega
  have s1 : b ≤ b' := by
    have w := Int.mul_le_mul_of_nonneg_left t1 (Int.le_of_lt b0)
    rw [Int.mul_one, ← ht] at w
    exact w
  have x3 : a * t = a' := by
    have w : b * (a * t) = b * a' := by
      rw [Int.mul_comm b a', ← x2, ht]
      grind
    exact Int.eq_of_mul_eq_mul_left (by omega) w
  have s2 : a ≤ a' := by
    have w := Int.mul_le_mul_of_nonneg_left t1 a0
    rw [Int.mul_one, x3] at w
    exact w
  omega
end WIT
