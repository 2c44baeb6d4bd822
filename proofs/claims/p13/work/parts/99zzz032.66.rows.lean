/-! The solver: the equations are written down. -/
/-- some cells hold A -/
def Tp (M : mM) (s : Nat) (P : Nat → Nat → Prop) (A : Nat → Nat → Rat) : Prop := ∀ i j, i < 40 → j < 41 → P i j → Fq M (cel s i j) 56 ∧ Fc M (cel s i j) ∧ fv M (cel s i j) = A i j
/-- all cells have room -/
def Ct (M : mM) (s : Nat) : Prop := ∀ i j, i < 40 → j < 41 → Ft M (cel s i j) 56
theorem Ct.out {S : Nat → Prop} {M M' : mM} {s : Nat} (h : Ct M s) (k : FI S M M') (hs : ∀ x, S x → x < s + 12868) : Ct M' s :=
  fun i j hi hj => (h i j hi hj).out k (fun x q => Or.inl (by have := hs x q; unfold cel; omega))
theorem Ct.put {M M' : mM} {s i j : Nat} (h : Ct M s) (hi : i < 40) (hj : j < 41) (k : FI (fS (cel s i j)) M M') (h1 : Ft M' (cel s i j) 56) : Ct M' s := by
  intro a b ha hb
  by_cases q : a = i ∧ b = j
  · rw [q.1, q.2]; exact h1
  · refine (h a b ha hb).out k (fun x w => ?_)
    have w' : cel s i j ≤ x ∧ x ≤ cel s i j + 4 := w
    unfold cel at w' ⊢
    by_cases z : a = i
    · subst z
      have : b ≠ j := fun y => q ⟨rfl, y⟩
      omega
    · omega
theorem Tp.out {S : Nat → Prop} {M M' : mM} {s : Nat} {P : Nat → Nat → Prop} {A : Nat → Nat → Rat} (h : Tp M s P A) (k : FI S M M') (hs : ∀ x, S x → x < s + 12868) : Tp M' s P A := by
  intro i j hi hj hp
  obtain ⟨h1, h2, h3⟩ := h i j hi hj hp
  have hs' : ∀ x, S x → x < cel s i j ∨ cel s i j + 4 < x := fun x q => Or.inl (by have := hs x q; unfold cel; omega)
  exact ⟨(h1.out k hs').1, h2.out h1 k hs', by rw [fv_out h1 k hs', h3]⟩
theorem Tp.put {M M' : mM} {s i j : Nat} {P Q : Nat → Nat → Prop} {A B : Nat → Nat → Rat} (h : Tp M s P A) (hi : i < 40) (hj : j < 41) (k : FI (fS (cel s i j)) M M') (h1 : Fq M' (cel s i j) 56) (h2 : Fc M' (cel s i j)) (h3 : fv M' (cel s i j) = B i j) (hq : ∀ a b, Q a b → (a = i ∧ b = j) ∨ (P a b ∧ B a b = A a b)) : Tp M' s Q B := by
  intro a b ha hb hp
  by_cases q : a = i ∧ b = j
  · obtain ⟨q1, q2⟩ := q
    subst q1 q2
    exact ⟨h1, h2, h3⟩
  · have hp2 : P a b ∧ B a b = A a b := by
      rcases hq a b hp with w | w
      · exact absurd w q
      · exact w
    obtain ⟨g1, g2, g3⟩ := h a b ha hb hp2.1
    have hs' : ∀ x, fS (cel s i j) x → x < cel s a b ∨ cel s a b + 4 < x := fun x w => by
      have w' : cel s i j ≤ x ∧ x ≤ cel s i j + 4 := w
      unfold cel at w' ⊢
      by_cases z : a = i
      · subst z
        have : b ≠ j := fun y => q ⟨rfl, y⟩
        omega
      · omega
    refine ⟨(g1.out k hs').1, g2.out g1 k hs', ?_⟩
    rw [fv_out g1 k hs', g3, hp2.2]
theorem Tp.congr {M : mM} {s : Nat} {P Q : Nat → Nat → Prop} {A B : Nat → Nat → Rat} (h : Tp M s P A) (hq : ∀ a b, a < 40 → b < 41 → Q a b → P a b ∧ B a b = A a b) : Tp M s Q B := by
  intro a b ha hb hp
  have w := hq a b ha hb hp
  obtain ⟨g1, g2, g3⟩ := h a b ha hb w.1
  exact ⟨g1, g2, g3.trans w.2.symm⟩
/-- the states of the rows, the commands played there -/
def uu (M : mM) (s r : Nat) : Nat := (mI M (s + 39) r).toNat
def pl (M : mM) (s k : Nat) : Nat := (mI M (s + 35) k).toNat
def rwc (M : mM) (s r : Nat) : Nat := cx M s (uu M s r) (pl M s (uu M s r))
/-- the rows are the unknown states, each once; what is played there is a command -/
def Enu (M : mM) (s m : Nat) : Prop := (∀ r, r < m → 0 ≤ mI M (s + 39) r ∧ mI M (s + 39) r < mI M s 1 ∧ unk M s (uu M s r) ∧ mI M (s + 40) (uu M s r) = r) ∧ (∀ k : Nat, (k : Int) < mI M s 1 → unk M s k → 0 ≤ mI M (s + 40) k ∧ mI M (s + 40) k < m ∧ mI M (s + 39) (mI M (s + 40) k).toNat = k)
  ∧ (∀ r, r < m → 0 ≤ mI M (s + 35) (uu M s r) ∧ mI M (s + 35) (uu M s r) < mny M s (uu M s r)) ∧ (∀ k : Nat, (k : Int) < mI M s 1 → mI M (s + 22) k = 3 → mI M (s + 36) k ≠ 0)
theorem Enu.out {S : Nat → Prop} {M M' : mM} {s m : Nat} (h : Enu M s m) (f : FI S M M') (h0 : ¬ S s) (h1 : ∀ x, s + 22 ≤ x → x ≤ s + 40 → ¬ S x) : Enu M' s m := by
  have f := f.2.2.2.2.2.2
  unfold Enu unk uu mny at h ⊢
  rw [f s h0, f (s + 22) (h1 _ (by omega) (by omega)), f (s + 23) (h1 _ (by omega) (by omega)), f (s + 35) (h1 _ (by omega) (by omega)), f (s + 36) (h1 _ (by omega) (by omega)), f (s + 39) (h1 _ (by omega) (by omega)), f (s + 40) (h1 _ (by omega) (by omega))]
  exact h
/-- the first b branches of command c -/
def cwp (M : mM) (s c b : Nat) (f : Nat → Int) : Rat := sr (fun b => chq M s (bg M s c + b) * (f (tg M s (bg M s c + b)) : Rat)) b
def isU (M : mM) (s j : Nat) : Nat → Int := fun k => if k = uu M s j then 1 else 0
def isT (M : mM) (s : Nat) : Nat → Int := fun k => if mI M (s + 22) k = 3 then 1 else 0
/-- the equations -/
def rowp (M : mM) (s m : Nat) : Nat → Nat → Rat := fun i j => cw M s (rwc M s i) (fun k => ((if j = m then isT M s else isU M s j) k : Rat))
def wrA (M : mM) (s m i b : Nat) : Nat → Nat → Rat := fun a j => if a = i then (if j = m then cwp M s (rwc M s i) b (isT M s) else (if i = j then 1 else 0) - cwp M s (rwc M s i) b (isU M s j)) else tA (rowp M s m) m 0 a j
abbrev rS (s : Nat) : Nat → Prop := fun x => (s + 2 ≤ x ∧ x ≤ s + 21) ∨ (s + 42 ≤ x ∧ x ≤ s + 46) ∨ (s + 12868 ≤ x ∧ x ≤ s + 21067)
section CP
variable {M : mM} {s c : Nat}
theorem cwp_succ {b : Nat} {f : Nat → Int} : cwp M s c (b + 1) f = cwp M s c b f + chq M s (bg M s c + b) * (f (tg M s (bg M s c + b)) : Rat) := rfl
theorem cwp_01 (hC : GB M s) (hc : (c : Int) < mI M s 2) {f : Nat → Int} (hf : ∀ k, f k = 0 ∨ f k = 1) {b : Nat} (hb : b ≤ nb M s c) : 0 ≤ cwp M s c b f ∧ cwp M s c b f ≤ 1 := by
  have hnn : ∀ j, j < nb M s c → 0 ≤ chq M s (bg M s c + j) * (f (tg M s (bg M s c + j)) : Rat) := fun j hj => Rat.mul_nonneg (Rat.le_of_lt (hC.chq_pos hc hj)) (by
    rcases hf (tg M s (bg M s c + j)) with q | q <;> rw [q] <;> decide)
  refine ⟨sr_nonneg b (fun j hj => hnn j (by omega)), ?_⟩
  have a := sr_part (f := fun b => chq M s (bg M s c + b) * (f (tg M s (bg M s c + b)) : Rat)) (a := b) (nb M s c - b) (fun j hj => hnn j (by omega))
  rw [show b + (nb M s c - b) = nb M s c by omega] at a
  have e := cw_le hC hc (f := fun k => (f k : Rat)) (g := fun _ => 1) (fun j hj => by rcases hf (tg M s (bg M s c + j)) with q | q <;> rw [q] <;> decide)
  rw [cw_one hC hc] at e
  exact Rat.le_trans a e
theorem cwp_int (hC : GB M s) (hc : (c : Int) < mI M s 2) {f : Nat → Int} {b : Nat} (hb : b ≤ nb M s c) : (mI M (s + 24) c : Rat) * cwp M s c b f = ((sm (fun b => mI M (s + 27) (bg M s c + b) * (mI M (s + 24) c / mI M (s + 28) (bg M s c + b)) * f (tg M s (bg M s c + b))) b : Int) : Rat) := by
  unfold cwp
  rw [sm_cast, ← sr_mul]
  refine sr_congr _ (fun j hj => ?_)
  have e := hC.chq_int hc (b := j) (by omega)
  rw [Rat.intCast_mul, ← e]
  grind
theorem isU_01 {j k : Nat} : isU M s j k = 0 ∨ isU M s j k = 1 := by unfold isU; split <;> omega
theorem isT_01 {k : Nat} : isT M s k = 0 ∨ isT M s k = 1 := by unfold isT; split <;> omega
theorem p30_56 : (1000000000 : Int) ≤ 16777216 ^ 56 := by decide
theorem cwp_sml (hC : GB M s) (hc : (c : Int) < mI M s 2) {f : Nat → Int} (hf : ∀ k, f k = 0 ∨ f k = 1) {b : Nat} (hb : b ≤ nb M s c) : Sml (cwp M s c b f) ∧ Sml (1 - cwp M s c b f) ∧ Sml (0 - cwp M s c b f) := by
  have a := cwp_01 hC hc hf hb
  have e := cwp_int hC hc (f := f) hb
  have m1 := (hC c hc).1
  have p := p30_56
  refine ⟨⟨mI M (s + 24) c, _, by omega, by omega, by rw [Rat.mul_comm]; exact e, a.2, by grind⟩, ⟨mI M (s + 24) c, mI M (s + 24) c - sm (fun b => mI M (s + 27) (bg M s c + b) * (mI M (s + 24) c / mI M (s + 28) (bg M s c + b)) * f (tg M s (bg M s c + b))) b, by omega, by omega, ?_, by grind, by grind⟩, ⟨mI M (s + 24) c, - sm (fun b => mI M (s + 27) (bg M s c + b) * (mI M (s + 24) c / mI M (s + 28) (bg M s c + b)) * f (tg M s (bg M s c + b))) b, by omega, by omega, ?_, by grind, by grind⟩⟩
  · rw [Rat.intCast_sub, ← e]
    grind
  · rw [Rat.intCast_neg, ← e]
    grind
theorem wrA_sml (hC : GB M s) {m i b j : Nat} (hc : (rwc M s i : Int) < mI M s 2) (hb : b ≤ nb M s (rwc M s i)) : Sml (wrA M s m i b i j) := by
  unfold wrA
  rw [if_pos rfl]
  by_cases q : j = m
  · rw [if_pos q]; exact (cwp_sml hC hc (fun k => isT_01) hb).1
  · rw [if_neg q]
    have w := (cwp_sml hC hc (f := isU M s j) (fun k => isU_01) hb).2
    by_cases z : i = j
    · rw [if_pos z]; exact w.1
    · rw [if_neg z]; exact w.2
theorem wrA_end {m i : Nat} (hm : m ≤ 40) {a j : Nat} : wrA M s m i (nb M s (rwc M s i)) a j = tA (rowp M s m) m 0 a j := by
  unfold wrA
  by_cases q : a = i
  · subst q
    rw [if_pos rfl]
    by_cases z : j = m
    · rw [if_pos z, z, tA_m]
      show _ = rowp M s m a m
      unfold rowp
      rw [if_pos rfl]
      rfl
    · rw [if_neg z, tA_ge (by omega) z]
      show _ = (if a = j then (1 : Rat) else 0) - rowp M s m a j
      unfold rowp
      rw [if_neg z]
      rfl
  · rw [if_neg q]
end CP
