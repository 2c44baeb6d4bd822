section
/-- what grouping does to the piles: tv the kind that comes, v9 the fault that is noted -/
def gE (M0 : mM) (r p O P k L : Nat) (tv : Int) (v9 : Int × Int) (M' : mM) : Prop :=
  (mI M' r 12 = k ∧ mI M' r 5 = mI M0 r 5 - cdp (mI M0 (r + 1) k) ∧ mI M' r 14 = ((1 + skk M0 r k : Nat) : Int)) ∧ (∀ i, 1 ≤ i → i ≤ 4 → mI M' (r + i) = mI M0 (r + i)) ∧ (∀ i, mI M' (r + 5) i = if i = skk M0 r k then tv else mI M0 (r + 5) i) ∧ Fqq M0 r v9 M' ∧ (¬ jm (mI M0 (r + 1) k) → (∀ i, mI M' O i = if i = L then mI M0 (r + 1) k else mI M0 O i) ∧ (∀ i, mI M' P i = if i = L then mI M0 (r + 2) k else mI M0 P i) ∧ mI M' p 2 = (L : Int) + 1) ∧ (jm (mI M0 (r + 1) k) → ∃ t : Nat, mI M0 (r + 3) k = t ∧ (∀ i, mI M' O i = mI M0 O i) ∧ (∀ i, mI M' P i = if i = t then (L : Int) else mI M0 P i) ∧ mI M' p 2 = L)
/-- the kind that grouping leaves -/
def gtv (o last : Int) : Int := if o = 40 then 0 else if o = 42 then last else if o = 41 ∨ o ≤ 24 ∨ o = 30 ∨ o = 31 then 1 else 0
/-- whether the kinds fit -/
def gft (o mk left last : Int) : Prop := if o = 40 then last = 0 else if o = 41 then last = 1 else if o = 42 then mk = (if last = 1 then 4 else 0) else okq (o - 1) left last
theorem gp_i {o : Int} (ho : grpO o) : i32 o := by unfold grpO at ho; exact i32s (by omega) (by omega)
theorem gp_y {o : Int} (y : o = 40 ∨ o = 41 ∨ o = 42) : cdp o = 1 := by unfold cdp; split <;> omega
theorem gp_z {o : Int} (ho : grpO o) (y : ¬ (o = 40 ∨ o = 41 ∨ o = 42)) : cdp o = 0 := by unfold grpO at ho; unfold cdp; split <;> omega
theorem gp_n {o : Int} (ho : grpO o) (nj : ¬ jm o) : (19 ≤ o ∧ o ≤ 29) ∨ o = 40 ∨ o = 41 := by unfold grpO at ho; unfold jm at nj; omega
theorem gp_3 {o : Int} (ho : grpO o) : o ≠ 33 := by unfold grpO at ho; omega
theorem gp_r {o : Int} (ho : grpO o) (y1 : ¬ (o = 40 ∨ o = 41)) (y2 : ¬ o = 42) : 19 ≤ o ∧ o ≤ 31 := by unfold grpO at ho; omega
theorem gp_j {o : Int} (y : o = 40 ∨ o = 41) : ¬ jm o := by unfold jm; omega
theorem gp_k {o : Int} (y : o = 40 ∨ o = 41) : ¬ (19 ≤ o ∧ o ≤ 31) := by omega
theorem gp_d {o : Int} (y : o = 40 ∨ o = 41) : o = 15 ∨ o = 16 ∨ o = 33 ∨ o = 37 ∨ o = 40 ∨ o = 41 ∨ o = 42 := y.elim (fun e => Or.inr (Or.inr (Or.inr (Or.inr (Or.inl e))))) (fun e => Or.inr (Or.inr (Or.inr (Or.inr (Or.inr (Or.inl e))))))
theorem gp_e {o : Int} (h : 19 ≤ o ∧ o ≤ 31) : ¬ (o = 15 ∨ o = 16 ∨ o = 33 ∨ o = 37 ∨ o = 40 ∨ o = 41 ∨ o = 42) := by omega
theorem gp_v {o x : Int} (y : o = 40 ∨ o = 41) : gtv o x = if o = 41 then 1 else 0 := by unfold gtv; (repeat' split) <;> omega
theorem gp_jm {o : Int} (y : o = 30 ∨ o = 31) : jm o := y.elim (fun e => Or.inl e) (fun e => Or.inr (Or.inl e))
theorem gp_nj {o : Int} (h : 19 ≤ o ∧ o ≤ 31) (y : ¬ (o = 30 ∨ o = 31)) : ¬ jm o := by unfold jm; omega
end
