/-! Elimination of states: what the fractions are divided by. -/
theorem rat_den (q : Rat) : q * ((q.den : Int) : Rat) = (q.num : Rat) := by
  have h : q = (q.num : Rat) / ((q.den : Int) : Rat) := by
    have := Rat.num_divInt_den q
    rw [Rat.divInt_eq_div] at this
    exact this.symm
  have hp : ((q.den : Int) : Rat) ≠ 0 := by
    have := q.den_pos
    intro w
    have w2 : (q.den : Int) = 0 := by exact_mod_cast w
    omega
  rw [Rat.div_def] at h
  have := Rat.inv_mul_cancel _ hp
  grind
theorem sm_cast {f : Nat → Int} : ∀ (n : Nat), ((sm f n : Int) : Rat) = sr (fun j => (f j : Rat)) n
  | 0 => rfl
  | n + 1 => by rw [sm, sr, Rat.intCast_add, sm_cast n]
theorem com_den (y : Nat → Rat) : ∀ n, ∃ E : Int, 0 < E ∧ ∃ Y : Nat → Int, ∀ c, c < n → y c * (E : Rat) = (Y c : Rat)
  | 0 => ⟨1, by omega, fun _ => 0, fun c hc => by omega⟩
  | n + 1 => by
    obtain ⟨E, h0, Y, hY⟩ := com_den y n
    have hd := (y n).den_pos
    refine ⟨E * ((y n).den : Int), Int.mul_pos h0 (by omega), fun c => if c = n then E * (y n).num else Y c * ((y n).den : Int), fun c hc => ?_⟩
    by_cases q : c = n
    · subst q
      show _ = ((if c = c then E * (y c).num else Y c * ((y c).den : Int) : Int) : Rat)
      rw [if_pos rfl, Rat.intCast_mul, Rat.intCast_mul, ← rat_den (y c)]
      grind
    · show _ = ((if c = n then E * (y n).num else Y c * ((y n).den : Int) : Int) : Rat)
      rw [if_neg q, Rat.intCast_mul, Rat.intCast_mul, ← hY c (by omega)]
      grind
theorem det_zero {n : Nat} {A : Nat → Nat → Int} {c : Nat} (hc : c < n) : det n (rc A c (fun _ => 0)) = 0 := by
  have e := det_add (n := n) (A := A) (c := c) (u := fun _ => 0) (w := fun _ => 0) hc
  have e1 : det n (rc A c (fun _ => (0 : Int) + 0)) = det n (rc A c (fun _ => 0)) := rfl
  omega
theorem det_smul {n : Nat} {A : Nat → Nat → Int} {c : Nat} {x : Int} {u : Nat → Int} (hc : c < n) : det n (rc A c (fun r => x * u r)) = x * det n (rc A c u) := by
  have e := det_lin n (A := A) (c := c) (x := x) (u := u) (w := fun _ => 0) hc
  rw [det_zero hc, Int.add_zero] at e
  rw [← e]
  congr 1
  funext r
  show rc A c (fun r => x * u r) r = rc A c (fun r => x * u r + 0) r
  simp only [Int.add_zero]
theorem cramerR {n : Nat} {A : Nat → Nat → Int} {y : Nat → Rat} {b : Nat → Int} {c : Nat} (hc : c < n) (h : ∀ r, r < n → sr (fun j => y j * (A r j : Rat)) n = (b r : Rat)) : ((det n (rc A c b) : Int) : Rat) = y c * ((det n A : Int) : Rat) := by
  obtain ⟨E, h0, Y, hY⟩ := com_den y n
  have hE : (E : Rat) ≠ 0 := by
    intro w
    have w2 : E = 0 := by exact_mod_cast w
    omega
  have hb : ∀ r, r < n → sm (fun j => Y j * A r j) n = E * b r := fun r hr => by
    have e : ((sm (fun j => Y j * A r j) n : Int) : Rat) = ((E * b r : Int) : Rat) := by
      rw [sm_cast, Rat.intCast_mul, ← h r hr, ← sr_mul]
      refine sr_congr n (fun j hj => ?_)
      rw [Rat.intCast_mul, ← hY j hj]
      grind
    exact_mod_cast e
  have e := cramer hc hb
  rw [det_smul hc] at e
  have e2 : ((E * det n (rc A c b) : Int) : Rat) = ((Y c * det n A : Int) : Rat) := by rw [e]
  rw [Rat.intCast_mul, Rat.intCast_mul, ← hY c hc] at e2
  have e3 := Rat.inv_mul_cancel _ hE
  generalize ((det n (rc A c b) : Int) : Rat) = P at *
  generalize ((det n A : Int) : Rat) = Q at *
  have e4 : (E : Rat)⁻¹ * ((E : Rat) * P) = (E : Rat)⁻¹ * (y c * (E : Rat) * Q) := by rw [e2]
  grind
/-- the rows in whole numbers -/
def bm (N : Nat → Nat → Int) (D : Nat → Int) : Nat → Nat → Int := fun r c => (if r = c then D r else 0) - N r c
theorem sr_pick {r : Nat} {x : Rat} {y : Nat → Rat} : ∀ (n : Nat), sr (fun c => if r = c then x * y c else 0) n = if r < n then x * y r else 0
  | 0 => by show (0 : Rat) = _; rw [if_neg (by omega)]
  | n + 1 => by
    rw [sr, sr_pick n]
    by_cases q : r = n
    · subst q
      rw [if_neg (by omega), if_pos rfl, if_pos (by omega)]
      grind
    · rw [if_neg q]
      by_cases z : r < n
      · rw [if_pos z, if_pos (by omega)]
        grind
      · rw [if_neg z, if_neg (by omega)]
        grind
theorem bm_row {N : Nat → Nat → Int} {D : Nat → Int} {p : Nat → Nat → Rat} {y : Nat → Rat} {r n : Nat} (hp : ∀ c, c < n → (D r : Rat) * p r c = (N r c : Rat)) : sr (fun c => y c * (bm N D r c : Rat)) n = (if r < n then (D r : Rat) * y r else 0) - (D r : Rat) * sr (fun c => p r c * y c) n := by
  have e : sr (fun c => y c * (bm N D r c : Rat)) n = sr (fun c => (if r = c then (D r : Rat) * y c else 0) + (- (D r : Rat)) * (p r c * y c)) n := by
    refine sr_congr n (fun c hc => ?_)
    unfold bm
    have h1 := hp c hc
    by_cases q : r = c
    · rw [if_pos q, if_pos q, Rat.intCast_sub, ← h1]
      grind
    · rw [if_neg q, if_neg q, Rat.intCast_sub, ← h1]
      have : ((0 : Int) : Rat) = 0 := rfl
      grind
  rw [e, sr_add, sr_pick, sr_mul]
  grind
