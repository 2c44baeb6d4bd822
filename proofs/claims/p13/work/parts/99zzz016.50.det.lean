/-! Determinants: by the first row. -/
theorem sm_add {f g : Nat → Int} : ∀ (n : Nat), sm (fun j => f j + g j) n = sm f n + sm g n
  | 0 => rfl
  | n + 1 => by rw [sm, sm, sm, sm_add n]; omega
theorem sm_mul {f : Nat → Int} {x : Int} : ∀ (n : Nat), sm (fun j => x * f j) n = x * sm f n
  | 0 => by simp [sm]
  | n + 1 => by rw [sm, sm, sm_mul n, Int.mul_add]
theorem sm_zero {f : Nat → Int} : ∀ (n : Nat), (∀ j, j < n → f j = 0) → sm f n = 0
  | 0, _ => rfl
  | n + 1, h => by rw [sm, sm_zero n (fun j hj => h j (by omega)), h n (by omega)]; rfl
/-- only two terms, which cancel -/
theorem sm_two {f : Nat → Int} {c : Nat} (h : f c + f (c + 1) = 0) : ∀ (n : Nat), c + 1 < n → (∀ j, j < n → j ≠ c → j ≠ c + 1 → f j = 0) → sm f n = 0
  | 0, hc, _ => by omega
  | n + 1, hc, h0 => by
    rw [sm]
    by_cases q : n = c + 1
    · subst q
      rw [sm, sm_zero c (fun j hj => h0 j (by omega) (by omega) (by omega))]
      omega
    · rw [sm_two h n (by omega) (fun j hj => h0 j (by omega)), h0 n (by omega) (by omega) (by omega)]
      rfl
def sk (j c : Nat) : Nat := if c < j then c else c + 1
def del (j : Nat) (A : Nat → Nat → Int) : Nat → Nat → Int := fun r c => A (r + 1) (sk j c)
def det : Nat → (Nat → Nat → Int) → Int
  | 0, _ => 1
  | n + 1, A => sm (fun j => (-1) ^ j * A 0 j * det n (del j A)) (n + 1)
theorem det_congr : ∀ (n : Nat) {A B : Nat → Nat → Int}, (∀ r c, r < n → c < n → A r c = B r c) → det n A = det n B
  | 0, _, _, _ => rfl
  | n + 1, A, B, h => by
    rw [det, det]
    refine sm_congr (n + 1) (fun j hj => ?_)
    rw [h 0 j (by omega) hj, det_congr n (A := del j A) (B := del j B) (fun r c hr hc => ?_)]
    unfold del sk
    exact h _ _ (by omega) (by split <;> omega)
def rc (A : Nat → Nat → Int) (c : Nat) (v : Nat → Int) : Nat → Nat → Int := fun r k => if k = c then v r else A r k
theorem del_rc_ne {A : Nat → Nat → Int} {c j : Nat} {v : Nat → Int} (h : j ≠ c) : del j (rc A c v) = rc (del j A) (if j < c then c - 1 else c) (fun r => v (r + 1)) := by
  funext r k
  have e : sk j k = c ↔ k = (if j < c then c - 1 else c) := by unfold sk; split <;> split <;> omega
  show (if sk j k = c then v (r + 1) else A (r + 1) (sk j k)) = (if k = (if j < c then c - 1 else c) then v (r + 1) else A (r + 1) (sk j k))
  by_cases q : sk j k = c
  · rw [if_pos q, if_pos (e.1 q)]
  · rw [if_neg q, if_neg (fun w => q (e.2 w))]
theorem del_rc_eq {A : Nat → Nat → Int} {c : Nat} {v : Nat → Int} : del c (rc A c v) = del c A := by
  funext r k
  unfold del rc sk
  rw [if_neg (by split <;> omega)]
theorem det_lin : ∀ (n : Nat) {A : Nat → Nat → Int} {c : Nat} {x : Int} {u w : Nat → Int}, c < n → det n (rc A c (fun r => x * u r + w r)) = x * det n (rc A c u) + det n (rc A c w)
  | 0, _, _, _, _, _, h => by omega
  | n + 1, A, c, x, u, w, h => by
    rw [det, det, det, ← sm_mul, ← sm_add]
    refine sm_congr (n + 1) (fun j hj => ?_)
    by_cases q : j = c
    · subst q
      rw [del_rc_eq, del_rc_eq, del_rc_eq]
      show (-1) ^ j * (if j = j then x * u 0 + w 0 else A 0 j) * _ = x * ((-1) ^ j * (if j = j then u 0 else A 0 j) * _) + (-1) ^ j * (if j = j then w 0 else A 0 j) * _
      rw [if_pos rfl, if_pos rfl, if_pos rfl]
      generalize (-1 : Int) ^ j = s
      generalize det n (del j A) = D
      grind
    · rw [del_rc_ne q, del_rc_ne q, del_rc_ne q]
      show (-1) ^ j * (if j = c then x * u 0 + w 0 else A 0 j) * det n (rc (del j A) (if j < c then c - 1 else c) (fun r => x * u (r + 1) + w (r + 1))) = x * ((-1) ^ j * (if j = c then u 0 else A 0 j) * _) + (-1) ^ j * (if j = c then w 0 else A 0 j) * _
      rw [if_neg q, if_neg q, if_neg q, det_lin n (A := del j A) (u := fun r => u (r + 1)) (w := fun r => w (r + 1)) (by split <;> omega)]
      generalize (-1 : Int) ^ j = s
      generalize det n (rc (del j A) _ (fun r => u (r + 1))) = D
      generalize det n (rc (del j A) _ (fun r => w (r + 1))) = E
      grind
theorem det_adj : ∀ (n : Nat) {A : Nat → Nat → Int} {c : Nat}, c + 1 < n → (∀ r, r < n → A r c = A r (c + 1)) → det n A = 0
  | 0, _, _, h, _ => by omega
  | n + 1, A, c, h, e => by
    rw [det]
    refine sm_two (c := c) ?_ (n + 1) h (fun j hj j1 j2 => ?_)
    · have hd : det n (del c A) = det n (del (c + 1) A) := by
        refine det_congr n (fun r k hr hk => ?_)
        unfold del sk
        by_cases q : k < c
        · rw [if_pos q, if_pos (by omega)]
        · by_cases z : k = c
          · subst z
            rw [if_neg q, if_pos (by omega)]
            exact (e (r + 1) (by omega)).symm
          · rw [if_neg q, if_neg (by omega)]
      rw [hd, e 0 (by omega), Int.pow_succ]
      generalize (-1 : Int) ^ c = s
      generalize det n (del (c + 1) A) = D
      grind
    · have hz : det n (del j A) = 0 := by
        by_cases q : j < c
        · refine det_adj n (c := c - 1) (by omega) (fun r hr => ?_)
          unfold del sk
          rw [if_neg (by omega), if_neg (by omega), show c - 1 + 1 = c by omega]
          exact e (r + 1) (by omega)
        · refine det_adj n (c := c) (by omega) (fun r hr => ?_)
          unfold del sk
          rw [if_pos (by omega), if_pos (by omega)]
          exact e (r + 1) (by omega)
      rw [hz, Int.mul_zero]
