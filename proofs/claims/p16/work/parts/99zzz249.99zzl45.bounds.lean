/-! The room that class and reference may take. -/
section NDF
variable {t n a Ps Pc : Nat} {M : mM} {C : Nat → Prop} {Nt9 : tP9} {c9 c8 : tG9}
theorem psum_le {f g : Nat → Nat} : ∀ (l : List Nat), (∀ a, a ∈ l → f a ≤ g a) → psum f l ≤ psum g l
  | [], _ => Nat.le_refl _
  | x :: l, h => by
    show f x + psum f l ≤ g x + psum g l
    exact Nat.add_le_add (h x List.mem_cons_self) (psum_le l (fun a ha => h a (List.mem_cons_of_mem _ ha)))
theorem psum_lin {f : Nat → Nat} {c e : Nat} : ∀ (l : List Nat), psum (fun a => c + e * f a) l = c * l.length + e * psum f l
  | [] => by show 0 = c * 0 + e * 0; rw [Nat.mul_zero, Nat.mul_zero]
  | x :: l => by
    show c + e * f x + psum (fun a => c + e * f a) l = c * (l.length + 1) + e * (f x + psum f l)
    rw [psum_lin l, Nat.mul_add, Nat.mul_add, Nat.mul_one]
    omega
theorem psum_one1 {x : Nat} : ∀ (l : List Nat), l.Nodup → psum (fun a => if a = x then 1 else 0) l ≤ 1
  | [], _ => Nat.zero_le _
  | y :: l, h => by
    obtain ⟨h1, h2⟩ := List.nodup_cons.1 h
    show (if y = x then 1 else 0) + psum (fun a => if a = x then 1 else 0) l ≤ 1
    by_cases c : y = x
    · rw [if_pos c]
      have : psum (fun a => if a = x then 1 else 0) l ≤ psum (fun _ => 0) l := psum_le l (fun a ha => by
        show (if a = x then 1 else 0) ≤ 0
        rw [if_neg (fun e => h1 (by rw [c, ← e]; exact ha))]
        exact Nat.le_refl _)
      have z : psum (fun _ => 0) l = 0 := by
        have := psum_lin (f := fun _ => 0) (c := 0) (e := 0) l
        simpa using this
      omega
    · rw [if_neg c, Nat.zero_add]
      exact psum_one1 l h2
theorem psum_ind : ∀ (m : Nat) (l : List Nat), l.Nodup → psum (fun a => if t ≤ a ∧ a < t + m then 1 else 0) l ≤ m
  | 0, l, _ => by
    have : psum (fun a => if t ≤ a ∧ a < t + 0 then 1 else 0) l ≤ psum (fun _ => 0) l := psum_le l (fun a _ => by
      show (if t ≤ a ∧ a < t + 0 then 1 else 0) ≤ 0
      rw [if_neg (by omega)]
      exact Nat.le_refl _)
    have z : psum (fun _ => 0) l = 0 := by
      have := psum_lin (f := fun _ => 0) (c := 0) (e := 0) l
      simpa using this
    omega
  | m + 1, l, h => by
    have h1 := psum_ind m l h
    have h2 := psum_one1 (x := t + m) l h
    have e : ∀ l : List Nat, psum (fun a => if t ≤ a ∧ a < t + (m + 1) then 1 else 0) l ≤ psum (fun a => if t ≤ a ∧ a < t + m then 1 else 0) l + psum (fun a => if a = t + m then 1 else 0) l := fun l => by
      induction l with
      | nil => exact Nat.le_refl _
      | cons x l ih =>
        show (if t ≤ x ∧ x < t + (m + 1) then 1 else 0) + psum (fun a => if t ≤ a ∧ a < t + (m + 1) then 1 else 0) l ≤ ((if t ≤ x ∧ x < t + m then 1 else 0) + psum (fun a => if t ≤ a ∧ a < t + m then 1 else 0) l) + ((if x = t + m then 1 else 0) + psum (fun a => if a = t + m then 1 else 0) l)
        have : (if t ≤ x ∧ x < t + (m + 1) then 1 else 0) ≤ (if t ≤ x ∧ x < t + m then 1 else 0) + (if x = t + m then 1 else 0) := by
          split <;> split <;> split <;> omega
        omega
    have := e l
    omega
theorem CI.bd (h : CI c9 C n t Ps Pc M) (hC : ∀ x, C x → t ≤ x) : Ps ≤ 1448000 ∧ Pc ≤ 5300000 := by
  obtain ⟨T, Kt, N, A, B, D, Cw, p, O, P, K, p', O', P', K', Ab, Be, Cm, U, Ag, Bg, Cg, cn, cc, bc, Ls, v, R, k, Z, h1, h2, h3, h4, h5, h6, h7⟩ := h
  have b1 := h2.2.1.2.2.2.1.2.2.2
  have b2 := h2.2.2.1.2.2.2.2.2.2.2
  have b3 := h2.2.2.2.2.1.2.2.2.2.2.1.2
  have b4 := h2.2.2.2.1.2.2.2.2.2.1.2.2.2.2.2.1.2
  have b5 := h2.2.2.2.1.2.2.2.2.1.2.2.2.2.2.2.2.2
  have b6 := h3.2.1.2.2.2.2.2.2.2.2
  have hF := h4.1.1.2.1.1
  have k4 : ∀ i, i < 4 → k i ≤ 512 := fun i hi => (h4.1.2.1.1 i hi).2.2.2.1
  have ge : ∀ x, x ∈ Ls → t ≤ x := fun x hx => hC x (h5.oc.2.1 x (h4.2.1.2.1 x hx).1).1
  have w2 : ∀ x, x ∈ Ls → cp M x ≤ 34 + 566 * (if t ≤ x ∧ x < t + 236 then 1 else 0) := fun x hx => by
    have a := (hF.2.1 x hx).2.1
    have g := ge x hx
    unfold Wt at a
    by_cases c : x < t + 236
    · rw [if_pos c] at a
      rw [if_pos ⟨g, c⟩]
      omega
    · rw [if_neg c] at a
      rw [if_neg (fun u => c u.2)]
      omega
  have w4 : ∀ x, x ∈ Ls → cp M x / 4 ≤ 8 + 142 * (if t ≤ x ∧ x < t + 236 then 1 else 0) := fun x hx => by
    have a := w2 x hx
    by_cases c : t ≤ x ∧ x < t + 236
    · rw [if_pos c] at a ⊢
      omega
    · rw [if_neg c] at a ⊢
      omega
  have i1 := psum_ind (t := t) 236 Ls hF.1
  have s1 := psum_le Ls w2
  have s2 := psum_le (f := fun p => cp M p / 4) Ls w4
  rw [psum_lin] at s1 s2
  obtain ⟨r1, r2, r3⟩ := h6
  have k0 := k4 0 (by decide)
  have k44 : k 4 ≤ 2400 := by
    have q := h4.2.1.2.2.2.2.1.2.2
    omega
  have k1 := k4 1 (by decide)
  have k2 := k4 2 (by decide)
  have k3 := k4 3 (by decide)
  have q4 : ∀ x, x ≤ 512 → pk4 x ≤ 1536 := fun x hx => by unfold pk4; split <;> omega
  have p0 := q4 _ k0
  have p1 := q4 _ k1
  have p2 := q4 _ k2
  have p3 := q4 _ k3
  clear h1 h2 h3 h4 h5 h7 hF k4 ge w2 w4 q4 hC
  unfold Pn at r1
  unfold Qn at r2
  exact ⟨by omega, by omega⟩
theorem psum_map {f : Nat → Nat} {g : Nat → Nat} : ∀ (l : List Nat), psum f (l.map g) = psum (fun x => f (g x)) l
  | [] => rfl
  | x :: l => by
    show f (g x) + psum f (l.map g) = f (g x) + psum (fun x => f (g x)) l
    rw [psum_map l]
theorem RI.bd (h : RI Nt9 M a) : psum (cp M) (nums a) ≤ 2555904 ∧ psum (fun p => cp M p / 16) (nums a) ≤ 159744 := by
  have w := h.2.1
  have s1 : psum (cp M) (nums a) ≤ psum (Bd a) (nums a) := psum_le _ (fun q hq => w.bd hq)
  have s2 : psum (fun p => cp M p / 16) (nums a) ≤ psum (fun p => Bd a p / 16) (nums a) := psum_le _ (fun q hq => Nat.div_le_div_right (w.bd hq))
  have e : ∀ o, Bd a (a + o) = if o = 91 ∨ o = 93 ∨ o = 95 ∨ o = 99 then 131072 else 65536 := fun o => by
    unfold Bd
    by_cases c : o = 91 ∨ o = 93 ∨ o = 95 ∨ o = 99
    · rw [if_pos c, if_pos (by omega)]
    · rw [if_neg c, if_neg (by omega)]
  have e1 : psum (Bd a) (nums a) = 2555904 := by
    unfold nums
    rw [psum_map]
    simp only [e]
    decide
  have e2 : psum (fun p => Bd a p / 16) (nums a) = 159744 := by
    unfold nums
    rw [psum_map]
    simp only [e]
    decide
  omega
end NDF
