/-! Kinds of states: a state of no player has no commands. Pure. -/
section KDT
variable {ev : List Int → Nat → Nat → vrs} {stp : List Int → List (Nat × Nat × Nat × Nat) → (Int × Int) × List Int} {sg : List Int} {nb c : Nat} {cm : cm9} {cms : List cm9} {s : sl9}
/-- a state of no player has no commands -/
def kdX (k : Int) (l : List sc9) : Prop := k = 1 ∨ k = 2 ∨ l = []
def kdT (T : xt9) : Prop := ∀ x, x ∈ T → kdX x.1 x.2
def kdS (s : sl9) : Prop := kdX s.2.2.1 s.2.2.2
theorem ite_sl {P : sl9 → Prop} {c : Prop} {_ : Decidable c} {a b : sl9} (ha : P a) (hb : P b) : P (if c then a else b) := by
  split
  · exact ha
  · exact hb
theorem tcq_kd (hc : cm.1 = 1 ∨ cm.1 = 2) (h : kdS s) : kdS (tcq9 ev stp sg nb c cm s) := by
  unfold tcq9
  refine ite_sl (P := kdS) h (ite_sl (P := kdS) h (ite_sl (P := kdS) h (ite_sl (P := kdS) h (ite_sl (P := kdS) h (ite_sl (P := kdS) h ?_)))))
  rcases hc with e | e
  · exact Or.inl e
  · exact Or.inr (Or.inl e)
theorem tsq_kd : ∀ (l : List cm9) (c : Nat) (s : sl9), (∀ cm, cm ∈ l → cm.1 = 1 ∨ cm.1 = 2) → kdS s → kdS (tsq9 ev stp sg nb l c s)
  | [], _, _, _, h => h
  | cm :: r, c, s, hl, h => by
    show kdS (if s.1.1 ≠ 0 then s else tsq9 ev stp sg nb r (c + 1) (tcq9 ev stp sg nb c cm s))
    exact ite_sl (P := kdS) h (tsq_kd r (c + 1) _ (fun x hx => hl x (List.mem_cons_of_mem _ hx)) (tcq_kd (hl cm List.mem_cons_self) h))
theorem ssq_kd {tg : Nat × Nat} {S : List (List Int)} (hl : ∀ cm, cm ∈ cms → cm.1 = 1 ∨ cm.1 = 2) : kdS (ssq9 ev stp tg cms sg nb S) := by
  unfold ssq9
  exact ite_sl (P := kdS) (Or.inr (Or.inr rfl)) (ite_sl (P := kdS) (Or.inr (Or.inr rfl)) (tsq_kd cms 0 _ hl (Or.inr (Or.inr rfl))))
theorem exq_kd {tg : Nat × Nat} (hl : ∀ cm, cm ∈ cms → cm.1 = 1 ∨ cm.1 = 2) : ∀ (f k : Nat) (S : List (List Int)) (T : xt9), kdT T → kdT (exq9 ev stp tg cms f k S T).2.2.2
  | 0, _, _, _, h => h
  | f + 1, k, S, T, h => by
    rw [exq9]
    split
    · exact h
    · rename_i sg _
      split
      · exact fun x hx => absurd hx List.not_mem_nil
      · refine exq_kd hl f (k + 1) _ _ (fun x hx => ?_)
        rcases List.mem_append.mp hx with u | u
        · exact h x u
        · rw [List.mem_singleton.mp u]
          exact ssq_kd (sg := sg) hl
theorem xpl_kd {tg : Nat × Nat} {s0 : List Int} (hl : ∀ cm, cm ∈ cms → cm.1 = 1 ∨ cm.1 = 2) : kdT (xpl9 ev stp tg cms s0).2.2.2 := exq_kd hl 513 0 _ [] (fun x hx => absurd hx List.not_mem_nil)
end KDT
