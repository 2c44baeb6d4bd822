section
section
variable {f f' : Nat → Int} {x : Int}
theorem Ls.cg : ∀ {l : List Int}, Ls f l → (∀ i, i < l.length → f' i = f i) → Ls f' l
  | [], _, _ => trivial
  | y :: t, h, e => ⟨by rw [e t.length (by show t.length < t.length + 1; omega)]; exact h.1, h.2.cg (fun i hi => e i (by show i < t.length + 1; omega))⟩
theorem Ls.put {l : List Int} (h : Ls f l) (e : ∀ i, f' i = if i = l.length then x else f i) : Ls f' (x :: l) :=
  ⟨by rw [e, if_pos rfl], h.cg (fun i hi => by rw [e, if_neg (by omega)])⟩
end
end
