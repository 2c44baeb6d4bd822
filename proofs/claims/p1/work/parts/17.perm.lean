/-! The order of a world's cells doesn't matter. -/
theorem zPperm {D : va_G} {ws ws9 : va_W} {H : Heap} (h : ws.Perm ws9) (hP : va_P D vwCl ws H) : va_P D vwCl ws9 H := fun k q hk => by
  obtain ⟨i, hi⟩ := List.mem_iff_getElem?.mp (h.mem_iff.mpr (List.mem_iff_getElem?.mpr ⟨k, hk⟩))
  exact hP i q hi
theorem zDpw {A : Nat → Prop} {ws : va_W} : va_D A ws ↔ ws.Pairwise (fun a b => a.1 ≠ b.1) ∧ ∀ q ∈ ws, A q.1 := by
  constructor
  · intro h
    refine ⟨List.pairwise_iff_getElem.mpr (fun i j hi hj hij e => ?_), fun q hq => ?_⟩
    · have := h.1 i j ws[i] ws[j] (List.getElem?_eq_getElem hi) (List.getElem?_eq_getElem hj) e
      omega
    · obtain ⟨i, hi⟩ := List.mem_iff_getElem?.mp hq
      exact h.2 i q hi
  · intro h
    refine ⟨fun i j p q hi hj e => ?_, fun k q hk => h.2 q (List.mem_iff_getElem?.mpr ⟨k, hk⟩)⟩
    obtain ⟨li, ei⟩ := List.getElem?_eq_some_iff.mp hi
    obtain ⟨lj, ej⟩ := List.getElem?_eq_some_iff.mp hj
    have hp := List.pairwise_iff_getElem.mp h.1
    rcases Nat.lt_trichotomy i j with hij | hij | hij
    · exact absurd (by rw [ei, ej]; exact e) (hp i j li lj hij)
    · exact hij
    · exact absurd (by rw [ei, ej]; exact e.symm) (hp j i lj li hij)
theorem zDperm {A : Nat → Prop} {ws ws9 : va_W} (h : ws.Perm ws9) (hD : va_D A ws) : va_D A ws9 := by
  obtain ⟨h1, h2⟩ := zDpw.mp hD
  exact zDpw.mpr ⟨(h.pairwise_iff (fun hab => Ne.symm hab)).mp h1, fun q hq => h2 q (h.mem_iff.mpr hq)⟩
theorem zPull {G : Prop} {D : va_G} {A : Nat → Prop} {x a : Nat × va_E} {T : va_W} {H : Heap} (k : va_P D vwCl (x :: a :: T) H → va_D A (x :: a :: T) → G) (hP : va_P D vwCl ((x :: T) ++ [a]) H) (hD : va_D A ((x :: T) ++ [a])) : G := by
  have h : ((x :: T) ++ [a]).Perm (x :: a :: T) := (List.perm_append_singleton a (x :: T)).trans (List.Perm.swap x a T)
  exact k (zPperm h hP) (zDperm h hD)
theorem zCons1 {G : Prop} {D : va_G} {A : Nat → Prop} {x y0 : Nat × va_E} {T W1 : va_W} {H : Heap} (k : ∀ T9 : va_W, T9 = T ++ W1 → va_P D vwCl (x :: y0 ::  T9) H → va_D A (x :: y0 ::  T9) → G) (hP : va_P D vwCl ((x :: y0 ::  T) ++ W1) H) (hD : va_D A ((x :: y0 ::  T) ++ W1)) : G := k _ rfl hP hD
theorem zCons2 {G : Prop} {D : va_G} {A : Nat → Prop} {x y0 y1 : Nat × va_E} {T W1 : va_W} {H : Heap} (k : ∀ T9 : va_W, T9 = T ++ W1 → va_P D vwCl (x :: y0 :: y1 ::  T9) H → va_D A (x :: y0 :: y1 ::  T9) → G) (hP : va_P D vwCl ((x :: y0 :: y1 ::  T) ++ W1) H) (hD : va_D A ((x :: y0 :: y1 ::  T) ++ W1)) : G := k _ rfl hP hD
theorem zCons3 {G : Prop} {D : va_G} {A : Nat → Prop} {x y0 y1 y2 : Nat × va_E} {T W1 : va_W} {H : Heap} (k : ∀ T9 : va_W, T9 = T ++ W1 → va_P D vwCl (x :: y0 :: y1 :: y2 ::  T9) H → va_D A (x :: y0 :: y1 :: y2 ::  T9) → G) (hP : va_P D vwCl ((x :: y0 :: y1 :: y2 ::  T) ++ W1) H) (hD : va_D A ((x :: y0 :: y1 :: y2 ::  T) ++ W1)) : G := k _ rfl hP hD
theorem zCons4 {G : Prop} {D : va_G} {A : Nat → Prop} {x y0 y1 y2 y3 : Nat × va_E} {T W1 : va_W} {H : Heap} (k : ∀ T9 : va_W, T9 = T ++ W1 → va_P D vwCl (x :: y0 :: y1 :: y2 :: y3 ::  T9) H → va_D A (x :: y0 :: y1 :: y2 :: y3 ::  T9) → G) (hP : va_P D vwCl ((x :: y0 :: y1 :: y2 :: y3 ::  T) ++ W1) H) (hD : va_D A ((x :: y0 :: y1 :: y2 :: y3 ::  T) ++ W1)) : G := k _ rfl hP hD
