/-! A constructor's world: the object, and behind it a tail that only grows. -/
theorem zCons {G : Prop} {D : va_G} {A : Nat → Prop} {x : Nat × va_E} {T W1 : va_W} {H : Heap} (k : ∀ T9 : va_W, T9 = T ++ W1 → va_P D vwCl (x :: T9) H → va_D A (x :: T9) → G) (hP : va_P D vwCl ((x :: T) ++ W1) H) (hD : va_D A ((x :: T) ++ W1)) : G := k _ rfl hP hD
