theorem zLn {fs : List Value} {N j : Nat} (h : fs.length = N) (hj : j < N) : j < fs.length := by rw [h]; exact hj
theorem zLs {fs : List Value} {N j : Nat} {v : Value} (h : fs.length = N) : (fs.set j v).length = N := by rw [List.length_set]; exact h
theorem zSetL {fs : List Value} {j : Nat} {w : Value} (h : j < fs.length) : (fs.set j w)[j]? = some w := by rw [List.getElem?_set_self h]
theorem Fr.len {J : List Nat} {a b : List Value} {N : Nat} (h : Fr J a b) (hl : a.length = N) : b.length = N := h.1.trans hl
