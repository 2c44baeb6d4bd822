/-! What the law's start says of the string constants and of the JDK's own fields. -/
/-- a string constant of a class -/
def Lit (G : mG) (own : String) (k : Nat) (tx : String) (l : List Int) : Prop := ∃ t : Nat, vk_R own k tx t (gS G) ∧ Str G t l.length (fun j => l.getD j 0)
section LIT
variable {G : mG} {args : Array Value}
theorem Lit.of {own tx : String} {k n : Nat} {f : List Int} (hB : gB G = (gS G).heap.size) (hn : n < 100) (hf : ∀ j, j < n → 0 ≤ f.getD j 0 ∧ f.getD j 0 < 128) (hr : (Cond.stringRef own k tx).before args (gS G) = true) (hex : (Cond.exactly (.string own k) "java/lang/String").before args (gS G) = true) (hco : (Cond.eq (.field (.string own k) "java/lang/String" "coder" "B") (.int 0)).before args (gS G) = true)
    (har : (Cond.arrayOf (.field (.string own k) "java/lang/String" "value" "[B") .byte).before args (gS G) = true) (hle : (Cond.eq (.length (.field (.string own k) "java/lang/String" "value" "[B")) (.int (Int32.ofNat n))).before args (gS G) = true)
    (hel : ∀ j : Nat, j < n → (Cond.eq (.elem (.field (.string own k) "java/lang/String" "value" "[B") (.int (Int32.ofNat j))) (.int (Int32.ofInt (f.getD j 0)))).before args (gS G) = true) : ∃ t : Nat, vk_R own k tx t (gS G) ∧ Str G t n (fun j => f.getD j 0) := by
  have hA : ∀ a : Nat, a < (gS G).heap.size → ¬ mOwn G a := fun a ha h => by
    have h : gB G ≤ a := h
    omega
  obtain ⟨a, c, cA, kA, q1, q2, q3, q4, q5, q6, -⟩ := Cond.exactly_spec (args := args) (first := gS G) (o := none) (s := gS G) (idx := []) (t := .string own k) (cls := "java/lang/String") hex
  obtain ⟨t, ht, hT⟩ := va_Tof (f := fun j => .int (Int32.ofInt (f.getD j 0))) (A := mOwn G) (by omega) har (va_eqt hle) (fun j hj => va_eqt (hel j hj)) hA
  exact ⟨a, vk_R.of hr q1, ⟨cA, q3, q5, by rw [q6]; exact q2, hA a (Array.getElem?_eq_some_iff.mp q3).1⟩, vk_OFof q1 (va_eqt hco) hA, t, vk_OFof q1 ht hA, hT, hn, hf⟩
theorem JD.of (hB : gB G = (gS G).heap.size) (h1 : (Cond.laysStatic "java/lang/String" "COMPACT_STRINGS" "Z").before args (gS G) = true) (h2 : (Cond.initialized "java/lang/String").before args (gS G) = true) (h3 : (Cond.eq (.static "java/lang/String" "COMPACT_STRINGS" "Z") (.int 1)).before args (gS G) = true) (g1 : (Cond.laysStatic "jdk/internal/util/Preconditions" "SIOOBE_FORMATTER" "Ljava/util/function/BiFunction;").before args (gS G) = true) (g2 : (Cond.initialized "jdk/internal/util/Preconditions").before args (gS G) = true) (g3 : (Cond.isRef (.static "jdk/internal/util/Preconditions" "SIOOBE_FORMATTER" "Ljava/util/function/BiFunction;")).before args (gS G) = true) : JD G := by
  have hA : ∀ a : Nat, a < (gS G).heap.size → ¬ mOwn G a := fun a ha h => by
    have h : gB G ≤ a := h
    omega
  exact ⟨va_Zof h1 h2 (va_eqt h3) hA, va_Zqof g1 g2 g3 hA⟩
end LIT
