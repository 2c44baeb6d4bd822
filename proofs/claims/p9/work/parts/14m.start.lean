/-! What the law's start says of the primes and of Throwable's fields. -/
section STA
variable {G : mG} {args : Array Value}
theorem gPr.of (hB : gB G = (gS G).heap.size) (h1 : (Cond.laysStatic "ChanceArena$Residues" "PRIMES" "[I").before args (gS G) = true) (h2 : (Cond.initialized "ChanceArena$Residues").before args (gS G) = true) (har : (Cond.arrayOf (.static "ChanceArena$Residues" "PRIMES" "[I") .int).before args (gS G) = true) (hle : (Cond.eq (.length (.static "ChanceArena$Residues" "PRIMES" "[I")) (.int 36)).before args (gS G) = true) (hel : ∀ j : Nat, j < 36 → (Cond.eq (.elem (.static "ChanceArena$Residues" "PRIMES" "[I") (.int (Int32.ofNat j))) (.int (Int32.ofInt (prL.getD j 0)))).before args (gS G) = true) : gPr G := by
  have hA : ∀ a : Nat, a < (gS G).heap.size → ¬ mOwn G a := fun a ha h => by
    have h : gB G ≤ a := h
    omega
  obtain ⟨t, ht, hT⟩ := va_Tof (N := 36) (f := fun j => .int (Int32.ofInt (prL.getD j 0))) (A := mOwn G) (by decide) har (va_eqt hle) (fun j hj => va_eqt (hel j hj)) hA
  exact ⟨t, va_Zref h1 h2 ht hA, hT⟩
theorem TH.of (hB : gB G = (gS G).heap.size) (htr : (gL G).stackTraces = false) (h : ∀ w ∈ zSpec, w.before args (gS G) = true) : TH G := by
  refine ⟨htr, ?_⟩
  rw [hB]
  exact ⟨zS.of (h _ (List.mem_of_getElem? (i := 2) rfl)) (h _ (List.mem_of_getElem? (i := 0) rfl)), zS.of (h _ (List.mem_of_getElem? (i := 3) rfl)) (h _ (List.mem_of_getElem? (i := 1) rfl))⟩
end STA
