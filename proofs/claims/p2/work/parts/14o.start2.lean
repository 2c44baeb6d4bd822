/-! What the law's start says: all that the machine asks of it. -/
section STT
variable {G : mG} {args : Array Value}
set_option maxRecDepth 100000 in
theorem st_mem : (∀ q ∈ litBW, ∀ w ∈ litC "ChanceArena$Words" q.1 q.2.2, w ∈ flatC (Jvm.Cond.and given_1 narrow_1)) ∧ (∀ q ∈ litBM, ∀ w ∈ litC "ChanceArenaModel" q.1 q.2.2, w ∈ flatC (Jvm.Cond.and given_1 narrow_1)) := by decide +kernel
set_option maxRecDepth 100000 in
theorem st_ref : (∀ q ∈ litBW, Cond.stringRef "ChanceArena$Words" q.1 q.2.1 ∈ lw_tbl) ∧ (∀ q ∈ litBM, Cond.stringRef "ChanceArenaModel" q.1 q.2.1 ∈ lw_tbl) := by decide +kernel
set_option maxRecDepth 100000 in
theorem st_pr : ∀ j ∈ List.range 36, Cond.eq (.elem (.static "ChanceArena$Residues" "PRIMES" "[I") (.int (Int32.ofNat j))) (.int (Int32.ofInt (prL.getD j 0))) ∈ flatC (Jvm.Cond.and given_1 narrow_1) := by decide +kernel
set_option maxRecDepth 100000 in
theorem st_all (hB : gB G = (gS G).heap.size) (htr : (gL G).stackTraces = false) (hts : ∀ w ∈ lw_tbl, w.before args (gS G) = true) (hn : (Jvm.Cond.and given_1 narrow_1).before args (gS G) = true) : LT G ∧ gPr G ∧ TH G := by
  have hs := flat_of_before _ hn
  have hJ : JD G := JD.of (args := args) hB (hts _ (zk_4 _ (List.mem_of_getElem? (i := 56) (by decide +kernel)))) (hts _ (zk_1 _ (List.mem_of_getElem? (i := 26) (by decide +kernel)))) (hs _ (by decide +kernel)) (hts _ (zk_4 _ (List.mem_of_getElem? (i := 72) (by decide +kernel)))) (hts _ (zk_1 _ (List.mem_of_getElem? (i := 28) (by decide +kernel)))) (hs _ (by decide +kernel))
  refine ⟨LT.of (args := args) hB hJ (fun q hq => ⟨hts _ (st_ref.1 q hq), fun w hw => hs w (st_mem.1 q hq w hw)⟩) (fun q hq => ⟨hts _ (st_ref.2 q hq), fun w hw => hs w (st_mem.2 q hq w hw)⟩), gPr.of (args := args) hB (hts _ (zk_8 _ (List.mem_of_getElem? (i := 107) (by decide +kernel)))) (hts _ (zk_1 _ (List.mem_of_getElem? (i := 12) (by decide +kernel)))) (hs _ (by decide +kernel)) (hs _ (by decide +kernel)) (fun j hj => hs _ (st_pr j (List.mem_range.mpr hj))), TH.of (args := args) hB htr (fun w hw => ?_)⟩
  simp only [zSpec, List.mem_cons, List.not_mem_nil, or_false] at hw
  rcases hw with rfl | rfl | rfl | rfl
  · exact hs _ (by decide +kernel)
  · exact hs _ (by decide +kernel)
  · exact (hts _ (zk_6 _ (List.mem_of_getElem? (i := 33) (by decide +kernel))))
  · exact (hts _ (zk_6 _ (List.mem_of_getElem? (i := 35) (by decide +kernel))))
end STT
