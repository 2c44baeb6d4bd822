/-! What the law's start says: all that the machine asks of it. -/
abbrev stF : List Cond := flatC (Jvm.Cond.and given_1 narrow_1)
theorem st_in {l : List Cond} {ix : List Nat} (h : l.map some = ix.map (fun i => stF[i]?)) : ∀ w ∈ l, w ∈ stF := fun w hw => by
  have : some w ∈ l.map some := List.mem_map.mpr ⟨w, hw, rfl⟩
  rw [h] at this
  obtain ⟨i, -, e⟩ := List.mem_map.mp this
  exact List.mem_of_getElem? e
theorem st_litBW_72 : (litC "ChanceArena$Words" 72 [118, 97, 114]).map some = [330, 331, 332, 333, 334, 335, 336].map (fun i => stF[i]?) := by decide +kernel
theorem sr_litBW_72 : Cond.stringRef "ChanceArena$Words" 72 "var" ∈ lw_tbl := zk_4 _ (List.mem_of_getElem? (i := 54) rfl)
theorem st_litBW_78 : (litC "ChanceArena$Words" 78 [109, 97, 120]).map some = [337, 338, 339, 340, 341, 342, 343].map (fun i => stF[i]?) := by decide +kernel
theorem sr_litBW_78 : Cond.stringRef "ChanceArena$Words" 78 "max" ∈ lw_tbl := zk_4 _ (List.mem_of_getElem? (i := 107) rfl)
theorem st_litBW_80 : (litC "ChanceArena$Words" 80 [109, 105, 110]).map some = [344, 345, 346, 347, 348, 349, 350].map (fun i => stF[i]?) := by decide +kernel
theorem sr_litBW_80 : Cond.stringRef "ChanceArena$Words" 80 "min" ∈ lw_tbl := zk_4 _ (List.mem_of_getElem? (i := 108) rfl)
theorem st_litBW_82 : (litC "ChanceArena$Words" 82 [116, 114, 117, 101]).map some = [351, 352, 353, 354, 355, 356, 357, 358].map (fun i => stF[i]?) := by decide +kernel
theorem sr_litBW_82 : Cond.stringRef "ChanceArena$Words" 82 "true" ∈ lw_tbl := zk_4 _ (List.mem_of_getElem? (i := 109) rfl)
theorem st_litBW_84 : (litC "ChanceArena$Words" 84 [115, 116, 97, 121]).map some = [359, 360, 361, 362, 363, 364, 365, 366].map (fun i => stF[i]?) := by decide +kernel
theorem sr_litBW_84 : Cond.stringRef "ChanceArena$Words" 84 "stay" ∈ lw_tbl := zk_4 _ (List.mem_of_getElem? (i := 110) rfl)
theorem st_litBW_86 : (litC "ChanceArena$Words" 86 [98, 111, 111, 108]).map some = [367, 368, 369, 370, 371, 372, 373, 374].map (fun i => stF[i]?) := by decide +kernel
theorem sr_litBW_86 : Cond.stringRef "ChanceArena$Words" 86 "bool" ∈ lw_tbl := zk_4 _ (List.mem_of_getElem? (i := 111) rfl)
theorem st_litBW_88 : (litC "ChanceArena$Words" 88 [105, 110, 105, 116]).map some = [375, 376, 377, 378, 379, 380, 381, 382].map (fun i => stF[i]?) := by decide +kernel
theorem sr_litBW_88 : Cond.stringRef "ChanceArena$Words" 88 "init" ∈ lw_tbl := zk_4 _ (List.mem_of_getElem? (i := 112) rfl)
theorem st_litBW_90 : (litC "ChanceArena$Words" 90 [109, 111, 115, 116]).map some = [383, 384, 385, 386, 387, 388, 389, 390].map (fun i => stF[i]?) := by decide +kernel
theorem sr_litBW_90 : Cond.stringRef "ChanceArena$Words" 90 "most" ∈ lw_tbl := zk_4 _ (List.mem_of_getElem? (i := 113) rfl)
theorem st_litBW_92 : (litC "ChanceArena$Words" 92 [99, 111, 110, 115, 116]).map some = [391, 392, 393, 394, 395, 396, 397, 398, 399].map (fun i => stF[i]?) := by decide +kernel
theorem sr_litBW_92 : Cond.stringRef "ChanceArena$Words" 92 "const" ∈ lw_tbl := zk_4 _ (List.mem_of_getElem? (i := 114) rfl)
theorem st_litBW_94 : (litC "ChanceArena$Words" 94 [102, 97, 108, 115, 101]).map some = [400, 401, 402, 403, 404, 405, 406, 407, 408].map (fun i => stF[i]?) := by decide +kernel
theorem sr_litBW_94 : Cond.stringRef "ChanceArena$Words" 94 "false" ∈ lw_tbl := zk_4 _ (List.mem_of_getElem? (i := 115) rfl)
theorem st_litBW_96 : (litC "ChanceArena$Words" 96 [108, 101, 97, 115, 116]).map some = [409, 410, 411, 412, 413, 414, 415, 416, 417].map (fun i => stF[i]?) := by decide +kernel
theorem sr_litBW_96 : Cond.stringRef "ChanceArena$Words" 96 "least" ∈ lw_tbl := zk_4 _ (List.mem_of_getElem? (i := 116) rfl)
theorem st_litBW_98 : (litC "ChanceArena$Words" 98 [116, 97, 114, 103, 101, 116]).map some = [418, 419, 420, 421, 422, 423, 424, 425, 426, 427].map (fun i => stF[i]?) := by decide +kernel
theorem sr_litBW_98 : Cond.stringRef "ChanceArena$Words" 98 "target" ∈ lw_tbl := zk_4 _ (List.mem_of_getElem? (i := 117) rfl)
theorem st_litBW_100 : (litC "ChanceArena$Words" 100 [102, 111, 114, 109, 117, 108, 97]).map some = [428, 429, 430, 431, 432, 433, 434, 435, 436, 437, 438].map (fun i => stF[i]?) := by decide +kernel
theorem sr_litBW_100 : Cond.stringRef "ChanceArena$Words" 100 "formula" ∈ lw_tbl := zk_4 _ (List.mem_of_getElem? (i := 118) rfl)
theorem st_litBM_176 : (litC "ChanceArenaModel" 176 [99, 111, 110, 115, 116]).map some = [511, 512, 513, 514, 515, 516, 517, 518, 519].map (fun i => stF[i]?) := by decide +kernel
theorem sr_litBM_176 : Cond.stringRef "ChanceArenaModel" 176 "const" ∈ lw_tbl := zk_11 _ (List.mem_of_getElem? (i := 42) rfl)
theorem st_litBM_182 : (litC "ChanceArenaModel" 182 [118, 97, 114]).map some = [521, 522, 523, 524, 525, 526, 527].map (fun i => stF[i]?) := by decide +kernel
theorem sr_litBM_182 : Cond.stringRef "ChanceArenaModel" 182 "var" ∈ lw_tbl := zk_11 _ (List.mem_of_getElem? (i := 49) rfl)
theorem st_litBM_184 : (litC "ChanceArenaModel" 184 [98, 111, 111, 108]).map some = [529, 530, 531, 532, 533, 534, 535, 536].map (fun i => stF[i]?) := by decide +kernel
theorem sr_litBM_184 : Cond.stringRef "ChanceArenaModel" 184 "bool" ∈ lw_tbl := zk_11 _ (List.mem_of_getElem? (i := 50) rfl)
theorem st_litBM_186 : (litC "ChanceArenaModel" 186 [102, 111, 114, 109, 117, 108, 97]).map some = [538, 539, 540, 541, 542, 543, 544, 545, 546, 547, 548].map (fun i => stF[i]?) := by decide +kernel
theorem sr_litBM_186 : Cond.stringRef "ChanceArenaModel" 186 "formula" ∈ lw_tbl := zk_11 _ (List.mem_of_getElem? (i := 51) rfl)
theorem st_litBM_188 : (litC "ChanceArenaModel" 188 [102, 97, 108, 115, 101]).map some = [550, 551, 552, 553, 554, 555, 556, 557, 558].map (fun i => stF[i]?) := by decide +kernel
theorem sr_litBM_188 : Cond.stringRef "ChanceArenaModel" 188 "false" ∈ lw_tbl := zk_11 _ (List.mem_of_getElem? (i := 52) rfl)
theorem st_litBM_190 : (litC "ChanceArenaModel" 190 [109, 97, 120]).map some = [560, 561, 562, 563, 564, 565, 566].map (fun i => stF[i]?) := by decide +kernel
theorem sr_litBM_190 : Cond.stringRef "ChanceArenaModel" 190 "max" ∈ lw_tbl := zk_11 _ (List.mem_of_getElem? (i := 53) rfl)
theorem st_litBM_192 : (litC "ChanceArenaModel" 192 [109, 105, 110]).map some = [568, 569, 570, 571, 572, 573, 574].map (fun i => stF[i]?) := by decide +kernel
theorem sr_litBM_192 : Cond.stringRef "ChanceArenaModel" 192 "min" ∈ lw_tbl := zk_11 _ (List.mem_of_getElem? (i := 54) rfl)
theorem st_litBM_194 : (litC "ChanceArenaModel" 194 [109, 111, 115, 116]).map some = [576, 577, 578, 579, 580, 581, 582, 583].map (fun i => stF[i]?) := by decide +kernel
theorem sr_litBM_194 : Cond.stringRef "ChanceArenaModel" 194 "most" ∈ lw_tbl := zk_11 _ (List.mem_of_getElem? (i := 55) rfl)
theorem st_litBM_196 : (litC "ChanceArenaModel" 196 [105, 110, 105, 116]).map some = [585, 586, 587, 588, 589, 590, 591, 592].map (fun i => stF[i]?) := by decide +kernel
theorem sr_litBM_196 : Cond.stringRef "ChanceArenaModel" 196 "init" ∈ lw_tbl := zk_11 _ (List.mem_of_getElem? (i := 56) rfl)
theorem st_litBM_198 : (litC "ChanceArenaModel" 198 [115, 116, 97, 121]).map some = [594, 595, 596, 597, 598, 599, 600, 601].map (fun i => stF[i]?) := by decide +kernel
theorem sr_litBM_198 : Cond.stringRef "ChanceArenaModel" 198 "stay" ∈ lw_tbl := zk_11 _ (List.mem_of_getElem? (i := 57) rfl)
theorem st_litBM_200 : (litC "ChanceArenaModel" 200 [116, 97, 114, 103, 101, 116]).map some = [603, 604, 605, 606, 607, 608, 609, 610, 611, 612].map (fun i => stF[i]?) := by decide +kernel
theorem sr_litBM_200 : Cond.stringRef "ChanceArenaModel" 200 "target" ∈ lw_tbl := zk_11 _ (List.mem_of_getElem? (i := 58) rfl)
theorem st_litBM_202 : (litC "ChanceArenaModel" 202 [116, 114, 117, 101]).map some = [614, 615, 616, 617, 618, 619, 620, 621].map (fun i => stF[i]?) := by decide +kernel
theorem sr_litBM_202 : Cond.stringRef "ChanceArenaModel" 202 "true" ∈ lw_tbl := zk_11 _ (List.mem_of_getElem? (i := 59) rfl)
theorem st_litBM_204 : (litC "ChanceArenaModel" 204 [108, 101, 97, 115, 116]).map some = [623, 624, 625, 626, 627, 628, 629, 630, 631].map (fun i => stF[i]?) := by decide +kernel
theorem sr_litBM_204 : Cond.stringRef "ChanceArenaModel" 204 "least" ∈ lw_tbl := zk_11 _ (List.mem_of_getElem? (i := 60) rfl)
theorem st_pr : ((List.range 36).map (fun j => Cond.eq (.elem (.static "ChanceArena$Residues" "PRIMES" "[I") (.int (Int32.ofNat j))) (.int (Int32.ofInt (prL.getD j 0))))).map some = [220, 221, 222, 223, 224, 225, 226, 227, 228, 229, 230, 231, 232, 233, 234, 235, 236, 237, 238, 239, 240, 241, 242, 243, 244, 245, 246, 247, 248, 249, 250, 251, 252, 253, 254, 255].map (fun i => stF[i]?) := by decide +kernel
section STT
variable {G : mG} {args : Array Value}
theorem st_all (hB : gB G = (gS G).heap.size) (htr : (gL G).stackTraces = false) (hts : ∀ w ∈ lw_tbl, w.before args (gS G) = true) (hn : (Jvm.Cond.and given_1 narrow_1).before args (gS G) = true) : LT G ∧ gPr G ∧ TH G := by
  have hs : ∀ w ∈ stF, w.before args (gS G) = true := flat_of_before _ hn
  have hJ : JD G := JD.of (args := args) hB (hts _ (zk_4 _ (List.mem_of_getElem? (i := 68) rfl))) (hts _ (zk_1 _ (List.mem_of_getElem? (i := 26) rfl))) (hs _ (List.mem_of_getElem? (i := 4) (by decide +kernel))) (hts _ (zk_4 _ (List.mem_of_getElem? (i := 84) rfl))) (hts _ (zk_1 _ (List.mem_of_getElem? (i := 28) rfl))) (hs _ (List.mem_of_getElem? (i := 5) (by decide +kernel)))
  refine ⟨LT.of (args := args) hB hJ (List.forall_mem_cons.mpr ⟨⟨hts _ sr_litBW_72, fun w hw => hs w (st_in st_litBW_72 w hw)⟩, List.forall_mem_cons.mpr ⟨⟨hts _ sr_litBW_78, fun w hw => hs w (st_in st_litBW_78 w hw)⟩, List.forall_mem_cons.mpr ⟨⟨hts _ sr_litBW_80, fun w hw => hs w (st_in st_litBW_80 w hw)⟩, List.forall_mem_cons.mpr ⟨⟨hts _ sr_litBW_82, fun w hw => hs w (st_in st_litBW_82 w hw)⟩, List.forall_mem_cons.mpr ⟨⟨hts _ sr_litBW_84, fun w hw => hs w (st_in st_litBW_84 w hw)⟩, List.forall_mem_cons.mpr ⟨⟨hts _ sr_litBW_86, fun w hw => hs w (st_in st_litBW_86 w hw)⟩, List.forall_mem_cons.mpr ⟨⟨hts _ sr_litBW_88, fun w hw => hs w (st_in st_litBW_88 w hw)⟩, List.forall_mem_cons.mpr ⟨⟨hts _ sr_litBW_90, fun w hw => hs w (st_in st_litBW_90 w hw)⟩, List.forall_mem_cons.mpr ⟨⟨hts _ sr_litBW_92, fun w hw => hs w (st_in st_litBW_92 w hw)⟩, List.forall_mem_cons.mpr ⟨⟨hts _ sr_litBW_94, fun w hw => hs w (st_in st_litBW_94 w hw)⟩, List.forall_mem_cons.mpr ⟨⟨hts _ sr_litBW_96, fun w hw => hs w (st_in st_litBW_96 w hw)⟩, List.forall_mem_cons.mpr ⟨⟨hts _ sr_litBW_98, fun w hw => hs w (st_in st_litBW_98 w hw)⟩, List.forall_mem_cons.mpr ⟨⟨hts _ sr_litBW_100, fun w hw => hs w (st_in st_litBW_100 w hw)⟩, fun _ h => absurd h List.not_mem_nil⟩⟩⟩⟩⟩⟩⟩⟩⟩⟩⟩⟩⟩) (List.forall_mem_cons.mpr ⟨⟨hts _ sr_litBM_176, fun w hw => hs w (st_in st_litBM_176 w hw)⟩, List.forall_mem_cons.mpr ⟨⟨hts _ sr_litBM_182, fun w hw => hs w (st_in st_litBM_182 w hw)⟩, List.forall_mem_cons.mpr ⟨⟨hts _ sr_litBM_184, fun w hw => hs w (st_in st_litBM_184 w hw)⟩, List.forall_mem_cons.mpr ⟨⟨hts _ sr_litBM_186, fun w hw => hs w (st_in st_litBM_186 w hw)⟩, List.forall_mem_cons.mpr ⟨⟨hts _ sr_litBM_188, fun w hw => hs w (st_in st_litBM_188 w hw)⟩, List.forall_mem_cons.mpr ⟨⟨hts _ sr_litBM_190, fun w hw => hs w (st_in st_litBM_190 w hw)⟩, List.forall_mem_cons.mpr ⟨⟨hts _ sr_litBM_192, fun w hw => hs w (st_in st_litBM_192 w hw)⟩, List.forall_mem_cons.mpr ⟨⟨hts _ sr_litBM_194, fun w hw => hs w (st_in st_litBM_194 w hw)⟩, List.forall_mem_cons.mpr ⟨⟨hts _ sr_litBM_196, fun w hw => hs w (st_in st_litBM_196 w hw)⟩, List.forall_mem_cons.mpr ⟨⟨hts _ sr_litBM_198, fun w hw => hs w (st_in st_litBM_198 w hw)⟩, List.forall_mem_cons.mpr ⟨⟨hts _ sr_litBM_200, fun w hw => hs w (st_in st_litBM_200 w hw)⟩, List.forall_mem_cons.mpr ⟨⟨hts _ sr_litBM_202, fun w hw => hs w (st_in st_litBM_202 w hw)⟩, List.forall_mem_cons.mpr ⟨⟨hts _ sr_litBM_204, fun w hw => hs w (st_in st_litBM_204 w hw)⟩, fun _ h => absurd h List.not_mem_nil⟩⟩⟩⟩⟩⟩⟩⟩⟩⟩⟩⟩⟩), gPr.of (args := args) hB (hts _ (zk_8 _ (List.mem_of_getElem? (i := 118) rfl))) (hts _ (zk_1 _ (List.mem_of_getElem? (i := 12) rfl))) (hs _ (List.mem_of_getElem? (i := 218) (by decide +kernel))) (hs _ (List.mem_of_getElem? (i := 219) (by decide +kernel))) (fun j hj => hs _ (st_in st_pr _ (List.mem_map.mpr ⟨j, List.mem_range.mpr hj, rfl⟩))), TH.of (args := args) hB htr (List.forall_mem_cons.mpr ⟨(hs _ (List.mem_of_getElem? (i := 9) (by decide +kernel))), List.forall_mem_cons.mpr ⟨(hs _ (List.mem_of_getElem? (i := 10) (by decide +kernel))), List.forall_mem_cons.mpr ⟨(hts _ (zk_6 _ (List.mem_of_getElem? (i := 45) rfl))), List.forall_mem_cons.mpr ⟨(hts _ (zk_6 _ (List.mem_of_getElem? (i := 47) rfl))), fun _ h => absurd h List.not_mem_nil⟩⟩⟩⟩)⟩
end STT
