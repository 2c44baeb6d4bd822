/-! All string constants of class and reference. -/
def litW : List (Nat × String × Nat) := [(72, "var", 3), (78, "max", 3), (80, "min", 3), (82, "true", 4), (84, "stay", 4), (86, "bool", 4), (88, "init", 4), (90, "most", 4), (92, "const", 5), (94, "false", 5), (96, "least", 5), (98, "target", 6), (100, "formula", 7)]
def litM : List (Nat × String × Nat) := [(176, "const", 5), (182, "var", 3), (184, "bool", 4), (186, "formula", 7), (188, "false", 5), (190, "max", 3), (192, "min", 3), (194, "most", 4), (196, "init", 4), (198, "stay", 4), (200, "target", 6), (202, "true", 4), (204, "least", 5)]
/-- the string constants of class and reference are what they say -/
def LT (G : mG) : Prop := JD G ∧ (∀ q, q ∈ litW → Lit G "ChanceArena$Words" q.1 q.2.1 q.2.2) ∧ ∀ q, q ∈ litM → Lit G "ChanceArenaModel" q.1 q.2.1 q.2.2
/-- the same with their letters -/
def litBW : List (Nat × String × List Int) := [(72, "var", [118, 97, 114]), (78, "max", [109, 97, 120]), (80, "min", [109, 105, 110]), (82, "true", [116, 114, 117, 101]), (84, "stay", [115, 116, 97, 121]), (86, "bool", [98, 111, 111, 108]), (88, "init", [105, 110, 105, 116]), (90, "most", [109, 111, 115, 116]), (92, "const", [99, 111, 110, 115, 116]), (94, "false", [102, 97, 108, 115, 101]), (96, "least", [108, 101, 97, 115, 116]), (98, "target", [116, 97, 114, 103, 101, 116]), (100, "formula", [102, 111, 114, 109, 117, 108, 97])]
def litBM : List (Nat × String × List Int) := [(176, "const", [99, 111, 110, 115, 116]), (182, "var", [118, 97, 114]), (184, "bool", [98, 111, 111, 108]), (186, "formula", [102, 111, 114, 109, 117, 108, 97]), (188, "false", [102, 97, 108, 115, 101]), (190, "max", [109, 97, 120]), (192, "min", [109, 105, 110]), (194, "most", [109, 111, 115, 116]), (196, "init", [105, 110, 105, 116]), (198, "stay", [115, 116, 97, 121]), (200, "target", [116, 97, 114, 103, 101, 116]), (202, "true", [116, 114, 117, 101]), (204, "least", [108, 101, 97, 115, 116])]
/-- what is said of a constant's contents -/
def litC (own : String) (k : Nat) (f : List Int) : List Cond := [.exactly (.string own k) "java/lang/String", .eq (.field (.string own k) "java/lang/String" "coder" "B") (.int 0), .arrayOf (.field (.string own k) "java/lang/String" "value" "[B") .byte, .eq (.length (.field (.string own k) "java/lang/String" "value" "[B")) (.int (Int32.ofNat f.length))] ++ (List.range f.length).map (fun j => .eq (.elem (.field (.string own k) "java/lang/String" "value" "[B") (.int (Int32.ofNat j))) (.int (Int32.ofInt (f.getD j 0))))
section LTS
variable {G : mG} {args : Array Value}
theorem Lit.ofC {own tx : String} {k : Nat} {f : List Int} (hB : gB G = (gS G).heap.size) (hn : f.length < 100) (hf : f.all (fun x => decide (0 ≤ x ∧ x < 128)) = true) (hr : (Cond.stringRef own k tx).before args (gS G) = true) (h : ∀ w ∈ litC own k f, w.before args (gS G) = true) : Lit G own k tx f.length := by
  refine Lit.of (f := f) hB hn (fun j hj => ?_) hr (h _ (List.mem_append_left _ (List.mem_of_getElem? (i := 0) rfl))) (h _ (List.mem_append_left _ (List.mem_of_getElem? (i := 1) rfl))) (h _ (List.mem_append_left _ (List.mem_of_getElem? (i := 2) rfl))) (h _ (List.mem_append_left _ (List.mem_of_getElem? (i := 3) rfl))) (fun j hj => h _ (List.mem_append_right _ (List.mem_map.mpr ⟨j, List.mem_range.mpr hj, rfl⟩)))
  have e : f.getD j 0 = f[j] := by rw [List.getD_eq_getElem?_getD, List.getElem?_eq_getElem hj]; rfl
  rw [e]
  exact of_decide_eq_true (List.all_eq_true.mp hf _ (List.getElem_mem hj))
theorem LT.of (hB : gB G = (gS G).heap.size) (hJ : JD G) (hw : ∀ q ∈ litBW, (Cond.stringRef "ChanceArena$Words" q.1 q.2.1).before args (gS G) = true ∧ ∀ w ∈ litC "ChanceArena$Words" q.1 q.2.2, w.before args (gS G) = true) (hm : ∀ q ∈ litBM, (Cond.stringRef "ChanceArenaModel" q.1 q.2.1).before args (gS G) = true ∧ ∀ w ∈ litC "ChanceArenaModel" q.1 q.2.2, w.before args (gS G) = true) : LT G := by
  have a1 : ∀ q ∈ litBW, q.2.2.length < 100 ∧ q.2.2.all (fun x => decide (0 ≤ x ∧ x < 128)) = true := by decide +kernel
  have a2 : ∀ q ∈ litBM, q.2.2.length < 100 ∧ q.2.2.all (fun x => decide (0 ≤ x ∧ x < 128)) = true := by decide +kernel
  have e1 : litW = litBW.map (fun q => (q.1, q.2.1, q.2.2.length)) := rfl
  have e2 : litM = litBM.map (fun q => (q.1, q.2.1, q.2.2.length)) := rfl
  refine ⟨hJ, fun q hq => ?_, fun q hq => ?_⟩
  · rw [e1] at hq
    obtain ⟨b, hb, rfl⟩ := List.mem_map.mp hq
    exact Lit.ofC hB (a1 b hb).1 (a1 b hb).2 (hw b hb).1 (hw b hb).2
  · rw [e2] at hq
    obtain ⟨b, hb, rfl⟩ := List.mem_map.mp hq
    exact Lit.ofC hB (a2 b hb).1 (a2 b hb).2 (hm b hb).1 (hm b hb).2
end LTS
