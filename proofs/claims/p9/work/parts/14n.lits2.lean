/-! All string constants of class and reference. -/
/-- the same with their letters -/
def litBW : List (Nat × String × List Int) := [(72, "var", [118, 97, 114]), (78, "max", [109, 97, 120]), (80, "min", [109, 105, 110]), (82, "true", [116, 114, 117, 101]), (84, "stay", [115, 116, 97, 121]), (86, "bool", [98, 111, 111, 108]), (88, "init", [105, 110, 105, 116]), (90, "most", [109, 111, 115, 116]), (92, "const", [99, 111, 110, 115, 116]), (94, "false", [102, 97, 108, 115, 101]), (96, "least", [108, 101, 97, 115, 116]), (98, "target", [116, 97, 114, 103, 101, 116]), (100, "formula", [102, 111, 114, 109, 117, 108, 97])]
def litBM : List (Nat × String × List Int) := [(176, "const", [99, 111, 110, 115, 116]), (182, "var", [118, 97, 114]), (184, "bool", [98, 111, 111, 108]), (186, "formula", [102, 111, 114, 109, 117, 108, 97]), (188, "false", [102, 97, 108, 115, 101]), (190, "max", [109, 97, 120]), (192, "min", [109, 105, 110]), (194, "most", [109, 111, 115, 116]), (196, "init", [105, 110, 105, 116]), (198, "stay", [115, 116, 97, 121]), (200, "target", [116, 97, 114, 103, 101, 116]), (202, "true", [116, 114, 117, 101]), (204, "least", [108, 101, 97, 115, 116])]
/-- the string constants of class and reference are what they say -/
def LT (G : mG) : Prop := JD G ∧ (∀ q, q ∈ litBW → Lit G "ChanceArena$Words" q.1 q.2.1 q.2.2) ∧ ∀ q, q ∈ litBM → Lit G "ChanceArenaModel" q.1 q.2.1 q.2.2
/-- what is said of a constant's contents -/
def litC (own : String) (k : Nat) (f : List Int) : List Cond := [.exactly (.string own k) "java/lang/String", .eq (.field (.string own k) "java/lang/String" "coder" "B") (.int 0), .arrayOf (.field (.string own k) "java/lang/String" "value" "[B") .byte, .eq (.length (.field (.string own k) "java/lang/String" "value" "[B")) (.int (Int32.ofNat f.length))] ++ (List.range f.length).map (fun j => .eq (.elem (.field (.string own k) "java/lang/String" "value" "[B") (.int (Int32.ofNat j))) (.int (Int32.ofInt (f.getD j 0))))
section LTS
variable {G : mG} {args : Array Value}
theorem Lit.ofC {own tx : String} {k : Nat} {f : List Int} (hB : gB G = (gS G).heap.size) (hn : f.length < 100) (hf : f.all (fun x => decide (0 ≤ x ∧ x < 128)) = true) (hr : (Cond.stringRef own k tx).before args (gS G) = true) (h : ∀ w ∈ litC own k f, w.before args (gS G) = true) : Lit G own k tx f := by
  refine Lit.of (f := f) hB hn (fun j hj => ?_) hr (h _ (List.mem_append_left _ (List.mem_of_getElem? (i := 0) rfl))) (h _ (List.mem_append_left _ (List.mem_of_getElem? (i := 1) rfl))) (h _ (List.mem_append_left _ (List.mem_of_getElem? (i := 2) rfl))) (h _ (List.mem_append_left _ (List.mem_of_getElem? (i := 3) rfl))) (fun j hj => h _ (List.mem_append_right _ (List.mem_map.mpr ⟨j, List.mem_range.mpr hj, rfl⟩)))
  have e : f.getD j 0 = f[j] := by rw [List.getD_eq_getElem?_getD, List.getElem?_eq_getElem hj]; rfl
  rw [e]
  exact of_decide_eq_true (List.all_eq_true.mp hf _ (List.getElem_mem hj))
theorem LT.of (hB : gB G = (gS G).heap.size) (hJ : JD G) (hw : ∀ q ∈ litBW, (Cond.stringRef "ChanceArena$Words" q.1 q.2.1).before args (gS G) = true ∧ ∀ w ∈ litC "ChanceArena$Words" q.1 q.2.2, w.before args (gS G) = true) (hm : ∀ q ∈ litBM, (Cond.stringRef "ChanceArenaModel" q.1 q.2.1).before args (gS G) = true ∧ ∀ w ∈ litC "ChanceArenaModel" q.1 q.2.2, w.before args (gS G) = true) : LT G := by
  have a1 : ∀ q ∈ litBW, q.2.2.length < 100 ∧ q.2.2.all (fun x => decide (0 ≤ x ∧ x < 128)) = true := by decide +kernel
  have a2 : ∀ q ∈ litBM, q.2.2.length < 100 ∧ q.2.2.all (fun x => decide (0 ≤ x ∧ x < 128)) = true := by decide +kernel
  exact ⟨hJ, fun b hb => Lit.ofC hB (a1 b hb).1 (a1 b hb).2 (hw b hb).1 (hw b hb).2, fun b hb => Lit.ofC hB (a2 b hb).1 (a2 b hb).2 (hm b hb).1 (hm b hb).2⟩
end LTS
/-! The language's own words: pure. -/
/-- the letters from p to e - 1 -/
def wlq (T : Nat → Int) (p e : Nat) : List Int := (List.range (e - p)).map (fun j => T (p + j))
/-- what kind of word a name is (1: a name and nothing else) -/
def kwq (l : List Int) : Int := if l = [118, 97, 114] then 4 else if l = [109, 97, 120] then 7 else if l = [109, 105, 110] then 8 else if l = [116, 114, 117, 101] then 12 else if l = [115, 116, 97, 121] then 10 else if l = [98, 111, 111, 108] then 5 else if l = [105, 110, 105, 116] then 9 else if l = [109, 111, 115, 116] then 15 else if l = [99, 111, 110, 115, 116] then 3 else if l = [102, 97, 108, 115, 101] then 13 else if l = [108, 101, 97, 115, 116] then 14 else if l = [116, 97, 114, 103, 101, 116] then 11 else if l = [102, 111, 114, 109, 117, 108, 97] then 6 else 1
theorem kw_none {l : List Int} (h0 : l ≠ [118, 97, 114]) (h1 : l ≠ [109, 97, 120]) (h2 : l ≠ [109, 105, 110]) (h3 : l ≠ [116, 114, 117, 101]) (h4 : l ≠ [115, 116, 97, 121]) (h5 : l ≠ [98, 111, 111, 108]) (h6 : l ≠ [105, 110, 105, 116]) (h7 : l ≠ [109, 111, 115, 116]) (h8 : l ≠ [99, 111, 110, 115, 116]) (h9 : l ≠ [102, 97, 108, 115, 101]) (h10 : l ≠ [108, 101, 97, 115, 116]) (h11 : l ≠ [116, 97, 114, 103, 101, 116]) (h12 : l ≠ [102, 111, 114, 109, 117, 108, 97]) : kwq l = 1 := by
  unfold kwq
  rw [if_neg h0, if_neg h1, if_neg h2, if_neg h3, if_neg h4, if_neg h5, if_neg h6, if_neg h7, if_neg h8, if_neg h9, if_neg h10, if_neg h11, if_neg h12]
theorem wlq_len (T : Nat → Int) (p e : Nat) : (wlq T p e).length = e - p := by simp [wlq]
theorem wlq_hd {T : Nat → Int} {p e : Nat} (h : p < e) : (wlq T p e).head? = some (T p) := by
  obtain ⟨k, hk⟩ : ∃ k, e - p = k + 1 := ⟨e - p - 1, by omega⟩
  unfold wlq
  rw [hk, List.range_succ_eq_map]
  simp
theorem wl_len {l k : List Int} {n : Nat} (h : l.length = n) (c : k.length ≠ n) : l ≠ k := fun e => c (by rw [← e]; exact h)
theorem wl_hd {l k : List Int} {x : Int} (h : l.head? = some x) (c : k.head? ≠ some x) : l ≠ k := fun e => c (by rw [← e]; exact h)
theorem wlq_eq {T : Nat → Int} {p e : Nat} {l : List Int} : wlq T p e = l ↔ (e - p = l.length ∧ ∀ j, j < l.length → T (p + j) = l.getD j 0) := by
  constructor
  · intro h
    have hl : e - p = l.length := by rw [← h]; exact (wlq_len T p e).symm
    refine ⟨hl, fun j hj => ?_⟩
    rw [← h, List.getD_eq_getElem?_getD]
    unfold wlq
    rw [List.getElem?_map, List.getElem?_range (by omega)]
    rfl
  · intro ⟨h1, h2⟩
    apply List.ext_getElem
    · rw [wlq_len]; exact h1
    · intro j hj hj2
      have := h2 j hj2
      rw [List.getD_eq_getElem?_getD, List.getElem?_eq_getElem hj2] at this
      simp only [wlq, List.getElem_map, List.getElem_range]
      exact this
