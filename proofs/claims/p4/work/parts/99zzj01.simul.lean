/-! Steps of the class's reader as steps of the grammar's machine. -/
section SM
variable {w : Nat → Int} {S z : List Int} {k q c : Nat} {os t : List Int} {o : Int}
theorem ex73_0 {x : Int} (h : x = 1 ∨ x = 2 ∨ x = 12 ∨ x = 13) : ex 73 x = some ([], 1) := by rw [ex_73]; unfold ex73; rw [if_pos h]
theorem ex73_l {x : Int} (h : x = 14 ∨ x = 15) : ex 73 x = some ([76, 61, 74, 37, 75], 1) := by rw [ex_73]; unfold ex73; rw [if_neg (by omega), if_pos h]
theorem ex73_m {x : Int} (h : x = 25) : ex 73 x = some ([73, 75], 1) := by rw [ex_73]; unfold ex73; rw [if_neg (by omega), if_neg (by omega), if_pos h]
theorem ex73_p {x : Int} (h : x = 36) : ex 73 x = some ([61, 37, 75], 1) := by rw [ex_73]; unfold ex73; rw [if_neg (by omega), if_neg (by omega), if_neg (by omega), if_pos h]
theorem ex73_n {x : Int} (h : ¬ (x = 1 ∨ x = 2 ∨ x = 12 ∨ x = 13 ∨ x = 14 ∨ x = 15 ∨ x = 25 ∨ x = 36)) : ex 73 x = none := by rw [ex_73]; unfold ex73; rw [if_neg (by omega), if_neg (by omega), if_neg (by omega), if_neg (by omega)]
/-- down to the tightest -/
theorem rc_73 (hq : q ≤ 6) (h : w k ≠ 31 ∨ rsl q os ≤ 2) : Rc w (gyW z q os) k (73 :: gyR z q 0 os) k := by
  have := rc_desc (w := w) (k := k) (a := 0) _ (rsl q os) rfl (by omega) (rsl_le hq) (by omega) (gyT z q os)
  exact this
theorem slv_73 (hq : q ≤ 6) (hw : woq q os) : slv (73 :: gyR z q 0 os) = slv z + lvs os := by
  have := slv_nt (c := 0) (S := gyR z q 0 os)
  rw [slv_R hq hw] at this
  exact this
theorem sim_val (hq : q ≤ 6) (hx : w k = 1 ∨ w k = 2 ∨ w k = 12 ∨ w k = 13) : Rc w (gyW z q os) k (gyR z q 0 os) (k + 1) :=
  (rc_73 hq (Or.inl (by omega))).trans (Rc.one (mst_n (ys := []) (by decide) (by decide) (ex73_0 hx) (Or.inl (by decide))))
theorem sim_open (hq : q ≤ 6) (hw : woq q os) (hx : w k = 36) (hl : slv z + lvs os < 40) : Rc w (gyW z q os) k (gyW z q (37 :: os)) (k + 1) :=
  (rc_73 hq (Or.inl (by omega))).trans (Rc.one (mst_n (ys := [61, 37, 75]) (by decide) (by decide) (ex73_p hx) (Or.inr (by rw [slv_73 hq hw]; exact hl))))
theorem sim_open_no (hq : q ≤ 6) (hw : woq q os) (hx : w k = 36) (hl : ¬ slv z + lvs os < 40) : Rf w (gyW z q os) k k :=
  (rc_73 hq (Or.inl (by omega))).rf (Rf.of (mst_deep (ys := [61, 37, 75]) (t := 1) (by decide) (by decide) (ex73_p hx) (by decide) (by rw [slv_73 hq hw]; omega)))
theorem sim_neg (hq : q ≤ 6) (hw : woq q os) (hx : w k = 25) (hl : slv z + lvs os < 40) : Rc w (gyW z q os) k (gyW z q (40 :: os)) (k + 1) :=
  (rc_73 hq (Or.inl (by omega))).trans (Rc.one (mst_n (ys := [73, 75]) (by decide) (by decide) (ex73_m hx) (Or.inr (by rw [slv_73 hq hw]; exact hl))))
theorem sim_neg_no (hq : q ≤ 6) (hw : woq q os) (hx : w k = 25) (hl : ¬ slv z + lvs os < 40) : Rf w (gyW z q os) k k :=
  (rc_73 hq (Or.inl (by omega))).rf (Rf.of (mst_deep (ys := [73, 75]) (t := 1) (by decide) (by decide) (ex73_m hx) (by decide) (by rw [slv_73 hq hw]; omega)))
theorem rc_67 (hq : q ≤ 6) (h3 : 3 ≤ rsl q os) : Rc w (gyW z q os) k (67 :: gyR z q 3 os) k := rc_desc (w := w) (k := k) (a := 3) _ (rsl q os) rfl h3 (rsl_le hq) (by omega) (gyT z q os)
theorem slv_67 (hq : q ≤ 6) (hw : woq q os) : slv (67 :: gyR z q 3 os) = slv z + lvs os := by
  have := slv_nt (c := 3) (S := gyR z q 3 os)
  rw [slv_R hq hw] at this
  exact this
theorem ex67_n {x : Int} (h : x = 31) : ex 67 x = some ([67, 75], 1) := by rw [ex_67]; unfold ex67; rw [if_pos h]
theorem sim_not (hq : q ≤ 6) (hw : woq q os) (h3 : 3 ≤ rsl q os) (hx : w k = 31) (hl : slv z + lvs os < 40) : Rc w (gyW z q os) k (gyW z q (41 :: os)) (k + 1) :=
  (rc_67 hq h3).trans (Rc.one (mst_n (ys := [67, 75]) (by decide) (by decide) (ex67_n hx) (Or.inr (by rw [slv_67 hq hw]; exact hl))))
theorem sim_not_no (hq : q ≤ 6) (hw : woq q os) (hx : w k = 31) (hl : ¬ (3 ≤ rsl q os ∧ slv z + lvs os < 40)) : Rf w (gyW z q os) k k := by
  by_cases h3 : 3 ≤ rsl q os
  · exact (rc_67 hq h3).rf (Rf.of (mst_deep (ys := [67, 75]) (t := 1) (by decide) (by decide) (ex67_n hx) (by decide) (by rw [slv_67 hq hw]; omega)))
  · exact (rc_73 hq (Or.inr (by omega))).rf (Rf.of (mst_no (by decide) (by decide) (ex73_n (by omega))))
theorem sim_no (hq : q ≤ 6) (hx : ¬ (w k = 1 ∨ w k = 2 ∨ w k = 12 ∨ w k = 13 ∨ w k = 14 ∨ w k = 15 ∨ w k = 25 ∨ w k = 31 ∨ w k = 36)) : Rf w (gyW z q os) k k :=
  (rc_73 hq (Or.inl (by omega))).rf (Rf.of (mst_no (by decide) (by decide) (ex73_n (by omega))))
theorem rc_76 (hq : q ≤ 6) (hx : w k = 14 ∨ w k = 15) : Rc w (gyW z q os) k (76 :: 61 :: 74 :: 37 :: 75 :: gyR z q 0 os) (k + 1) :=
  (rc_73 hq (Or.inl (by omega))).trans (Rc.one (mst_n (ys := [76, 61, 74, 37, 75]) (by decide) (by decide) (ex73_l hx) (Or.inl (by decide))))
theorem slv_76 (hq : q ≤ 6) (hw : woq q os) : slv (76 :: 61 :: 74 :: 37 :: 75 :: gyR z q 0 os) = slv z + lvs os := by
  have : slv ([76, 61, 74, 37, 75] ++ gyR z q 0 os) = slv [76, 61, 74, 37, 75] + slv (gyR z q 0 os) := slv_app _ _
  rw [slv_R hq hw] at this
  rw [show slv [76, 61, 74, 37, 75] = 0 by decide, Int.zero_add] at this
  exact this
theorem ex76_p {x : Int} (h : x = 36) : ex 76 x = some ([], 1) := by rw [ex_76]; unfold ex76; rw [if_pos h]
theorem ex76_n {x : Int} (h : x ≠ 36) : ex 76 x = none := by rw [ex_76]; unfold ex76; rw [if_neg h]
theorem sim_list {o : Int} (ho : o = 15 ∨ o = 16) (hq : q ≤ 6) (hw : woq q os) (hx : w k = 14 ∨ w k = 15) (h1 : w (k + 1) = 36) (hl : slv z + lvs os < 40) : Rc w (gyW z q os) k (gyW z q (o :: os)) (k + 2) := by
  have e : gyW z q (o :: os) = 61 :: 74 :: 37 :: 75 :: gyR z q 0 os := by rcases ho with e | e <;> subst e <;> rfl
  rw [e]
  exact (rc_76 hq hx).trans (Rc.one (k := k + 1) (mst_n (ys := []) (by decide) (by decide) (ex76_p h1) (Or.inr (by rw [slv_76 hq hw]; exact hl))))
theorem sim_list_no (hq : q ≤ 6) (hw : woq q os) (hx : w k = 14 ∨ w k = 15) (h1 : ¬ (w (k + 1) = 36 ∧ slv z + lvs os < 40)) : Rf w (gyW z q os) k (k + 1) := by
  by_cases h : w (k + 1) = 36
  · exact (rc_76 hq hx).rf (Rf.of (mst_deep (ys := []) (t := 1) (by decide) (by decide) (ex76_p h) (by decide) (by rw [slv_76 hq hw]; omega)))
  · exact (rc_76 hq hx).rf (Rf.of (mst_no (by decide) (by decide) (ex76_n h)))
/-- how strong the operand counts when an operation has been grouped -/
def pst (o : Int) : Nat := if 25 ≤ o ∧ o ≤ 31 then rsq o else cst o
theorem rst_up {a b : Nat} (hb : b ≤ 6) (h : a + 1 ≤ b) : rsy a :: rst (a + 1) b = rst a b := (rst_cons hb (by omega)).symm
theorem gyR_c : gyR z q c (o :: t) = rst c (rsq o) ++ (hdT o ++ gyR z q (cst o) t) := rfl
theorem sim_pop (hq : q ≤ 6) (hw : woq q (o :: t)) (ho : (19 ≤ o ∧ o ≤ 31) ∨ o = 40 ∨ o = 41 ∨ o = 42) (hl : lwx (w k) ≤ c ∨ rsq o < lwx (w k)) : Rc w (gyR z q c (o :: t)) k (gyR z q (pst o) t) k := by
  rw [gyR_c]
  refine (rc_drops (rsq_le o) _ c rfl hl).trans ?_
  obtain ⟨-, h2, -⟩ := hw
  by_cases c1 : 25 ≤ o ∧ o ≤ 31
  · have e : o = 25 ∨ o = 26 ∨ o = 27 ∨ o = 28 ∨ o = 29 ∨ o = 30 ∨ o = 31 := by omega
    have hh : hdT o ++ gyR z q (cst o) t = gyR z q (pst o) t := by
      unfold gyR
      have r := rst_up (a := rsq o) (b := rsl q t) (rsl_le hq) (by
        rcases e with e | e | e | e | e | e | e <;> subst e <;> exact h2)
      rcases e with e | e | e | e | e | e | e <;> subst e <;> exact congrArg (fun u => u ++ gyT z q t) r
    rw [hh]
    exact Rc.refl
  · have ep : pst o = cst o := by unfold pst; rw [if_neg c1]
    rw [ep]
    by_cases c2 : 19 ≤ o ∧ o ≤ 24
    · have : hdT o = [] := by unfold hdT; rw [if_neg (by omega), if_neg (by omega), if_pos c2]
      rw [this]
      exact Rc.refl
    · have : hdT o = [75] := by unfold hdT; rw [if_neg (by omega), if_neg (by omega), if_neg (by omega), if_pos (by omega)]
      rw [this]
      exact Rc.zero mst_75
/-- a sign between two operands -/
theorem sim_sign {x : Int} (hq : q ≤ 6) (hx : w k = x) (h1 : 1 ≤ lwx x) (h5 : lwx x ≤ 5) (hc : c < lwx x) (hr : lwx x ≤ rsl q os) : Rc w (gyR z q c os) k (gyW z q ((x + 1) :: os)) (k + 1) := by
  unfold gyR
  have hb := rsl_le (os := os) hq
  refine (rc_to (c := lwx x - 1) hb (by omega) (by omega) (by rw [hx]; omega)).trans ?_
  rw [rst_cons hb (by omega), show lwx x - 1 + 1 = lwx x by omega]
  have hd : ∀ (l : Nat) (ys : List Int), lwx x = l → l - 1 < 6 → ex (rsy (l - 1)) x = some (ys, 1) → (dlv (rsy (l - 1)) ys ≠ 1) → gyW z q ((x + 1) :: os) = ys ++ (rst l (rsl q os) ++ gyT z q os) → Rc w (rsy (lwx x - 1) :: rst (lwx x) (rsl q os) ++ gyT z q os) k (gyW z q ((x + 1) :: os)) (k + 1) := fun l ys e l6 he hv eg => by
    rw [e, eg]
    refine Rc.one (mst_n ?_ ?_ (by rw [hx]; exact he) (Or.inl hv))
    · unfold rsy; (repeat' split) <;> decide
    · unfold rsy; (repeat' split) <;> decide
  have ul : lwx x = lwx x := rfl
  conv at ul => rhs; unfold lwx
  by_cases c1 : 26 ≤ x ∧ x ≤ 28
  · rw [if_pos c1] at ul
    refine hd 1 [73, 72] ul (by decide) ?_ (by decide) ?_
    · show ex 72 x = _; rw [ex_72]; unfold ex72; rw [if_pos (by omega)]
    · have : x = 26 ∨ x = 27 ∨ x = 28 := by omega
      rcases this with e | e | e <;> subst e <;> rfl
  · rw [if_neg c1] at ul
    by_cases c2 : x = 24 ∨ x = 25
    · rw [if_pos c2] at ul
      refine hd 2 [71, 70] ul (by decide) ?_ (by decide) ?_
      · show ex 70 x = _; rw [ex_70]; unfold ex70; rw [if_pos c2]
      · rcases c2 with e | e <;> subst e <;> rfl
    · rw [if_neg c2] at ul
      by_cases c3 : 18 ≤ x ∧ x ≤ 23
      · rw [if_pos c3] at ul
        refine hd 3 [69] ul (by decide) ?_ (by decide) ?_
        · show ex 68 x = _; rw [ex_68]; unfold ex68; rw [if_pos c3]
        · have : x = 18 ∨ x = 19 ∨ x = 20 ∨ x = 21 ∨ x = 22 ∨ x = 23 := by omega
          rcases this with e | e | e | e | e | e <;> subst e <;> rfl
      · rw [if_neg c3] at ul
        by_cases c4 : x = 29
        · rw [if_pos c4] at ul
          refine hd 4 [67, 66] ul (by decide) ?_ (by decide) ?_
          · show ex 66 x = _; rw [ex_66]; unfold ex66; rw [if_pos c4]
          · subst c4; rfl
        · rw [if_neg c4] at ul
          by_cases c5 : x = 30
          · rw [if_pos c5] at ul
            refine hd 5 [65, 64] ul (by decide) ?_ (by decide) ?_
            · show ex 64 x = _; rw [ex_64]; unfold ex64; rw [if_pos c5]
            · subst c5; rfl
          · rw [if_neg c5] at ul
            split at ul <;> omega
theorem slv_62 (hq : q ≤ 6) (hw : woq q os) : slv (62 :: gyT z q os) = slv z + lvs os := by
  rw [show (62 : Int) :: gyT z q os = [62] ++ gyT z q os from rfl, slv_app, slv_T hq hw, show slv [62] = 0 by decide]
  omega
theorem rc_62 (h6 : rsl q os = 6) (hx : w k = 32) (hc : c ≤ 5) : Rc w (gyR z q c os) k (62 :: gyT z q os) k := by
  unfold gyR
  rw [h6]
  exact rc_to (b := 6) (c := 5) (by decide) hc (by decide) (Or.inr (by rw [hx]; decide))
theorem ex62_a {x : Int} (h : x = 32) : ex 62 x = some ([61, 33, 61, 75], 1) := by rw [ex_62]; unfold ex62; rw [if_pos h]
theorem sim_ask (hq : q ≤ 6) (hw : woq q os) (h6 : rsl q os = 6) (hx : w k = 32) (hc : c ≤ 5) (hl : slv z + lvs os < 40) : Rc w (gyR z q c os) k (gyW z q (33 :: os)) (k + 1) := by
  have e : gyW z q (33 :: os) = [61, 33, 61, 75] ++ gyT z q os := by
    show (61 : Int) :: ([33, 61, 75] ++ (rst 6 (rsl q os) ++ gyT z q os)) = _
    rw [h6]
    rfl
  rw [e]
  exact (rc_62 h6 hx hc).trans (Rc.one (mst_n (by decide) (by decide) (ex62_a hx) (Or.inr (by rw [slv_62 hq hw]; exact hl))))
theorem sim_ask_no (hq : q ≤ 6) (hw : woq q os) (h6 : rsl q os = 6) (hx : w k = 32) (hc : c ≤ 5) (hl : ¬ slv z + lvs os < 40) : Rf w (gyR z q c os) k k :=
  (rc_62 h6 hx hc).rf (Rf.of (mst_deep (t := 1) (by decide) (by decide) (ex62_a hx) (by decide) (by rw [slv_62 hq hw]; omega)))
/-- no sign goes on: all rests go -/
theorem sim_end (hq : q ≤ 6) (hl : lwx (w k) ≤ c ∨ rsl q os < lwx (w k)) : Rc w (gyR z q c os) k (gyT z q os) k := rc_drops (rsl_le hq) _ c rfl hl
theorem sim_close {o : Int} (ho : o = 37 ∨ o = 15 ∨ o = 16) (hx : w k = 37) : Rc w (gyT z q (o :: t)) k (gyR z q 0 t) (k + 1) := by
  have a37 : Rc w (37 :: 75 :: gyR z q 0 t) k (gyR z q 0 t) (k + 1) := (Rc.one (mst_t (by decide) hx.symm)).trans (Rc.zero (k := k + 1) mst_75)
  rcases ho with e | e | e <;> subst e
  · exact a37
  · exact (Rc.zero (mst_n (y := 74) (ys := []) (by decide) (by decide) (by rw [ex_74]; unfold ex74; rw [if_neg (by omega)]) (Or.inl (by decide)))).trans a37
  · exact (Rc.zero (mst_n (y := 74) (ys := []) (by decide) (by decide) (by rw [ex_74]; unfold ex74; rw [if_neg (by omega)]) (Or.inl (by decide)))).trans a37
theorem sim_comma {o : Int} (ho : o = 15 ∨ o = 16) (hx : w k = 35) : Rc w (gyT z q (o :: t)) k (gyW z q (o :: t)) (k + 1) := by
  rcases ho with e | e <;> subst e
  · exact Rc.one (mst_n (y := 74) (ys := [61, 74]) (by decide) (by decide) (by rw [ex_74]; unfold ex74; rw [if_pos hx]) (Or.inl (by decide)))
  · exact Rc.one (mst_n (y := 74) (ys := [61, 74]) (by decide) (by decide) (by rw [ex_74]; unfold ex74; rw [if_pos hx]) (Or.inl (by decide)))
theorem sim_colon (hx : w k = 33) : Rc w (gyT z q (33 :: t)) k (gyW z q (42 :: t)) (k + 1) := Rc.one (mst_t (y := 33) (by decide) hx.symm)
theorem sim_close_no {o : Int} (ho : o = 37 ∨ o = 15 ∨ o = 16 ∨ o = 33) (h1 : o = 37 → w k ≠ 37) (h2 : o = 15 ∨ o = 16 → w k ≠ 37 ∧ w k ≠ 35) (h3 : o = 33 → w k ≠ 33) : Rf w (gyT z q (o :: t)) k k := by
  rcases ho with e | e | e | e
  · subst e
    exact Rf.of (mst_tn (y := 37) (by decide) (fun c => h1 rfl c.symm))
  · have h := h2 (Or.inl e)
    subst e
    exact (Rc.zero (mst_n (y := 74) (ys := []) (by decide) (by decide) (by rw [ex_74]; unfold ex74; rw [if_neg h.2]) (Or.inl (by decide)))).rf (Rf.of (mst_tn (y := 37) (by decide) (fun c => h.1 c.symm)))
  · have h := h2 (Or.inr e)
    subst e
    exact (Rc.zero (mst_n (y := 74) (ys := []) (by decide) (by decide) (by rw [ex_74]; unfold ex74; rw [if_neg h.2]) (Or.inl (by decide)))).rf (Rf.of (mst_tn (y := 37) (by decide) (fun c => h.1 c.symm)))
  · subst e
    exact Rf.of (mst_tn (y := 33) (by decide) (fun c => h3 rfl c.symm))
/-- a second comparison is refused wherever it stands -/
theorem sim_dead (hq : q ≤ 6) (hx : lwx (w k) = 3) (hz : Rf w z k k) : ∀ {os : List Int} {c : Nat}, woq q os → 3 ≤ c → c ≤ rsl q os → Rf w (gyR z q c os) k k
  | [], c, _, h3, hc => (sim_end (os := []) hq (Or.inl (by omega))).rf hz
  | o :: t, c, hw, h3, hc => by
    have hc : c ≤ rsq o := hc
    have hb := (sim_end (z := z) (os := o :: t) (w := w) (k := k) (c := c) hq (Or.inl (by omega)))
    have hx35 : w k ≠ 35 ∧ w k ≠ 37 ∧ w k ≠ 33 := by
      unfold lwx at hx
      refine ⟨?_, ?_, ?_⟩ <;> intro e <;> rw [e] at hx <;> exact absurd hx (by decide)
    obtain ⟨h1, h2, hw'⟩ := hw
    by_cases d1 : o = 37 ∨ o = 15 ∨ o = 16 ∨ o = 33
    · exact hb.rf (sim_close_no d1 (fun _ => hx35.2.1) (fun _ => ⟨hx35.2.1, hx35.1⟩) (fun _ => hx35.2.2))
    · have e : o = 41 ∨ o = 42 ∨ o = 30 ∨ o = 31 := by
        unfold opq at h1
        unfold rsq at hc
        (repeat' split at hc) <;> omega
      refine hb.rf ?_
      rcases e with e | e | e | e <;> subst e
      · exact (Rc.zero (st := 75 :: gyR z q 3 t) mst_75).rf (sim_dead hq hx hz hw' (by decide) h2)
      · exact (Rc.zero (st := 75 :: gyR z q 6 t) mst_75).rf (sim_dead hq hx hz hw' (by decide) h2)
      · exact (rc_drop (S := gyR z q 4 t) (c := 3) (by decide) (by omega)).rf (sim_dead hq hx hz hw' (by decide) h2)
      · exact (rc_drop (S := gyR z q 5 t) (c := 4) (by decide) (by omega)).rf (sim_dead hq hx hz hw' (by decide) h2)
end SM
