/-! The class's reader of texts, exactly: words and names. -/
section TXA
variable {W pl nq : Nat → Int} {sm : Nat → Nat → Prop} {M M' : mM} {r T A B D n c p : Nat} {nms : List nm9}
/-- the class's words are W at pl, numbers nq, spelt alike sm -/
def WTq (M : mM) (T A B D n : Nat) (W pl nq : Nat → Int) (sm : Nat → Nat → Prop) : Prop := (∀ j, j ≤ n → (0 ≤ W j ∧ W j ≤ 39) ∧ mI M A j = csq (W j) ∧ mI M B j = pl j) ∧ (∀ v, v < n → W v = 2 → mI M D v = nq v ∧ 0 ≤ nq v ∧ nq v ≤ 999999999) ∧ ∀ v x, v < n → x < n → W v = 1 → W x = 1 → (sm x v ↔ swq M T B D v x)
theorem WTq.cg (h : WTq M T A B D n W pl nq sm) (hT : mI M' T = mI M T) (hA : mI M' A = mI M A) (hB : mI M' B = mI M B) (hD : mI M' D = mI M D) : WTq M' T A B D n W pl nq sm := by
  unfold WTq swq at h ⊢
  rw [hT, hA, hB, hD]
  exact h
/-- a name in the class's numbers -/
def srt9 (s : Nat) : Int := if s = 1 then 4 else if s = 2 then 7 else 5
/-- the class's tables are the names nms -/
def CT (M : mM) (r p : Nat) (nms : List nm9) : Prop := mI M r 19 = nms.length ∧ ∀ (i : Nat) (e : nm9), nms[i]? = some e → mI M (r + 6) i = e.1 ∧ mI M (r + 7) i = srt9 e.2.1 ∧ (1 ≤ e.2.1 ∧ e.2.1 ≤ 3) ∧ mI M (r + 9) i = e.2.2.1 ∧ (e.2.1 = 1 → vgd e.2.2.1 e.2.2.2 ∧ ∃ x : Nat, mI M (r + 8) i = x ∧ x < 60 ∧ (1 ≤ mI M (p + 7) x ∧ mI M (p + 7) x < 1000000000) ∧ e.2.2.2 = (0, mI M (p + 6) x, mI M (p + 7) x)) ∧ (e.2.1 = 3 → ∀ (j : Nat) (e' : nm9), nms[j]? = some e' → e'.2.1 = 3 → mI M (r + 8) j = mI M (r + 8) i → j = i) ∧ mI M (r + 8) i = (if e.2.1 = 3 then ((vcn (nms.take i) : Nat) : Int) else ((rcn (nms.take i) : Nat) : Int))
theorem csq_w {x : Int} (h : 0 ≤ x ∧ x ≤ 39) : (csq x = 2 ↔ x = 1) ∧ (csq x = 0 ↔ x = 0) ∧ (∀ y : Int, 1 ≤ y → y ≤ 38 → (csq x = y + 1 ↔ x = y)) := by
  unfold csq
  refine ⟨?_, ?_, fun y y1 y2 => ?_⟩
  · split <;> (try split) <;> omega
  · split <;> (try split) <;> omega
  · split <;> (try split) <;> omega
/-- the first name that is spelt so -/
theorem CT.fnd (ct : CT M r p nms) (wt : WTq M T A B D n W pl nq sm) (hw : ∀ i, i < nms.length → ∃ v : Nat, mI M (r + 6) i = v ∧ v < n ∧ mI M A v = 2) {v : Nat} (hv : v < n) (h1 : W v = 1) : (nmn M r T B D nms.length v ∧ fnd9 sm nms v = none) ∨ ∃ (i : Nat) (e : nm9), fm M r T B D nms.length v i ∧ nms[i]? = some e ∧ fnd9 sm nms v = some e ∧ ∀ (j : Nat) (e' : nm9), j < i → nms[j]? = some e' → ¬ sm e'.1 v := by
  have at9 : ∀ {q : Nat} {e : nm9}, nms[q]? = some e → q < nms.length := fun {q e} z => (List.getElem?_eq_some_iff.mp z).1
  have same : ∀ {q : Nat} {e : nm9}, nms[q]? = some e → ((mI M (r + 6) q).toNat = e.1 ∧ (sm e.1 v ↔ swq M T B D v (mI M (r + 6) q).toNat)) := fun {q e} z => by
    obtain ⟨z1, -⟩ := ct.2 q e z
    obtain ⟨x, x1, x2, x3⟩ := hw q (at9 z)
    have ex : e.1 = x := by omega
    have wx : W e.1 = 1 := by
      rw [ex]
      obtain ⟨y1, y2, -⟩ := wt.1 x (by omega)
      exact (csq_w y1).1.mp (by rw [← y2]; exact x3)
    refine ⟨by rw [z1, Int.toNat_natCast], ?_⟩
    rw [z1, Int.toNat_natCast]
    exact wt.2.2 v e.1 hv (by omega) h1 wx
  by_cases c : ∃ i, i < nms.length ∧ swq M T B D v (mI M (r + 6) i).toNat
  · have fs : ∃ i, fm M r T B D nms.length v i := by
      obtain ⟨i, i1, i2⟩ := c
      have : ∀ (f k : Nat), k + f = i → (∀ j, j < k → ¬ swq M T B D v (mI M (r + 6) j).toNat) → ∃ i, fm M r T B D nms.length v i := by
        intro f
        induction f with
        | zero =>
          intro k hk hj
          have : k = i := by omega
          subst this
          exact ⟨k, i1, i2, hj⟩
        | succ f ih =>
          intro k hk hj
          by_cases c : swq M T B D v (mI M (r + 6) k).toNat
          · exact ⟨k, by omega, c, hj⟩
          · refine ih (k + 1) (by omega) (fun j hj2 => ?_)
            by_cases e : j = k
            · rw [e]; exact c
            · exact hj j (by omega)
      exact this i 0 (by omega) (fun j hj => by omega)
    obtain ⟨i, f1, f2, f3⟩ := fs
    obtain ⟨e, z⟩ : ∃ e, nms[i]? = some e := ⟨nms[i], List.getElem?_eq_getElem f1⟩
    refine Or.inr ⟨i, e, ⟨f1, f2, f3⟩, z, ?_, fun j e' hj zj y => f3 j hj ((same zj).2.mp y)⟩
    unfold fnd9
    rw [List.find?_eq_some_iff_getElem]
    refine ⟨by simp only [decide_eq_true_eq]; exact (same z).2.mpr f2, i, f1, by rw [List.getElem?_eq_getElem f1] at z; exact Option.some.inj z, fun j hj => ?_⟩
    have zj : nms[j]? = some nms[j] := List.getElem?_eq_getElem (by omega)
    have := f3 j hj
    simp only [Bool.not_eq_true', decide_eq_false_iff_not]
    exact fun y => this ((same zj).2.mp y)
  · have no : nmn M r T B D nms.length v := fun j hj y => c ⟨j, hj, y⟩
    refine Or.inl ⟨no, ?_⟩
    unfold fnd9
    rw [List.find?_eq_none]
    intro e he
    obtain ⟨i, z⟩ := List.mem_iff_getElem?.mp he
    simp only [decide_eq_true_eq]
    exact fun y => no i (at9 z) ((same z).2.mp y)
theorem fm_un {i j : Nat} (h : fm M r T B D c p i) (k : fm M r T B D c p j) : i = j := by
  obtain ⟨h1, h2, h3⟩ := h
  obtain ⟨k1, k2, k3⟩ := k
  rcases Nat.lt_trichotomy i j with d | d | d
  · exact absurd h2 (k3 i d)
  · exact d
  · exact absurd k2 (h3 j d)
/-- what reading a rule hangs on: kinds and orders of words -/
theorem uq_ex (wt : WTq M T A B D n W pl nq sm) (hw : ∀ i, i < c → ∃ v : Nat, mI M (r + 6) i = v ∧ v < n ∧ mI M A v = 2) {co : Int} (hco : mI M r 6 = co) : ∃ (E : Nat → Int) (Cf : Nat → Int × Int), (∀ rest, UQ (W, E, pl, Cf, rest) M r T A B D n c) ∧ (∀ v, n ≤ v → Cf v = (3, 0)) ∧ (CT M r p nms → nms.length = c → (E = E9 sm nms (if co = 0 then 0 else 1) ∧ ∀ v, v < n → (W v = 2 → Cf v = (3, nq v)) ∧ (W v = 12 → Cf v = (3, 1)) ∧ (W v = 13 → Cf v = (3, 0)) ∧ (W v = 1 → E v ≠ -1 → ∃ (i : Nat) (e : nm9), nms[i]? = some e ∧ fnd9 sm nms v = some e ∧ (co = 0 ∨ e.2.1 = 1) ∧ Cf v = (mI M (r + 7) i, mI M (r + 8) i) ∧ ∀ (j : Nat) (e' : nm9), j < i → nms[j]? = some e' → ¬ sm e'.1 v))) := by
  classical
  have wq : ∀ E Cf rest, WQ (W, E, pl, Cf, rest) M A B n := fun E Cf rest j hj => wt.1 j hj
  let fi : Nat → Option Nat := fun v => if h : ∃ i, fm M r T B D c v i then some (Classical.choose h) else none
  have fi_n : ∀ v, nmn M r T B D c v → fi v = none := fun v h => dif_neg (fun ⟨i, q⟩ => h i q.1 q.2.1)
  have fi_s : ∀ v i, fm M r T B D c v i → fi v = some i := fun v i h => by
    have h9 : ∃ i, fm M r T B D c v i := ⟨i, h⟩
    show (if h : ∃ i, fm M r T B D c v i then some (Classical.choose h) else none) = some i
    rw [dif_pos h9]
    exact congrArg some (fm_un (Classical.choose_spec h9) h)
  let Cf : Nat → Int × Int := fun v => if n ≤ v then (3, 0) else if W v = 2 then (3, nq v) else if W v = 12 then (3, 1) else if W v = 13 then (3, 0) else match fi v with
    | none => (3, 0)
    | some i => if mI M r 6 ≠ 0 ∧ mI M (r + 7) i ≠ 4 then (3, 0) else (mI M (r + 7) i, mI M (r + 8) i)
  let E0 : Nat → Int := fun v => match fi v with
    | none => -1
    | some i => if mI M r 6 ≠ 0 ∧ mI M (r + 7) i ≠ 4 then -1 else mI M (r + 9) i
  have cf1 : ∀ v, v < n → W v = 1 → Cf v = match fi v with
    | none => (3, 0)
    | some i => if mI M r 6 ≠ 0 ∧ mI M (r + 7) i ≠ 4 then (3, 0) else (mI M (r + 7) i, mI M (r + 8) i) := fun v hv h1 => by
    show (if n ≤ v then _ else _) = _
    rw [if_neg (by omega), if_neg (by omega), if_neg (by omega), if_neg (by omega)]
  have cf2 : ∀ v, v < n → (W v = 2 → Cf v = (3, nq v)) ∧ (W v = 12 → Cf v = (3, 1)) ∧ (W v = 13 → Cf v = (3, 0)) := fun v hv => by
    refine ⟨fun h => ?_, fun h => ?_, fun h => ?_⟩
    · show (if n ≤ v then _ else _) = _
      rw [if_neg (by omega), if_pos h]
    · show (if n ≤ v then _ else _) = _
      rw [if_neg (by omega), if_neg (by omega), if_pos h]
    · show (if n ≤ v then _ else _) = _
      rw [if_neg (by omega), if_neg (by omega), if_neg (by omega), if_pos h]
  have uqE : ∀ E : Nat → Int, (∀ v, v < n → W v = 1 → E v = E0 v) → ∀ rest, UQ (W, E, pl, Cf, rest) M r T A B D n c := fun E hE rest => by
    refine ⟨wq _ _ _, fun v hv => ⟨fun h => ?_, fun h => (cf2 v hv).2.1 h, fun h => (cf2 v hv).2.2 h, fun h => ⟨fun q => ⟨?_, ?_⟩, fun i q => ⟨fun y => ⟨?_, ?_⟩, fun y => ⟨?_, ?_⟩⟩⟩⟩⟩
    · show Cf v = (3, mI M D v)
      rw [(cf2 v hv).1 h, (wt.2.1 v hv h).1]
    · show E v = -1
      rw [hE v hv h]
      show (match fi v with | none => (-1 : Int) | some i => _) = -1
      rw [fi_n v q]
    · show Cf v = (3, 0)
      rw [cf1 v hv h, fi_n v q]
    · show E v = -1
      rw [hE v hv h]
      show (match fi v with | none => (-1 : Int) | some i => if mI M r 6 ≠ 0 ∧ mI M (r + 7) i ≠ 4 then -1 else mI M (r + 9) i) = -1
      rw [fi_s v i q]
      exact if_pos y
    · show Cf v = (3, 0)
      rw [cf1 v hv h, fi_s v i q]
      exact if_pos y
    · show E v = mI M (r + 9) i
      rw [hE v hv h]
      show (match fi v with | none => (-1 : Int) | some i => if mI M r 6 ≠ 0 ∧ mI M (r + 7) i ≠ 4 then -1 else mI M (r + 9) i) = _
      rw [fi_s v i q]
      exact if_neg y
    · show Cf v = (mI M (r + 7) i, mI M (r + 8) i)
      rw [cf1 v hv h, fi_s v i q]
      exact if_neg y
  have big : ∀ v, n ≤ v → Cf v = (3, 0) := fun v hv => if_pos hv
  by_cases hc : CT M r p nms ∧ nms.length = c
  · obtain ⟨ct, hl⟩ := hc
    have srt : ∀ {i : Nat} {e : nm9}, nms[i]? = some e → (mI M (r + 7) i ≠ 4 ↔ e.2.1 ≠ 1) := fun {i e} z => by
      obtain ⟨-, z2, z3, -⟩ := ct.2 i e z
      rw [z2]
      unfold srt9
      split
      · rename_i y; simp [y]
      · rename_i y
        split <;> simp [y]
    have eE : ∀ v, v < n → W v = 1 → E9 sm nms (if co = 0 then 0 else 1) v = E0 v := fun v hv h1 => by
      rcases ct.fnd wt (by rw [hl]; exact hw) hv h1 with ⟨q1, q2⟩ | ⟨i, e, q1, q2, q3, q4⟩
      · rw [hl] at q1
        unfold E9
        rw [q2]
        show (-1 : Int) = match fi v with | none => (-1 : Int) | some i => if mI M r 6 ≠ 0 ∧ mI M (r + 7) i ≠ 4 then -1 else mI M (r + 9) i
        rw [fi_n v q1]
      · rw [hl] at q1
        unfold E9
        rw [q3]
        show (if (if co = 0 then (0 : Int) else 1) = 1 ∧ e.2.1 ≠ 1 then (-1 : Int) else e.2.2.1) = match fi v with | none => (-1 : Int) | some i => if mI M r 6 ≠ 0 ∧ mI M (r + 7) i ≠ 4 then -1 else mI M (r + 9) i
        rw [fi_s v i q1]
        obtain ⟨-, -, -, z4, -⟩ := ct.2 i e q2
        have sr := srt q2
        show _ = if mI M r 6 ≠ 0 ∧ mI M (r + 7) i ≠ 4 then (-1 : Int) else mI M (r + 9) i
        rw [hco, z4]
        by_cases c0 : co = 0
        · rw [if_pos c0, if_neg (fun y => absurd y.1 (by decide)), if_neg (fun y => y.1 c0)]
        · rw [if_neg c0]
          by_cases c1 : e.2.1 ≠ 1
          · rw [if_pos ⟨rfl, c1⟩, if_pos ⟨c0, sr.mpr c1⟩]
          · rw [if_neg (fun y => c1 y.2), if_neg (fun y => c1 (sr.mp y.2))]
    refine ⟨E9 sm nms (if co = 0 then 0 else 1), Cf, uqE _ eE, big, fun _ _ => ⟨rfl, fun v hv => ⟨(cf2 v hv).1, (cf2 v hv).2.1, (cf2 v hv).2.2, fun h1 hne => ?_⟩⟩⟩
    rcases ct.fnd wt (by rw [hl]; exact hw) hv h1 with ⟨q1, q2⟩ | ⟨i, e, q1, q2, q3, q4⟩
    · unfold E9 at hne
      rw [q2] at hne
      exact absurd rfl hne
    · rw [hl] at q1
      unfold E9 at hne
      rw [q3] at hne
      have ne : ¬ ((if co = 0 then (0 : Int) else 1) = 1 ∧ e.2.1 ≠ 1) := fun y => hne (if_pos y)
      have no : ¬ (mI M r 6 ≠ 0 ∧ mI M (r + 7) i ≠ 4) := fun y => ne ⟨by rw [if_neg (by rw [← hco]; exact y.1)], (srt q2).mp y.2⟩
      refine ⟨i, e, q2, q3, ?_, ?_, q4⟩
      · by_cases c0 : co = 0
        · exact Or.inl c0
        · rw [if_neg c0] at ne
          exact Or.inr (Classical.byContradiction (fun y => ne ⟨rfl, y⟩))
      · rw [cf1 v hv h1, fi_s v i q1]
        exact if_neg no
  · refine ⟨E0, Cf, uqE E0 (fun _ _ _ => rfl), big, fun ct hl => absurd ⟨ct, hl⟩ hc⟩
end TXA
