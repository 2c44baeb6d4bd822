section
/-! The class's reader of texts, exactly: words and names. -/
section TXA
variable {W pl nq : Nat → Int} {sm : Nat → Nat → Prop} {M M' : mM} {r T A B D n c p : Nat} {nms : List nm9}
/-- the class's words are W at pl, numbers nq, spelt alike sm -/
def WTq (M : mM) (T A B D n : Nat) (W pl nq : Nat → Int) (sm : Nat → Nat → Prop) : Prop := (∀ j, j ≤ n → (0 ≤ W j ∧ W j ≤ 39) ∧ mI M A j = csq (W j) ∧ mI M B j = pl j) ∧ (∀ v, v < n → W v = 2 → mI M D v = nq v ∧ 0 ≤ nq v ∧ nq v ≤ 999999999) ∧ ∀ v x, v < n → x < n → W v = 1 → W x = 1 → (sm x v ↔ swq M T B D v x)
theorem WTq.cg (h : WTq M T A B D n W pl nq sm) (hT : mI M' T = mI M T) (hA : mI M' A = mI M A) (hB : mI M' B = mI M B) (hD : mI M' D = mI M D) : WTq M' T A B D n W pl nq sm := by
  unfold WTq swq at h ⊢
  rw [hT, hA, hB, hD]
  exact h
/-- a name in the class's numbers -/
def srt9 (s : Nat) : Int := if s = 1 then 4 else if s = 2 then 7 else 5
/-- the class's tables are the names nms -/
def CT (M : mM) (r p : Nat) (nms : List nm9) : Prop := mI M r 19 = nms.length ∧ ∀ (i : Nat) (e : nm9), nms[i]? = some e → mI M (r + 6) i = e.1 ∧ mI M (r + 7) i = srt9 e.2.1 ∧ (1 ≤ e.2.1 ∧ e.2.1 ≤ 3) ∧ mI M (r + 9) i = e.2.2.1 ∧ (e.2.1 = 1 → vgd e.2.2.1 e.2.2.2 ∧ ∃ x : Nat, mI M (r + 8) i = x ∧ x < 60 ∧ (1 ≤ mI M (p + 7) x ∧ mI M (p + 7) x < 1000000000) ∧ e.2.2.2 = (0, mI M (p + 6) x, mI M (p + 7) x)) ∧ (e.2.1 = 3 → ∀ (j : Nat) (e' : nm9), nms[j]? = some e' → e'.2.1 = 3 → mI M (r + 8) j = mI M (r + 8) i → j = i) ∧ mI M (r + 8) i = (if e.2.1 = 3 then ((vcn (nms.take i) : Nat) : Int) else ((rcn (nms.take i) : Nat) : Int))
theorem csq_w {x : Int} (h : 0 ≤ x ∧ x ≤ 39) : (csq x = 2 ↔ x = 1) ∧ (csq x = 0 ↔ x = 0) ∧ (∀ y : Int, 1 ≤ y → y ≤ 38 → (csq x = y + 1 ↔ x = y)) := by
  unfold csq
  refine ⟨?_, ?_, fun y y1 y2 => ?_⟩
  · split <;> (try split) <;> omega
  · split <;> (try split) <;> omega
  · split <;> (try split) <;> omega
/-- the first name that is spelt so -/
theorem CT.fnd (ct : CT M r p nms) (wt : WTq M T A B D n W pl nq sm) (hw : ∀ i, i < nms.length → ∃ v : Nat, mI M (r + 6) i = v ∧ v < n ∧ mI M A v = 2) {v : Nat} (hv : v < n) (h1 : W v = 1) : (nmn M r T B D nms.length v ∧ fnd9 sm nms v = none) ∨ ∃ (i : Nat) (e : nm9), fm M r T B D nms.length v i ∧ nms[i]? = some e ∧ fnd9 sm nms v = some e ∧ ∀ (j : Nat) (e' : nm9), j < i → nms[j]? = some e' → ¬ sm e'.1 v := by
  have at9 : ∀ {q : Nat} {e : nm9}, nms[q]? = some e → q < nms.length := fun {q e} z => (List.getElem?_eq_some_iff.mp z).1
  have same : ∀ {q : Nat} {e : nm9}, nms[q]? = some e → ((mI M (r + 6) q).toNat = e.1 ∧ (sm e.1 v ↔ swq M T B D v (mI M (r + 6) q).toNat)) := fun {q e} z => by
    obtain ⟨z1, -⟩ := ct.2 q e z
    obtain ⟨x, x1, x2, x3⟩ := hw q (at9 z)
    have ex : e.1 = x := by omega
    have wx : W e.1 = 1 := by
      rw [ex]
      obtain ⟨y1, y2, -⟩ := wt.1 x (by omega)
      exact (csq_w y1).1.mp (by rw [← y2]; exact x3)
    refine ⟨by rw [z1, Int.toNat_natCast], ?_⟩
    rw [z1, Int.toNat_natCast]
    exact wt.2.2 v e.1 hv (by omega) h1 wx
  by_cases c : ∃ i, i < nms.length ∧ swq M T B D v (mI M (r + 6) i).toNat
  · have fs : ∃ i, fm M r T B D nms.length v i := by
      obtain ⟨i, i1, i2⟩ := c
      have : ∀ (f k : Nat), k + f = i → (∀ j, j < k → ¬ swq M T B D v (mI M (r + 6) j).toNat) → ∃ i, fm M r T B D nms.length v i := by
        intro f
        induction f with
        | zero =>
          intro k hk hj
          have : k = i := by omega
          subst this
          exact ⟨k, i1, i2, hj⟩
        | succ f ih =>
          intro k hk hj
          by_cases c : swq M T B D v (mI M (r + 6) k).toNat
          · exact ⟨k, by omega, c, hj⟩
          · refine ih (k + 1) (by omega) (fun j hj2 => ?_)
            by_cases e : j = k
            · rw [e]; exact c
            · exact hj j (by omega)
      exact this i 0 (by omega) (fun j hj => by omega)
    obtain ⟨i, f1, f2, f3⟩ := fs
    obtain ⟨e, z⟩ : ∃ e, nms[i]? = some e := ⟨nms[i], List.getElem?_eq_getElem f1⟩
    refine Or.inr ⟨i, e, ⟨f1, f2, f3⟩, z, ?_, fun j e' hj zj y => f3 j hj ((same zj).2.mp y)⟩
    unfold fnd9
    rw [List.find?_eq_some_iff_getElem]
    refine ⟨by simp only [decide_eq_true_eq]; exact (same z).2.mpr f2, i, f1, by rw [List.getElem?_eq_getElem f1] at z; exact Option.some.inj z, fun j hj => ?_⟩
    have zj : nms[j]? = some nms[j] := List.getElem?_eq_getElem (by omega)
    have := f3 j hj
    simp only [Bool.not_eq_true', decide_eq_false_iff_not]
    exact fun y => this ((same zj).2.mp y)
  · have no : nmn M r T B D nms.length v := fun j hj y => c ⟨j, hj, y⟩
    refine Or.inl ⟨no, ?_⟩
    unfold fnd9
    rw [List.find?_eq_none]
    intro e he
    obtain ⟨i, z⟩ := List.mem_iff_getElem?.mp he
    simp only [decide_eq_true_eq]
    exact fun y => no i (at9 z) ((same z).2.mp y)
theorem fm_un {i j : Nat} (h : fm M r T B D c p i) (k : fm M r T B D c p j) : i = j := by
  obtain ⟨h1, h2, h3⟩ := h
  obtain ⟨k1, k2, k3⟩ := k
  rcases Nat.lt_trichotomy i j with d | d | d
  · exact absurd h2 (k3 i d)
  · exact d
  · exact absurd k2 (h3 j d)
/-- what reading a rule hangs on: kinds and orders of words -/
theorem uq_ex (wt : WTq M T A B D n W pl nq sm) (hw : ∀ i, i < c → ∃ v : Nat, mI M (r + 6) i = v ∧ v < n ∧ mI M A v = 2) {co : Int} (hco : mI M r 6 = co) : ∃ (E : Nat → Int) (Cf : Nat → Int × Int), (∀ rest, UQ (W, E, pl, Cf, rest) M r T A B D n c) ∧ (∀ v, n ≤ v → Cf v = (3, 0)) ∧ (CT M r p nms → nms.length = c → (E = E9 sm nms (if co = 0 then 0 else 1) ∧ ∀ v, v < n → (W v = 2 → Cf v = (3, nq v)) ∧ (W v = 12 → Cf v = (3, 1)) ∧ (W v = 13 → Cf v = (3, 0)) ∧ (W v = 1 → E v ≠ -1 → ∃ (i : Nat) (e : nm9), nms[i]? = some e ∧ fnd9 sm nms v = some e ∧ (co = 0 ∨ e.2.1 = 1) ∧ Cf v = (mI M (r + 7) i, mI M (r + 8) i) ∧ ∀ (j : Nat) (e' : nm9), j < i → nms[j]? = some e' → ¬ sm e'.1 v))) := by
  classical
  have wq : ∀ E Cf rest, WQ (W, E, pl, Cf, rest) M A B n := fun E Cf rest j hj => wt.1 j hj
  let fi : Nat → Option Nat := fun v => if h : ∃ i, fm M r T B D c v i then some (Classical.choose h) else none
  have fi_n : ∀ v, nmn M r T B D c v → fi v = none := fun v h => dif_neg (fun ⟨i, q⟩ => h i q.1 q.2.1)
  have fi_s : ∀ v i, fm M r T B D c v i → fi v = some i := fun v i h => by
    have h9 : ∃ i, fm M r T B D c v i := ⟨i, h⟩
    show (if h : ∃ i, fm M r T B D c v i then some (Classical.choose h) else none) = some i
    rw [dif_pos h9]
    exact congrArg some (fm_un (Classical.choose_spec h9) h)
  let Cf : Nat → Int × Int := fun v => if n ≤ v then (3, 0) else if W v = 2 then (3, nq v) else if W v = 12 then (3, 1) else if W v = 13 then (3, 0) else match fi v with
    | none => (3, 0)
    | some i => if mI M r 6 ≠ 0 ∧ mI M (r + 7) i ≠ 4 then (3, 0) else (mI M (r + 7) i, mI M (r + 8) i)
  let E0 : Nat → Int := fun v => match fi v with
    | none => -1
    | some i => if mI M r 6 ≠ 0 ∧ mI M (r + 7) i ≠ 4 then -1 else mI M (r + 9) i
  have cf1 : ∀ v, v < n → W v = 1 → Cf v = match fi v with
    | none => (3, 0)
    | some i => if mI M r 6 ≠ 0 ∧ mI M (r + 7) i ≠ 4 then (3, 0) else (mI M (r + 7) i, mI M (r + 8) i) := fun v hv h1 => by
    show (if n ≤ v then _ else _) = _
    rw [if_neg (by omega), if_neg (by omega), if_neg (by omega), if_neg (by omega)]
  have cf2 : ∀ v, v < n → (W v = 2 → Cf v = (3, nq v)) ∧ (W v = 12 → Cf v = (3, 1)) ∧ (W v = 13 → Cf v = (3, 0)) := fun v hv => by
    refine ⟨fun h => ?_, fun h => ?_, fun h => ?_⟩
    · show (if n ≤ v then _ else _) = _
      rw [if_neg (by omega), if_pos h]
    · show (if n ≤ v then _ else _) = _
      rw [if_neg (by omega), if_neg (by omega), if_pos h]
    · show (if n ≤ v then _ else _) = _
      rw [if_neg (by omega), if_neg (by omega), if_neg (by omega), if_pos h]
  have uqE : ∀ E : Nat → Int, (∀ v, v < n → W v = 1 → E v = E0 v) → ∀ rest, UQ (W, E, pl, Cf, rest) M r T A B D n c := fun E hE rest => by
    refine ⟨wq _ _ _, fun v hv => ⟨fun h => ?_, fun h => (cf2 v hv).2.1 h, fun h => (cf2 v hv).2.2 h, fun h => ⟨fun q => ⟨?_, ?_⟩, fun i q => ⟨fun y => ⟨?_, ?_⟩, fun y => ⟨?_, ?_⟩⟩⟩⟩⟩
    · show Cf v = (3, mI M D v)
      rw [(cf2 v hv).1 h, (wt.2.1 v hv h).1]
    · show E v = -1
      rw [hE v hv h]
      show (match fi v with | none => (-1 : Int) | some i => _) = -1
      rw [fi_n v q]
    · show Cf v = (3, 0)
      rw [cf1 v hv h, fi_n v q]
    · show E v = -1
      rw [hE v hv h]
      show (match fi v with | none => (-1 : Int) | some i => if mI M r 6 ≠ 0 ∧ mI M (r + 7) i ≠ 4 then -1 else mI M (r + 9) i) = -1
      rw [fi_s v i q]
      exact if_pos y
    · show Cf v = (3, 0)
      rw [cf1 v hv h, fi_s v i q]
      exact if_pos y
    · show E v = mI M (r + 9) i
      rw [hE v hv h]
      show (match fi v with | none => (-1 : Int) | some i => if mI M r 6 ≠ 0 ∧ mI M (r + 7) i ≠ 4 then -1 else mI M (r + 9) i) = _
      rw [fi_s v i q]
      exact if_neg y
    · show Cf v = (mI M (r + 7) i, mI M (r + 8) i)
      rw [cf1 v hv h, fi_s v i q]
      exact if_neg y
  have big : ∀ v, n ≤ v → Cf v = (3, 0) := fun v hv => if_pos hv
  by_cases hc : CT M r p nms ∧ nms.length = c
  · obtain ⟨ct, hl⟩ := hc
    have srt : ∀ {i : Nat} {e : nm9}, nms[i]? = some e → (mI M (r + 7) i ≠ 4 ↔ e.2.1 ≠ 1) := fun {i e} z => by
      obtain ⟨-, z2, z3, -⟩ := ct.2 i e z
      rw [z2]
      unfold srt9
      split
      · rename_i y; simp [y]
      · rename_i y
        split <;> simp [y]
    have eE : ∀ v, v < n → W v = 1 → E9 sm nms (if co = 0 then 0 else 1) v = E0 v := fun v hv h1 => by
      rcases ct.fnd wt (by rw [hl]; exact hw) hv h1 with ⟨q1, q2⟩ | ⟨i, e, q1, q2, q3, q4⟩
      · rw [hl] at q1
        unfold E9
        rw [q2]
        show (-1 : Int) = match fi v with | none => (-1 : Int) | some i => if mI M r 6 ≠ 0 ∧ mI M (r + 7) i ≠ 4 then -1 else mI M (r + 9) i
        rw [fi_n v q1]
      · rw [hl] at q1
        unfold E9
        rw [q3]
        show (if (if co = 0 then (0 : Int) else 1) = 1 ∧ e.2.1 ≠ 1 then (-1 : Int) else e.2.2.1) = match fi v with | none => (-1 : Int) | some i => if mI M r 6 ≠ 0 ∧ mI M (r + 7) i ≠ 4 then -1 else mI M (r + 9) i
        rw [fi_s v i q1]
        obtain ⟨-, -, -, z4, -⟩ := ct.2 i e q2
        have sr := srt q2
        show _ = if mI M r 6 ≠ 0 ∧ mI M (r + 7) i ≠ 4 then (-1 : Int) else mI M (r + 9) i
        rw [hco, z4]
        by_cases c0 : co = 0
        · rw [if_pos c0, if_neg (fun y => absurd y.1 (by decide)), if_neg (fun y => y.1 c0)]
        · rw [if_neg c0]
          by_cases c1 : e.2.1 ≠ 1
          · rw [if_pos ⟨rfl, c1⟩, if_pos ⟨c0, sr.mpr c1⟩]
          · rw [if_neg (fun y => c1 y.2), if_neg (fun y => c1 (sr.mp y.2))]
    refine ⟨E9 sm nms (if co = 0 then 0 else 1), Cf, uqE _ eE, big, fun _ _ => ⟨rfl, fun v hv => ⟨(cf2 v hv).1, (cf2 v hv).2.1, (cf2 v hv).2.2, fun h1 hne => ?_⟩⟩⟩
    rcases ct.fnd wt (by rw [hl]; exact hw) hv h1 with ⟨q1, q2⟩ | ⟨i, e, q1, q2, q3, q4⟩
    · unfold E9 at hne
      rw [q2] at hne
      exact absurd rfl hne
    · rw [hl] at q1
      unfold E9 at hne
      rw [q3] at hne
      have ne : ¬ ((if co = 0 then (0 : Int) else 1) = 1 ∧ e.2.1 ≠ 1) := fun y => hne (if_pos y)
      have no : ¬ (mI M r 6 ≠ 0 ∧ mI M (r + 7) i ≠ 4) := fun y => ne ⟨by rw [if_neg (by rw [← hco]; exact y.1)], (srt q2).mp y.2⟩
      refine ⟨i, e, q2, q3, ?_, ?_, q4⟩
      · by_cases c0 : co = 0
        · exact Or.inl c0
        · rw [if_neg c0] at ne
          exact Or.inr (Classical.byContradiction (fun y => ne ⟨rfl, y⟩))
      · rw [cf1 v hv h1, fi_s v i q1]
        exact if_neg no
  · refine ⟨E0, Cf, uqE E0 (fun _ _ _ => rfl), big, fun ct hl => absurd ⟨ct, hl⟩ hc⟩
end TXA
end
section
/-! The class's program tells the game: where the orders of its rules lie. -/
/-- the orders of words; r the names that are known -/
def LfC (W nq : Nat → Int) (sm : Nat → Nat → Prop) (n : Nat) (r : List nm9) (ec : Nat → Int × Int) : Prop := (∀ k, n ≤ k → ec k = (3, 0)) ∧ ∀ k, k < n → (W k = 2 → ec k = (3, nq k)) ∧ (W k = 12 → ec k = (3, 1)) ∧ (W k = 13 → ec k = (3, 0)) ∧ (W k = 1 → ∀ l1 e l2, r = l1 ++ e :: l2 → sm e.1 k → (∀ e', e' ∈ l1 → ¬ sm e'.1 k) → ec k = (srt9 e.2.1, if e.2.1 = 3 then ((vcn l1 : Nat) : Int) else ((rcn l1 : Nat) : Int)))
/-- a rule's orders begin at s -/
def RuC (M : mM) (O P L : Nat) (W pl nq : Nat → Int) (sm : Nat → Nat → Prop) (n : Nat) (ns : Nat → Int) (ef : Nat → Nat) (nms : List nm9) (i j s : Nat) : Prop := ∃ (r l : List nm9) (ec : Nat → Int × Int) (e : Nat), nms = r ++ l ∧ Eo W 6 i j ∧ j ≤ n ∧ (fl W (E9 sm r 0) pl 0 i j).1 = 0 ∧ LfC W nq sm n r ec ∧ (∀ x, x < rcn r → ns x = 7 → ef x < s) ∧ Cd W ec pl (mI M O) (mI M P) 0 0 0 i j s e ∧ e < L ∧ mI M O e = 0
/-- the orders of sets: the var, its rule from i to j, the word whose place a fault tells; Φ what the words' orders are -/
def Scw (Φ : (Nat → Int × Int) → Prop) (w pl : Nat → Int) (O P : Nat → Int) : List (Nat × Nat × Nat × Nat) → Nat → Nat → Prop
  | [], s, e => s = e
  | q :: r, s, e => ∃ (a : Nat) (ec : Nat → Int × Int), Φ ec ∧ Cd w ec pl O P 0 0 0 q.2.1 q.2.2.1 s a ∧ O a = 43 ∧ P a = pl q.2.2.2 * 16 + (q.1 : Int) ∧ Scw Φ w pl O P r (a + 1) e
theorem Scw.le {Φ : (Nat → Int × Int) → Prop} {w pl O P : Nat → Int} : ∀ (l : List (Nat × Nat × Nat × Nat)) {s e : Nat}, Scw Φ w pl O P l s e → s ≤ e
  | [], _, _, h => Nat.le_of_eq h
  | q :: r, s, e, h => by
    obtain ⟨a, ec, -, c1, -, -, c2⟩ := h
    have l1 := c1.lt
    have l2 := Scw.le r c2
    omega
theorem Scw.cg {Φ : (Nat → Int × Int) → Prop} {w pl A B A' B' : Nat → Int} : ∀ (l : List (Nat × Nat × Nat × Nat)) {s e : Nat}, Scw Φ w pl A B l s e → (∀ t, s ≤ t → t < e → A' t = A t ∧ B' t = B t) → Scw Φ w pl A' B' l s e
  | [], s, e, h, _ => h
  | q :: r, s, e, h, c => by
    obtain ⟨a, ec, hφ, c1, c2, c3, c4⟩ := h
    have l1 := c1.lt
    have l2 := Scw.le r c4
    exact ⟨a, ec, hφ, c1.cg (fun t t1 t2 => c t t1 (by omega)), by rw [(c a (by omega) (by omega)).1]; exact c2, by rw [(c a (by omega) (by omega)).2]; exact c3, Scw.cg r c4 (fun t t1 t2 => c t (by omega) t2)⟩
/-- one set more -/
theorem Scw.add {Φ : (Nat → Int × Int) → Prop} {w pl O P : Nat → Int} {q : Nat × Nat × Nat × Nat} {a : Nat} {ec : Nat → Int × Int} (hφ : Φ ec) : ∀ (l : List (Nat × Nat × Nat × Nat)) {s e : Nat}, Scw Φ w pl O P l s e → Cd w ec pl O P 0 0 0 q.2.1 q.2.2.1 e a → O a = 43 → P a = pl q.2.2.2 * 16 + (q.1 : Int) → Scw Φ w pl O P (l ++ [q]) s (a + 1)
  | [], s, e, h, c1, c2, c3 => by
    have h : s = e := h
    subst h
    exact ⟨a, ec, hφ, c1, c2, c3, rfl⟩
  | q' :: r, s, e, h, c1, c2, c3 => by
    obtain ⟨a', ec', hφ', d1, d2, d3, d4⟩ := h
    exact ⟨a', ec', hφ', d1, d2, d3, Scw.add hφ r d4 c1 c2 c3⟩
/-- the orders of a branch's sets begin at s -/
def SeC (M : mM) (O P L V : Nat) (W pl nq : Nat → Int) (sm : Nat → Nat → Prop) (n : Nat) (ns : Nat → Int) (ef : Nat → Nat) (nms : List nm9) (l : List (Nat × Nat × Nat × Nat)) (s : Nat) : Prop := ∃ (r l' : List nm9) (e : Nat), nms = r ++ l' ∧ (∀ q, q ∈ l → Eo W 6 q.2.1 q.2.2.1 ∧ q.2.2.1 ≤ n ∧ (fl W (E9 sm r 0) pl 0 q.2.1 q.2.2.1).1 = 0 ∧ q.1 < V ∧ 0 ≤ pl q.2.2.2 ∧ pl q.2.2.2 ≤ 16384) ∧ (∀ x, x < rcn r → ns x = 7 → ef x < s) ∧ Scw (LfC W nq sm n r) W pl (mI M O) (mI M P) l s e ∧ e < L ∧ mI M O e = 0
/-- consts and formulas lie in the program -/
def FmC (M : mM) (p O P L : Nat) (W pl nq : Nat → Int) (sm : Nat → Nat → Prop) (N n : Nat) (ns : Nat → Int) (sf ef : Nat → Nat) (nms : List nm9) : Prop := ∀ l1 e l2, nms = l1 ++ e :: l2 → e.2.1 ≠ 3 → ns (rcn l1) = srt9 e.2.1 ∧ (e.2.1 = 1 → e.2.2.2 = (0, mI M (p + 6) (rcn l1), mI M (p + 7) (rcn l1)) ∧ 1 ≤ mI M (p + 7) (rcn l1) ∧ mI M (p + 7) (rcn l1) < 1000000000) ∧ (e.2.1 = 2 → mI M (p + 8) (rcn l1) = ((sf (rcn l1) : Nat) : Int) ∧ sf (rcn l1) < ef (rcn l1) ∧ ef (rcn l1) < L ∧ mI M O (ef (rcn l1)) = 0 ∧ (∀ y, y < rcn l1 → ns y = 7 → ef y < sf (rcn l1)) ∧ ∃ ec, LfC W nq sm n l1 ec ∧ Cd W ec pl (mI M O) (mI M P) 0 0 0 (e.1 + 2) (nxq W 34 N e.1) (sf (rcn l1)) (ef (rcn l1)))
/-- the vars' ranges are sound -/
def VrO (nms : List nm9) (lo hi : Nat → Int) : Prop := ∀ l1 e l2, nms = l1 ++ e :: l2 → e.2.1 = 3 → ((lo (vcn l1)).natAbs ≤ 999999999 ∧ (hi (vcn l1)).natAbs ≤ 999999999) ∧ (e.2.2.1 = 1 → lo (vcn l1) = 0 ∧ hi (vcn l1) = 1)
/-- a command in the program -/
def CmC (M : mM) (p O P L V : Nat) (W pl nq : Nat → Int) (sm : Nat → Nat → Prop) (n : Nat) (ns : Nat → Int) (ef : Nat → Nat) (nms : List nm9) (c : Nat) (cm : cm9) : Prop := mI M (p + 9) c = cm.1 ∧ (cm.1 = 1 ∨ cm.1 = 2) ∧ mI M (p + 10) c = cm.2.1 ∧ (∃ s : Nat, mI M (p + 11) c = ((s : Nat) : Int) ∧ RuC M O P L W pl nq sm n ns ef nms cm.2.2.1.1 cm.2.2.1.2 s) ∧ ∃ u v : Nat, mI M (p + 12) c = ((u : Nat) : Int) ∧ mI M (p + 12) (c + 1) = ((v : Nat) : Int) ∧ (u ≤ v ∧ v ≤ u + 8 ∧ v ≤ 480) ∧ cm.2.2.2.length = v - u ∧ ∀ (b : Nat) (x : br9), cm.2.2.2[b]? = some x → mI M (p + 13) (u + b) = x.1 ∧ (∃ s : Nat, mI M (p + 14) (u + b) = ((s : Nat) : Int) ∧ RuC M O P L W pl nq sm n ns ef nms x.2.1.1 x.2.1.2 s) ∧ ∃ s : Nat, mI M (p + 15) (u + b) = ((s : Nat) : Int) ∧ SeC M O P L V W pl nq sm n ns ef nms x.2.2 s
/-- the program tells the game: its target, its commands -/
def PGx (M : mM) (p O P L V cnt : Nat) (W pl nq : Nat → Int) (sm : Nat → Nat → Prop) (n : Nat) (ns : Nat → Int) (ef : Nat → Nat) (nms : List nm9) (tg : Nat × Nat) (cms : List cm9) : Prop := VrO nms (mI M (p + 3)) (mI M (p + 4)) ∧ SgO (mI M (p + 5)) nms ∧ (∃ s : Nat, mI M p 11 = ((s : Nat) : Int) ∧ RuC M O P L W pl nq sm n ns ef nms tg.1 tg.2 s) ∧ cms.length = cnt ∧ ∀ (c : Nat) (cm : cm9), cms[c]? = some cm → CmC M p O P L V W pl nq sm n ns ef nms c cm
section PRG
variable {p O P L L' V n N : Nat} {M0 M M' : mM} {ns ns' : Nat → Int} {sf ef ef' : Nat → Nat} {W pl nq : Nat → Int} {sm : Nat → Nat → Prop} {nms : List nm9}
theorem FmC.cg (h : FmC M0 p O P L W pl nq sm N n ns sf ef nms) (e6 : mI M (p + 6) = mI M0 (p + 6)) (e7 : mI M (p + 7) = mI M0 (p + 7)) (e8 : mI M (p + 8) = mI M0 (p + 8)) (eO : mI M O = mI M0 O) (eP : mI M P = mI M0 P) : FmC M p O P L W pl nq sm N n ns sf ef nms := by
  unfold FmC
  rw [e6, e7, e8, eO, eP]
  exact h
theorem srt_7 {s : Nat} (h : srt9 s = 7) : s = 2 := by
  unfold srt9 at h
  by_cases y : s = 1
  · rw [if_pos y] at h; exact absurd h (by decide)
  · rw [if_neg y] at h
    by_cases y2 : s = 2
    · exact y2
    · rw [if_neg y2] at h; exact absurd h (by decide)
/-- code is the same below L -/
def cdE (O P L : Nat) (M M' : mM) : Prop := ∀ i, i < L → mI M' O i = mI M O i ∧ mI M' P i = mI M P i
theorem RuC.step {i j s : Nat} {l9 : List nm9} (h : RuC M O P L W pl nq sm n ns ef nms i j s) (c : cdE O P L M M') (hL : L ≤ L') (e : ∀ x, x < rcn nms → ns' x = ns x ∧ ef' x = ef x) : RuC M' O P L' W pl nq sm n ns' ef' (nms ++ l9) i j s := by
  obtain ⟨r, l, ec, e9, u1, u2, u3, u4, u5, u6, u7, u8, u9⟩ := h
  have rl : rcn nms = rcn r + rcn l := by rw [u1, rcn_app]
  exact ⟨r, l ++ l9, ec, e9, by rw [u1, List.append_assoc], u2, u3, u4, u5, fun x hx h7 => by
    rw [(e x (by omega)).1] at h7
    rw [(e x (by omega)).2]
    exact u6 x hx h7, u7.cg (fun t _ t2 => c t (by omega)), by omega, by rw [(c e9 (by omega)).1]; exact u9⟩
theorem SeC.step {l9 : List nm9} {V' s : Nat} {l : List (Nat × Nat × Nat × Nat)} (h : SeC M O P L V W pl nq sm n ns ef nms l s) (c : cdE O P L M M') (hL : L ≤ L') (hV : V ≤ V') (e : ∀ x, x < rcn nms → ns' x = ns x ∧ ef' x = ef x) : SeC M' O P L' V' W pl nq sm n ns' ef' (nms ++ l9) l s := by
  obtain ⟨r, l', e9, u1, u2, u6, u7, u8, u9⟩ := h
  have rl : rcn nms = rcn r + rcn l' := by rw [u1, rcn_app]
  exact ⟨r, l' ++ l9, e9, by rw [u1, List.append_assoc], fun q hq => ⟨(u2 q hq).1, (u2 q hq).2.1, (u2 q hq).2.2.1, by have := (u2 q hq).2.2.2.1; omega, (u2 q hq).2.2.2.2⟩, fun x hx h7 => by
    rw [(e x (by omega)).1] at h7
    rw [(e x (by omega)).2]
    exact u6 x hx h7, Scw.cg l u7 (fun t _ t2 => c t (by omega)), by omega, by rw [(c e9 (by omega)).1]; exact u9⟩
end PRG
end
