/-! The grammar as a machine over words: its steps, what it reaches, what it refuses. -/
/-- levels that are open -/
def slv (st : List Int) : Int := (c75 st : Int) - c76 st
/-- one step before the word x: none if it is refused; else the pile, and how many words were taken -/
def mst (x : Int) : List Int → Option (List Int × Nat)
  | [] => none
  | y :: r => if y = 75 then some (r, 0) else if y < 50 then (if y = x then some (r, 1) else none) else
    match ex y x with
    | none => none
    | some u => if dlv y u.1 = 1 ∧ 40 ≤ slv (y :: r) then none else some (u.1 ++ r, u.2)
section MA
variable {w : Nat → Int} {x y : Int} {r st : List Int} {k : Nat}
theorem mst_c : mst x (y :: r) = if y = 75 then some (r, 0) else if y < 50 then (if y = x then some (r, 1) else none) else
    match ex y x with
    | none => none
    | some u => if dlv y u.1 = 1 ∧ 40 ≤ slv (y :: r) then none else some (u.1 ++ r, u.2) := rfl
theorem mst_75 : mst x (75 :: r) = some (r, 0) := by rw [mst_c, if_pos rfl]
theorem mst_t (h : y < 50) (e : y = x) : mst x (y :: r) = some (r, 1) := by rw [mst_c, if_neg (by omega), if_pos h, if_pos e]
theorem mst_tn (h : y < 50) (e : y ≠ x) : mst x (y :: r) = none := by rw [mst_c, if_neg (by omega), if_pos h, if_neg e]
theorem mst_n (h : 50 ≤ y) (h5 : y ≠ 75) {ys : List Int} {t : Nat} (he : ex y x = some (ys, t)) (hd : dlv y ys ≠ 1 ∨ slv (y :: r) < 40) : mst x (y :: r) = some (ys ++ r, t) := by
  rw [mst_c, if_neg h5, if_neg (by omega), he]
  show (if dlv y ys = 1 ∧ 40 ≤ slv (y :: r) then none else some (ys ++ r, t)) = some (ys ++ r, t)
  rw [if_neg (by omega)]
theorem mst_no (h : 50 ≤ y) (h5 : y ≠ 75) (he : ex y x = none) : mst x (y :: r) = none := by
  rw [mst_c, if_neg h5, if_neg (by omega), he]
theorem mst_deep (h : 50 ≤ y) (h5 : y ≠ 75) {ys : List Int} {t : Nat} (he : ex y x = some (ys, t)) (hd : dlv y ys = 1) (hl : 40 ≤ slv (y :: r)) : mst x (y :: r) = none := by
  rw [mst_c, if_neg h5, if_neg (by omega), he]
  show (if dlv y ys = 1 ∧ 40 ≤ slv (y :: r) then none else some (ys ++ r, t)) = none
  rw [if_pos ⟨hd, hl⟩]
/-- n steps from the pile st at word k -/
def mit (w : Nat → Int) : Nat → List Int → Nat → Option (List Int × Nat)
  | 0, st, k => some (st, k)
  | n + 1, st, k => match mst (w k) st with
    | none => none
    | some u => mit w n u.1 (k + u.2)
/-- the machine comes from here to there -/
def Rc (w : Nat → Int) (st : List Int) (k : Nat) (st' : List Int) (k' : Nat) : Prop := ∃ n, mit w n st k = some (st', k')
/-- it refuses word q -/
def Rf (w : Nat → Int) (st : List Int) (k q : Nat) : Prop := ∃ st', Rc w st k st' q ∧ st' ≠ [] ∧ mst (w q) st' = none
theorem mit_s {n : Nat} {st1 : List Int} {t : Nat} (h : mst (w k) st = some (st1, t)) : mit w (n + 1) st k = mit w n st1 (k + t) := by
  show (match mst (w k) st with | none => none | some u => mit w n u.1 (k + u.2)) = _
  rw [h]
theorem mit_add {m : Nat} : ∀ (n : Nat) {st st1 : List Int} {k k1 : Nat}, mit w n st k = some (st1, k1) → mit w (n + m) st k = mit w m st1 k1
  | 0, st, st1, k, k1, h => by
    have e : (some (st, k) : Option (List Int × Nat)) = some (st1, k1) := h
    injection e with e
    injection e with e1 e2
    rw [← e1, ← e2, Nat.zero_add]
  | n + 1, st, st1, k, k1, h => by
    rw [show n + 1 + m = (n + m) + 1 by omega]
    cases q : mst (w k) st with
    | none =>
      have : mit w (n + 1) st k = none := by
        show (match mst (w k) st with | none => none | some u => mit w n u.1 (k + u.2)) = _
        rw [q]
      rw [this] at h
      cases h
    | some u =>
      obtain ⟨a, b⟩ := u
      rw [mit_s q] at h ⊢
      exact mit_add n h
theorem Rc.refl : Rc w st k st k := ⟨0, rfl⟩
theorem Rc.one {st1 : List Int} {t : Nat} (h : mst (w k) st = some (st1, t)) : Rc w st k st1 (k + t) := ⟨1, by rw [mit_s h]; rfl⟩
theorem Rc.zero {st1 : List Int} (h : mst (w k) st = some (st1, 0)) : Rc w st k st1 k := Rc.one h
theorem Rc.trans {s1 s2 : List Int} {k1 k2 : Nat} (h1 : Rc w st k s1 k1) (h2 : Rc w s1 k1 s2 k2) : Rc w st k s2 k2 := by
  obtain ⟨n, h1⟩ := h1
  obtain ⟨m, h2⟩ := h2
  exact ⟨n + m, by rw [mit_add n h1]; exact h2⟩
theorem Rf.of (h : mst (w k) (y :: r) = none) : Rf w (y :: r) k k := ⟨y :: r, Rc.refl, by simp, h⟩
theorem Rc.rf {s1 : List Int} {k1 q : Nat} (h : Rc w st k s1 k1) (f : Rf w s1 k1 q) : Rf w st k q := by
  obtain ⟨s, a, b⟩ := f
  exact ⟨s, h.trans a, b⟩
theorem mit_stop {m : Nat} (h : mst (w k) st = none) {u : List Int × Nat} (q : mit w m st k = some u) : m = 0 := by
  cases m with
  | zero => rfl
  | succ m =>
    have : mit w (m + 1) st k = none := by
      show (match mst (w k) st with | none => none | some u => mit w m u.1 (k + u.2)) = _
      rw [h]
    rw [this] at q
    cases q
/-- where it stops is one place -/
theorem Rc.same {s1 s2 : List Int} {k1 k2 : Nat} (h1 : Rc w st k s1 k1) (e1 : mst (w k1) s1 = none) (h2 : Rc w st k s2 k2) (e2 : mst (w k2) s2 = none) : s1 = s2 ∧ k1 = k2 := by
  obtain ⟨n, h1⟩ := h1
  obtain ⟨m, h2⟩ := h2
  by_cases c : n ≤ m
  · have q := mit_add (m := m - n) n h1
    rw [show n + (m - n) = m by omega, h2] at q
    have z := mit_stop e1 q.symm
    rw [z] at q
    have e : (some (s2, k2) : Option (List Int × Nat)) = some (s1, k1) := q
    injection e with e
    injection e with a b
    exact ⟨a.symm, b.symm⟩
  · have q := mit_add (m := n - m) m h2
    rw [show m + (n - m) = n by omega, h1] at q
    have z := mit_stop e2 q.symm
    omega
theorem Rf.same {q1 q2 : Nat} (h1 : Rf w st k q1) (h2 : Rf w st k q2) : q1 = q2 := by
  obtain ⟨s1, a1, -, c1⟩ := h1
  obtain ⟨s2, a2, -, c2⟩ := h2
  exact (a1.same c1 a2 c2).2
theorem Rf.not {q k1 : Nat} (h1 : Rf w st k q) (h2 : Rc w st k [] k1) : False := by
  obtain ⟨s1, a1, b1, c1⟩ := h1
  exact b1 (a1.same c1 h2 rfl).1
end MA
/-! THE CLASS'S OPEN OPERATIONS, and the pile that belongs to them. Operations by the class's numbers, the latest first. -/
/-- how strong an operand may stand behind an operation -/
def rsq (o : Int) : Nat := if o = 40 ∨ (27 ≤ o ∧ o ≤ 29) then 0 else if o = 25 ∨ o = 26 then 1 else if 19 ≤ o ∧ o ≤ 24 then 2 else if o = 41 ∨ o = 30 then 3 else if o = 31 then 4 else 6
/-- how strong it makes what it joins -/
def cst (o : Int) : Nat := if 27 ≤ o ∧ o ≤ 29 then 1 else if o = 25 ∨ o = 26 then 2 else if (19 ≤ o ∧ o ≤ 24) ∨ o = 41 then 3 else if o = 30 then 4 else if o = 31 then 5 else if o = 33 ∨ o = 42 then 6 else 0
/-- what is wanted behind its operand -/
def hdT (o : Int) : List Int := if 27 ≤ o ∧ o ≤ 29 then [72] else if o = 25 ∨ o = 26 then [70] else if 19 ≤ o ∧ o ≤ 24 then [] else if o = 41 ∨ o = 40 ∨ o = 42 then [75] else if o = 30 then [66] else if o = 31 then [64] else if o = 37 then [37, 75] else if o = 15 ∨ o = 16 then [74, 37, 75] else [33, 61, 75]
def cdq (o : Int) : Nat := if o = 15 ∨ o = 16 ∨ o = 33 ∨ o = 37 ∨ o = 40 ∨ o = 41 ∨ o = 42 then 1 else 0
def opq (o : Int) : Prop := o = 15 ∨ o = 16 ∨ (19 ≤ o ∧ o ≤ 31) ∨ o = 33 ∨ o = 37 ∨ o = 40 ∨ o = 41 ∨ o = 42
def rsl (q : Nat) : List Int → Nat
  | [] => q
  | o :: _ => rsq o
/-- the rests from strength a up to b -/
def rst (a b : Nat) : List Int := ([72, 70, 68, 66, 64, 62].take b).drop a
/-- what stands below the operand that is read or wanted; z below the rule, q its strength -/
def gyT (z : List Int) (q : Nat) : List Int → List Int
  | [] => z
  | o :: t => hdT o ++ (rst (cst o) (rsl q t) ++ gyT z q t)
def gyR (z : List Int) (q c : Nat) (os : List Int) : List Int := rst c (rsl q os) ++ gyT z q os
def ntq (c : Nat) : Int := if c = 0 then 73 else if c = 1 then 71 else if c = 2 then 69 else if c = 3 then 67 else if c = 4 then 65 else if c = 5 then 63 else 61
/-- an operand is wanted -/
def gyW (z : List Int) (q : Nat) (os : List Int) : List Int := ntq (rsl q os) :: gyT z q os
/-- operations stand one above another as they may -/
def woq (q : Nat) : List Int → Prop
  | [] => True
  | o :: t => opq o ∧ cst o ≤ rsl q t ∧ woq q t
def lvs : List Int → Nat
  | [] => 0
  | o :: t => cdq o + lvs t
/-- how strong the operation of a word is -/
def lwx (x : Int) : Nat := if 26 ≤ x ∧ x ≤ 28 then 1 else if x = 24 ∨ x = 25 then 2 else if 18 ≤ x ∧ x ≤ 23 then 3 else if x = 29 then 4 else if x = 30 then 5 else if x = 32 then 6 else 0
def rsy (c : Nat) : Int := if c = 0 then 72 else if c = 1 then 70 else if c = 2 then 68 else if c = 3 then 66 else if c = 4 then 64 else 62
section MB
variable {w : Nat → Int} {S z : List Int} {k q : Nat} {os t : List Int} {o : Int}
theorem rst_cons {a b : Nat} (hb : b ≤ 6) (h : a < b) : rst a b = rsy a :: rst (a + 1) b := by
  have g : b = 1 ∨ b = 2 ∨ b = 3 ∨ b = 4 ∨ b = 5 ∨ b = 6 := by omega
  have e : a = 0 ∨ a = 1 ∨ a = 2 ∨ a = 3 ∨ a = 4 ∨ a = 5 := by omega
  rcases e with e | e | e | e | e | e <;> rcases g with g | g | g | g | g | g <;> first | omega | (rw [e, g]; rfl)
theorem rst_nil {a b : Nat} (h : b ≤ a) : rst a b = [] := by
  unfold rst
  exact List.drop_eq_nil_of_le (by rw [List.length_take]; omega)
theorem rsq_le (o : Int) : rsq o ≤ 6 := by unfold rsq; (repeat' split) <;> omega
theorem cst_le (o : Int) : cst o ≤ 6 := by unfold cst; (repeat' split) <;> omega
theorem rsl_le (hq : q ≤ 6) : rsl q os ≤ 6 := by
  cases os with
  | nil => exact hq
  | cons o t => exact rsq_le o
theorem gyT_c : gyT z q (o :: t) = hdT o ++ gyR z q (cst o) t := rfl
/-- a rest that no word goes on with -/
theorem rc_drop {c : Nat} (hc : c < 6) (h : lwx (w k) ≠ c + 1) : Rc w (rsy c :: S) k S k := by
  have e : c = 0 ∨ c = 1 ∨ c = 2 ∨ c = 3 ∨ c = 4 ∨ c = 5 := by omega
  unfold lwx at h
  rcases e with e | e | e | e | e | e <;> subst e
  · exact Rc.zero (mst_n (y := 72) (ys := []) (by decide) (by decide) (by rw [ex_72]; unfold ex72; rw [if_neg (by intro c; rw [if_pos (by omega)] at h; omega)]) (Or.inl (by decide)))
  · exact Rc.zero (mst_n (y := 70) (ys := []) (by decide) (by decide) (by rw [ex_70]; unfold ex70; rw [if_neg (by intro c; rw [if_neg (by omega), if_pos (by omega)] at h; omega)]) (Or.inl (by decide)))
  · exact Rc.zero (mst_n (y := 68) (ys := []) (by decide) (by decide) (by rw [ex_68]; unfold ex68; rw [if_neg (by intro c; rw [if_neg (by omega), if_neg (by omega), if_pos (by omega)] at h; omega)]) (Or.inl (by decide)))
  · exact Rc.zero (mst_n (y := 66) (ys := []) (by decide) (by decide) (by rw [ex_66]; unfold ex66; rw [if_neg (by intro c; rw [if_neg (by omega), if_neg (by omega), if_neg (by omega), if_pos (by omega)] at h; omega)]) (Or.inl (by decide)))
  · exact Rc.zero (mst_n (y := 64) (ys := []) (by decide) (by decide) (by rw [ex_64]; unfold ex64; rw [if_neg (by intro c; rw [if_neg (by omega), if_neg (by omega), if_neg (by omega), if_neg (by omega), if_pos (by omega)] at h; omega)]) (Or.inl (by decide)))
  · exact Rc.zero (mst_n (y := 62) (ys := []) (by decide) (by decide) (by rw [ex_62]; unfold ex62; rw [if_neg (by intro c; rw [if_neg (by omega), if_neg (by omega), if_neg (by omega), if_neg (by omega), if_neg (by omega), if_pos (by omega)] at h; omega)]) (Or.inl (by decide)))
theorem rc_drops {b : Nat} (hb : b ≤ 6) : ∀ (n a : Nat), b - a = n → (lwx (w k) ≤ a ∨ b < lwx (w k)) → Rc w (rst a b ++ S) k S k
  | 0, a, h, _ => by rw [rst_nil (by omega)]; exact Rc.refl
  | n + 1, a, h, hl => by
    rw [rst_cons hb (by omega)]
    exact (rc_drop (S := rst (a + 1) b ++ S) (by omega) (by omega)).trans (rc_drops hb n (a + 1) (by omega) (by omega))
theorem rc_to {a b c : Nat} (hb : b ≤ 6) (hac : a ≤ c) (hcb : c ≤ b) (hl : lwx (w k) ≤ a ∨ c < lwx (w k)) : Rc w (rst a b ++ S) k (rst c b ++ S) k := by
  have e : rst a b = rst a c ++ rst c b := by
    have h : ∀ n a, c - a = n → a ≤ c → rst a b = rst a c ++ rst c b := by
      intro n
      induction n with
      | zero => intro a h1 h2; rw [rst_nil (a := a) (b := c) (by omega), show a = c by omega]; rfl
      | succ n ih => intro a h1 h2; rw [rst_cons (a := a) hb (by omega), rst_cons (a := a) (b := c) (by omega) (by omega), ih (a + 1) (by omega) (by omega)]; rfl
    exact h _ a rfl hac
  rw [e, List.append_assoc]
  exact rc_drops (by omega) _ a rfl hl
/-- the wanted sign comes down -/
theorem rc_desc1 {c : Nat} (hc : c < 6) (h : w k ≠ 31 ∨ c ≠ 2) : Rc w (ntq (c + 1) :: S) k (ntq c :: rsy c :: S) k := by
  have e : c = 0 ∨ c = 1 ∨ c = 2 ∨ c = 3 ∨ c = 4 ∨ c = 5 := by omega
  rcases e with e | e | e | e | e | e <;> subst e
  · exact Rc.zero (mst_n (y := 71) (ys := [73, 72]) (by decide) (by decide) rfl (Or.inl (by decide)))
  · exact Rc.zero (mst_n (y := 69) (ys := [71, 70]) (by decide) (by decide) rfl (Or.inl (by decide)))
  · exact Rc.zero (mst_n (y := 67) (ys := [69, 68]) (by decide) (by decide) (by rw [ex_67]; unfold ex67; rw [if_neg (by omega)]) (Or.inl (by decide)))
  · exact Rc.zero (mst_n (y := 65) (ys := [67, 66]) (by decide) (by decide) rfl (Or.inl (by decide)))
  · exact Rc.zero (mst_n (y := 63) (ys := [65, 64]) (by decide) (by decide) rfl (Or.inl (by decide)))
  · exact Rc.zero (mst_n (y := 61) (ys := [63, 62]) (by decide) (by decide) rfl (Or.inl (by decide)))
theorem rc_desc {a : Nat} : ∀ (n b : Nat), b - a = n → a ≤ b → b ≤ 6 → (w k ≠ 31 ∨ 3 ≤ a ∨ b ≤ 2) → ∀ S, Rc w (ntq b :: S) k (ntq a :: (rst a b ++ S)) k
  | 0, b, h, h1, _, _, S => by rw [rst_nil (by omega), show b = a by omega]; exact Rc.refl
  | n + 1, b, h, h1, h6, hx, S => by
    have e := rc_desc1 (w := w) (k := k) (S := S) (c := b - 1) (by omega) (by omega)
    rw [show b - 1 + 1 = b by omega] at e
    refine e.trans ?_
    have r := rc_desc (a := a) n (b - 1) (by omega) (by omega) (by omega) (by omega) (rsy (b - 1) :: S)
    have hh : rst a (b - 1) ++ rsy (b - 1) :: S = rst a b ++ S := by
      have g : ∀ m a, b - 1 - a = m → a ≤ b - 1 → rst a b = rst a (b - 1) ++ [rsy (b - 1)] := by
        intro m
        induction m with
        | zero => intro a p1 p2; rw [rst_nil (a := a) (b := b - 1) (by omega), show a = b - 1 by omega, rst_cons h6 (by omega), rst_nil (by omega)]; rfl
        | succ m ih => intro a p1 p2; rw [rst_cons (a := a) h6 (by omega), rst_cons (a := a) (b := b - 1) (by omega) (by omega), ih (a + 1) (by omega) (by omega)]; rfl
      rw [g _ a rfl (by omega), List.append_assoc]
      rfl
    rw [hh] at r
    exact r
theorem slv_app (u v : List Int) : slv (u ++ v) = slv u + slv v := by unfold slv; rw [c75_app, c76_app]; omega
theorem slv_rst {b : Nat} (hb : b ≤ 6) : ∀ (n a : Nat), b - a = n → slv (rst a b) = 0
  | 0, a, h => by rw [rst_nil (by omega)]; rfl
  | n + 1, a, h => by
    rw [rst_cons hb (by omega), show rsy a :: rst (a + 1) b = [rsy a] ++ rst (a + 1) b from rfl, slv_app, slv_rst hb n (a + 1) (by omega)]
    have e : a = 0 ∨ a = 1 ∨ a = 2 ∨ a = 3 ∨ a = 4 ∨ a = 5 := by omega
    rcases e with e | e | e | e | e | e <;> subst e <;> decide
theorem slv_hdT {o : Int} (h : opq o) : slv (hdT o) = cdq o := by
  unfold opq at h
  unfold hdT cdq
  by_cases c1 : 27 ≤ o ∧ o ≤ 29
  · rw [if_pos c1, if_neg (by omega)]; decide
  · rw [if_neg c1]
    by_cases c2 : o = 25 ∨ o = 26
    · rw [if_pos c2, if_neg (by omega)]; decide
    · rw [if_neg c2]
      by_cases c3 : 19 ≤ o ∧ o ≤ 24
      · rw [if_pos c3, if_neg (by omega)]; decide
      · rw [if_neg c3]
        by_cases c4 : o = 41 ∨ o = 40 ∨ o = 42
        · rw [if_pos c4, if_pos (by omega)]; decide
        · rw [if_neg c4]
          by_cases c5 : o = 30
          · rw [if_pos c5, if_neg (by omega)]; decide
          · rw [if_neg c5]
            by_cases c6 : o = 31
            · rw [if_pos c6, if_neg (by omega)]; decide
            · rw [if_neg c6]
              by_cases c7 : o = 37
              · rw [if_pos c7, if_pos (by omega)]; decide
              · rw [if_neg c7]
                by_cases c8 : o = 15 ∨ o = 16
                · rw [if_pos c8, if_pos (by omega)]; decide
                · rw [if_neg c8, if_pos (by omega)]; decide
theorem slv_T (hq : q ≤ 6) : ∀ {os : List Int}, woq q os → slv (gyT z q os) = slv z + lvs os
  | [], _ => by show slv z = slv z + ((0 : Nat) : Int); omega
  | o :: t, h => by
    rw [gyT_c, slv_app, slv_hdT h.1]
    unfold gyR
    rw [slv_app, slv_rst (rsl_le hq) _ _ rfl, slv_T hq h.2.2]
    show _ = slv z + ((cdq o + lvs t : Nat) : Int)
    omega
theorem slv_R {c : Nat} (hq : q ≤ 6) (h : woq q os) : slv (gyR z q c os) = slv z + lvs os := by
  unfold gyR
  rw [slv_app, slv_rst (rsl_le hq) _ _ rfl, slv_T hq h]
  omega
theorem slv_nt {c : Nat} {S : List Int} : slv (ntq c :: S) = slv S := by
  rw [show ntq c :: S = [ntq c] ++ S from rfl, slv_app]
  have : slv [ntq c] = 0 := by unfold ntq; (repeat' split) <;> decide
  omega
theorem slv_W (hq : q ≤ 6) (h : woq q os) : slv (gyW z q os) = slv z + lvs os := by unfold gyW; rw [slv_nt, slv_T hq h]
end MB
