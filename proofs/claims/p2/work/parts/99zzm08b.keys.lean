section
section
/-! The keywords of class and reference, exactly. -/
section KYX
variable {G : mG}
/-- the kind of a name -/
def kwx (T : Nat → Int) (p e : Nat) : Int := kwq (wlq T p e)
theorem NSx.of (h : LT G) : NSx G kwx := fun d w T A B D N C p n M hO hw h1 h2 h3 => (s_Wo_nameSort h.1 h.2.1 hO hw h1 h3).mono (fun r M' q => ⟨q.1, q.2.1, by
  obtain ⟨-, ⟨r1, r2, r3⟩, r4⟩ := q
  show r = csq (kwq (wlq (mI M T) p (p + n)))
  unfold csq
  rw [if_neg (by omega), if_neg (by omega)]
  exact r4⟩)
theorem WKx.of (h : LT G) : WKx G kwx := fun d a f e M hO hw h1 h2 h3 h4 => s_MM_wordKind h.1 h.2.2 hO hw ⟨by omega, h1, h3⟩ h2
end KYX
end
section
/-! What a rule of consts is worth. A result: (0, a, b) is a over b (a truth: 1 or 0 over 1); (f, p, _) is the fault f at place p. -/
abbrev vrs : Type := Int × Int × Int
def vbd (v : vrs) (f : Int → Int → vrs) : vrs := if v.1 = 0 then f v.2.1 v.2.2 else v
/-- a fraction in least terms, if it is not too large -/
def vst (a b p : Int) : vrs := if 1000000000 ≤ a / (Int.gcd a b : Int) ∨ a / (Int.gcd a b : Int) ≤ -1000000000 ∨ 1000000000 ≤ b / (Int.gcd a b : Int) then (6, p, 0) else (0, a / (Int.gcd a b : Int), b / (Int.gcd a b : Int))
def vtr (p : Prop) [Decidable p] : vrs := if p then (0, 1, 1) else (0, 0, 1)
/-- a sign between two numbers -/
def vop (x a b c d p : Int) : vrs := if x = 24 then vst (a * d + c * b) (b * d) p else if x = 25 then vst (a * d - c * b) (b * d) p else if x = 26 then vst (a * c) (b * d) p else if x = 27 then (if c = 0 then (7, p, 0) else if 0 < c then vst (a * d) (b * c) p else vst (-(a * d)) (-(b * c)) p) else if x = 28 then (if b ≠ 1 ∨ d ≠ 1 then (8, p, 0) else if c ≤ 0 then (7, p, 0) else (0, a % c, 1)) else if x = 18 then vtr (a * d ≠ c * b) else if x = 19 then vtr (a * d ≤ c * b) else if x = 20 then vtr (c * b ≤ a * d) else if x = 21 then vtr (a * d < c * b) else if x = 22 then vtr (c * b < a * d) else vtr (a * d = c * b)
/-- the better of two: x = 14 the least, 15 the most -/
def vbs (x a b c d : Int) : vrs := if x = 14 then (if c * b < a * d then (0, c, d) else (0, a, b)) else (if a * d < c * b then (0, c, d) else (0, a, b))
noncomputable def vlq (w : Nat → Int) (cv : Nat → vrs) (pl : Nat → Int) (c : Nat) (x : Int) (i j : Nat) : vrs :=
  haveI := Classical.propDecidable (lin w i j)
  if hij : i < j then
    if hc : c = 1 then
      if hp : lcq w i (j - i) = 0 then vlq w cv pl 0 0 i j
      else vbd (vlq w cv pl 1 x i (i + lcq w i (j - i) - 1)) (fun a b => vbd (vlq w cv pl 0 0 (i + lcq w i (j - i)) j) (fun e f => vbs x a b e f))
    else if hm : lin w i j then
      if w (loq w i j) = 32 then vbd (vlq w cv pl 0 0 i (loq w i j)) (fun a _ => if a = 0 then vlq w cv pl 0 0 (clq w (loq w i j) j + 1) j else vlq w cv pl 0 0 (loq w i j + 1) (clq w (loq w i j) j))
      else if w (loq w i j) = 29 then vbd (vlq w cv pl 0 0 i (loq w i j)) (fun a b => if a = 0 then (0, a, b) else vlq w cv pl 0 0 (loq w i j + 1) j)
      else if w (loq w i j) = 30 then vbd (vlq w cv pl 0 0 i (loq w i j)) (fun a b => if a = 0 then vlq w cv pl 0 0 (loq w i j + 1) j else (0, a, b))
      else vbd (vlq w cv pl 0 0 i (loq w i j)) (fun a b => vbd (vlq w cv pl 0 0 (loq w i j + 1) j) (fun e f => vop (w (loq w i j)) a b e f (pl (loq w i j))))
    else if w i = 36 then vlq w cv pl 0 0 (i + 1) (j - 1)
    else if w i = 25 then vbd (vlq w cv pl 0 0 (i + 1) j) (fun a b => (0, -a, b))
    else if w i = 31 then vbd (vlq w cv pl 0 0 (i + 1) j) (fun a b => (0, 1 - a, b))
    else if w i = 14 ∨ w i = 15 then vlq w cv pl 1 (w i) (i + 2) (j - 1)
    else cv i
  else (0, 0, 1)
termination_by 2 * (j - i) + c
decreasing_by
  all_goals simp_wf
  all_goals have a1 := lcq_le (w := w) (i := i) (j - i)
  all_goals have a2 := clq_b (w := w) (m := loq w i j) (j := j)
  all_goals first | omega | (have a3 := hm.2; omega)
section VLQ
variable {w pl : Nat → Int} {cv : Nat → vrs} {i j m : Nat} {x : Int}
theorem vl_bin (h : lo w i j = (m : Int)) (h1 : i ≤ m) (h2 : m < j) (h3 : w m ≠ 32) (h4 : w m ≠ 29) (h5 : w m ≠ 30) : vlq w cv pl 0 x i j = vbd (vlq w cv pl 0 0 i m) (fun a b => vbd (vlq w cv pl 0 0 (m + 1) j) (fun e f => vop (w m) a b e f (pl m))) := by
  obtain ⟨a, b⟩ := lin_of h h1 h2
  rw [vlq, dif_pos (by omega), dif_neg (by decide), dif_pos a, b, if_neg h3, if_neg h4, if_neg h5]
theorem vl_and (h : lo w i j = (m : Int)) (h1 : i ≤ m) (h2 : m < j) (h3 : w m = 29) : vlq w cv pl 0 x i j = vbd (vlq w cv pl 0 0 i m) (fun a b => if a = 0 then (0, a, b) else vlq w cv pl 0 0 (m + 1) j) := by
  obtain ⟨a, b⟩ := lin_of h h1 h2
  rw [vlq, dif_pos (by omega), dif_neg (by decide), dif_pos a, b, if_neg (by omega), if_pos h3]
theorem vl_or (h : lo w i j = (m : Int)) (h1 : i ≤ m) (h2 : m < j) (h3 : w m = 30) : vlq w cv pl 0 x i j = vbd (vlq w cv pl 0 0 i m) (fun a b => if a = 0 then vlq w cv pl 0 0 (m + 1) j else (0, a, b)) := by
  obtain ⟨a, b⟩ := lin_of h h1 h2
  rw [vlq, dif_pos (by omega), dif_neg (by decide), dif_pos a, b, if_neg (by omega), if_neg (by omega), if_pos h3]
theorem vl_ask {q : Nat} (h : lo w i j = (m : Int)) (h1 : i ≤ m) (h2 : m < j) (h3 : w m = 32) (hq : clq w m j = q) : vlq w cv pl 0 x i j = vbd (vlq w cv pl 0 0 i m) (fun a _ => if a = 0 then vlq w cv pl 0 0 (q + 1) j else vlq w cv pl 0 0 (m + 1) q) := by
  obtain ⟨a, b⟩ := lin_of h h1 h2
  rw [vlq, dif_pos (by omega), dif_neg (by decide), dif_pos a, b, if_pos h3, hq]
theorem vl_par (h : lo w i j = -1) (hij : i < j) (h3 : w i = 36) : vlq w cv pl 0 x i j = vlq w cv pl 0 0 (i + 1) (j - 1) := by
  rw [vlq, dif_pos hij, dif_neg (by decide), dif_neg (lin_no h), if_pos h3]
theorem vl_neg (h : lo w i j = -1) (hij : i < j) (h3 : w i = 25) : vlq w cv pl 0 x i j = vbd (vlq w cv pl 0 0 (i + 1) j) (fun a b => (0, -a, b)) := by
  rw [vlq, dif_pos hij, dif_neg (by decide), dif_neg (lin_no h), if_neg (by omega), if_pos h3]
theorem vl_not (h : lo w i j = -1) (hij : i < j) (h3 : w i = 31) : vlq w cv pl 0 x i j = vbd (vlq w cv pl 0 0 (i + 1) j) (fun a b => (0, 1 - a, b)) := by
  rw [vlq, dif_pos hij, dif_neg (by decide), dif_neg (lin_no h), if_neg (by omega), if_neg (by omega), if_pos h3]
theorem vl_lst (h : lo w i j = -1) (hij : i < j) (h3 : w i = 14 ∨ w i = 15) : vlq w cv pl 0 x i j = vlq w cv pl 1 (w i) (i + 2) (j - 1) := by
  rw [vlq, dif_pos hij, dif_neg (by decide), dif_neg (lin_no h), if_neg (by omega), if_neg (by omega), if_neg (by omega), if_pos h3]
theorem vl_leaf (h : lo w i j = -1) (hij : i < j) (h3 : w i = 1 ∨ w i = 2 ∨ w i = 12 ∨ w i = 13) : vlq w cv pl 0 x i j = cv i := by
  rw [vlq, dif_pos hij, dif_neg (by decide), dif_neg (lin_no h), if_neg (by omega), if_neg (by omega), if_neg (by omega), if_neg (by omega)]
theorem vl_l1 (hij : i < j) (h : lcq w i (j - i) = 0) : vlq w cv pl 1 x i j = vlq w cv pl 0 0 i j := by
  rw [vlq, dif_pos hij, dif_pos rfl, dif_pos h]
theorem vl_ln (hij : i < j) (h : lcq w i (j - i) = m - i + 1) (hm : i ≤ m) : vlq w cv pl 1 x i j = vbd (vlq w cv pl 1 x i m) (fun a b => vbd (vlq w cv pl 0 0 (m + 1) j) (fun e f => vbs x a b e f)) := by
  rw [vlq, dif_pos hij, dif_pos rfl, dif_neg (by omega), h, show i + (m - i + 1) - 1 = m by omega, show i + (m - i + 1) = m + 1 by omega]
end VLQ
end
section
/-! A hundred steps of Euclid are enough. -/
def fpq : Nat → Nat × Nat
  | 0 => (1, 1)
  | s + 1 => ((fpq s).2, (fpq s).1 + (fpq s).2)
/-- after s steps nothing is left -/
def dnq : Nat → Nat → Nat → Prop
  | 0, _, b => b = 0
  | s + 1, a, b => b = 0 ∨ dnq s b (a % b)
def euq : Nat → Nat → Nat → Nat
  | 0, a, _ => a
  | s + 1, a, b => if b = 0 then a else euq s b (a % b)
theorem dn_fib : ∀ (s a b : Nat), ¬ dnq s a b → (fpq s).1 ≤ b ∧ (b ≤ a → (fpq s).2 ≤ a)
  | 0, a, b, h => by
    have hb : b ≠ 0 := h
    exact ⟨by show 1 ≤ b; omega, fun q => by show 1 ≤ a; omega⟩
  | s + 1, a, b, h => by
    have hb : b ≠ 0 := fun q => h (Or.inl q)
    have h2 : ¬ dnq s b (a % b) := fun q => h (Or.inr q)
    obtain ⟨i1, i2⟩ := dn_fib s b (a % b) h2
    have hlt := Nat.mod_lt a (Nat.pos_of_ne_zero hb)
    have i3 := i2 (Nat.le_of_lt hlt)
    refine ⟨i3, fun q => ?_⟩
    show (fpq s).1 + (fpq s).2 ≤ a
    have e := Nat.mod_add_div a b
    have p : 1 ≤ a / b := Nat.div_pos q (Nat.pos_of_ne_zero hb)
    have m : b * 1 ≤ b * (a / b) := Nat.mul_le_mul_left b p
    omega
theorem eu_gcd : ∀ (s a b : Nat), dnq s a b → euq s a b = Nat.gcd a b
  | 0, a, b, h => by
    have hb : b = 0 := h
    subst hb
    show a = Nat.gcd a 0
    rw [Nat.gcd_zero_right]
  | s + 1, a, b, h => by
    show (if b = 0 then a else euq s b (a % b)) = Nat.gcd a b
    by_cases y : b = 0
    · rw [if_pos y, y, Nat.gcd_zero_right]
    · rw [if_neg y]
      rcases h with h | h
      · exact absurd h y
      · rw [eu_gcd s b (a % b) h, Nat.gcd_comm a b, Nat.gcd_rec b a, Nat.gcd_comm]
theorem dn_99 {a b : Nat} (hb : b ≤ 9223372036854775807) : dnq 99 a b := by
  refine Classical.byContradiction (fun h => ?_)
  have h1 := (dn_fib 99 a b h).1
  have h2 : (fpq 99).1 = 354224848179261915075 := by decide +kernel
  rw [h2] at h1
  omega
theorem dnu9 : ∀ (s a b : Nat), dnq s a b → dnq (s + 1) a b
  | 0, a, b, h => Or.inl h
  | s + 1, a, b, h => by
    rcases h with h | h
    · exact Or.inl h
    · exact Or.inr (dnu9 s b (a % b) h)
theorem eu_100 {a b : Nat} (hb : b ≤ 9223372036854775807) : euq 100 a b = Nat.gcd a b := eu_gcd 100 a b (dnu9 99 a b (dn_99 hb))
end
end
section
section
/-! The class's machine: the common divisor, exactly. -/
section MDX
variable {G : mG} {d : Nat} {M : mM}
theorem x_Ma_commonDivisor {x y : Int} (hx : -9223372036854775807 ≤ x ∧ x ≤ 9223372036854775807) (hy : 1 ≤ y ∧ y ≤ 9223372036854775807) (hO : mOk M) : Cj G y_Ma_commonDivisor d [vl x, vl y] M (fun v M' => M' = M ∧ (1 ≤ v ∧ v ≤ y) ∧ v = (Int.gcd x y : Int)) := by
  refine k_Ma_commonDivisor hO ⟨by omega, by omega⟩ ⟨by omega, by omega⟩ (fun v2 e2 => ?_)
  have ev : v2 = (x.natAbs : Int) := by
    have := (cmpz x 0).1
    rw [e2]
    split <;> omega
  have ey : y = ((y.natAbs : Nat) : Int) := by omega
  have g0 : Int.gcd x y = Nat.gcd x.natAbs y.natAbs := rfl
  have gp : 1 ≤ Nat.gcd x.natAbs y.natAbs := Nat.gcd_pos_of_pos_right _ (by omega)
  have gl : Nat.gcd x.natAbs y.natAbs ≤ y.natAbs := Nat.gcd_le_right _ (by omega)
  have e100 : euq 100 x.natAbs y.natAbs = Nat.gcd x.natAbs y.natAbs := eu_100 (by omega)
  rw [g0]
  generalize Nat.gcd x.natAbs y.natAbs = gg at *
  have hp : x.natAbs ≤ 9223372036854775807 := by omega
  have hq : y.natAbs ≤ 9223372036854775807 := by omega
  have hyy : (gg : Int) ≤ y := by omega
  clear e2 g0 gl
  rw [ev]
  have key : ∀ (s i p q : Nat), i + s = 100 → p ≤ 9223372036854775807 → q ≤ 9223372036854775807 → euq s p q = gg → h_Ma_commonDivisor_20 G d (p : Int) (q : Int) i M (fun v M' => M' = M ∧ (1 ≤ v ∧ v ≤ y) ∧ v = (gg : Int)) := by
    intro s
    induction s with
    | zero =>
      intro i p q hi bp bq he
      have he : p = gg := he
      have ca := (cmpz (p : Int) 0).2.2.2.1
      refine k_Ma_commonDivisor_20 hO ⟨by omega, by omega⟩ ⟨by omega, by omega⟩ (i32s (by omega) (by omega)) ⟨fun _ v12 e12 => ?_, fun z => absurd (Or.inl (by omega)) z⟩
      rw [if_neg (by rw [ca]; omega)] at e12
      rw [e12, he]
      exact ⟨rfl, ⟨by omega, hyy⟩, rfl⟩
    | succ s ih =>
      intro i p q hi bp bq he
      have he : (if q = 0 then p else euq s q (p % q)) = gg := he
      have ca := (cmpz (p : Int) 0).2.2.2.1
      have cb := (cmpz (q : Int) 0).2.2.2.1
      refine k_Ma_commonDivisor_20 hO ⟨by omega, by omega⟩ ⟨by omega, by omega⟩ (i32s (by omega) (by omega)) ⟨fun z v12 e12 => ?_, fun z => ?_⟩
      · have q0 : q = 0 := by
          rcases z with z | z
          · omega
          · rw [cb] at z; omega
        rw [if_pos q0] at he
        rw [if_neg (by rw [ca]; omega)] at e12
        rw [e12, he]
        exact ⟨rfl, ⟨by omega, hyy⟩, rfl⟩
      · have q0 : q ≠ 0 := fun u => z (Or.inr (by rw [cb]; omega))
        rw [if_neg q0] at he
        have hlt := Nat.mod_lt p (Nat.pos_of_ne_zero q0)
        refine ⟨by omega, ?_⟩
        have em : Int.tmod (p : Int) (q : Int) = ((p % q : Nat) : Int) := rfl
        rw [em]
        exact ih (i + 1) q (p % q) (by omega) bq (by omega) he
  have k0 := key 100 0 x.natAbs y.natAbs (by omega) hp hq e100
  rw [← ey] at k0
  exact k0
end MDX
end
section
/-! The class's machine, exactly: push, stop, settle, relate, compute. -/
section MAX
variable {G : mG} {d z m U Ab Be C Ab0 Be0 C0 t s c p O P K : Nat} {M0 M M' M1 M2 : mM} {S R : Nat → Prop}
/-- what sets, stamps, met values and calls hold is the same -/
def mtq (m : Nat) (M M' : mM) : Prop := ∀ b, b = m + 2 ∨ (m + 5 ≤ b ∧ b ≤ m + 9) → mI M' b = mI M b
theorem mtq.refl {m : Nat} {M : mM} : mtq m M M := fun _ _ => rfl
theorem mtq.trans {m : Nat} {M M1 M2 : mM} (h : mtq m M M1) (k : mtq m M1 M2) : mtq m M M2 := fun b hb => (k b hb).trans (h b hb)
theorem mtq.mtb {m : Nat} {M M' : mM} (h : mtq m M M') : mtb m M M' := fun b h1 h2 => h b (Or.inr ⟨h1, h2⟩)
theorem mtq.fi {m : Nat} {M M' : mM} (f : FI (fun b => b = m) M M') : mtq m M M' := fun b hb => f.2.2.2.2.2.2 b (show ¬ b = m by omega)
theorem mtq.abv {z m U Ab0 Be0 C0 t c j : Nat} {M0 M M1 : mM} {x : Int} (h : MS M0 z m U Ab0 Be0 C0 M t c) (e1 : M1 = mUI M (mR M m 6) j x) : mtq m M M1 := fun b hb => by
  obtain ⟨Ab, Be, C, -, hk, -⟩ := h
  obtain ⟨sA, sB, sne, sz⟩ := hk.2.2.2.2.2.1
  have r6 := hk.2.1.2.2.1
  have f1 : FI (fun b => b = mR M m 6) M M1 := by rw [e1]; exact FI.ui rfl
  exact f1.2.2.2.2.2.2 b (show ¬ b = mR M m 6 by omega)
theorem mtq.val {z m U Ab0 Be0 C0 t c j : Nat} {M0 M M1 M2 : mM} {x y : Int} (h : MS M0 z m U Ab0 Be0 C0 M t c) (e1 : M1 = mUI M (mR M m 6) j x) (e2 : M2 = mUI M1 (mR M1 m 7) j y) : mtq m M M2 := fun b hb => by
  obtain ⟨Ab, Be, C, -, hk, -⟩ := id h
  obtain ⟨sA, sB, sne, sz⟩ := hk.2.2.2.2.2.1
  have r7 := hk.2.1.2.2.2.1
  have r1 : mR M1 m 7 = mR M m 7 := by rw [e1]; rfl
  have f2 : FI (fun b => b = mR M1 m 7) M1 M2 := by rw [e2]; exact FI.ui rfl
  rw [f2.2.2.2.2.2.2 b (show ¬ b = mR M1 m 7 by omega)]
  exact mtq.abv h e1 b hb
/-- below the t-th value the pile is the same -/
def plq (M M' : mM) (m t : Nat) : Prop := ∀ j, j < t → mI M' (mR M' m 6) j = mI M (mR M m 6) j ∧ mI M' (mR M' m 7) j = mI M (mR M m 7) j
/-- the t-th value is x over y -/
def ptq (M : mM) (m t : Nat) (x y : Int) : Prop := mI M (mR M m 6) t = x ∧ mI M (mR M m 7) t = y
theorem plq.refl : plq M M m t := fun _ _ => ⟨rfl, rfl⟩
theorem plq.trans (h : plq M M1 m t) (k : plq M1 M2 m t) : plq M M2 m t := fun j hj => ⟨by rw [(k j hj).1, (h j hj).1], by rw [(k j hj).2, (h j hj).2]⟩
theorem plq.mono {t' : Nat} (h : plq M M' m t) (ht : t' ≤ t) : plq M M' m t' := fun j hj => h j (by omega)
theorem plq.pt {x y : Int} {j : Nat} (h : plq M M' m t) (hj : j < t) (k : ptq M m j x y) : ptq M' m j x y := ⟨by rw [(h j hj).1]; exact k.1, by rw [(h j hj).2]; exact k.2⟩
/-- only the machine's own cell has changed -/
theorem plq.fi (f : FI (fun b => b = m) M M') (h : m ≠ mR M m 6 ∧ m ≠ mR M m 7) : plq M M' m t := fun j _ => by
  rw [f.2.2.1, f.2.2.2.2.2.2 _ (fun u => h.1 u.symm), f.2.2.2.2.2.2 _ (fun u => h.2 u.symm)]
  exact ⟨rfl, rfl⟩
theorem x_Ma_push {x y : Int} (h : MS M0 z m U Ab0 Be0 C0 M t c) (ht : t ≤ 16384) (hx : i32 x) (hy : 1 ≤ y ∧ y < 1000000000) : Cv G y_Ma_push (d + 2) [vr m, vi x, vi y] M (fun M' => MS M0 z m U Ab0 Be0 C0 M' (t + 1) c ∧ mtq m M M' ∧ plq M M' m t ∧ ptq M' m t x y) := by
  obtain ⟨Ab, Be, C, ok, hk, hf, hab, hr, ⟨h8, htC, hb⟩, hc, hm⟩ := h
  obtain ⟨k0, ⟨r3, r5, r6, r7, r10, r11, r12, r13, r14⟩, ⟨kU, k2, kA, kB, k5, k6, k7, k8, k9⟩, ⟨n2, nA, nB, n5, n6, n7, n8, n9⟩, hbs, ⟨sA, sB, sne, sz⟩, ⟨z0, zA, zB, zU⟩, ⟨c64, c32⟩⟩ := id hk
  have iy : i32 y := ⟨by omega, by omega⟩
  refine k_Ma_push ok hx iy ?_
  rw [r6, nA, h8]
  refine ⟨k0, kA, ⟨by omega, by omega⟩, fun e => ?_, fun e => ?_⟩
  · -- the pile grows
    have eC : C = t := by omega
    subst eC
    rw [show (2 : Int) * (C : Int) = ((2 * C : Nat) : Int) by omega]
    refine (s_JA_copyOf ok kA zA (by omega) (by omega)).mono (fun x10 M9 q => ?_)
    obtain ⟨ex, o9, f9, Z9, S9, K9, N9, I9⟩ := q
    subst ex
    have m9 : m < mZ M := by omega
    refine ⟨o9, by rw [(f9.2 m m9).1]; exact k0, fun M13 e13 => ?_⟩
    have f13 : FA (fun _ => False) (fun x => x = m) M9 M13 := FA.ur rfl e13
    have Z13 : mZ M13 = mZ M + 1 := by rw [e13]; exact Z9
    have g13 : FA (fun _ => False) (fun x => x = m) M M13 := (f9.mono (fun _ _ q => q) (fun _ _ q => q.elim)).trans f13
    have i13 : mI M13 m 8 = C := by rw [e13, mI_UR, (f9.2 m m9).2.2.2.2 (fun q => q)]; exact h8
    have b13 : mR M13 m 7 = Be := by rw [e13, mR_UR, if_neg (by omega), (f9.2 m m9).2.2.2.1 (fun q => q)]; exact r7
    have o13 : mOk M13 := by rw [e13]; exact o9
    rw [b13, i13, show (2 : Int) * (C : Int) = ((2 * C : Nat) : Int) by omega]
    refine (s_JA_copyOf (l := 2 * C) o13 (by rw [(g13.2 Be zB).1]; exact kB) (by omega) (by rw [(g13.2 Be zB).2.1]; omega) (by omega)).mono (fun x16 M15 q => ?_)
    obtain ⟨ex, o15, f15, Z15, S15, K15, N15, I15⟩ := q
    subst ex
    rw [Z13] at K15 N15 I15 Z15
    have iA30 : ∀ j, j < C → mI M9 (mZ M) j = mI M Ab j := fun j hj => I9 j (by omega)
    have nB13 : mN M13 Be = C := by rw [(g13.2 Be zB).2.1]; exact nB
    have iB13 : mI M13 Be = mI M Be := (g13.2 Be zB).2.2.2.2 (fun q => q)
    rw [nB13, iB13] at I15
    refine ⟨o15, by rw [(f15.2 m (by omega)).1, (g13.2 m m9).1]; exact k0, fun M19 e19 => ?_⟩
    have f19 : FA (fun _ => False) (fun x => x = m) M15 M19 := FA.ur rfl e19
    have f13_15 : FA (fun _ => False) (fun x => x = m) M13 M15 := f15.mono (fun _ _ q => q) (fun _ _ q => q.elim)
    have g19 : FA (fun _ => False) (fun x => x = m) M M19 := (g13.trans f13_15).trans f19
    have o19 : mOk M19 := by rw [e19]; exact o15
    have Z19 : mZ M19 = mZ M + 2 := by rw [e19, mZ_UR, Z15]
    have S19 : mS M19 = mS M + 4 * C := by rw [e19, mS_UR, S15, e13, mS_UR, S9]; omega
    have k19 : ∀ b, mK M19 b = mK M15 b := fun b => by rw [e19]; rfl
    have n19 : ∀ b, mN M19 b = mN M15 b := fun b => by rw [e19]; rfl
    have i19 : ∀ b, mI M19 b = mI M15 b := fun b => by rw [e19]; rfl
    have kZ : mK M19 (mZ M) = 30 := by rw [k19, (f15.2 (mZ M) (by omega)).1, e13]; exact K9
    have nZ : mN M19 (mZ M) = 2 * C := by rw [n19, (f15.2 (mZ M) (by omega)).2.1, e13]; exact N9
    have kZ1 : mK M19 (mZ M + 1) = 30 := by rw [k19]; exact K15
    have nZ1 : mN M19 (mZ M + 1) = 2 * C := by rw [n19]; exact N15
    have iZ1 : ∀ j, j < C → mI M19 (mZ M + 1) j = mI M Be j := fun j hj => by rw [i19]; exact I15 j hj
    have R19 : ∀ i, mR M19 m i = if i = 7 then mZ M + 1 else if i = 6 then mZ M else mR M m i := fun i => by
      rw [e19, mR_UR, Z13]
      by_cases y7 : i = 7
      · rw [if_pos ⟨rfl, y7⟩, if_pos y7]
      · rw [if_neg (fun q => y7 q.2), if_neg y7, (f15.2 m (by omega)).2.2.2.1 (fun q => q), e13, mR_UR]
        by_cases y6 : i = 6
        · rw [if_pos ⟨rfl, y6⟩, if_pos y6]
        · rw [if_neg (fun q => y6 q.2), if_neg y6, (f9.2 m m9).2.2.2.1 (fun q => q)]
    have M19i : ∀ b, b < mZ M → mI M19 b = mI M b := fun b hb => (g19.2 b hb).2.2.2.2 (fun q => q)
    have t19 : mI M19 m 8 = C := by rw [M19i m m9]; exact h8
    rw [R19 6, if_neg (by decide), if_pos rfl, t19, nZ, Int.toNat_natCast]
    refine ⟨kZ, by omega, fun M23 e23 => ?_⟩
    have f23 : FI (fun b => b = mZ M) M19 M23 := by rw [e23]; exact FI.ui rfl
    have t23 : mI M23 m 8 = C := by rw [f23.2.2.2.2.2.2 m (by omega)]; exact t19
    rw [f23.2.2.1, R19 7, if_pos rfl, f23.1, f23.2.1, t23, nZ1, Int.toNat_natCast]
    refine ⟨kZ1, by omega, fun M27 e27 => ?_⟩
    have f27 : FI (fun b => b = mZ M + 1) M23 M27 := by rw [e27]; exact FI.ui rfl
    have t27 : mI M27 m 8 = C := by rw [f27.2.2.2.2.2.2 m (by omega)]; exact t23
    rw [t27]
    refine ⟨⟨by omega, by omega⟩, fun M30 e30 => ?_⟩
    have f30 : FI (fun b => b = m) M27 M30 := by rw [e30]; exact FI.ui rfl
    have f1930 : FI (fun b => b = m ∨ b = mZ M ∨ b = mZ M + 1) M19 M30 := ((f23.mono (fun _ q => Or.inr (Or.inl q))).trans (f27.mono (fun _ q => Or.inr (Or.inr q)))).trans (f30.mono (fun _ q => Or.inl q))
    have FF : FA (fun x => x = m) (fun x => x = m) M M30 := (g19.mono (fun _ _ q => q.elim) (fun _ _ q => q)).trans2 (FI.fa (R := fun _ => False) f1930) (fun x hx q => by
      rcases q with q | q | q
      · exact q
      · omega
      · omega) (fun _ _ q => q.elim)
    have o30 : mOk M30 := by rw [e30]; exact mOk_UI (by rw [e27]; exact mOk_UI (by rw [e23]; exact mOk_UI o19 hx) iy) ⟨by omega, by omega⟩
    have i30 : ∀ i, mI M30 m i = if i = 8 then (C : Int) + 1 else mI M m i := fun i => by
      rw [mI_ui m i e30]
      by_cases y8 : i = 8
      · rw [if_pos ⟨rfl, y8⟩, if_pos y8]
      · rw [if_neg (fun q => y8 q.2), if_neg y8, f27.2.2.2.2.2.2 m (by omega), f23.2.2.2.2.2.2 m (by omega), M19i m m9]
    have b30 : ∀ j, j < C + 1 → mI M30 (mZ M + 1) j = if j = C then y else mI M Be j := fun j hj => by
      rw [f30.2.2.2.2.2.2 (mZ M + 1) (by omega), mI_ui _ j e27]
      by_cases yC : j = C
      · rw [if_pos ⟨rfl, yC⟩, if_pos yC]
      · rw [if_neg (fun q => yC q.2), if_neg yC, f23.2.2.2.2.2.2 (mZ M + 1) (by omega), iZ1 j (by omega)]
    have a30 : ∀ j, j < C + 1 → mI M30 (mZ M) j = if j = C then x else mI M Ab j := fun j hj => by
      rw [f30.2.2.2.2.2.2 (mZ M) (by omega), f27.2.2.2.2.2.2 (mZ M) (by omega), mI_ui _ j e23]
      by_cases yC : j = C
      · rw [if_pos ⟨rfl, yC⟩, if_pos yC]
      · rw [if_neg (fun q => yC q.2), if_neg yC, i19, (f15.2 (mZ M) (by omega)).2.2.2.2 (fun q => q), e13, mI_UR, iA30 j (by omega)]
    have R30 : ∀ i, mR M30 m i = if i = 7 then mZ M + 1 else if i = 6 then mZ M else mR M m i := fun i => by rw [f1930.2.2.1]; exact R19 i
    have kk : ∀ b, b < mZ M → mK M30 b = mK M b := fun b hb => (FF.2 b hb).1
    have nn : ∀ b, b < mZ M → mN M30 b = mN M b := fun b hb => (FF.2 b hb).2.1
    have z30 : mZ M30 = mZ M + 2 := by rw [f1930.2.2.2.2.1]; exact Z19
    have s30 : mS M30 = mS M + 4 * C := by rw [f1930.2.2.2.2.2.1]; exact S19
    refine ⟨⟨mZ M, mZ M + 1, 2 * C, o30, ?_, ?_, ⟨Or.inr hf.1.1, Or.inr (by have := hf.1.1; omega)⟩, ⟨by omega, by omega⟩, ⟨by rw [i30, if_pos rfl]; omega, by omega, fun j hj => ?_⟩, by rw [i30, if_neg (by decide)]; exact hc, by rw [i30, if_neg (by decide)]; exact hm.1, by rw [i30, if_neg (by decide)]; exact hm.2.1, by rw [R30, if_neg (by decide), if_neg (by decide)]; exact hm.2.2⟩, fun b hb => ?_, fun j hj => ?_, ?_⟩
    · unfold MK
      rw [kk m m9, kk U zU, kk (m + 2) (by omega), kk (m + 5) (by omega), kk (m + 6) (by omega), kk (m + 7) (by omega), kk (m + 8) (by omega), kk (m + 9) (by omega), nn (m + 2) (by omega), nn (m + 5) (by omega), nn (m + 6) (by omega), nn (m + 7) (by omega), nn (m + 8) (by omega), nn (m + 9) (by omega), nn U zU, R30 3, R30 5, R30 6, R30 7, R30 10, R30 11, R30 12, R30 13, R30 14, i30 4, z30, f1930.1, f1930.2.1]
      refine ⟨k0, ⟨r3, r5, rfl, rfl, r10, r11, r12, r13, r14⟩, ⟨kU, k2, kZ, kZ1, k5, k6, k7, k8, k9⟩, ⟨n2, nZ, nZ1, n5, n6, n7, n8, n9⟩, hbs, ⟨Or.inr z0, Or.inr (by omega), by omega, sz⟩, ⟨by omega, by omega, by omega, by omega⟩, ⟨by omega, by omega⟩⟩
    · exact hf.trans2 FF (fun x hx q => Or.inl q) (fun _ _ q => q)
    · rw [b30 j hj]
      by_cases yC : j = C
      · rw [if_pos yC]; exact hy
      · rw [if_neg yC]; exact hb j (by omega)
    · rw [(FF.2 b (by omega)).2.2.2.2 (by omega)]
    · rw [R30 6, if_neg (by decide), if_pos rfl, R30 7, if_pos rfl, a30 j (by omega), if_neg (by omega), b30 j (by omega), if_neg (by omega), r6, r7]
      exact ⟨rfl, rfl⟩
    · unfold ptq
      rw [R30 6, if_neg (by decide), if_pos rfl, R30 7, if_pos rfl, a30 C (by omega), if_pos rfl, b30 C (by omega), if_pos rfl]
      exact ⟨rfl, rfl⟩
  · rw [Int.toNat_natCast]
    refine ⟨by omega, fun M33 e33 => ?_⟩
    have f33 : FI (fun b => b = Ab) M M33 := by rw [e33]; exact FI.ui rfl
    have mA : m ≠ Ab := by omega
    have mB : m ≠ Be := by omega
    have t33 : mI M33 m 8 = t := by rw [f33.2.2.2.2.2.2 m mA]; exact h8
    rw [f33.2.2.1, r7, f33.1, f33.2.1, t33, nB, Int.toNat_natCast]
    refine ⟨kB, by omega, fun M37 e37 => ?_⟩
    have f37 : FI (fun b => b = Be) M33 M37 := by rw [e37]; exact FI.ui rfl
    have t37 : mI M37 m 8 = t := by rw [f37.2.2.2.2.2.2 m mB]; exact t33
    rw [t37]
    refine ⟨⟨by omega, by omega⟩, fun M40 e40 => ?_⟩
    have f40 : FI (fun b => b = m) M37 M40 := by rw [e40]; exact FI.ui rfl
    have o40 : mOk M40 := by rw [e40]; exact mOk_UI (by rw [e37]; exact mOk_UI (by rw [e33]; exact mOk_UI ok hx) iy) ⟨by omega, by omega⟩
    have ff : FI (mcS m Ab Be) M M40 := ((f33.mono (fun _ q => Or.inr (Or.inr (Or.inr (Or.inl q))))).trans (f37.mono (fun _ q => Or.inr (Or.inr (Or.inr (Or.inr q)))))).trans (f40.mono (fun _ q => Or.inl q))
    have i40 : ∀ i, mI M40 m i = if i = 8 then (t : Int) + 1 else mI M m i := fun i => by
      rw [mI_ui m i e40]
      by_cases y8 : i = 8
      · rw [if_pos ⟨rfl, y8⟩, if_pos y8]
      · rw [if_neg (fun q => y8 q.2), if_neg y8, f37.2.2.2.2.2.2 m mB, f33.2.2.2.2.2.2 m mA]
    refine ⟨ms_step (t' := t + 1) (c' := c) o40 hk hf hab hr hm ff (by rw [i40, if_neg (by decide)]) (by rw [i40, if_neg (by decide)]) (by rw [i40, if_pos rfl]; omega) (by omega) (fun j hj => ?_) (by rw [i40, if_neg (by decide)]; exact hc), fun b hb => ?_, fun j hj => ?_, ?_⟩
    · rw [f40.2.2.2.2.2.2 Be (fun q => mB q.symm), mI_ui Be j e37]
      by_cases yt : j = t
      · rw [if_pos ⟨rfl, yt⟩]; exact hy
      · rw [if_neg (fun q => yt q.2), f33.2.2.2.2.2.2 Be (fun q => sne q.symm)]
        exact hb j (by omega)
    · rw [f40.2.2.2.2.2.2 b (by omega), f37.2.2.2.2.2.2 b (by omega), f33.2.2.2.2.2.2 b (by omega)]
    · rw [ff.2.2.1, r6, r7, f40.2.2.2.2.2.2 Ab (fun q => mA q.symm), f40.2.2.2.2.2.2 Be (fun q => mB q.symm), f37.2.2.2.2.2.2 Ab sne, mI_ui Ab j e33, mI_ui Be j e37, if_neg (by omega), if_neg (by omega), f33.2.2.2.2.2.2 Be (fun q => sne q.symm)]
      exact ⟨rfl, rfl⟩
    · unfold ptq
      rw [ff.2.2.1, r6, r7, f40.2.2.2.2.2.2 Ab (fun q => mA q.symm), f40.2.2.2.2.2.2 Be (fun q => mB q.symm), f37.2.2.2.2.2.2 Ab sne, mI_ui Ab t e33, mI_ui Be t e37, if_pos ⟨rfl, rfl⟩, if_pos ⟨rfl, rfl⟩]
      exact ⟨rfl, rfl⟩
theorem x_Ma_stop {x y : Int} (hx : i32 x) (hy : i32 y) (h : MS M0 z m U Ab0 Be0 C0 M t c) : Ci G y_Ma_stop d [vr m, vi x, vi y] M (fun r M' => r = 0 ∧ MS M0 z m U Ab0 Be0 C0 M' t c ∧ mtq m M M' ∧ mI M' m 1 = x ∧ mI M' m 2 = y) := by
  have ok : mOk M := by obtain ⟨_, _, _, ok, -⟩ := h; exact ok
  have k0 : mK M m = 5 := by obtain ⟨_, _, _, -, hk, -⟩ := h; exact hk.1
  refine k_Ma_stop ok hx hy ⟨k0, fun M2 e2 M4 e4 => ?_⟩
  obtain ⟨h2, -⟩ := ms_fld h hx e2 (by decide) (by decide) (by decide) (by decide)
  obtain ⟨h4, -⟩ := ms_fld h2 hy e4 (by decide) (by decide) (by decide) (by decide)
  have b2 : mtq m M M2 := mtq.fi (by rw [e2]; exact FI.ui rfl)
  have b4 : mtq m M2 M4 := mtq.fi (by rw [e4]; exact FI.ui rfl)
  exact ⟨rfl, h4, b2.trans b4, by rw [mI_ui m 1 e4, if_neg (fun t => absurd t.2 (by decide)), mI_ui m 1 e2, if_pos ⟨rfl, rfl⟩], by rw [mI_ui m 2 e4, if_pos ⟨rfl, rfl⟩]⟩
/-- a value of the pile is written: the others stay -/
theorem pl_val {j : Nat} {x y : Int} (hne : m ≠ mR M m 6 ∧ m ≠ mR M m 7) (ne : mR M m 6 ≠ mR M m 7) (e1 : M1 = mUI M (mR M m 6) j x) (e2 : M2 = mUI M1 (mR M1 m 7) j y) : plq M M2 m j ∧ ptq M2 m j x y := by
  have r1 : mR M1 = mR M := by rw [e1]; rfl
  have r2 : mR M2 = mR M := by rw [e2]; exact r1
  rw [r1] at e2
  unfold plq ptq
  rw [r2]
  refine ⟨fun i hi => ⟨?_, ?_⟩, ?_, ?_⟩
  · rw [mI_ui _ i e2, if_neg (fun q => ne q.1), mI_ui _ i e1, if_neg (fun q => by have := q.2; omega)]
  · rw [mI_ui _ i e2, if_neg (fun q => by have := q.2; omega), mI_ui _ i e1, if_neg (fun q => ne q.1.symm)]
  · rw [mI_ui _ j e2, if_neg (fun q => ne q.1), mI_ui _ j e1, if_pos ⟨rfl, rfl⟩]
  · rw [mI_ui _ j e2, if_pos ⟨rfl, rfl⟩]
/-- what an order leaves behind: v its result, t values below it -/
def cpx (M0 : mM) (z m U Ab0 Be0 C0 : Nat) (M : mM) (t c : Nat) (v : vrs) (r : Int) (M' : mM) : Prop := ((r = 0 ∧ v.1 ≠ 0 ∧ mI M' m 1 = v.1 ∧ mI M' m 2 = v.2.1 ∧ ∃ t2, MS M0 z m U Ab0 Be0 C0 M' t2 c) ∨ (r = 1 ∧ v.1 = 0 ∧ MS M0 z m U Ab0 Be0 C0 M' (t + 1) c ∧ plq M M' m t ∧ ptq M' m t v.2.1 v.2.2)) ∧ mtq m M M'
theorem x_Ma_settle {x y : Int} {sg : Int} (hx : -5000000000000000000 ≤ x ∧ x ≤ 5000000000000000000) (hy : 1 ≤ y ∧ y ≤ 5000000000000000000) (hs : i32 sg) (h : MS M0 z m U Ab0 Be0 C0 M (t + 1) c) : Ci G y_Ma_settle (d + 1) [vr m, vl x, vl y, vi sg] M (cpx M0 z m U Ab0 Be0 C0 M t c (vst x y sg)) := by
  obtain ⟨ok, k0, h8, kA, kB, tA, tB, bA, bB, hb, ⟨mA, mB⟩, ne⟩ := h.pile
  refine k_Ma_settle ok ⟨by omega, by omega⟩ ⟨by omega, by omega⟩ hs ((x_Ma_commonDivisor ⟨by omega, by omega⟩ ⟨by omega, by omega⟩ ok).mono (fun g M1 q => ?_))
  obtain ⟨e1, ⟨g1, g2⟩, eg⟩ := q
  subst e1
  have gx : g ∣ x := by rw [eg]; exact Int.gcd_dvd_left x y
  have gy : g ∣ y := by rw [eg]; exact Int.gcd_dvd_right x y
  have ev : vst x y sg = if 1000000000 ≤ x / g ∨ x / g ≤ -1000000000 ∨ 1000000000 ≤ y / g then (6, sg, 0) else (0, x / g, y / g) := by rw [eg]; rfl
  rw [ev]
  clear ev
  have tx := Int.tdiv_eq_ediv_of_dvd gx
  have ty := Int.tdiv_eq_ediv_of_dvd gy
  have dx := m_tdivB (x := x) (z := g) (by omega)
  have dy := m_tdivB (x := y) (z := g) (by omega)
  have dy0 : 1 ≤ Int.tdiv y g := by
    rw [Int.tdiv_eq_ediv_of_nonneg (by omega)]
    exact (Int.le_ediv_iff_mul_le (by omega)).mpr (by omega)
  rw [← tx, ← ty]
  clear eg gx gy tx ty
  have c1 := (cmpz (Int.tdiv x g) 1000000000).1
  have c2 := (cmpz (Int.tdiv x g) (-1000000000)).2.1
  have c3 := (cmpz (Int.tdiv y g) 1000000000).2.2.1
  refine ⟨⟨by omega, by omega⟩, ok, by omega, by omega, ⟨by omega, by omega⟩, fun _ _ => ⟨by omega, by omega⟩, fun qq => ⟨k0, (x_Ma_stop (i32s (by omega) (by omega)) hs h).mono (fun r M' q => ?_)⟩, fun q => ?_⟩
  · obtain ⟨e, q1, q2, q3, q4⟩ := q
    rw [e, if_pos (by rw [c1, c2, c3] at qq; omega)]
    exact ⟨i32s (by omega) (by omega), q1.pile.1, Or.inl rfl, Or.inl ⟨rfl, by simp, q3, q4, _, q1⟩, q2⟩
  · have u1 : Int.tdiv x g < 1000000000 ∧ -1000000000 < Int.tdiv x g ∧ Int.tdiv y g < 1000000000 := by
      rw [c1, c2, c3] at q
      clear c1 c2 c3
      omega
    clear q c1 c2 c3
    rw [if_neg (by omega)]
    have e8 : (mI M1 m 8 - 1) = (t : Int) := by omega
    rw [e8, Int.toNat_natCast]
    refine ⟨k0, kA, by omega, ⟨by omega, by omega⟩, fun M23 e23 => ?_⟩
    have f23 : FI (fun b => b = mR M1 m 6) M1 M23 := by rw [e23]; exact FI.ui rfl
    have e8' : (mI M23 m 8 - 1) = (t : Int) := by rw [f23.2.2.2.2.2.2 m mA]; exact e8
    rw [e8', Int.toNat_natCast]
    refine ⟨by rw [f23.1, f23.2.2.1]; exact kB, by rw [f23.2.1, f23.2.2.1]; omega, ⟨by omega, by omega⟩, fun M28 e28 => ?_⟩
    have hv := ms_val h (j := t) (by omega) ⟨by omega, by omega⟩ ⟨dy0, u1.2.2⟩ e23 e28
    have pv := pl_val ⟨mA, mB⟩ ne e23 e28
    exact ⟨Or.inr ⟨rfl, rfl, hv.1, pv.1, pv.2⟩, mtq.val h e23 e28⟩
/-- how two numbers stand to each other: the class's answer for an order o -/
def rlv (o r : Int) (a b e f : Int) : vrs := if o = 15 ∨ o = 16 then (if (0 < r ↔ o = 15) then (0, e, f) else (0, a, b)) else if (o = 24 ∧ r = 0) ∨ (o = 19 ∧ r ≠ 0) ∨ (o = 22 ∧ r < 0) ∨ (o = 20 ∧ r ≤ 0) ∨ (o = 23 ∧ 0 < r) ∨ (o ≠ 24 ∧ o ≠ 19 ∧ o ≠ 22 ∧ o ≠ 20 ∧ o ≠ 23 ∧ 0 ≤ r) then (0, 1, 1) else (0, 0, 1)
theorem x_Ma_relate {o x a b e f : Int} (io : i32 o) (ix : i32 x) (h : MS M0 z m U Ab0 Be0 C0 M (t + 1) c) (hA : (t : Int) + 1 < mN M (mR M m 6)) (hB : (t : Int) + 1 < mN M (mR M m 7)) (hv : 1 ≤ mI M (mR M m 7) (t + 1) ∧ mI M (mR M m 7) (t + 1) < 1000000000) (h1 : ptq M m t a b) (h2 : ptq M m (t + 1) e f) : Ci G y_Ma_relate d [vr m, vi o, vi x] M (fun r M' => r = 1 ∧ (rlv o x a b e f).1 = 0 ∧ MS M0 z m U Ab0 Be0 C0 M' (t + 1) c ∧ mtq m M M' ∧ plq M M' m t ∧ ptq M' m t (rlv o x a b e f).2.1 (rlv o x a b e f).2.2) := by
  obtain ⟨ok, k0, h8, kA, kB, tA, tB, bA, bB, hb, ⟨mA, mB⟩, ne⟩ := h.pile
  have q1 : Int.toNat (mI M m 8 - 1) = t := by omega
  have q2 : Int.toNat (mI M m 8) = t + 1 := by omega
  refine k_Ma_relate ok io ix ⟨fun o1 v7 e7 v13 e13 => ⟨fun ey => ?_, fun ny => k_Ma_relate_75 ok ?_⟩, fun o1 v50 e50 => ⟨k0, fun v57 e57 => ?_⟩⟩
  · have er : rlv o x a b e f = (0, e, f) := by
      unfold rlv
      rw [if_pos o1, if_pos]
      rw [e7, e13] at ey
      by_cases u : x ≤ 0 <;> by_cases w : o = 15 <;> simp [u, w] at ey ⊢ <;> omega
    rw [er, q1, q2]
    refine ⟨k0, kA, by omega, by omega, fun M24 e24 => ?_⟩
    have f24 : FI (fun b => b = mR M m 6) M M24 := by rw [e24]; exact FI.ui rfl
    have e8 : mI M24 m 8 = mI M m 8 := by rw [f24.2.2.2.2.2.2 m mA]
    rw [e8, q1, q2]
    refine ⟨by rw [f24.1, f24.2.2.1]; exact kB, by rw [f24.2.1, f24.2.2.1]; omega, by rw [f24.2.1, f24.2.2.1]; omega, fun M29 e29 => ?_⟩
    have eB : mI M24 (mR M24 m 7) (t + 1) = mI M (mR M m 7) (t + 1) := by rw [f24.2.2.1, f24.2.2.2.2.2.2 _ (fun u => ne u.symm)]
    have w := ms_val h (j := t) (by omega) (ok _ _).1 (by rw [eB]; exact hv) e24 e29
    have pv := pl_val ⟨mA, mB⟩ ne e24 e29
    rw [eB, h2.1, h2.2] at pv
    exact k_Ma_relate_75 w.1.pile.1 ⟨rfl, rfl, w.1, mtq.val h e24 e29, pv.1, pv.2⟩
  · have er : rlv o x a b e f = (0, a, b) := by
      unfold rlv
      rw [if_pos o1, if_neg]
      rw [e7, e13] at ny
      by_cases u : x ≤ 0 <;> by_cases w : o = 15 <;> simp [u, w] at ny ⊢ <;> omega
    rw [er]
    exact ⟨rfl, rfl, h, mtq.refl, plq.refl, h1⟩
  · have er : rlv o x a b e f = (0, v57, 1) := by
      unfold rlv
      rw [if_neg o1]
      rw [e57, e50]
      by_cases y : (o = 24 ∧ x = 0) ∨ (o = 19 ∧ x ≠ 0) ∨ (o = 22 ∧ x < 0) ∨ (o = 20 ∧ x ≤ 0) ∨ (o = 23 ∧ 0 < x) ∨ (o ≠ 24 ∧ o ≠ 19 ∧ o ≠ 22 ∧ o ≠ 20 ∧ o ≠ 23 ∧ 0 ≤ x)
      · rw [if_pos y, if_neg (by omega)]
      · rw [if_neg y, if_pos (by omega)]
    rw [er, q1]
    refine ⟨kA, by omega, fun M64 e64 => ?_⟩
    have f64 : FI (fun b => b = mR M m 6) M M64 := by rw [e64]; exact FI.ui rfl
    have e8 : mI M64 m 8 = mI M m 8 := by rw [f64.2.2.2.2.2.2 m mA]
    rw [e8, q1]
    refine ⟨by rw [f64.1, f64.2.2.1]; exact kB, by rw [f64.2.1, f64.2.2.1]; omega, fun M68 e68 => ?_⟩
    have i57 : i32 v57 := by rw [e57]; split <;> exact i32s (by omega) (by omega)
    have w := ms_val h (j := t) (by omega) i57 ⟨by omega, by omega⟩ e64 e68
    have pv := pl_val ⟨mA, mB⟩ ne e64 e68
    exact ⟨rfl, rfl, w.1, mtq.val h e64 e68, pv.1, pv.2⟩
end MAX
end
end
