section
section
/-! The class's reader of rules: what its piles hold, and the heights of the code that it makes. -/
section RRH
variable {G : mG} {d z r w T A B D N C n p O P K k a s L V F : Nat} {M M' M1 M2 : mM} {H H' : Nat → Nat} {ns : Nat → Int}
/-- sums over the open operations -/
def sq (f : Nat → Nat) : Nat → Nat
  | 0 => 0
  | i + 1 => sq f i + f i
theorem sq_cg {f g : Nat → Nat} : ∀ (i : Nat), (∀ j, j < i → f j = g j) → sq f i = sq g i
  | 0, _ => rfl
  | i + 1, h => by
    show sq f i + f i = sq g i + g i
    rw [sq_cg i (fun j hj => h j (by omega)), h i (by omega)]
/-- values of the machine that an open operation o with marks m holds -/
def cm (o m : Int) : Nat := if 19 ≤ o ∧ o ≤ 29 then 1 else if (o = 15 ∨ o = 16) ∧ (m = 2 ∨ m = 3) then 1 else 0
/-- kinds that it holds, orders that it will make, levels that it is -/
def ckk (o : Int) : Nat := if 19 ≤ o ∧ o ≤ 31 then 1 else 0
def cee (o : Int) : Nat := if (19 ≤ o ∧ o ≤ 29) ∨ o = 40 ∨ o = 41 then 1 else 0
def cdp (o : Int) : Nat := if o = 15 ∨ o = 16 ∨ o = 33 ∨ o = 37 ∨ o = 40 ∨ o = 41 ∨ o = 42 then 1 else 0
/-- the rank of a sign between two operands -/
def rkk (o : Int) : Nat := if o = 31 then 1 else if o = 30 then 2 else if 19 ≤ o ∧ o ≤ 24 then 3 else if o = 25 ∨ o = 26 then 4 else if 27 ≤ o ∧ o ≤ 29 then 5 else 0
def opn (o : Int) : Prop := o = 15 ∨ o = 16 ∨ (19 ≤ o ∧ o ≤ 31) ∨ o = 33 ∨ o = 37 ∨ o = 40 ∨ o = 41 ∨ o = 42
def jm (o : Int) : Prop := o = 30 ∨ o = 31 ∨ o = 33 ∨ o = 42
def bs (M : mM) (r i : Nat) : Nat := sq (fun j => cm (mI M (r + 1) j) (mI M (r + 4) j)) i
def skk (M : mM) (r i : Nat) : Nat := sq (fun j => ckk (mI M (r + 1) j)) i
def se (M : mM) (r i : Nat) : Nat := sq (fun j => cee (mI M (r + 1) j)) i
def sdp (M : mM) (r i : Nat) : Nat := sq (fun j => cdp (mI M (r + 1) j)) i
/-- an order that goes straight on -/
def stO (V F : Nat) (ns : Nat → Int) (H : Nat → Nat) (pc : Nat) (o x : Int) : Prop :=
  (o = 3 ∧ -999999999 ≤ x ∧ x ≤ 999999999 ∧ H (pc + 1) = H pc + 1) ∨ ((o = 4 ∨ o = 7) ∧ 0 ≤ x ∧ x < F ∧ ns x.toNat = o ∧ H (pc + 1) = H pc + 1) ∨ (o = 5 ∧ 0 ≤ x ∧ x < V ∧ H (pc + 1) = H pc + 1) ∨ ((o = 30 ∨ o = 31 ∨ o = 33) ∧ H (pc + 1) + 1 = H pc) ∨ (o = 42 ∧ 1 ≤ H pc) ∨ ((o = 40 ∨ o = 41) ∧ 1 ≤ H pc ∧ H (pc + 1) = H pc) ∨ ((o = 15 ∨ o = 16 ∨ (19 ≤ o ∧ o ≤ 29)) ∧ 2 ≤ H pc ∧ H (pc + 1) + 1 = H pc) ∨ (o = 43 ∧ 0 ≤ x ∧ x ≤ 1000000 ∧ x % 16 < V ∧ H (pc + 1) + 1 = H pc)
/-- where it may jump to -/
def tgO (H : Nat → Nat) (L pc : Nat) (o x : Int) : Prop := ∃ t : Nat, x = t ∧ pc < t ∧ t ≤ L ∧ (o = 33 → H t + 1 = H pc) ∧ (o ≠ 33 → H t = H pc)
/-- the code from s to L; pd: jumps that are not settled yet -/
def CO (M : mM) (O P V F : Nat) (ns : Nat → Int) (H : Nat → Nat) (s L : Nat) (pd : Nat → Prop) : Prop := ∀ pc, s ≤ pc → pc < L → stO V F ns H pc (mI M O pc) (mI M P pc) ∧ (jm (mI M O pc) → pd pc ∨ tgO H L pc (mI M O pc) (mI M P pc)) ∧ H pc + s ≤ pc
theorem stO.cg {pc : Nat} {o x : Int} (h : stO V F ns H pc o x) (h0 : H' pc = H pc) (h1 : H' (pc + 1) = H (pc + 1)) : stO V F ns H' pc o x := by
  unfold stO at h ⊢
  rw [h0, h1]
  exact h
theorem tgO.cg {L' pc : Nat} {o x : Int} (h : tgO H L pc o x) (hL : L ≤ L') (hp : pc < L) (hH : ∀ i, i ≤ L → H' i = H i) : tgO H' L' pc o x := by
  obtain ⟨t, e, t1, t2, t3, t4⟩ := h
  refine ⟨t, e, t1, by omega, ?_, ?_⟩
  · rw [hH t t2, hH pc (by omega)]
    exact t3
  · rw [hH t t2, hH pc (by omega)]
    exact t4
/-- one order more -/
theorem CO.add {pd pd' : Nat → Prop} {o x : Int} (h : CO M O P V F ns H s L pd) (hsL : s ≤ L) (hH : ∀ i, i ≤ L → H' i = H i) (hb : H L + s ≤ L) (hO : ∀ i, mI M' O i = if i = L then o else mI M O i) (hP : ∀ i, mI M' P i = if i = L then x else mI M P i) (hpd : ∀ i, i < L → pd i → pd' i) (hs : stO V F ns H' L o x) (hj : jm o → pd' L ∨ tgO H' (L + 1) L o x) : CO M' O P V F ns H' s (L + 1) pd' := by
  intro pc h0 h1
  rw [hO, hP]
  by_cases y : pc = L
  · subst y
    rw [if_pos rfl, if_pos rfl]
    exact ⟨hs, hj, by rw [hH pc (Nat.le_refl _)]; exact hb⟩
  · rw [if_neg y, if_neg y]
    obtain ⟨a1, a2, a3⟩ := h pc h0 (by omega)
    refine ⟨a1.cg (hH pc (by omega)) (hH (pc + 1) (by omega)), fun q => ?_, by rw [hH pc (by omega)]; exact a3⟩
    rcases a2 q with u | u
    · exact Or.inl (hpd pc (by omega) u)
    · exact Or.inr (u.cg (by omega) (by omega) hH)
/-- a jump is settled -/
theorem CO.put {pd pd' : Nat → Prop} {t : Nat} {x : Int} (h : CO M O P V F ns H s L pd) (hj : jm (mI M O t)) (hO : ∀ i, mI M' O i = mI M O i) (hP : ∀ i, mI M' P i = if i = t then x else mI M P i) (hpd : ∀ i, i < L → i ≠ t → pd i → pd' i) (ht : tgO H L t (mI M O t) x) : CO M' O P V F ns H s L pd' := by
  intro pc h0 h1
  rw [hO, hP]
  obtain ⟨a1, a2, a3⟩ := h pc h0 h1
  by_cases y : pc = t
  · subst y
    rw [if_pos rfl]
    refine ⟨?_, fun _ => Or.inr ht, a3⟩
    clear h hO hP hpd ht a2 a3
    unfold jm at hj
    rcases a1 with q | q | q | q | q | q | q | q
    · exact absurd q.1 (by omega)
    · exact absurd q.1 (by omega)
    · exact absurd q.1 (by omega)
    · exact Or.inr (Or.inr (Or.inr (Or.inl q)))
    · exact Or.inr (Or.inr (Or.inr (Or.inr (Or.inl q))))
    · exact absurd q.1 (by omega)
    · exact absurd q.1 (by omega)
    · exact absurd q.1 (by omega)
  · rw [if_neg y]
    refine ⟨a1, fun q => ?_, a3⟩
    rcases a2 q with u | u
    · exact Or.inl (hpd pc h1 y u)
    · exact Or.inr u
/-- below a '?' nothing tighter is open -/
def aO (M : mM) (r i : Nat) : Prop := (mI M (r + 1) i = 33 ∨ mI M (r + 1) i = 42) → ∀ j, j + 1 = i → lvl (mI M (r + 1) j) = 0
/-- what an open operation keeps -/
def enO (M : mM) (r O s L : Nat) (H : Nat → Nat) (i : Nat) : Prop := opn (mI M (r + 1) i) ∧ (0 ≤ mI M (r + 2) i ∧ mI M (r + 2) i ≤ 16384) ∧ (0 ≤ mI M (r + 4) i ∧ mI M (r + 4) i ≤ 7) ∧ ((mI M (r + 1) i = 15 ∨ mI M (r + 1) i = 16) → mI M (r + 4) i ≤ 3) ∧ (jm (mI M (r + 1) i) → ∃ t : Nat, mI M (r + 3) i = t ∧ s ≤ t ∧ t < L ∧ mI M O t = mI M (r + 1) i ∧ H t = bs M r i + 1 ∧ (mI M (r + 1) i ≠ 42 → H (t + 1) = bs M r i)) ∧ (¬ jm (mI M (r + 1) i) → mI M (r + 3) i = -1) ∧ aO M r i
def pdg (M : mM) (r k : Nat) (pc : Nat) : Prop := ∃ i, i < k ∧ mI M (r + 3) i = pc ∧ jm (mI M (r + 1) i)
/-- how many operands stand behind the latest sign -/
def uw (wt : Int) : Nat := if wt = 0 then 1 else 0
/-- reading a rule: k operations are open, at word a, L orders -/
def RG (M : mM) (r p O P n s V F : Nat) (ns : Nat → Int) (d0 : Nat) (H : Nat → Nat) (L k a : Nat) (wt : Int) : Prop :=
  (mI M r 2 = a ∧ mI M r 12 = k ∧ mI M r 7 = wt ∧ mI M p 2 = L) ∧ (wt = 0 ∨ wt = 1) ∧ (a ≤ n ∧ s ≤ L) ∧ mI M r 14 = ((uw wt + skk M r k : Nat) : Int) ∧ (mI M r 5 = ((d0 + sdp M r k : Nat) : Int) ∧ d0 + sdp M r k ≤ 40) ∧ (∀ i, i < k → i + 1 ≤ 6 * sdp M r (i + 1) + rkk (mI M (r + 1) i)) ∧ (∀ i, i < k → enO M r O s L H i) ∧ (H L = uw wt + bs M r k ∧ H L + s ≤ L) ∧ CO M O P V F ns H s L (pdg M r k) ∧ L + se M r k ≤ a ∧ (∀ j, mI M (r + 5) j = 0 ∨ mI M (r + 5) j = 1)
theorem rkk_b (o : Int) : rkk o ≤ 5 := by unfold rkk; (repeat' split) <;> omega
theorem skk_le (M : mM) (r : Nat) : ∀ k, skk M r k ≤ k
  | 0 => Nat.le_refl _
  | k + 1 => by
    have h1 := skk_le M r k
    have h2 : ckk (mI M (r + 1) k) ≤ 1 := by unfold ckk; split <;> omega
    have h3 : skk M r (k + 1) = skk M r k + ckk (mI M (r + 1) k) := rfl
    omega
/-- there is room on the piles -/
theorem RG.room {d0 : Nat} {wt : Int} (h : RG M r p O P n s V F ns d0 H L k a wt) : k ≤ 245 ∧ uw wt + skk M r k ≤ 246 := by
  obtain ⟨-, h2, -, -, ⟨-, h5⟩, h6, -⟩ := h
  have hk : k ≤ 245 := by
    by_cases y : k = 0
    · omega
    · have a1 := h6 (k - 1) (by omega)
      have a2 := rkk_b (mI M (r + 1) (k - 1))
      rw [show k - 1 + 1 = k by first | rfl | omega] at a1
      omega
  have := skk_le M r k
  have hu : uw wt ≤ 1 := by unfold uw; split <;> omega
  exact ⟨hk, by omega⟩
/-- the sums look at the piles alone -/
theorem sums_cg (h1 : ∀ j, j < k → mI M' (r + 1) j = mI M (r + 1) j) (h4 : ∀ j, j < k → mI M' (r + 4) j = mI M (r + 4) j) : ∀ i, i ≤ k → bs M' r i = bs M r i ∧ skk M' r i = skk M r i ∧ se M' r i = se M r i ∧ sdp M' r i = sdp M r i := fun i hi =>
  ⟨sq_cg i (fun j hj => by rw [h1 j (by omega), h4 j (by omega)]), sq_cg i (fun j hj => by rw [h1 j (by omega)]), sq_cg i (fun j hj => by rw [h1 j (by omega)]), sq_cg i (fun j hj => by rw [h1 j (by omega)])⟩
end RRH
end
section
/-! The class's reader of rules: push, mayDeny, takeValue, takeLevel. -/
section RRP
variable {G : mG} {d z r w T A B D N C n p O P K k a s L V F d0 : Nat} {M M' M1 M2 : mM} {H H' : Nat → Nat} {ns : Nat → Int} {wt : Int}
theorem s_RR_push {o pl od : Int} (ho : i32 o) (hpl : i32 pl) (hod : i32 od) (h : RB M z r w T A B D N C n p O P K) (hk : mI M r 12 = k) (hk3 : k < 336) (ha : mI M r 2 = a) (ha2 : a ≤ 16384) : Cv G y_RR_push d [vr r, vi o, vi pl, vi od] M (fun M' => RB M' z r w T A B D N C n p O P K ∧ FI (fun b => r ≤ b ∧ b ≤ r + 4) M M' ∧ (∀ i, mI M' r i = if i = 2 then (a : Int) + 1 else if i = 7 then 1 else if i = 12 then (k : Int) + 1 else mI M r i) ∧ (∀ i, mI M' (r + 1) i = if i = k then o else mI M (r + 1) i) ∧ (∀ i, mI M' (r + 2) i = if i = k then pl else mI M (r + 2) i) ∧ (∀ i, mI M' (r + 3) i = if i = k then od else mI M (r + 3) i) ∧ (∀ i, mI M' (r + 4) i = if i = k then 0 else mI M (r + 4) i)) := by
  have q8 : ∀ {Mx : mM}, RB Mx z r w T A B D N C n p O P K → (mR Mx r 8 = r + 1 ∧ mR Mx r 9 = r + 2 ∧ mR Mx r 10 = r + 3 ∧ mR Mx r 11 = r + 4) ∧ (mK Mx (r + 1) = 30 ∧ mK Mx (r + 2) = 30 ∧ mK Mx (r + 3) = 30 ∧ mK Mx (r + 4) = 30) ∧ (mN Mx (r + 1) = 336 ∧ mN Mx (r + 2) = 336 ∧ mN Mx (r + 3) = 336 ∧ mN Mx (r + 4) = 336) := fun hx => by
    obtain ⟨-, ⟨-, ⟨a1, a2, a3, a4, -⟩, ⟨b1, b2, b3, b4, -⟩, ⟨c1, c2, c3, c4, -⟩⟩, -⟩ := hx
    exact ⟨⟨a1, a2, a3, a4⟩, ⟨b1, b2, b3, b4⟩, ⟨c1, c2, c3, c4⟩⟩
  refine k_RR_push h.1 ho hpl hod ⟨h.2.1.1, fun y => absurd y (by omega), fun _ => ?_⟩
  rw [(q8 h).1.1, hk, Int.toNat_natCast, (q8 h).2.2.1]
  refine ⟨(q8 h).2.1.1, by omega, fun M16 e16 => ?_⟩
  obtain ⟨h16, f16, g16, u16⟩ := rb_tab h (i := 1) (by omega) (by omega) ho e16
  rw [(q8 h16).1.2.1, u16 r (by omega), hk, Int.toNat_natCast, (q8 h16).2.2.2.1]
  refine ⟨(q8 h16).2.1.2.1, by omega, fun M20 e20 => ?_⟩
  obtain ⟨h20, f20, g20, u20⟩ := rb_tab h16 (i := 2) (by omega) (by omega) hpl e20
  rw [(q8 h20).1.2.2.1, u20 r (by omega), u16 r (by omega), hk, Int.toNat_natCast, (q8 h20).2.2.2.2.1]
  refine ⟨(q8 h20).2.1.2.2.1, by omega, fun M24 e24 => ?_⟩
  obtain ⟨h24, f24, g24, u24⟩ := rb_tab h20 (i := 3) (by omega) (by omega) hod e24
  rw [(q8 h24).1.2.2.2, u24 r (by omega), u20 r (by omega), u16 r (by omega), hk, Int.toNat_natCast, (q8 h24).2.2.2.2.2]
  refine ⟨(q8 h24).2.1.2.2.2, by omega, fun M28 e28 => ?_⟩
  obtain ⟨h28, f28, g28, u28⟩ := rb_tab h24 (i := 4) (by omega) (by omega) (v := 0) (i32s (by omega) (by omega)) e28
  have r28 : mI M28 r = mI M r := by rw [u28 r (by omega), u24 r (by omega), u20 r (by omega), u16 r (by omega)]
  rw [r28, hk]
  refine ⟨⟨by omega, by omega⟩, fun M31 e31 M33 e33 => ?_⟩
  obtain ⟨h31, f31, g31, u31⟩ := rb_fld h28 ⟨by omega, by omega⟩ e31
  obtain ⟨h33, f33, g33, u33⟩ := rb_fld h31 (v := 1) (i32s (by omega) (by omega)) e33
  have e2 : mI M33 r 2 = a := by rw [g33, if_neg (by decide), g31, if_neg (by decide), r28, ha]
  rw [e2]
  refine ⟨⟨by omega, by omega⟩, fun M36 e36 => ?_⟩
  obtain ⟨h36, f36, g36, u36⟩ := rb_fld h33 ⟨by omega, by omega⟩ e36
  have fi : FI (fun b => r ≤ b ∧ b ≤ r + 4) M M36 := by
    have x16 : FI (fun b => r ≤ b ∧ b ≤ r + 4) M M16 := by rw [e16]; exact FI.ui ⟨by omega, by omega⟩
    have x20 : FI (fun b => r ≤ b ∧ b ≤ r + 4) M16 M20 := by rw [e20]; exact FI.ui ⟨by omega, by omega⟩
    have x24 : FI (fun b => r ≤ b ∧ b ≤ r + 4) M20 M24 := by rw [e24]; exact FI.ui ⟨by omega, by omega⟩
    have x28 : FI (fun b => r ≤ b ∧ b ≤ r + 4) M24 M28 := by rw [e28]; exact FI.ui ⟨by omega, by omega⟩
    have x31 : FI (fun b => r ≤ b ∧ b ≤ r + 4) M28 M31 := by rw [e31]; exact FI.ui ⟨by omega, by omega⟩
    have x33 : FI (fun b => r ≤ b ∧ b ≤ r + 4) M31 M33 := by rw [e33]; exact FI.ui ⟨by omega, by omega⟩
    have x36 : FI (fun b => r ≤ b ∧ b ≤ r + 4) M33 M36 := by rw [e36]; exact FI.ui ⟨by omega, by omega⟩
    exact (((((x16.trans x20).trans x24).trans x28).trans x31).trans x33).trans x36
  refine ⟨h36, fi, fun i => ?_, fun i => ?_, fun i => ?_, fun i => ?_, fun i => ?_⟩
  · rw [g36]
    by_cases y2 : i = 2
    · rw [if_pos y2, if_pos y2]
    · rw [if_neg y2, if_neg y2, g33]
      by_cases y7 : i = 7
      · rw [if_pos y7, if_pos y7]
      · rw [if_neg y7, if_neg y7, g31, r28]
  · rw [u36 _ (by omega), u33 _ (by omega), u31 _ (by omega), u28 _ (by omega), u24 _ (by omega), u20 _ (by omega), g16]
  · rw [u36 _ (by omega), u33 _ (by omega), u31 _ (by omega), u28 _ (by omega), u24 _ (by omega), g20, u16 _ (by omega)]
  · rw [u36 _ (by omega), u33 _ (by omega), u31 _ (by omega), u28 _ (by omega), g24, u20 _ (by omega), u16 _ (by omega)]
  · rw [u36 _ (by omega), u33 _ (by omega), u31 _ (by omega), g28, u24 _ (by omega), u20 _ (by omega), u16 _ (by omega)]
/-- the orders lie apart from the reader -/
theorem off0 {x r : Nat} (h : x < r ∨ r + 9 < x) : x ≠ r := by omega
theorem off9 {x r i : Nat} (h : x < r ∨ r + 9 < x) (hi : i ≤ 9) : x ≠ r + i := by omega
theorem off4 {x r : Nat} (h : x < r ∨ r + 9 < x) : x < r ∨ r + 4 < x := by omega
theorem fof0 {x r : Nat} (h : x < r ∨ r + 9 < x) : r ≠ x := by omega
theorem fof9 {x r i : Nat} (h : x < r ∨ r + 9 < x) (hi : i ≤ 9) : r + i ≠ x := by omega
theorem off3 {b r p O P : Nat} (h1 : p < r ∨ r + 9 < p) (h2 : O < r ∨ r + 9 < O) (h3 : P < r ∨ r + 9 < P) (y1 : r ≤ b) (y2 : b ≤ r + 9) (q : b = p ∨ b = O ∨ b = P) : False := by
  rcases q with q | q | q <;> omega
theorem nin5 {b r : Nat} (y1 : b ≠ r) (y2 : b ≠ r + 5) (q : b = r ∨ b = r + 5) : False := q.elim y1 y2
theorem rin5 {b r : Nat} (q : b = r ∨ b = r + 5) : r ≤ b ∧ b ≤ r + 9 := by omega
theorem RB.off (h : RB M z r w T A B D N C n p O P K) : (O < r ∨ r + 9 < O) ∧ (P < r ∨ r + 9 < P) ∧ (p < r ∨ r + 9 < p) ∧ O ≠ p ∧ P ≠ p ∧ O ≠ P := by
  obtain ⟨-, -, -, -, ⟨-, -, -, ⟨a1, a2, a3, a4⟩, -⟩, ⟨s1, s2, -⟩, -⟩ := h
  refine ⟨?_, ?_, ?_, ?_, ?_, a3⟩ <;> omega
/-- an open operation keeps what it keeps -/
theorem enO.cg {L' i : Nat} (h : enO M r O s L H i) (h1 : ∀ j, j ≤ i → mI M' (r + 1) j = mI M (r + 1) j) (h2 : mI M' (r + 2) i = mI M (r + 2) i) (h3 : mI M' (r + 3) i = mI M (r + 3) i) (h4 : ∀ j, j ≤ i → mI M' (r + 4) j = mI M (r + 4) j) (hL : L ≤ L') (hO : ∀ j, j < L → mI M' O j = mI M O j) (hH : ∀ j, j ≤ L → H' j = H j) : enO M' r O s L' H' i := by
  obtain ⟨a1, a2, a3, a4, a5, a6, a7⟩ := h
  have b := (sums_cg (M := M) (M' := M') (r := r) (k := i) (fun j hj => h1 j (by omega)) (fun j hj => h4 j (by omega)) i (Nat.le_refl _)).1
  unfold enO
  rw [h1 i (Nat.le_refl _), h2, h3, h4 i (Nat.le_refl _), b]
  refine ⟨a1, a2, a3, a4, fun q => ?_, a6, fun q j hj => by rw [h1 j (by omega)]; exact a7 (by rw [h1 i (Nat.le_refl _)] at q; exact q) j hj⟩
  obtain ⟨t, t1, t2, t3, t4, t5, t6⟩ := a5 q
  exact ⟨t, t1, t2, by omega, by rw [hO t t3]; exact t4, by rw [hH t (by omega)]; exact t5, fun y => by rw [hH (t + 1) (by omega)]; exact t6 y⟩
theorem pdg_cg {k' pc : Nat} (h : pdg M r k pc) (hk : k ≤ k') (h1 : ∀ j, j < k → mI M' (r + 1) j = mI M (r + 1) j) (h3 : ∀ j, j < k → mI M' (r + 3) j = mI M (r + 3) j) : pdg M' r k' pc := by
  obtain ⟨i, i1, i2, i3⟩ := h
  exact ⟨i, by omega, by rw [h3 i i1]; exact i2, by rw [h1 i i1]; exact i3⟩
end RRP
end
section
/-! The class's reader of rules: a level begins, a sign is read. -/
section RRL
variable {G : mG} {d z r w T A B D N C n p O P K k a s L V F d0 : Nat} {M M' M1 M2 : mM} {H H' : Nat → Nat} {ns : Nat → Int} {wt : Int}
theorem sum_top (M : mM) (r k : Nat) : bs M r (k + 1) = bs M r k + cm (mI M (r + 1) k) (mI M (r + 4) k) ∧ skk M r (k + 1) = skk M r k + ckk (mI M (r + 1) k) ∧ se M r (k + 1) = se M r k + cee (mI M (r + 1) k) ∧ sdp M r (k + 1) = sdp M r k + cdp (mI M (r + 1) k) := ⟨rfl, rfl, rfl, rfl⟩
theorem cee_b (o : Int) : cee o ≤ 1 := by unfold cee; split <;> omega
/-- an operation without an order of its own is open now -/
theorem RG.psh {o pl : Int} {dd : Nat} (g : RG M r p O P n s V F ns d0 H L k a wt) (hr : ∀ i, mI M' r i = if i = 2 then (a : Int) + 1 else if i = 7 then 1 else if i = 12 then (k : Int) + 1 else if i = 5 then (dd : Int) else mI M r i) (t1 : ∀ i, mI M' (r + 1) i = if i = k then o else mI M (r + 1) i) (t2 : ∀ i, mI M' (r + 2) i = if i = k then pl else mI M (r + 2) i) (t3 : ∀ i, mI M' (r + 3) i = if i = k then -1 else mI M (r + 3) i) (t4 : ∀ i, mI M' (r + 4) i = if i = k then 0 else mI M (r + 4) i) (t5 : mI M' (r + 5) = mI M (r + 5)) (tp : mI M' p = mI M p) (tO : mI M' O = mI M O) (tP : mI M' P = mI M P) (ho : opn o) (hj : ¬ jm o) (hpl : 0 ≤ pl ∧ pl ≤ 16384) (hd : dd = d0 + sdp M r k + cdp o) (hd4 : dd ≤ 40) (hrk : k + 1 ≤ 6 * (sdp M r k + cdp o) + rkk o) (hu : uw wt = ckk o) (hb : uw wt = cm o 0) (han : a < n) : RG M' r p O P n s V F ns d0 H L (k + 1) (a + 1) 1 := by
  obtain ⟨⟨g1, g2, g3, g4⟩, gw, ⟨ga, gs⟩, gc, ⟨gd, gd4⟩, gr, ge, ⟨gH, gHs⟩, gC, gL, gt⟩ := g
  have l1 : ∀ j, j < k → mI M' (r + 1) j = mI M (r + 1) j := fun j hj => by rw [t1, if_neg (by omega)]
  have l2 : ∀ j, j < k → mI M' (r + 2) j = mI M (r + 2) j := fun j hj => by rw [t2, if_neg (by omega)]
  have l3 : ∀ j, j < k → mI M' (r + 3) j = mI M (r + 3) j := fun j hj => by rw [t3, if_neg (by omega)]
  have l4 : ∀ j, j < k → mI M' (r + 4) j = mI M (r + 4) j := fun j hj => by rw [t4, if_neg (by omega)]
  have sm := fun i hi => sums_cg (M := M) (M' := M') (r := r) (k := k) l1 l4 i hi
  obtain ⟨b1, b2, b3, b4⟩ := sum_top M' r k
  rw [t1, if_pos rfl, (sm k (Nat.le_refl _)).2.1] at b2
  rw [t1, if_pos rfl, (sm k (Nat.le_refl _)).2.2.1] at b3
  rw [t1, if_pos rfl, (sm k (Nat.le_refl _)).2.2.2] at b4
  rw [t1, if_pos rfl, t4, if_pos rfl, (sm k (Nat.le_refl _)).1] at b1
  have u1 : uw 1 = 0 := rfl
  have ce := cee_b o
  refine ⟨⟨by rw [hr, if_pos rfl]; omega, by rw [hr, if_neg (by decide), if_neg (by decide), if_pos rfl]; omega, by rw [hr, if_neg (by decide), if_pos rfl], by rw [tp]; exact g4⟩, Or.inr rfl, ⟨by omega, gs⟩, by rw [hr, if_neg (by decide), if_neg (by decide), if_neg (by decide), if_neg (by decide), gc, b2]; omega, ⟨by rw [hr, if_neg (by decide), if_neg (by decide), if_neg (by decide), if_pos rfl, b4]; omega, by omega⟩, fun i hi => ?_, fun i hi => ?_, ⟨by omega, gHs⟩, ?_, by omega, fun j => by rw [t5]; exact gt j⟩
  · by_cases y : i = k
    · subst y
      rw [b4, t1, if_pos rfl]
      exact hrk
    · rw [(sm (i + 1) (by omega)).2.2.2, l1 i (by omega)]
      exact gr i (by omega)
  · by_cases y : i = k
    · subst y
      unfold enO
      rw [t1, if_pos rfl, t2, if_pos rfl, t3, if_pos rfl, t4, if_pos rfl]
      exact ⟨ho, hpl, by omega, fun _ => by omega, fun q => absurd q hj, fun _ => rfl, fun q => absurd (show jm o by rw [t1, if_pos rfl] at q; unfold jm; omega) hj⟩
    · exact (ge i (by omega)).cg (fun j hj => l1 j (by omega)) (l2 i (by omega)) (l3 i (by omega)) (fun j hj => l4 j (by omega)) (Nat.le_refl _) (fun j _ => by rw [tO]) (fun _ _ => rfl)
  · intro pc h0 h1
    obtain ⟨a1, a2, a3⟩ := gC pc h0 h1
    rw [tO, tP]
    refine ⟨a1, fun q => ?_, a3⟩
    rcases a2 q with v | v
    · exact Or.inl (pdg_cg v (by omega) l1 l3)
    · exact Or.inr v
/-- there is room for a level, or a sign -/
theorem RG.lvl (g : RG M r p O P n s V F ns d0 H L k a wt) {o : Int} (h : cdp o = 1 ∨ (cdp o = 0 ∧ 1 ≤ rkk o ∧ (0 < k → rkk (mI M (r + 1) (k - 1)) < rkk o))) : k + 1 ≤ 6 * (sdp M r k + cdp o) + rkk o := by
  have gr := g.2.2.2.2.2.1
  by_cases y : k = 0
  · omega
  · have a1 := gr (k - 1) (by omega)
    have a2 := rkk_b (mI M (r + 1) (k - 1))
    rw [show k - 1 + 1 = k by first | rfl | omega] at a1
    omega
/-- what a step that opens something, and nothing else, comes to -/
def lvQ (M : mM) (z r w T A B D N C n p O P K s V F : Nat) (ns : Nat → Int) (d0 : Nat) (H : Nat → Nat) (L k a : Nat) (x : Int) (M' : mM) : Prop := RB M' z r w T A B D N C n p O P K ∧ FI (rdS r p O P) M M' ∧ (∀ i, i ≠ 2 → i ≠ 5 → i ≠ 7 → i ≠ 12 → mI M' r i = mI M r i) ∧ (∀ i, 5 ≤ i → i ≤ 9 → mI M' (r + i) = mI M (r + i)) ∧ (mI M' p = mI M p ∧ mI M' O = mI M O ∧ mI M' P = mI M P) ∧ ((x = 2 ∧ M' = M) ∨ (x = 0 ∧ RG M' r p O P n s V F ns d0 H L (k + 1) (a + 1) 1))
end RRL
end
section
/-! The class's reader of rules: an operation is grouped. -/
section RRG
variable {G : mG} {d z r w T A B D N C n p O P K k a s L V F d0 c : Nat} {M0 M M' M1 M2 M110 M126 M133 : mM} {H H' : Nat → Nat} {ns : Nat → Int} {wt : Int}
/-- kinds are taken and put, a fault may be noted -/
def gI (M0 : mM) (z r w T A B D N C n p O P K k c : Nat) (M : mM) : Prop := RB M z r w T A B D N C n p O P K ∧ FI (rdS r p O P) M0 M ∧ (∀ i, i ≠ 3 → i ≠ 4 → i ≠ 12 → i ≠ 14 → mI M r i = mI M0 r i) ∧ (mI M r 12 = k ∧ mI M r 14 = c) ∧ (mI M0 r 3 ≠ 0 → mI M r 3 = mI M0 r 3) ∧ (∀ b, b ≠ r → b ≠ r + 5 → mI M b = mI M0 b) ∧ (∀ j, mI M (r + 5) j = 0 ∨ mI M (r + 5) j = 1)
theorem gI.pop (h : gI M0 z r w T A B D N C n p O P K k (c + 1) M) (hc : c < 336) : Ci G y_RR_popKind d [vr r] M (fun v M' => (v = 0 ∨ v = 1) ∧ gI M0 z r w T A B D N C n p O P K k c M') := by
  obtain ⟨h1, h2, h3, ⟨h4, h5⟩, h6, h7, h8⟩ := h
  refine (s_RR_popKind h1 h5 hc).mono (fun v M1 q => ?_)
  obtain ⟨hv, b1, f1, g1⟩ := q
  have o1 : ∀ b, b ≠ r → mI M1 b = mI M b := fun b hb => f1.2.2.2.2.2.2 b hb
  refine ⟨hv, b1, h2.trans (f1.mono (fun b q => Or.inl ⟨by omega, by omega⟩)), fun i i3 i4 i12 i14 => by rw [g1, if_neg i14]; exact h3 i i3 i4 i12 i14, ⟨by rw [g1, if_neg (by decide)]; exact h4, by rw [g1, if_pos rfl]⟩, fun q => by rw [g1, if_neg (by decide)]; exact h6 q, fun b b1 b2 => by rw [o1 b b1]; exact h7 b b1 b2, fun j => by rw [o1 (r + 5) (by omega)]; exact h8 j⟩
theorem gI.note {x y : Int} (hx : i32 x) (hy : i32 y) (h : gI M0 z r w T A B D N C n p O P K k c M) : Cv G y_RR_note d [vr r, vi x, vi y] M (fun M' => gI M0 z r w T A B D N C n p O P K k c M') := by
  obtain ⟨h1, h2, h3, ⟨h4, h5⟩, h6, h7, h8⟩ := h
  refine (s_RR_note hx hy h1).mono (fun M1 q => ?_)
  obtain ⟨b1, f1, g1, -, g3⟩ := q
  have o1 : ∀ b, b ≠ r → mI M1 b = mI M b := fun b hb => f1.2.2.2.2.2.2 b hb
  refine ⟨b1, h2.trans (f1.mono (fun b q => Or.inl ⟨by omega, by omega⟩)), fun i i3 i4 i12 i14 => by rw [g1 i i3 i4]; exact h3 i i3 i4 i12 i14, ⟨by rw [g1 12 (by decide) (by decide)]; exact h4, by rw [g1 14 (by decide) (by decide)]; exact h5⟩, fun q => by rw [g3 (by rw [h6 q]; exact q)]; exact h6 q, fun b b1 b2 => by rw [o1 b b1]; exact h7 b b1 b2, fun j => by rw [o1 (r + 5) (by omega)]; exact h8 j⟩
/-- what is left when an operation has been grouped -/
def gQ (M0 : mM) (z r w T A B D N C n p O P K s V F : Nat) (ns : Nat → Int) (d0 : Nat) (H : Nat → Nat) (L k a : Nat) (M' : mM) : Prop := RB M' z r w T A B D N C n p O P K ∧ FI (rdS r p O P) M0 M' ∧ (∀ i, i ≠ 3 → i ≠ 4 → i ≠ 5 → i ≠ 12 → i ≠ 14 → mI M' r i = mI M0 r i) ∧ (mI M0 r 3 ≠ 0 → mI M' r 3 = mI M0 r 3) ∧ (∀ i, 6 ≤ i → i ≤ 9 → mI M' (r + i) = mI M0 (r + i)) ∧ (∀ i, i ≠ 2 → mI M' p i = mI M0 p i) ∧ (∀ i, i < s → mI M' O i = mI M0 O i ∧ mI M' P i = mI M0 P i) ∧ (∀ i, i < k → mI M' (r + 1) i = mI M0 (r + 1) i) ∧ ∃ H' L', RG M' r p O P n s V F ns d0 H' L' k a 0 ∧ L ≤ L' ∧ ∀ i, i ≤ L → H' i = H i
/-- operations that are grouped -/
def grpO (o : Int) : Prop := (19 ≤ o ∧ o ≤ 31) ∨ o = 40 ∨ o = 41 ∨ o = 42
/-- kinds, faults and depth are as they will be -/
def gJ (M0 : mM) (z r w T A B D N C n p O P K d0 k : Nat) (M : mM) : Prop := RB M z r w T A B D N C n p O P K ∧ FI (rdS r p O P) M0 M ∧ (∀ i, i ≠ 3 → i ≠ 4 → i ≠ 5 → i ≠ 12 → i ≠ 14 → mI M r i = mI M0 r i) ∧ (mI M r 12 = k ∧ mI M r 14 = ((uw 0 + skk M0 r k : Nat) : Int) ∧ mI M r 5 = ((d0 + sdp M0 r k : Nat) : Int)) ∧ (mI M0 r 3 ≠ 0 → mI M r 3 = mI M0 r 3) ∧ (∀ b, b ≠ r → b ≠ r + 5 → mI M b = mI M0 b) ∧ (∀ j, mI M (r + 5) j = 0 ∨ mI M (r + 5) j = 1)
theorem gr_ord {o : Int} (g : RG M0 r p O P n s V F ns d0 H L (k + 1) a 0) (hb0 : RB M0 z r w T A B D N C n p O P K) (hop : mI M0 (r + 1) k = o) (no3 : (19 ≤ o ∧ o ≤ 29) ∨ o = 40 ∨ o = 41) (hJ : gJ M0 z r w T A B D N C n p O P K d0 k M110) (o126 : mOk M126) (f126 : FI (prS p O P) M110 M126) (p126 : ∀ j, mI M126 p j = if j = 2 then (L : Int) + 1 else mI M110 p j) (q126 : ∀ j, mI M126 O j = if j = L then o else mI M110 O j) (u126 : ∀ j, mI M126 P j = if j = L then mI M0 (r + 2) k else mI M110 P j) : gQ M0 z r w T A B D N C n p O P K s V F ns d0 H L k a M126 := by
  obtain ⟨oO, oP, op, e1, e2, e3⟩ := hb0.off
  replace oO : Hid0 _ := oO
  replace oP : Hid0 _ := oP
  replace op : Hid0 _ := op
  replace e1 : Hid0 _ := e1
  replace e2 : Hid0 _ := e2
  replace e3 : Hid0 _ := e3
  obtain ⟨⟨g1, g2, g3, g4⟩, gw, ⟨ga, gs⟩, gc, ⟨gd, gd4⟩, gr, ge, ⟨gH, gHs⟩, gC, gL, gt⟩ := id g
  obtain ⟨h110, F110, R, ⟨R12, R14, d110⟩, R3, X, T5⟩ := hJ
  obtain ⟨b1, b2, b3, b4⟩ := sum_top M0 r k
  have u0 : uw 0 = 1 := rfl
  rw [hop] at b1 b2 b3 b4
  have nj : ¬ jm o := by unfold jm; omega
  have f126' : FI (rdS r p O P) M110 M126 := f126.mono (fun b q => Or.inr q)
  have h126 := h110.fi o126 f126'
  have Y : ∀ b, r ≤ b → b ≤ r + 9 → mI M126 b = mI M110 b := fun b y1 y2 => f126.2.2.2.2.2.2 b (fun q => by
    have q' : b = p ∨ b = O ∨ b = P := q
    first | exact off3 op oO oP (by assumption) (by assumption) q' | omega)
  have YT : ∀ i, 1 ≤ i → i ≤ 9 → i ≠ 5 → mI M126 (r + i) = mI M0 (r + i) := fun i i1 i9 i5 => by rw [Y (r + i) (by omega) (by omega), X (r + i) (by omega) (by omega)]
  obtain ⟨H', hH'⟩ : ∃ H' : Nat → Nat, ∀ i, H' i = if i = L + 1 then 1 + bs M0 r k else H i := ⟨fun i => if i = L + 1 then 1 + bs M0 r k else H i, fun _ => rfl⟩
  have hHs : ∀ i, i ≤ L → H' i = H i := fun i hi => by rw [hH', if_neg (by omega)]
  have hHL : H' (L + 1) = 1 + bs M0 r k := by rw [hH', if_pos rfl]
  have sm := fun i hi => sums_cg (M := M0) (M' := M126) (r := r) (k := k) (fun j _ => by rw [YT 1 (by omega) (by omega) (by omega)]) (fun j _ => by rw [YT 4 (by omega) (by omega) (by omega)]) i hi
  have QO : ∀ i, mI M126 O i = if i = L then o else mI M0 O i := fun i => by rw [q126, X O (by first | exact oO | exact off0 oO | exact off9 oO (by decide) | exact off4 oO | exact e1 | exact e3 | omega) (by first | exact oO | exact off0 oO | exact off9 oO (by decide) | exact off4 oO | exact e1 | exact e3 | omega)]
  have QP : ∀ i, mI M126 P i = if i = L then mI M0 (r + 2) k else mI M0 P i := fun i => by rw [u126, X P (by first | exact oP | exact off0 oP | exact off9 oP (by decide) | exact off4 oP | exact e2 | exact fun q => e3 q.symm | omega) (by first | exact oP | exact off0 oP | exact off9 oP (by decide) | exact off4 oP | exact e2 | exact fun q => e3 q.symm | omega)]
  have cmv : bs M0 r (k + 1) = bs M0 r k + (if 19 ≤ o ∧ o ≤ 29 then 1 else 0) := by
    rw [b1]
    unfold cm
    by_cases v : 19 ≤ o ∧ o ≤ 29
    · rw [if_pos v, if_pos v]
    · rw [if_neg v, if_neg v, if_neg (by omega)]
  have ce1 : cee o = 1 := by unfold cee; rw [if_pos no3]
  refine ⟨h126, F110.trans f126', fun i i3 i4 i5 i12 i14 => by rw [Y r (by omega) (by omega)]; exact R i i3 i4 i5 i12 i14, fun q => by rw [Y r (by omega) (by omega)]; exact R3 q, fun i i6 i9 => YT i (by omega) i9 (by omega), fun i i2 => by rw [p126, if_neg i2, X p (by first | exact op | exact off0 op | exact off9 op (by decide) | exact off4 op | exact fun q => e1 q.symm | exact fun q => e2 q.symm | omega) (by first | exact op | exact off0 op | exact off9 op (by decide) | exact off4 op | exact fun q => e1 q.symm | exact fun q => e2 q.symm | omega)], fun i hi => ⟨by rw [QO, if_neg (by omega)], by rw [QP, if_neg (by omega)]⟩, fun i _ => by rw [YT 1 (by omega) (by omega) (by omega)], H', L + 1, ⟨⟨by rw [Y r (by omega) (by omega), R 2 (by decide) (by decide) (by decide) (by decide) (by decide)]; exact g1, by rw [Y r (by omega) (by omega)]; exact R12, by rw [Y r (by omega) (by omega), R 7 (by decide) (by decide) (by decide) (by decide) (by decide)]; exact g3, by rw [p126, if_pos rfl]; omega⟩, Or.inl rfl, ⟨ga, by omega⟩, by rw [Y r (by omega) (by omega), R14, (sm k (Nat.le_refl _)).2.1], ⟨by rw [Y r (by omega) (by omega), d110, (sm k (Nat.le_refl _)).2.2.2], by rw [(sm k (Nat.le_refl _)).2.2.2]; omega⟩, fun i hi => by rw [(sm (i + 1) (by omega)).2.2.2, YT 1 (by omega) (by omega) (by omega)]; exact gr i (by omega), fun i hi => ?_, ⟨?_, ?_⟩, ?_, by rw [(sm k (Nat.le_refl _)).2.2.1]; omega, fun j => by rw [Y (r + 5) (by omega) (by omega)]; exact T5 j⟩, by omega, hHs⟩
  · exact (ge i (by omega)).cg (fun j _ => by rw [YT 1 (by omega) (by omega) (by omega)]) (by rw [YT 2 (by omega) (by omega) (by omega)]) (by rw [YT 3 (by omega) (by omega) (by omega)]) (fun j _ => by rw [YT 4 (by omega) (by omega) (by omega)]) (by omega) (fun j hj => by rw [QO, if_neg (by omega)]) hHs
  · rw [hHL, (sm k (Nat.le_refl _)).1]; omega
  · rw [hHL]
    split at cmv <;> omega
  · refine gC.add gs hHs gHs QO QP (fun i _ q => ?_) ?_ (fun q => absurd q nj)
    · obtain ⟨j, j1, j2, j3⟩ := q
      have jk : j ≠ k := fun z => by rw [z, hop] at j3; exact nj j3
      exact ⟨j, by omega, by rw [YT 3 (by omega) (by omega) (by omega)]; exact j2, by rw [YT 1 (by omega) (by omega) (by omega)]; exact j3⟩
    · have e0 := hHs L (Nat.le_refl _)
      by_cases v : 19 ≤ o ∧ o ≤ 29
      · rw [if_pos v] at cmv
        exact Or.inr (Or.inr (Or.inr (Or.inr (Or.inr (Or.inr (Or.inl ⟨Or.inr (Or.inr v), by omega, by omega⟩))))))
      · rw [if_neg v] at cmv
        exact Or.inr (Or.inr (Or.inr (Or.inr (Or.inr (Or.inl ⟨by omega, by omega, by omega⟩)))))
theorem gr_jmp {o : Int} {t : Nat} (g : RG M0 r p O P n s V F ns d0 H L (k + 1) a 0) (hb0 : RB M0 z r w T A B D N C n p O P K) (hop : mI M0 (r + 1) k = o) (yj : jm o) (no33 : o ≠ 33) (hJ : gJ M0 z r w T A B D N C n p O P K d0 k M110) (t1 : mI M0 (r + 3) k = t) (t2 : s ≤ t) (t3 : t < L) (t4 : mI M0 O t = o) (t5 : H t = bs M0 r k + 1) (o133 : mOk M133) (e133 : M133 = mUI M110 P t L) : gQ M0 z r w T A B D N C n p O P K s V F ns d0 H L k a M133 := by
  obtain ⟨oO, oP, op, e1, e2, e3⟩ := hb0.off
  have yP : ∀ i, i ≤ 9 → r + i ≠ P := fun i hi => by omega
  replace oO : Hid0 _ := oO
  replace oP : Hid0 _ := oP
  replace op : Hid0 _ := op
  replace e1 : Hid0 _ := e1
  replace e2 : Hid0 _ := e2
  replace e3 : Hid0 _ := e3
  obtain ⟨⟨g1, g2, g3, g4⟩, gw, ⟨ga, gs⟩, gc, ⟨gd, gd4⟩, gr, ge, ⟨gH, gHs⟩, gC, gL, gt⟩ := id g
  obtain ⟨h110, F110, R, ⟨R12, R14, d110⟩, R3, X, T5⟩ := hJ
  obtain ⟨b1, b2, b3, b4⟩ := sum_top M0 r k
  have u0 : uw 0 = 1 := rfl
  rw [hop] at b1 b2 b3 b4
  have f133 : FI (rdS r p O P) M110 M133 := by rw [e133]; exact FI.ui (Or.inr (Or.inr (Or.inr rfl)))
  have h133 := h110.fi o133 f133
  have Y : ∀ b, b ≠ P → mI M133 b = mI M110 b := fun b y1 => by rw [e133]; funext i; rw [mI_UI, if_neg (fun q => y1 q.1)]
  have YT : ∀ i, 1 ≤ i → i ≤ 9 → i ≠ 5 → mI M133 (r + i) = mI M0 (r + i) := fun i i1 i9 i5 => by rw [Y (r + i) (yP i i9), X (r + i) (by omega) (by omega)]
  have sm := fun i hi => sums_cg (M := M0) (M' := M133) (r := r) (k := k) (fun j _ => by rw [YT 1 (by omega) (by omega) (by omega)]) (fun j _ => by rw [YT 4 (by omega) (by omega) (by omega)]) i hi
  have QP : ∀ i, mI M133 P i = if i = t then (L : Int) else mI M0 P i := fun i => by
    rw [e133, mI_UI]
    by_cases v : i = t
    · rw [if_pos ⟨rfl, v⟩, if_pos v]
    · rw [if_neg (fun q => v q.2), if_neg v, X P (by first | exact oP | exact off0 oP | exact off9 oP (by decide) | exact off4 oP | exact e2 | exact fun q => e3 q.symm | omega) (by first | exact oP | exact off0 oP | exact off9 oP (by decide) | exact off4 oP | exact e2 | exact fun q => e3 q.symm | omega)]
  have QO : ∀ i, mI M133 O i = mI M0 O i := fun i => by rw [Y O (by first | exact oO | exact off0 oO | exact off9 oO (by decide) | exact off4 oO | exact e1 | exact e3 | omega), X O (by first | exact oO | exact off0 oO | exact off9 oO (by decide) | exact off4 oO | exact e1 | exact e3 | omega) (by first | exact oO | exact off0 oO | exact off9 oO (by decide) | exact off4 oO | exact e1 | exact e3 | omega)]
  have cm0 : cm o (mI M0 (r + 4) k) = 0 := by
    unfold jm at yj
    unfold cm
    rw [if_neg (by omega), if_neg (by omega)]
  have ce0 : se M0 r k ≤ se M0 r (k + 1) := by omega
  refine ⟨h133, F110.trans f133, fun i i3 i4 i5 i12 i14 => by rw [Y r (yP 0 (by decide))]; exact R i i3 i4 i5 i12 i14, fun q => by rw [Y r (yP 0 (by decide))]; exact R3 q, fun i i6 i9 => YT i (by omega) i9 (by omega), fun i i2 => by rw [Y p (by first | exact op | exact off0 op | exact off9 op (by decide) | exact off4 op | exact fun q => e1 q.symm | exact fun q => e2 q.symm | omega), X p (by first | exact op | exact off0 op | exact off9 op (by decide) | exact off4 op | exact fun q => e1 q.symm | exact fun q => e2 q.symm | omega) (by first | exact op | exact off0 op | exact off9 op (by decide) | exact off4 op | exact fun q => e1 q.symm | exact fun q => e2 q.symm | omega)], fun i hi => ⟨QO i, by rw [QP, if_neg (by omega)]⟩, fun i _ => by rw [YT 1 (by omega) (by omega) (by omega)], H, L, ⟨⟨by rw [Y r (yP 0 (by decide)), R 2 (by decide) (by decide) (by decide) (by decide) (by decide)]; exact g1, by rw [Y r (yP 0 (by decide))]; exact R12, by rw [Y r (yP 0 (by decide)), R 7 (by decide) (by decide) (by decide) (by decide) (by decide)]; exact g3, by rw [Y p (by first | exact op | exact off0 op | exact off9 op (by decide) | exact off4 op | exact fun q => e1 q.symm | exact fun q => e2 q.symm | omega), X p (by first | exact op | exact off0 op | exact off9 op (by decide) | exact off4 op | exact fun q => e1 q.symm | exact fun q => e2 q.symm | omega) (by first | exact op | exact off0 op | exact off9 op (by decide) | exact off4 op | exact fun q => e1 q.symm | exact fun q => e2 q.symm | omega)]; exact g4⟩, Or.inl rfl, ⟨ga, gs⟩, by rw [Y r (yP 0 (by decide)), R14, (sm k (Nat.le_refl _)).2.1], ⟨by rw [Y r (yP 0 (by decide)), d110, (sm k (Nat.le_refl _)).2.2.2], by rw [(sm k (Nat.le_refl _)).2.2.2]; omega⟩, fun i hi => by rw [(sm (i + 1) (by omega)).2.2.2, YT 1 (by omega) (by omega) (by omega)]; exact gr i (by omega), fun i hi => ?_, ⟨by rw [(sm k (Nat.le_refl _)).1, gH, b1, cm0]; rfl, gHs⟩, ?_, by rw [(sm k (Nat.le_refl _)).2.2.1]; omega, fun j => by rw [Y (r + 5) (yP 5 (by decide))]; exact T5 j⟩, Nat.le_refl _, fun _ _ => rfl⟩
  · exact (ge i (by omega)).cg (fun j _ => by rw [YT 1 (by omega) (by omega) (by omega)]) (by rw [YT 2 (by omega) (by omega) (by omega)]) (by rw [YT 3 (by omega) (by omega) (by omega)]) (fun j _ => by rw [YT 4 (by omega) (by omega) (by omega)]) (Nat.le_refl _) (fun j _ => QO j) (fun _ _ => rfl)
  · refine gC.put (t := t) (x := (L : Int)) (by rw [t4]; exact yj) QO QP (fun i _ it q => ?_) ⟨L, rfl, t3, Nat.le_refl _, fun q => absurd q (by rw [t4]; exact no33), fun _ => by rw [gH, b1, cm0, t5]; omega⟩
    obtain ⟨j, j1, j2, j3⟩ := q
    have jk : j ≠ k := fun z => by rw [z, t1] at j2; omega
    exact ⟨j, by omega, by rw [YT 3 (by omega) (by omega) (by omega)]; exact j2, by rw [YT 1 (by omega) (by omega) (by omega)]; exact j3⟩
end RRG
end
section
/-! The class's reader of rules: group, a sign. -/
section RRM
variable {G : mG} {d z r w T A B D N C n p O P K k a s L V F d0 c : Nat} {M0 M M' M1 M2 : mM} {H H' : Nat → Nat} {ns : Nat → Int} {wt : Int}
end RRM
end
section
/-! The class's reader of rules: signs between operands. -/
section RRS
variable {G : mG} {d z r w T A B D N C n p O P K k a s L V F d0 c : Nat} {M0 M M' M1 M2 : mM} {H H' : Nat → Nat} {ns : Nat → Int} {wt : Int}
theorem rk_lvl (o : Int) : ((lvl o = 0 ∨ lvl o = 3) ∧ rkk o = 0) ∨ (lvl o = 1 ∧ rkk o = 1) ∨ (lvl o = 2 ∧ rkk o = 2) ∨ (lvl o = 4 ∧ rkk o = 3) ∨ (lvl o = 5 ∧ rkk o = 4) ∨ (lvl o = 6 ∧ rkk o = 5) := by
  unfold lvl rkk
  (repeat' split) <;> omega
/-- an operation with an order of its own that may jump is open now -/
theorem RG.pshj {o pl mk : Int} {dd c' : Nat} (g : RG M r p O P n s V F ns d0 H L k a 0) (hr : ∀ i, mI M' r i = if i = 2 then (a : Int) + 1 else if i = 7 then 1 else if i = 12 then (k : Int) + 1 else if i = 5 then (dd : Int) else if i = 14 then (c' : Int) else mI M r i) (t1 : ∀ i, mI M' (r + 1) i = if i = k then o else mI M (r + 1) i) (t2 : ∀ i, mI M' (r + 2) i = if i = k then pl else mI M (r + 2) i) (t3 : ∀ i, mI M' (r + 3) i = if i = k then (L : Int) else mI M (r + 3) i) (t4 : ∀ i, mI M' (r + 4) i = if i = k then mk else mI M (r + 4) i) (t5 : ∀ j, mI M' (r + 5) j = 0 ∨ mI M' (r + 5) j = 1) (tp : mI M' p 2 = (L : Int) + 1) (tO : ∀ i, mI M' O i = if i = L then o else mI M O i) (tP : ∀ i, mI M' P i = if i = L then 0 else mI M P i) (ho : o = 30 ∨ o = 31 ∨ o = 33) (hpl : 0 ≤ pl ∧ pl ≤ 16384) (hmk : 0 ≤ mk ∧ mk ≤ 7) (hd : dd = d0 + sdp M r k + cdp o) (hd4 : dd ≤ 40) (hrk : k + 1 ≤ 6 * (sdp M r k + cdp o) + rkk o) (hc : c' = skk M r k + ckk o) (han : a < n) (hat : o = 33 → aO M' r k) : ∃ H', RG M' r p O P n s V F ns d0 H' (L + 1) (k + 1) (a + 1) 1 ∧ ∀ i, i ≤ L → H' i = H i := by
  obtain ⟨⟨g1, g2, g3, g4⟩, gw, ⟨ga, gs⟩, gc, ⟨gd, gd4⟩, gr, ge, ⟨gH, gHs⟩, gC, gL, gt⟩ := g
  have l1 : ∀ j, j < k → mI M' (r + 1) j = mI M (r + 1) j := fun j hj => by rw [t1, if_neg (by omega)]
  have l2 : ∀ j, j < k → mI M' (r + 2) j = mI M (r + 2) j := fun j hj => by rw [t2, if_neg (by omega)]
  have l3 : ∀ j, j < k → mI M' (r + 3) j = mI M (r + 3) j := fun j hj => by rw [t3, if_neg (by omega)]
  have l4 : ∀ j, j < k → mI M' (r + 4) j = mI M (r + 4) j := fun j hj => by rw [t4, if_neg (by omega)]
  have sm := fun i hi => sums_cg (M := M) (M' := M') (r := r) (k := k) l1 l4 i hi
  obtain ⟨b1, b2, b3, b4⟩ := sum_top M' r k
  rw [t1, if_pos rfl, (sm k (Nat.le_refl _)).2.1] at b2
  rw [t1, if_pos rfl, (sm k (Nat.le_refl _)).2.2.1] at b3
  rw [t1, if_pos rfl, (sm k (Nat.le_refl _)).2.2.2] at b4
  rw [t1, if_pos rfl, t4, if_pos rfl, (sm k (Nat.le_refl _)).1] at b1
  have u1 : uw 1 = 0 := rfl
  have u0 : uw 0 = 1 := rfl
  have c0 : cm o mk = 0 := by
    unfold cm
    rw [if_neg (by omega), if_neg (by omega)]
  have e0 : cee o = 0 := by
    unfold cee
    rw [if_neg (by omega)]
  have jo : jm o := by unfold jm; omega
  obtain ⟨H', hH'⟩ : ∃ H' : Nat → Nat, ∀ i, H' i = if i = L + 1 then bs M r k else H i := ⟨fun i => if i = L + 1 then bs M r k else H i, fun _ => rfl⟩
  have hHs : ∀ i, i ≤ L → H' i = H i := fun i hi => by rw [hH', if_neg (by omega)]
  have hHL : H' (L + 1) = bs M r k := by rw [hH', if_pos rfl]
  have hL0 := hHs L (Nat.le_refl _)
  refine ⟨H', ⟨⟨by rw [hr, if_pos rfl]; omega, by rw [hr, if_neg (by decide), if_neg (by decide), if_pos rfl]; omega, by rw [hr, if_neg (by decide), if_pos rfl], by rw [tp]; omega⟩, Or.inr rfl, ⟨by omega, by omega⟩, by rw [hr, if_neg (by decide), if_neg (by decide), if_neg (by decide), if_neg (by decide), if_pos rfl, b2]; omega, ⟨by rw [hr, if_neg (by decide), if_neg (by decide), if_neg (by decide), if_pos rfl, b4]; omega, by omega⟩, fun i hi => ?_, fun i hi => ?_, ⟨by omega, by omega⟩, ?_, by omega, t5⟩, hHs⟩
  · by_cases y : i = k
    · subst y
      rw [b4, t1, if_pos rfl]
      exact hrk
    · rw [(sm (i + 1) (by omega)).2.2.2, l1 i (by omega)]
      exact gr i (by omega)
  · by_cases y : i = k
    · subst y
      unfold enO
      rw [t1, if_pos rfl, t2, if_pos rfl, t3, if_pos rfl, t4, if_pos rfl, (sm i (Nat.le_refl _)).1]
      refine ⟨by unfold opn; omega, hpl, hmk, fun q => absurd q (by omega), fun _ => ⟨L, rfl, gs, by omega, by rw [tO, if_pos rfl], by omega, fun _ => hHL⟩, fun q => absurd jo q, fun q => hat (by rw [t1, if_pos rfl] at q; omega) q⟩
    · exact (ge i (by omega)).cg (fun j hj => l1 j (by omega)) (l2 i (by omega)) (l3 i (by omega)) (fun j hj => l4 j (by omega)) (by omega) (fun j hj => by rw [tO, if_neg (by omega)]) hHs
  · refine gC.add gs hHs gHs tO tP (fun i _ q => pdg_cg q (by omega) l1 l3) (Or.inr (Or.inr (Or.inr (Or.inl ⟨ho, by omega⟩)))) (fun _ => Or.inl ⟨k, by omega, by rw [t3, if_pos rfl], by rw [t1, if_pos rfl]; exact jo⟩)
/-- what a sign comes to -/
def sgQ (M : mM) (z r w T A B D N C n p O P K s V F : Nat) (ns : Nat → Int) (d0 : Nat) (H : Nat → Nat) (L k a : Nat) (x : Int) (M' : mM) : Prop := RB M' z r w T A B D N C n p O P K ∧ FI (rdS r p O P) M M' ∧ (∀ i, i ≠ 2 → i ≠ 5 → i ≠ 7 → i ≠ 12 → i ≠ 14 → mI M' r i = mI M r i) ∧ (∀ i, 6 ≤ i → i ≤ 9 → mI M' (r + i) = mI M (r + i)) ∧ (∀ i, i ≠ 2 → mI M' p i = mI M p i) ∧ (∀ i, i < L → mI M' O i = mI M O i ∧ mI M' P i = mI M P i) ∧ ((x = 2 ∧ M' = M) ∨ (x = 0 ∧ ∃ H' L', RG M' r p O P n s V F ns d0 H' L' (k + 1) (a + 1) 1 ∧ L ≤ L' ∧ ∀ i, i ≤ L → H' i = H i))
end RRS
end
section
/-! The class's reader of rules: '?'. -/
section RRA
variable {G : mG} {d z r w T A B D N C n p O P K k a s L V F d0 c : Nat} {M0 M M' M1 M2 : mM} {H H' : Nat → Nat} {ns : Nat → Int} {wt : Int}
end RRA
end
section
/-! The class's reader of rules: what closing leaves. -/
section RRC
variable {G : mG} {d z r w T A B D N C n p O P K k a s L L' V F d0 c : Nat} {M0 M M' M1 M2 : mM} {H H' : Nat → Nat} {ns : Nat → Int} {wt : Int}
/-- the operation that was open last is closed -/
theorem RG.popc (g : RG M r p O P n s V F ns d0 H L (k + 1) a 0) (hr : mI M' r 2 = (a : Int) + 1 ∧ mI M' r 12 = k ∧ mI M' r 7 = 0 ∧ mI M' r 14 = ((1 + skk M r k : Nat) : Int) ∧ mI M' r 5 = ((d0 + sdp M r k : Nat) : Int)) (l1 : ∀ j, j < k → mI M' (r + 1) j = mI M (r + 1) j) (l2 : ∀ j, j < k → mI M' (r + 2) j = mI M (r + 2) j) (l3 : ∀ j, j < k → mI M' (r + 3) j = mI M (r + 3) j) (l4 : ∀ j, j < k → mI M' (r + 4) j = mI M (r + 4) j) (t5 : ∀ j, mI M' (r + 5) j = 0 ∨ mI M' (r + 5) j = 1) (tp : mI M' p 2 = L') (hLL : L ≤ L') (hO : ∀ j, j < L → mI M' O j = mI M O j) (hHs : ∀ i, i ≤ L → H' i = H i) (hH : H' L' = 1 + bs M r k) (hb : H' L' + s ≤ L') (hC : CO M' O P V F ns H' s L' (pdg M' r k)) (hL : L' + se M r k ≤ a + 1) (han : a < n) : RG M' r p O P n s V F ns d0 H' L' k (a + 1) 0 := by
  obtain ⟨-, -, ⟨ga, gs⟩, -, ⟨-, gd4⟩, gr, ge, -, -, -, -⟩ := g
  have sm := fun i hi => sums_cg (M := M) (M' := M') (r := r) (k := k) l1 l4 i hi
  obtain ⟨-, -, -, b4⟩ := sum_top M r k
  obtain ⟨h1, h2, h3, h4, h5⟩ := hr
  have u0 : uw 0 = 1 := rfl
  refine ⟨⟨by omega, h2, h3, tp⟩, Or.inl rfl, ⟨by omega, by omega⟩, by rw [h4, (sm k (Nat.le_refl _)).2.1, u0], ⟨by rw [h5, (sm k (Nat.le_refl _)).2.2.2], by rw [(sm k (Nat.le_refl _)).2.2.2]; omega⟩, fun i hi => by rw [(sm (i + 1) (by omega)).2.2.2, l1 i hi]; exact gr i (by omega), fun i hi => (ge i (by omega)).cg (fun j _ => l1 j (by omega)) (l2 i hi) (l3 i hi) (fun j _ => l4 j (by omega)) hLL hO hHs, ⟨by rw [hH, (sm k (Nat.le_refl _)).1, u0], hb⟩, hC, by rw [(sm k (Nat.le_refl _)).2.2.1]; omega, t5⟩
/-- the operation that was open last goes on: o' and marks m' stand there now -/
theorem RG.goes {o' m' : Int} (g : RG M r p O P n s V F ns d0 H L (k + 1) a 0) (hr : mI M' r 2 = (a : Int) + 1 ∧ mI M' r 12 = (k : Int) + 1 ∧ mI M' r 7 = 1 ∧ mI M' r 14 = ((skk M r k : Nat) : Int) ∧ mI M' r 5 = ((d0 + sdp M r (k + 1) : Nat) : Int)) (l1 : ∀ j, mI M' (r + 1) j = if j = k then o' else mI M (r + 1) j) (l2 : ∀ j, mI M' (r + 2) j = mI M (r + 2) j) (l3 : ∀ j, j < k → mI M' (r + 3) j = mI M (r + 3) j) (l4 : ∀ j, mI M' (r + 4) j = if j = k then m' else mI M (r + 4) j) (t5 : ∀ j, mI M' (r + 5) j = 0 ∨ mI M' (r + 5) j = 1) (tp : mI M' p 2 = L') (hLL : L ≤ L') (hO : ∀ j, j < L → mI M' O j = mI M O j) (hHs : ∀ i, i ≤ L → H' i = H i) (hH : H' L' = bs M r k + cm o' m') (hb : H' L' + s ≤ L') (hC : CO M' O P V F ns H' s L' (pdg M' r (k + 1))) (hL : L' + se M r k ≤ a + 1) (han : a < n) (hk : ckk o' = 0 ∧ cee o' = 0 ∧ cdp o' = cdp (mI M (r + 1) k) ∧ rkk o' = rkk (mI M (r + 1) k)) (hen : enO M' r O s L' H' k) : RG M' r p O P n s V F ns d0 H' L' (k + 1) (a + 1) 1 := by
  obtain ⟨-, -, ⟨ga, gs⟩, -, ⟨-, gd4⟩, gr, ge, -, -, -, -⟩ := g
  have e1 : ∀ j, j < k → mI M' (r + 1) j = mI M (r + 1) j := fun j hj => by rw [l1, if_neg (by omega)]
  have e4 : ∀ j, j < k → mI M' (r + 4) j = mI M (r + 4) j := fun j hj => by rw [l4, if_neg (by omega)]
  have sm := fun i hi => sums_cg (M := M) (M' := M') (r := r) (k := k) e1 e4 i hi
  obtain ⟨-, -, -, b4⟩ := sum_top M r k
  obtain ⟨c1, c2, c3, c4⟩ := sum_top M' r k
  rw [l1, if_pos rfl, (sm k (Nat.le_refl _)).2.1, hk.1] at c2
  rw [l1, if_pos rfl, (sm k (Nat.le_refl _)).2.2.1, hk.2.1] at c3
  rw [l1, if_pos rfl, (sm k (Nat.le_refl _)).2.2.2, hk.2.2.1, ← b4] at c4
  rw [l1, if_pos rfl, l4, if_pos rfl, (sm k (Nat.le_refl _)).1] at c1
  obtain ⟨h1, h2, h3, h4, h5⟩ := hr
  have u1 : uw 1 = 0 := rfl
  refine ⟨⟨by omega, by omega, h3, tp⟩, Or.inr rfl, ⟨by omega, by omega⟩, by rw [h4, c2]; omega, ⟨by rw [h5, c4], by rw [c4]; exact gd4⟩, fun i hi => ?_, fun i hi => ?_, ⟨by rw [hH, c1]; omega, hb⟩, hC, by rw [c3]; omega, t5⟩
  · by_cases y : i = k
    · subst y
      rw [c4, l1, if_pos rfl, hk.2.2.2]
      exact gr i (by omega)
    · rw [(sm (i + 1) (by omega)).2.2.2, e1 i (by omega)]
      exact gr i (by omega)
  · by_cases y : i = k
    · subst y
      exact hen
    · exact (ge i (by omega)).cg (fun j hj => e1 j (by omega)) (l2 i) (l3 i (by omega)) (fun j hj => e4 j (by omega)) hLL hO hHs
/-- marks of a list: bit 2 -/
theorem mk_or {m v : Int} (hm : 0 ≤ m ∧ m ≤ 3) (hv : v = 0 ∨ v = 1) : orI m (orI 2 v) = 2 ∨ orI m (orI 2 v) = 3 := by
  have : m = 0 ∨ m = 1 ∨ m = 2 ∨ m = 3 := by omega
  rcases this with e | e | e | e <;> rcases hv with f | f <;> subst e <;> subst f <;> decide
theorem mk_and2 {m : Int} (hm : 0 ≤ m ∧ m ≤ 3) : (andI m 2 = 0 ∧ ¬ (m = 2 ∨ m = 3)) ∨ (andI m 2 ≠ 0 ∧ (m = 2 ∨ m = 3)) := by
  have : m = 0 ∨ m = 1 ∨ m = 2 ∨ m = 3 := by omega
  rcases this with e | e | e | e <;> subst e <;> decide
theorem mk_or4 {m v : Int} (hm : 0 ≤ m ∧ m ≤ 7) (hv : v = 0 ∨ v = 4) : 0 ≤ orI m v ∧ orI m v ≤ 7 := by
  have : m = 0 ∨ m = 1 ∨ m = 2 ∨ m = 3 ∨ m = 4 ∨ m = 5 ∨ m = 6 ∨ m = 7 := by omega
  rcases this with e | e | e | e | e | e | e | e <;> rcases hv with f | f <;> subst e <;> subst f <;> decide
end RRC
end
end
section
theorem tLk1 (g : Nat) : tL g (g + 1) := Or.inl rfl
theorem tLk3 (g : Nat) : tL g (g + 3) := Or.inr (Or.inl rfl)
theorem tLk5 (g : Nat) : tL g (g + 5) := Or.inr (Or.inr (Or.inl rfl))
theorem tLk7 (g : Nat) : tL g (g + 7) := Or.inr (Or.inr (Or.inr (Or.inl rfl)))
theorem tLk9 (g : Nat) : tL g (g + 9) := Or.inr (Or.inr (Or.inr (Or.inr (Or.inl rfl))))
theorem tLk11 (g : Nat) : tL g (g + 11) := Or.inr (Or.inr (Or.inr (Or.inr (Or.inr rfl))))
theorem l33z {a g i : Nat} (hg : g = a + 13 ∨ g = a + 49) (hi : i = 85 ∨ i = 87 ∨ i = 89) (z : ((a + i = g + 1 ∨ a + i = g + 3 ∨ a + i = g + 5 ∨ a + i = g + 7 ∨ a + i = g + 9 ∨ a + i = g + 11) ∨ a + i = a + 91) ∨ (a + i = a + 93 ∨ a + i = a + 95 ∨ a + i = g + 7)) : False := by
  have h1 : g ≤ a + 49 := by omega
  have h2 : 85 ≤ i ∧ i ≤ 89 := by omega
  clear hg hi
  rcases z with (z | z) | z
  · rcases z with z | z | z | z | z | z <;> omega
  · omega
  · rcases z with z | z | z <;> omega
section
/-! The class's reader of rules: closing, its end and ')'. -/
section RRE
variable {G : mG} {d z r w T A B D N C n p O P K k a s L L' V F d0 c : Nat} {M0 M M' M1 M2 : mM} {H H' : Nat → Nat} {ns : Nat → Int} {wt : Int}
/-- what closing comes to -/
def cliQ (M : mM) (z r w T A B D N C n p O P K s V F : Nat) (ns : Nat → Int) (d0 L a : Nat) (x : Int) (M' : mM) : Prop := RB M' z r w T A B D N C n p O P K ∧ FI (rdS r p O P) M M' ∧ (∀ i, i ≠ 2 → i ≠ 3 → i ≠ 4 → i ≠ 5 → i ≠ 7 → i ≠ 12 → i ≠ 14 → mI M' r i = mI M r i) ∧ (mI M r 3 ≠ 0 → mI M' r 3 = mI M r 3) ∧ (∀ i, 6 ≤ i → i ≤ 9 → mI M' (r + i) = mI M (r + i)) ∧ (∀ i, i ≠ 2 → mI M' p i = mI M p i) ∧ (∀ i, i < s → mI M' O i = mI M O i ∧ mI M' P i = mI M P i) ∧ ((x = 2 ∧ M' = M) ∨ (x = 0 ∧ ∃ H' L' k' wt', RG M' r p O P n s V F ns d0 H' L' k' (a + 1) wt' ∧ L ≤ L'))
/-- the end of closing: a word is passed -/
theorem s_ci286 {l5 : Int} {Q : Int → mM → Prop} (h5 : l5 = 0 ∨ l5 = 1) (h : RB M z r w T A B D N C n p O P K) (ha : mI M r 2 = a) (han : a ≤ 16384) (hq : ∀ M', RB M' z r w T A B D N C n p O P K → FI (rdS r p O P) M M' → (∀ i, mI M' r i = if i = 2 then (a : Int) + 1 else if i = 7 then l5 else mI M r i) → (∀ b, b ≠ r → mI M' b = mI M b) → Q 0 M') : h_RR_closeInner_286 G d r l5 M Q := by
  refine k_RR_closeInner_286 h.1 (i32s (by omega) (by omega)) ⟨h.2.1.1, h5, fun M203 e203 => ?_⟩
  obtain ⟨h1, f1, g1, n1⟩ := rb_fld h (i32s (by omega) (by omega)) e203
  have e2 : mI M203 r 2 = a := by rw [g1, if_neg (by decide)]; exact ha
  rw [e2]
  refine ⟨⟨by omega, by omega⟩, fun M206 e206 => ?_⟩
  obtain ⟨h2, f2, g2, n2⟩ := rb_fld h1 ⟨by omega, by omega⟩ e206
  exact hq M206 h2 (f1.trans f2) (fun i => by
    rw [g2]
    by_cases y : i = 2
    · rw [if_pos y, if_pos y]
    · rw [if_neg y, if_neg y, g1]) (fun b hb => by rw [n2 b hb, n1 b hb])
/-- the operation that was open last is taken off, and a word is passed -/
theorem s_ciPop {Q : Int → mM → Prop} (h : RB M z r w T A B D N C n p O P K) (ha : mI M r 2 = a) (han : a ≤ 16384) (hk : mI M r 12 = ((k + 1 : Nat) : Int)) (hk3 : k < 336) {e : Nat} (he : mI M r 5 = ((e + 1 : Nat) : Int)) (he4 : e < 40) (hq : ∀ M', RB M' z r w T A B D N C n p O P K → FI (rdS r p O P) M M' → (∀ i, mI M' r i = if i = 2 then (a : Int) + 1 else if i = 7 then 0 else if i = 5 then (e : Int) else if i = 12 then (k : Int) else mI M r i) → (∀ b, b ≠ r → mI M' b = mI M b) → Q 0 M') : mK M r = 4 ∧ i32 ((mI M r 12) - 1) ∧ ∀ M110, M110 = mUI M r 12 ((mI M r 12) - 1) → i32 ((mI M110 r 5) - 1) ∧ ∀ M113, M113 = mUI M110 r 5 ((mI M110 r 5) - 1) → h_RR_closeInner_286 G d r 0 M113 Q := by
  rw [hk, show ((k + 1 : Nat) : Int) - 1 = (k : Int) by first | rfl | omega]
  refine ⟨h.2.1.1, ⟨by omega, by omega⟩, fun M110 e110 => ?_⟩
  obtain ⟨h1, f1, g1, n1⟩ := rb_fld h ⟨by omega, by omega⟩ e110
  have e5 : mI M110 r 5 = ((e + 1 : Nat) : Int) := by rw [g1, if_neg (by decide)]; exact he
  rw [e5, show ((e + 1 : Nat) : Int) - 1 = (e : Int) by first | rfl | omega]
  refine ⟨⟨by omega, by omega⟩, fun M113 e113 => ?_⟩
  obtain ⟨h2, f2, g2, n2⟩ := rb_fld h1 ⟨by omega, by omega⟩ e113
  refine s_ci286 (a := a) (Or.inl rfl) h2 (by rw [g2, if_neg (by decide), g1, if_neg (by decide)]; exact ha) han (fun M' h' f' g' n' => hq M' h' ((f1.trans f2).trans f') (fun i => ?_) (fun b hb => by rw [n' b hb, n2 b hb, n1 b hb]))
  rw [g']
  by_cases y2 : i = 2
  · rw [if_pos y2, if_pos y2]
  · by_cases y7 : i = 7
    · rw [if_neg y2, if_pos y7, if_neg y2, if_pos y7]
    · rw [if_neg y2, if_neg y7, if_neg y2, if_neg y7, g2]
      by_cases y5 : i = 5
      · rw [if_pos y5, if_pos y5]
      · rw [if_neg y5, if_neg y5, g1]
end RRE
end
section
/-! The class's reader of rules: ':' behind '?'. -/
section RRF
variable {G : mG} {d z r w T A B D N C n p O P K k a s L L' V F d0 c : Nat} {M0 M M' M1 M2 : mM} {H H' : Nat → Nat} {ns : Nat → Int} {wt : Int}
end RRF
end
section
/-! The class's reader of rules: ',' and ')' of least and most. -/
section RRI
variable {G : mG} {d z r w T A B D N C n p O P K k a s L L1 V F d0 c : Nat} {M0 M M' M1 M2 : mM} {H H1 : Nat → Nat} {ns : Nat → Int} {wt : Int}
/-- the order of a list, if there is one, stands -/
def liA (M : mM) (z r w T A B D N C n p O P K s V F : Nat) (ns : Nat → Int) (H : Nat → Nat) (L k a : Nat) (H1 : Nat → Nat) (L1 : Nat) (M1 : mM) : Prop := RB M1 z r w T A B D N C n p O P K ∧ FI (rdS r p O P) M M1 ∧ (∀ b, r ≤ b → b ≤ r + 9 → mI M1 b = mI M b) ∧ (∀ i, mI M1 p i = if i = 2 then (L1 : Int) else mI M p i) ∧ (∀ i, i < L → mI M1 O i = mI M O i ∧ mI M1 P i = mI M P i) ∧ L ≤ L1 ∧ (∀ i, i ≤ L → H1 i = H i) ∧ H1 L1 = 1 + bs M r k ∧ H1 L1 + s ≤ L1 ∧ CO M1 O P V F ns H1 s L1 (pdg M r (k + 1)) ∧ L1 + se M r k ≤ a + 1
end RRI
end
section
/-! The class's reader of rules: closeInner. -/
section RRJ
variable {G : mG} {d z r w T A B D N C n p O P K k a s L L1 V F d0 c : Nat} {M0 M M' M1 M2 : mM} {H H1 : Nat → Nat} {ns : Nat → Int} {wt : Int}
end RRJ
end
section
/-! The class's reader of rules: takeOperator. -/
section RRK
variable {G : mG} {d z r w T A B D N C n p O P K k a s L L1 V F d0 c : Nat} {M0 M M' M1 M2 : mM} {H H1 : Nat → Nat} {ns : Nat → Int} {wt : Int}
/-- what reading a rule may change -/
def rrF (M : mM) (r p O P s : Nat) (M' : mM) : Prop := FI (rdS r p O P) M M' ∧ (∀ i, i ≠ 2 → i ≠ 3 → i ≠ 4 → i ≠ 5 → i ≠ 7 → i ≠ 12 → i ≠ 14 → mI M' r i = mI M r i) ∧ (mI M r 3 ≠ 0 → mI M' r 3 = mI M r 3) ∧ (∀ i, 6 ≤ i → i ≤ 9 → mI M' (r + i) = mI M (r + i)) ∧ (∀ i, i ≠ 2 → mI M' p i = mI M p i) ∧ (∀ i, i < s → mI M' O i = mI M O i ∧ mI M' P i = mI M P i)
theorem rrF.refl : rrF M r p O P s M := ⟨FI.refl, fun _ _ _ _ _ _ _ _ => rfl, fun _ => rfl, fun _ _ _ => rfl, fun _ _ => rfl, fun _ _ => ⟨rfl, rfl⟩⟩
theorem rrF.trans (f : rrF M0 r p O P s M) (g : rrF M r p O P s M') : rrF M0 r p O P s M' := by
  obtain ⟨a1, a2, a3, a4, a5, a6⟩ := f
  obtain ⟨b1, b2, b3, b4, b5, b6⟩ := g
  refine ⟨a1.trans b1, fun i i2 i3 i4 i5 i7 i12 i14 => by rw [b2 i i2 i3 i4 i5 i7 i12 i14, a2 i i2 i3 i4 i5 i7 i12 i14], fun q => ?_, fun i i6 i9 => by rw [b4 i i6 i9, a4 i i6 i9], fun i i2 => by rw [b5 i i2, a5 i i2], fun i hi => ⟨by rw [(b6 i hi).1, (a6 i hi).1], by rw [(b6 i hi).2, (a6 i hi).2]⟩⟩
  have h3 := a3 q
  rw [b3 (by rw [h3]; exact q), h3]
/-- what a step comes to: 0 it goes on, 1 the rule is over, 2 a word is refused -/
def rtQ (M0 : mM) (z r w T A B D N C n p O P K s V F : Nat) (ns : Nat → Int) (d0 : Nat) (a : Nat) (x : Int) (M' : mM) : Prop := RB M' z r w T A B D N C n p O P K ∧ rrF M0 r p O P s M' ∧ (x = 0 ∨ x = 1 ∨ x = 2) ∧ ∃ H' L' k' wt' a', RG M' r p O P n s V F ns d0 H' L' k' a' wt' ∧ a ≤ a' ∧ (x = 1 → k' = 0 ∧ wt' = 0)
theorem RG.ref (g : RG M r p O P n s V F ns d0 H L k a wt) : ∃ a' L' : Nat, mI M r 2 = a' ∧ mI M p 2 = L' ∧ a' ≤ n ∧ s ≤ L' ∧ L' ≤ a' := by
  obtain ⟨⟨g1, -, -, g4⟩, -, ⟨g5, g6⟩, -, -, -, -, -, -, g7, -⟩ := g
  exact ⟨a, L, g1, g4, g5, g6, by omega⟩
theorem sg_st {x : Int} (g : RG M r p O P n s V F ns d0 H L k a 0) (f : rrF M0 r p O P s M) (q : sgQ M z r w T A B D N C n p O P K s V F ns d0 H L k a x M') : rtQ M0 z r w T A B D N C n p O P K s V F ns d0 a x M' := by
  obtain ⟨q1, q2, q3, q4, q5, q6, q7⟩ := q
  have gs := g.2.2.1.2
  refine ⟨q1, f.trans ⟨q2, fun i i2 i3 i4 i5 i7 i12 i14 => q3 i i2 i5 i7 i12 i14, fun _ => q3 3 (by decide) (by decide) (by decide) (by decide) (by decide), q4, q5, fun i hi => q6 i (by omega)⟩, ?_⟩
  rcases q7 with ⟨e, e2⟩ | ⟨e, H', L', g', -⟩
  · rw [e2]
    exact ⟨Or.inr (Or.inr e), H, L, k, 0, a, g, by omega, fun u => absurd u (by omega)⟩
  · exact ⟨Or.inl e, H', L', k + 1, 1, a + 1, g', by omega, fun u => absurd u (by omega)⟩
theorem s_RR_closeInner0 (g : RG M r p O P n s V F ns d0 H L (k + 1) a 0) (h : RB M z r w T A B D N C n p O P K) : Ci G y_RR_closeInner (d + 1) [vr r, vi 0, vi k] M (fun x M' => x = 2 ∧ M' = M) := by
  have rm := g.room
  obtain ⟨-, ⟨k0, ⟨q8, -, -, q11, -⟩, ⟨kk1, -⟩, ⟨nn1, -⟩⟩, -⟩ := id h
  refine k_RR_closeInner h.1 (i32s (by omega) (by omega)) ⟨by omega, by omega⟩ ?_
  rw [q8, nn1, Int.toNat_natCast, q11]
  refine ⟨k0, kk1, by omega, fun v5 e5 => ⟨by omega, fun _ => by omega, fun v14 e14 v25 e25 => ⟨fun y => ?_, fun _ => ⟨rfl, rfl⟩⟩⟩⟩
  exfalso
  have z25 : v25 = 0 := by
    rw [e25]
    by_cases u : v5 = 0
    · rw [if_pos (Or.inl ⟨u, Or.inr (by omega)⟩)]
    · rw [if_pos (Or.inr ⟨u, by omega, Or.inr (by omega)⟩)]
  rcases y with u | u
  · exact u z25
  · exact absurd u.2 (by omega)
theorem g_rrF {M9 : mM} (q : gQ M z r w T A B D N C n p O P K s V F ns d0 H L k a M9) : rrF M r p O P s M9 := by
  obtain ⟨-, q2, q3, q4, q5, q6, q7, -⟩ := q
  exact ⟨q2, fun i i2 i3 i4 i5 i7 i12 i14 => q3 i i3 i4 i5 i12 i14, q4, q5, q6, q7⟩
end RRK
end
section
/-! The class's reader of rules: takeOperator, the whole. -/
section RRL
variable {G : mG} {d z r w T A B D N C n p O P K k a s L L1 V F d0 c : Nat} {M0 M M' M1 M2 : mM} {H H1 : Nat → Nat} {ns : Nat → Int} {wt : Int}
theorem lvl_pos {o : Int} (h : 0 < lvl o) : (19 ≤ o ∧ o ≤ 31) ∨ o = 41 := by
  unfold lvl at h
  split at h
  · omega
  split at h
  · omega
  split at h
  · omega
  split at h
  · omega
  split at h
  · omega
  split at h
  · omega
  · exact absurd h (by omega)
/-- the level from which on all is grouped -/
def tgh (o : Int) : Int := if lvl o = 4 then lvl o + 1 else if lvl o < 1 then 1 else lvl o
end RRL
end
section
/-! The class's reader of rules: the names that it knows, and operands. -/
section RRM
variable {G : mG} {d z r w T A B D N C n p O P K k a a' s L L1 V F d0 c : Nat} {M0 M M' M1 M2 : mM} {H H1 : Nat → Nat} {ns : Nat → Int} {wt : Int}
/-- the c names that are known: words, sorts, numbers, kinds -/
def NK (M : mM) (r A n V F : Nat) (ns : Nat → Int) (c : Nat) : Prop := mI M r 19 = c ∧ c ≤ 72 ∧ ∀ i, i < c → (∃ v : Nat, mI M (r + 6) i = v ∧ v < n ∧ mI M A v = 2) ∧ ((mI M (r + 7) i = 5 ∧ 0 ≤ mI M (r + 8) i ∧ (mI M r 6 = 0 → mI M (r + 8) i < V)) ∨ (mI M (r + 7) i = 4 ∧ 0 ≤ mI M (r + 8) i ∧ mI M (r + 8) i < F ∧ ns (mI M (r + 8) i).toNat = 4) ∨ (mI M (r + 7) i = 7 ∧ 0 ≤ mI M (r + 8) i ∧ (mI M r 6 = 0 → mI M (r + 8) i < F ∧ ns (mI M (r + 8) i).toNat = 7))) ∧ (mI M (r + 9) i = 0 ∨ mI M (r + 9) i = 1)
/-- all names that are known -/
def TN (M : mM) (r A n V F : Nat) (ns : Nat → Int) (c : Nat) : Prop := mI M r 19 = c ∧ c ≤ 72 ∧ ∀ i, i < c → (∃ v : Nat, mI M (r + 6) i = v ∧ v < n ∧ mI M A v = 2) ∧ ((mI M (r + 7) i = 5 ∧ 0 ≤ mI M (r + 8) i ∧ mI M (r + 8) i < V) ∨ ((mI M (r + 7) i = 4 ∨ mI M (r + 7) i = 7) ∧ 0 ≤ mI M (r + 8) i ∧ mI M (r + 8) i < F ∧ ns (mI M (r + 8) i).toNat = mI M (r + 7) i)) ∧ (mI M (r + 9) i = 0 ∨ mI M (r + 9) i = 1)
/-- where only consts may stand -/
def nsc (ns : Nat → Int) : Nat → Int := fun x => if ns x = 4 then 4 else 0
theorem TN.nk (h : TN M r A n V F ns c) : NK M r A n V F ns c := by
  refine ⟨h.1, h.2.1, fun i hi => ?_⟩
  obtain ⟨h1, h2, h3⟩ := h.2.2 i hi
  refine ⟨h1, ?_, h3⟩
  rcases h2 with ⟨u1, u2, u3⟩ | ⟨u1, u2, u3, u4⟩
  · exact Or.inl ⟨u1, u2, fun _ => u3⟩
  · rcases u1 with e | e
    · exact Or.inr (Or.inl ⟨e, u2, u3, by rw [u4]; exact e⟩)
    · exact Or.inr (Or.inr ⟨e, u2, fun _ => ⟨u3, by rw [u4]; exact e⟩⟩)
theorem TN.nkc (h : TN M r A n V F ns c) (h6 : mI M r 6 ≠ 0) : NK M r A n 0 F (nsc ns) c := by
  refine ⟨h.1, h.2.1, fun i hi => ?_⟩
  obtain ⟨h1, h2, h3⟩ := h.2.2 i hi
  refine ⟨h1, ?_, h3⟩
  rcases h2 with ⟨u1, u2, u3⟩ | ⟨u1, u2, u3, u4⟩
  · exact Or.inl ⟨u1, u2, fun q => absurd q h6⟩
  · rcases u1 with e | e
    · refine Or.inr (Or.inl ⟨e, u2, u3, ?_⟩)
      unfold nsc
      rw [if_pos (by rw [u4]; exact e)]
    · exact Or.inr (Or.inr ⟨e, u2, fun q => absurd q h6⟩)
theorem RB.word (h : RB M z r w T A B D N C n p O P K) (f : FI (rdS r p O P) M M') : mI M' A = mI M A ∧ mI M' B = mI M B ∧ mI M' D = mI M D := by
  have hs := h.2.2.2.2.2.1.2.2
  have no : ∀ x, (x = w ∨ x = T ∨ x = A ∨ x = B ∨ x = D) → ¬ rdS r p O P x := fun x hx q => by
    have q' : (r ≤ x ∧ x ≤ r + 9) ∨ x = p ∨ x = O ∨ x = P := q
    have := hs x hx
    omega
  exact ⟨f.2.2.2.2.2.2 A (no A (by omega)), f.2.2.2.2.2.2 B (no B (by omega)), f.2.2.2.2.2.2 D (no D (by omega))⟩
theorem NK.rr (nk : NK M r A n V F ns c) (h : RB M z r w T A B D N C n p O P K) (f : rrF M r p O P s M') : NK M' r A n V F ns c := by
  have hA := (h.word f.1).1
  obtain ⟨-, f2, -, f4, -⟩ := f
  unfold NK at nk ⊢
  rw [hA, f2 19 (by decide) (by decide) (by decide) (by decide) (by decide) (by decide) (by decide), f2 6 (by decide) (by decide) (by decide) (by decide) (by decide) (by decide) (by decide), f4 6 (by omega) (by omega), f4 7 (by omega) (by omega), f4 8 (by omega) (by omega), f4 9 (by omega) (by omega)]
  exact nk
theorem RG.cg (g : RG M r p O P n s V F ns d0 H L k a wt) (h2 : mI M' r 2 = a') (haa : a ≤ a') (han : a' ≤ n) (h12 : mI M' r 12 = mI M r 12) (h7 : mI M' r 7 = mI M r 7) (h14 : mI M' r 14 = mI M r 14) (h5 : mI M' r 5 = mI M r 5) (t : ∀ i, 1 ≤ i → i ≤ 5 → mI M' (r + i) = mI M (r + i)) (tp : mI M' p 2 = mI M p 2) (tO : mI M' O = mI M O) (tP : mI M' P = mI M P) : RG M' r p O P n s V F ns d0 H L k a' wt := by
  obtain ⟨⟨g1, g2, g3, g4⟩, gw, ⟨ga, gs⟩, gc, ⟨gd, gd4⟩, gr, ge, gH, gC, gL, gt⟩ := g
  have l1 : ∀ j, mI M' (r + 1) j = mI M (r + 1) j := fun j => by rw [t 1 (by omega) (by omega)]
  have l2 : ∀ j, mI M' (r + 2) j = mI M (r + 2) j := fun j => by rw [t 2 (by omega) (by omega)]
  have l3 : ∀ j, mI M' (r + 3) j = mI M (r + 3) j := fun j => by rw [t 3 (by omega) (by omega)]
  have l4 : ∀ j, mI M' (r + 4) j = mI M (r + 4) j := fun j => by rw [t 4 (by omega) (by omega)]
  have sm := fun i hi => sums_cg (M := M) (M' := M') (r := r) (k := k) (fun j _ => l1 j) (fun j _ => l4 j) i hi
  obtain ⟨s1, s2, s3, s4⟩ := sm k (Nat.le_refl _)
  refine ⟨⟨h2, by rw [h12]; exact g2, by rw [h7]; exact g3, by rw [tp]; exact g4⟩, gw, ⟨han, gs⟩, by rw [h14, s2]; exact gc, ⟨by rw [h5, s4]; exact gd, by rw [s4]; exact gd4⟩, fun i hi => by rw [(sm (i + 1) (by omega)).2.2.2, l1]; exact gr i hi, fun i hi => (ge i hi).cg (fun j _ => l1 j) (l2 i) (l3 i) (fun j _ => l4 j) (Nat.le_refl _) (fun j _ => by rw [tO]) (fun _ _ => rfl), by rw [s1]; exact gH, ?_, by rw [s3]; omega, fun j => by rw [t 5 (by omega) (by omega)]; exact gt j⟩
  intro pc h0 h1
  rw [tO, tP]
  obtain ⟨a1, a2, a3⟩ := gC pc h0 h1
  exact ⟨a1, fun q => (a2 q).imp (fun u => pdg_cg u (Nat.le_refl _) (fun j _ => l1 j) (fun j _ => l3 j)) (fun u => u), a3⟩
theorem v_rt {y : Int} (g : RG M r p O P n s V F ns d0 H L k a 1) (f : rrF M0 r p O P s M) (q : y = 0 ∧ RB M' z r w T A B D N C n p O P K ∧ FI (rdS r p O P) M M' ∧ (∀ i, i ≠ 2 → i ≠ 7 → i ≠ 14 → mI M' r i = mI M r i) ∧ (∀ i, 6 ≤ i → i ≤ 9 → mI M' (r + i) = mI M (r + i)) ∧ (∀ i, i ≠ 2 → mI M' p i = mI M p i) ∧ (∀ i, i ≠ L → mI M' O i = mI M O i ∧ mI M' P i = mI M P i) ∧ ∃ H', RG M' r p O P n s V F ns d0 H' (L + 1) k (a + 1) 0 ∧ ∀ i, i ≤ L → H' i = H i) : i32 y ∧ mOk M' ∧ rtQ M0 z r w T A B D N C n p O P K s V F ns d0 a y M' := by
  obtain ⟨e, q1, q2, q3, q4, q5, q6, H', g', -⟩ := q
  have gs := g.2.2.1.2
  refine ⟨by rw [e]; exact i32s (by omega) (by omega), q1.1, q1, f.trans ⟨q2, fun i i2 _ _ _ i7 _ i14 => q3 i i2 i7 i14, fun _ => q3 3 (by decide) (by decide) (by decide), q4, q5, fun i hi => q6 i (by omega)⟩, Or.inl e, H', L + 1, k, 0, a + 1, g', by omega, fun u => absurd u (by omega)⟩
theorem l_rt {x : Int} (haa : a ≤ a') (g : RG M r p O P n s V F ns d0 H L k a' 1) (f : rrF M0 r p O P s M) (q : lvQ M z r w T A B D N C n p O P K s V F ns d0 H L k a' x M') : i32 x ∧ mOk M' ∧ rtQ M0 z r w T A B D N C n p O P K s V F ns d0 a x M' := by
  obtain ⟨q1, q2, q3, q4, ⟨q5, q6, q7⟩, q8⟩ := q
  refine ⟨?_, q1.1, q1, f.trans ⟨q2, fun i i2 _ _ i5 i7 i12 _ => q3 i i2 i5 i7 i12, fun _ => q3 3 (by decide) (by decide) (by decide) (by decide), fun i i6 i9 => q4 i (by omega) i9, fun i _ => by rw [q5], fun i _ => ⟨by rw [q6], by rw [q7]⟩⟩, ?_⟩
  · rcases q8 with ⟨e, -⟩ | ⟨e, -⟩ <;> rw [e] <;> exact i32s (by omega) (by omega)
  · rcases q8 with ⟨e, e2⟩ | ⟨e, g'⟩
    · rw [e2]; exact ⟨Or.inr (Or.inr e), H, L, k, 1, a', g, by omega, fun u => absurd u (by omega)⟩
    · exact ⟨Or.inl e, H, L, k + 1, 1, a' + 1, g', by omega, fun u => absurd u (by omega)⟩
end RRM
end
section
/-! The class's reader of rules: takeOperand. -/
section RRN
variable {G : mG} {d z r w T A B D N C n p O P K k a a' s L L1 V F d0 c : Nat} {M0 M M' M1 M2 : mM} {H H1 : Nat → Nat} {ns : Nat → Int} {wt : Int}
end RRN
end
end
section
section
/-! The class's reader of rules: readRule, begin, know, varOf, kindOf. -/
section RRO
variable {G : mG} {d z r w T A B D N C n p O P K k a a' s L L1 V F d0 c : Nat} {M0 M M' M1 M2 : mM} {H H1 : Nat → Nat} {ns : Nat → Int} {wt : Int}
/-- what reading a rule comes to: 1 its code stands from s to L' -/
def rleQ (M0 : mM) (z r w T A B D N C n p O P K s V F : Nat) (ns : Nat → Int) (d0 : Nat) (a : Nat) (x : Int) (M' : mM) : Prop := RB M' z r w T A B D N C n p O P K ∧ rrF M0 r p O P s M' ∧ (∀ j, mI M' (r + 5) j = 0 ∨ mI M' (r + 5) j = 1) ∧ ((x = 0 ∧ ∃ a' L' : Nat, mI M' r 2 = a' ∧ mI M' p 2 = L' ∧ a' ≤ n ∧ s ≤ L' ∧ L' ≤ a') ∨ (x = 1 ∧ ∃ H' L' a', RG M' r p O P n s V F ns d0 H' L' 0 a' 0 ∧ a ≤ a'))
end RRO
end
section
/-! The class's reader: its piles in memory. -/
/-- the first entries of an array, the last of them first -/
def Ls (f : Nat → Int) : List Int → Prop
  | [] => True
  | x :: t => f t.length = x ∧ Ls f t
section LS
variable {f f' : Nat → Int} {x : Int}
theorem Ls.cg : ∀ {l : List Int}, Ls f l → (∀ i, i < l.length → f' i = f i) → Ls f' l
  | [], _, _ => trivial
  | y :: t, h, e => ⟨by rw [e t.length (by show t.length < t.length + 1; omega)]; exact h.1, h.2.cg (fun i hi => e i (by show i < t.length + 1; omega))⟩
theorem Ls.put {l : List Int} (h : Ls f l) (e : ∀ i, f' i = if i = l.length then x else f i) : Ls f' (x :: l) :=
  ⟨by rw [e, if_pos rfl], h.cg (fun i hi => by rw [e, if_neg (by omega)])⟩
end LS
/-- what reading a rule hangs on: words, kinds of names, places, orders of words; the rule's first word and the fault before it; the pile below, the rule's strength; where the machine began -/
abbrev Ru : Type := (Nat → Int) × (Nat → Int) × (Nat → Int) × (Nat → Int × Int) × (Nat × (Int × Int)) × (List Int × Nat) × (List Int × Nat)
def ruW (u : Ru) : Nat → Int := u.1
def uE (u : Ru) : Nat → Int := u.2.1
def uP (u : Ru) : Nat → Int := u.2.2.1
def uC (u : Ru) : Nat → Int × Int := u.2.2.2.1
def ruI (u : Ru) : Nat := u.2.2.2.2.1.1
def uF (u : Ru) : Int × Int := u.2.2.2.2.1.2
def uZ (u : Ru) : List Int := u.2.2.2.2.2.1.1
def uQ (u : Ru) : Nat := u.2.2.2.2.2.1.2
def uS (u : Ru) : List Int := u.2.2.2.2.2.2.1
def uK (u : Ru) : Nat := u.2.2.2.2.2.2.2
/-- the operations' numbers -/
def ops (gs : List gqq) : List Int := gs.map (fun g => g.1)
/-- the fault that is noted -/
def FT (M : mM) (r : Nat) (ft : Int × Int) : Prop := mI M r 3 = ft.1 ∧ (ft.1 ≠ 0 → mI M r 4 = ft.2)
/-- a fault is noted, if there was none -/
def Fqq (M : mM) (r : Nat) (v : Int × Int) (M' : mM) : Prop := ∀ ft, FT M r ft → FT M' r (fst9 ft v)
/-- the piles -/
def RWc (u : Ru) (M : mM) (r : Nat) (gs : List gqq) (od mq kn : List Int) (ft : Int × Int) : Prop :=
  (Ls (mI M (r + 1)) (ops gs) ∧ Ls (mI M (r + 2)) (gs.map (fun g => uP u g.2.1)) ∧ Ls (mI M (r + 3)) od ∧ Ls (mI M (r + 4)) mq ∧ Ls (mI M (r + 5)) kn) ∧ (mI M r 12 = gs.length ∧ mI M r 14 = kn.length) ∧ (od.length = gs.length ∧ mq.length = gs.length) ∧ FT M r ft ∧ ((5 ≤ uQ u ∧ uQ u ≤ 6) ∧ woq (uQ u) (ops gs)) ∧ mI M r 5 = slv (uZ u) + lvs (ops gs)
/-- an operand is wanted at word a -/
def RW1 (u : Ru) (M : mM) (r O P s L a : Nat) : Prop := ∃ gs od mq kn ft, RWc u M r gs od mq kn ft ∧ GSq (ruW u) (uE u) (uP u) (mI M O) (mI M P) (uC u) (ruI u) s (uF u) gs od mq kn ft L ∧ xs9 (ruI u) gs = a ∧ Rc (ruW u) (uS u) (uK u) (gyW (uZ u) (uQ u) (ops gs)) a
/-- an operand has been read up to word a -/
def RW0 (u : Ru) (M : mM) (r O P s c c' L a : Nat) : Prop := ∃ gs od mq kn ft, RWc u M r gs od mq kn ft ∧ OPq (ruW u) (uE u) (uP u) (mI M O) (mI M P) (uC u) (ruI u) s (uF u) c gs od mq kn ft L a ∧ Rc (ruW u) (uS u) (uK u) (gyR (uZ u) (uQ u) c' (ops gs)) a
section RX
variable {u : Ru} {M M' : mM} {r O P s c c' L a m x : Nat} {gs t : List gqq} {od mq kn kn' : List Int} {ft ft' : Int × Int} {o d k v : Int}
theorem ops_len (gs : List gqq) : (ops gs).length = gs.length := List.length_map _
theorem Fq_none (h3 : mI M' r 3 = mI M r 3) (h4 : mI M' r 4 = mI M r 4) : Fqq M r (0, 0) M' := fun ft h => by
  have e : fst9 ft (0, 0) = ft ∨ (ft.1 = 0 ∧ fst9 ft (0, 0) = (0, 0)) := by
    unfold fst9
    by_cases z : ft.1 = 0
    · rw [if_pos z]; exact Or.inr ⟨z, rfl⟩
    · rw [if_neg z]; exact Or.inl rfl
  rcases e with e | ⟨z, e⟩
  · rw [e]; exact ⟨by rw [h3]; exact h.1, fun q => by rw [h4]; exact h.2 q⟩
  · rw [e]; exact ⟨by rw [h3, h.1]; exact z, fun q => absurd rfl q⟩
theorem Fq_note {x y : Int} (hx : x ≠ 0) (h0 : mI M r 3 = 0 → mI M' r 3 = x ∧ mI M' r 4 = y) (h1 : mI M r 3 ≠ 0 → mI M' r 3 = mI M r 3 ∧ mI M' r 4 = mI M r 4) : Fqq M r (x, y) M' := fun ft h => by
  unfold fst9
  by_cases z : ft.1 = 0
  · rw [if_pos z]
    have := h0 (by rw [h.1]; exact z)
    exact ⟨this.1, fun _ => this.2⟩
  · rw [if_neg z]
    have := h1 (by rw [h.1]; exact z)
    exact ⟨by rw [this.1]; exact h.1, fun q => by rw [this.2]; exact h.2 q⟩
/-- one more operation is open -/
theorem RWc.push (h : RWc u M r gs od mq kn ft) (h12 : mI M' r 12 = mI M r 12 + 1) (t1 : ∀ i, mI M' (r + 1) i = if i = gs.length then o else mI M (r + 1) i) (t2 : ∀ i, mI M' (r + 2) i = if i = gs.length then uP u m else mI M (r + 2) i) (t3 : ∀ i, mI M' (r + 3) i = if i = gs.length then d else mI M (r + 3) i) (t4 : ∀ i, mI M' (r + 4) i = if i = gs.length then k else mI M (r + 4) i) (t5 : Ls (mI M' (r + 5)) kn') (h14 : mI M' r 14 = kn'.length) (hf : FT M' r ft') (hd : mI M' r 5 = mI M r 5 + cdq o) (ho : opq o) (hc : cst o ≤ rsl (uQ u) (ops gs)) : RWc u M' r ((o, m, x) :: gs) (d :: od) (k :: mq) kn' ft' := by
  obtain ⟨⟨a1, a2, a3, a4, a5⟩, ⟨b1, b2⟩, ⟨c1, c2⟩, e1, ⟨q1, q2⟩, f1⟩ := h
  have l1 := ops_len gs
  refine ⟨⟨a1.put (x := o) (fun i => by rw [t1, l1]), a2.put (x := uP u m) (fun i => by rw [t2, List.length_map]), a3.put (x := d) (fun i => by rw [t3, c1]), a4.put (x := k) (fun i => by rw [t4, c2]), t5⟩, ⟨by rw [h12, b1]; rfl, h14⟩, ⟨by show od.length + 1 = gs.length + 1; omega, by show mq.length + 1 = gs.length + 1; omega⟩, hf, ⟨q1, ho, hc, q2⟩, ?_⟩
  rw [hd, f1]
  show _ = slv (uZ u) + ((cdq o + lvs (ops gs) : Nat) : Int)
  omega
/-- the latest open operation goes -/
theorem RWc.pop (h : RWc u M r ((o, m, x) :: t) (d :: od) (k :: mq) kn ft) (h12 : mI M' r 12 = mI M r 12 - 1) (hT : ∀ i, 1 ≤ i → i ≤ 4 → ∀ j, j < t.length → mI M' (r + i) j = mI M (r + i) j) (t5 : Ls (mI M' (r + 5)) kn') (h14 : mI M' r 14 = kn'.length) (hf : FT M' r ft') (hd : mI M' r 5 = mI M r 5 - cdq o) : RWc u M' r t od mq kn' ft' := by
  obtain ⟨⟨a1, a2, a3, a4, a5⟩, ⟨b1, b2⟩, ⟨c1, c2⟩, e1, ⟨q1, q2⟩, f1⟩ := h
  have l1 := ops_len t
  have c1 : od.length + 1 = t.length + 1 := c1
  have c2 : mq.length + 1 = t.length + 1 := c2
  refine ⟨⟨a1.2.cg (fun i hi => hT 1 (by omega) (by omega) i (by rw [← l1]; exact hi)), a2.2.cg (fun i hi => hT 2 (by omega) (by omega) i (by rw [List.length_map] at hi; exact hi)), a3.2.cg (fun i hi => hT 3 (by omega) (by omega) i (by omega)), a4.2.cg (fun i hi => hT 4 (by omega) (by omega) i (by omega)), t5⟩, ⟨by rw [h12, b1]; show ((t.length + 1 : Nat) : Int) - 1 = _; omega, h14⟩, ⟨by omega, by omega⟩, hf, ⟨q1, q2.2.2⟩, ?_⟩
  have f1 : mI M r 5 = slv (uZ u) + ((cdq o + lvs (ops t) : Nat) : Int) := f1
  rw [hd, f1]
  omega
/-- the latest open operation becomes another -/
theorem RWc.top {o' d' k' : Int} {x' : Nat} (h : RWc u M r ((o, m, x) :: t) (d :: od) (k :: mq) kn ft) (h12 : mI M' r 12 = mI M r 12) (t1 : ∀ i, mI M' (r + 1) i = if i = t.length then o' else mI M (r + 1) i) (t2 : ∀ i, mI M' (r + 2) i = mI M (r + 2) i) (t3 : ∀ i, mI M' (r + 3) i = if i = t.length then d' else mI M (r + 3) i) (t4 : ∀ i, mI M' (r + 4) i = if i = t.length then k' else mI M (r + 4) i) (t5 : Ls (mI M' (r + 5)) kn') (h14 : mI M' r 14 = kn'.length) (hf : FT M' r ft') (hd : mI M' r 5 = mI M r 5) (ho : opq o') (hcd : cdq o' = cdq o) (hc : cst o' = cst o) : RWc u M' r ((o', m, x') :: t) (d' :: od) (k' :: mq) kn' ft' := by
  obtain ⟨⟨a1, a2, a3, a4, a5⟩, ⟨b1, b2⟩, ⟨c1, c2⟩, e1, ⟨q1, q2⟩, f1⟩ := h
  have l1 := ops_len t
  have c1 : od.length + 1 = t.length + 1 := c1
  have c2 : mq.length + 1 = t.length + 1 := c2
  refine ⟨⟨Ls.put (f := mI M (r + 1)) a1.2 (fun i => by rw [t1]; show _ = if i = (ops t).length then _ else _; rw [l1]), ?_, Ls.put (f := mI M (r + 3)) a3.2 (fun i => by rw [t3, show t.length = od.length by first | rfl | omega]), Ls.put (f := mI M (r + 4)) a4.2 (fun i => by rw [t4, show t.length = mq.length by first | rfl | omega]), t5⟩, ⟨by rw [h12]; exact b1, h14⟩, ⟨c1, c2⟩, hf, ⟨q1, ho, by rw [hc]; exact q2.2.1, q2.2.2⟩, ?_⟩
  · exact Ls.cg (l := uP u m :: t.map (fun g => uP u g.2.1)) a2 (fun i _ => t2 i)
  · have f1 : mI M r 5 = slv (uZ u) + ((cdq o + lvs (ops t) : Nat) : Int) := f1
    rw [hd, f1]
    show _ = slv (uZ u) + ((cdq o' + lvs (ops t) : Nat) : Int)
    rw [hcd]
theorem RWc.kn1 (h : RWc u M r gs od mq (v :: kn) ft) : mI M (r + 5) kn.length = v ∧ Ls (mI M (r + 5)) kn := ⟨h.1.2.2.2.2.1, h.1.2.2.2.2.2⟩
theorem RWc.hd (h : RWc u M r ((o, m, x) :: t) (d :: od) (k :: mq) kn ft) : mI M (r + 1) t.length = o ∧ mI M (r + 2) t.length = uP u m ∧ mI M (r + 3) t.length = d ∧ mI M (r + 4) t.length = k ∧ mI M r 12 = ((t.length + 1 : Nat) : Int) := by
  obtain ⟨⟨a1, a2, a3, a4, a5⟩, ⟨b1, b2⟩, ⟨c1, c2⟩, -⟩ := h
  have l1 := ops_len t
  have c1 : od.length + 1 = t.length + 1 := c1
  have c2 : mq.length + 1 = t.length + 1 := c2
  have q1 : mI M (r + 1) (ops t).length = o := a1.1
  have q2 : mI M (r + 2) (t.map (fun g => uP u g.2.1)).length = uP u m := a2.1
  have q3 : mI M (r + 3) od.length = d := a3.1
  have q4 : mI M (r + 4) mq.length = k := a4.1
  rw [l1] at q1
  rw [List.length_map] at q2
  rw [show od.length = t.length by first | rfl | omega] at q3
  rw [show mq.length = t.length by first | rfl | omega] at q4
  exact ⟨q1, q2, q3, q4, b1⟩
end RX
end
section
/-! The class's reader: its steps over its piles in memory. -/
section RY
variable {u : Ru} {M M' : mM} {r O P s c c' L a m x k kk : Nat} {gs t : List gqq} {od mq kn kn' : List Int} {ft ft' : Int × Int} {o d v : Int}
theorem RWc.keep (h : RWc u M r gs od mq kn ft) (h12 : mI M' r 12 = mI M r 12) (hT : ∀ i, 1 ≤ i → i ≤ 4 → mI M' (r + i) = mI M (r + i)) (t5 : Ls (mI M' (r + 5)) kn') (h14 : mI M' r 14 = kn'.length) (hf : FT M' r ft') (hd : mI M' r 5 = mI M r 5) : RWc u M' r gs od mq kn' ft' := by
  obtain ⟨⟨a1, a2, a3, a4, a5⟩, ⟨b1, b2⟩, c1, e1, q1, f1⟩ := h
  exact ⟨⟨by rw [hT 1 (by omega) (by omega)]; exact a1, by rw [hT 2 (by omega) (by omega)]; exact a2, by rw [hT 3 (by omega) (by omega)]; exact a3, by rw [hT 4 (by omega) (by omega)]; exact a4, t5⟩, ⟨by rw [h12]; exact b1, h14⟩, c1, hf, q1, by rw [hd]; exact f1⟩
theorem RWc.q6 (h : RWc u M r gs od mq kn ft) : uQ u ≤ 6 := h.2.2.2.2.1.1.2
theorem RWc.wo (h : RWc u M r gs od mq kn ft) : woq (uQ u) (ops gs) := h.2.2.2.2.1.2
theorem RWc.dp (h : RWc u M r gs od mq kn ft) : mI M r 5 = slv (uZ u) + lvs (ops gs) := h.2.2.2.2.2
theorem RWc.kl (h : RWc u M r gs od mq kn ft) : mI M r 12 = gs.length := h.2.1.1
theorem cdq0 {o : Int} (h : 19 ≤ o ∧ o ≤ 31) : cdq o = 0 := by unfold cdq; rw [if_neg (by omega)]
/-- a value -/
theorem RW1.val (h : RW1 u M r O P s L a) (hw : ruW u a = 1 ∨ ruW u a = 2 ∨ ruW u a = 12 ∨ ruW u a = 13) (h12 : mI M' r 12 = mI M r 12) (h5 : mI M' r 5 = mI M r 5) (hkk : mI M r 14 = kk) (h14 : mI M' r 14 = (kk : Int) + 1) (hT : ∀ i, 1 ≤ i → i ≤ 4 → mI M' (r + i) = mI M (r + i)) (t5 : ∀ i : Nat, mI M' (r + 5) i = if i = kk then kdq (ruW u) (uE u) 0 a (a + 1) else mI M (r + 5) i) (hO : ∀ i, mI M' O i = if i = L then (uC u a).1 else mI M O i) (hP : ∀ i, mI M' P i = if i = L then (uC u a).2 else mI M P i) (hF : Fqq M r (fl (ruW u) (uE u) (uP u) 0 a (a + 1)) M') : RW0 u M' r O P s 0 0 (L + 1) (a + 1) := by
  obtain ⟨gs, od, mq, kn, ft, h1, h2, h3, h4⟩ := h
  have hl : kk = kn.length := by have := h1.2.1.2; omega
  exact ⟨gs, od, mq, _, _, h1.keep h12 hT (h1.1.2.2.2.2.put (fun i => by rw [t5, hl])) (by rw [h14, hl]; rfl) (hF ft h1.2.2.2.1) h5, OPq.val h2 h3 hw (fun i hi => ⟨by rw [hO, if_neg (by omega)], by rw [hP, if_neg (by omega)]⟩) (by rw [hO, if_pos rfl]) (by rw [hP, if_pos rfl]), h4.trans (sim_val h1.q6 hw)⟩
theorem FT.same (h : FT M r ft) (h3 : mI M' r 3 = mI M r 3) (h4 : mI M' r 4 = mI M r 4) : FT M' r ft := ⟨by rw [h3]; exact h.1, fun q => by rw [h4]; exact h.2 q⟩
/-- where a '!' may stand -/
def myd (M : mM) (r : Nat) : Prop := mI M r 12 = 0 ∨ ∃ j : Nat, mI M r 12 = (j : Int) + 1 ∧ lvl (mI M (r + 1) j) < 4 ∧ mI M (r + 1) j ≠ 40
theorem RWc.rsl3 (h : RWc u M r gs od mq kn ft) : myd M r ↔ 3 ≤ rsl (uQ u) (ops gs) := by
  cases gs with
  | nil =>
    have e : mI M r 12 = 0 := h.kl
    exact ⟨fun _ => by have := h.2.2.2.2.1.1.1; show 3 ≤ uQ u; omega, fun _ => Or.inl e⟩
  | cons g t =>
    obtain ⟨o, m, x⟩ := g
    have hkl : mI M r 12 = ((t.length + 1 : Nat) : Int) := h.kl
    have hop : mI M (r + 1) t.length = o := by have := h.1.1.1; rw [List.length_map] at this; exact this
    have ho : opq o := h.wo.1
    show _ ↔ 3 ≤ rsq o
    have key : (lvl o < 4 ∧ o ≠ 40) ↔ 3 ≤ rsq o := by
      unfold opq at ho
      unfold lvl rsq
      constructor
      · intro q
        obtain ⟨q1, q2⟩ := q
        (repeat' split at q1) <;> (repeat' split) <;> omega
      · intro q
        (repeat' split at q) <;> (repeat' split) <;> omega
    rw [← key]
    constructor
    · intro q
      rcases q with q | ⟨j, q1, q2, q3⟩
      · omega
      · have : j = t.length := by omega
        rw [this, hop] at q2 q3
        exact ⟨q2, q3⟩
    · intro q
      exact Or.inr ⟨t.length, by omega, by rw [hop]; exact q.1, by rw [hop]; exact q.2⟩
/-- '(' , '-' , '!' -/
theorem RW1.lvl (h : RW1 u M r O P s L a) (ho : (o = 37 ∧ ruW u a = 36) ∨ (o = 40 ∧ ruW u a = 25) ∨ (o = 41 ∧ ruW u a = 31)) (hm : o = 41 → myd M r) (hlt : mI M r 5 < 40) (hk : mI M r 12 = k) (h12 : mI M' r 12 = (k : Int) + 1) (h5 : mI M' r 5 = mI M r 5 + 1) (h3 : mI M' r 3 = mI M r 3) (h4 : mI M' r 4 = mI M r 4) (h14 : mI M' r 14 = mI M r 14) (t1 : ∀ i, mI M' (r + 1) i = if i = k then o else mI M (r + 1) i) (t2 : ∀ i, mI M' (r + 2) i = if i = k then uP u a else mI M (r + 2) i) (t3 : ∀ i, mI M' (r + 3) i = if i = k then -1 else mI M (r + 3) i) (t4 : ∀ i, mI M' (r + 4) i = if i = k then 0 else mI M (r + 4) i) (t5 : mI M' (r + 5) = mI M (r + 5)) (hO : mI M' O = mI M O) (hP : mI M' P = mI M P) : RW1 u M' r O P s L (a + 1) := by
  obtain ⟨gs, od, mq, kn, ft, q1, q2, q3, q4⟩ := h
  have hl : k = gs.length := by have := q1.kl; omega
  subst hl
  have hd : slv (uZ u) + lvs (ops gs) < 40 := by rw [← q1.dp]; exact hlt
  have hc : cst o ≤ rsl (uQ u) (ops gs) := by
    rcases ho with ⟨e, -⟩ | ⟨e, -⟩ | ⟨e, -⟩
    · subst e; exact Nat.zero_le _
    · subst e; exact Nat.zero_le _
    · have := q1.rsl3.mp (hm e)
      subst e
      exact this
  refine ⟨(o, a, a + 1) :: gs, -1 :: od, 0 :: mq, kn, ft, q1.push (by rw [h12, hk]) t1 t2 t3 t4 (by rw [t5]; exact q1.1.2.2.2.2) (by rw [h14]; exact q1.2.1.2) (q1.2.2.2.1.same h3 h4) (by rw [h5]; rcases ho with ⟨e, -⟩ | ⟨e, -⟩ | ⟨e, -⟩ <;> subst e <;> rfl) (by unfold opq; omega) hc, ?_, rfl, ?_⟩
  · rw [hO, hP]
    exact q2.pre q3 ho
  · rcases ho with ⟨e, hx⟩ | ⟨e, hx⟩ | ⟨e, hx⟩
    · subst e; exact q4.trans (sim_open q1.q6 q1.wo hx hd)
    · subst e; exact q4.trans (sim_neg q1.q6 q1.wo hx hd)
    · subst e; exact q4.trans (sim_not q1.q6 q1.wo hc hx hd)
/-- least, most -/
theorem RW1.lst (h : RW1 u M r O P s L a) (ho : o = 15 ∨ o = 16) (hw : ruW u a = o - 1) (hw1 : ruW u (a + 1) = 36) (hlt : mI M r 5 < 40) (hk : mI M r 12 = k) (h12 : mI M' r 12 = (k : Int) + 1) (h5 : mI M' r 5 = mI M r 5 + 1) (h3 : mI M' r 3 = mI M r 3) (h4 : mI M' r 4 = mI M r 4) (h14 : mI M' r 14 = mI M r 14) (t1 : ∀ i, mI M' (r + 1) i = if i = k then o else mI M (r + 1) i) (t2 : ∀ i, mI M' (r + 2) i = if i = k then uP u a else mI M (r + 2) i) (t3 : ∀ i, mI M' (r + 3) i = if i = k then -1 else mI M (r + 3) i) (t4 : ∀ i, mI M' (r + 4) i = if i = k then 0 else mI M (r + 4) i) (t5 : mI M' (r + 5) = mI M (r + 5)) (hO : mI M' O = mI M O) (hP : mI M' P = mI M P) : RW1 u M' r O P s L (a + 2) := by
  obtain ⟨gs, od, mq, kn, ft, q1, q2, q3, q4⟩ := h
  have hl : k = gs.length := by have := q1.kl; omega
  subst hl
  have hd : slv (uZ u) + lvs (ops gs) < 40 := by rw [← q1.dp]; exact hlt
  have hc : cst o ≤ rsl (uQ u) (ops gs) := by rcases ho with e | e <;> subst e <;> exact Nat.zero_le _
  refine ⟨(o, a, a + 2) :: gs, -1 :: od, 0 :: mq, kn, ft, q1.push (by rw [h12, hk]) t1 t2 t3 t4 (by rw [t5]; exact q1.1.2.2.2.2) (by rw [h14]; exact q1.2.1.2) (q1.2.2.2.1.same h3 h4) (by rw [h5]; rcases ho with e | e <;> subst e <;> rfl) (by unfold opq; omega) hc, ?_, rfl, q4.trans (sim_list ho q1.q6 q1.wo (by omega) hw1 hd)⟩
  rw [hO, hP]
  exact q2.lst q3 ho hw hw1
/-- an operand that can't begin so -/
theorem RW1.no (h : RW1 u M r O P s L a) (hx : ¬ (ruW u a = 1 ∨ ruW u a = 2 ∨ ruW u a = 12 ∨ ruW u a = 13 ∨ ruW u a = 14 ∨ ruW u a = 15) ∧ (ruW u a = 25 ∨ ruW u a = 36 → ¬ mI M r 5 < 40) ∧ (ruW u a = 31 → ¬ (myd M r ∧ mI M r 5 < 40))) : Rf (ruW u) (uS u) (uK u) a := by
  obtain ⟨gs, od, mq, kn, ft, q1, q2, q3, q4⟩ := h
  refine q4.rf ?_
  obtain ⟨h1, h2, h3⟩ := hx
  rw [q1.dp] at h2 h3
  by_cases c1 : ruW u a = 25
  · exact sim_neg_no q1.q6 q1.wo c1 (h2 (Or.inl c1))
  · by_cases c2 : ruW u a = 36
    · exact sim_open_no q1.q6 q1.wo c2 (h2 (Or.inr c2))
    · by_cases c3 : ruW u a = 31
      · exact sim_not_no q1.q6 q1.wo c3 (fun q => h3 c3 ⟨q1.rsl3.mpr q.1, q.2⟩)
      · exact sim_no q1.q6 (by omega)
theorem RW1.lst_no (h : RW1 u M r O P s L a) (hw : ruW u a = 14 ∨ ruW u a = 15) (hx : ¬ (ruW u (a + 1) = 36 ∧ mI M r 5 < 40)) : Rf (ruW u) (uS u) (uK u) (a + 1) := by
  obtain ⟨gs, od, mq, kn, ft, q1, q2, q3, q4⟩ := h
  rw [q1.dp] at hx
  exact q4.rf (sim_list_no q1.q6 q1.wo hw hx)
/-- the latest operation -/
theorem RW0.cases (h : RW0 u M r O P s c c' L a) (hk : mI M r 12 = (k : Int) + 1) (ho : mI M (r + 1) k = o) : ∃ m x t od mq kn ft, t.length = k ∧ RWc u M r ((o, m, x) :: t) od mq kn ft ∧ OPq (ruW u) (uE u) (uP u) (mI M O) (mI M P) (uC u) (ruI u) s (uF u) c ((o, m, x) :: t) od mq kn ft L a ∧ Rc (ruW u) (uS u) (uK u) (gyR (uZ u) (uQ u) c' (o :: ops t)) a := by
  obtain ⟨gs, od, mq, kn, ft, q1, q2, q3⟩ := h
  cases gs with
  | nil =>
    have e : mI M r 12 = 0 := q1.kl
    omega
  | cons g t =>
    obtain ⟨o', m, x⟩ := g
    have hkl : mI M r 12 = ((t.length + 1 : Nat) : Int) := q1.kl
    have hop : mI M (r + 1) t.length = o' := by have := q1.1.1.1; rw [List.length_map] at this; exact this
    have e : t.length = k := by omega
    rw [e, ho] at hop
    subst hop
    exact ⟨m, x, t, od, mq, kn, ft, e, q1, q2, q3⟩
/-- '-' or '!' before an operand is grouped -/
theorem RW0.gun (h : RW0 u M r O P s c c' L a) (hk : mI M r 12 = (k : Int) + 1) (ho : mI M (r + 1) k = o) (ho2 : o = 40 ∨ o = 41) (hc : c ≤ rsq o) (hm : lwx (ruW u a) ≤ c' ∨ rsq o < lwx (ruW u a)) (h12 : mI M' r 12 = k) (h5 : mI M' r 5 = mI M r 5 - 1) (hkk : mI M r 14 = (kk : Int) + 1) (h14 : mI M' r 14 = (kk : Int) + 1) (hT : ∀ i, 1 ≤ i → i ≤ 4 → mI M' (r + i) = mI M (r + i)) (t5 : ∀ i : Nat, mI M' (r + 5) i = if i = kk then (if o = 41 then 1 else 0) else mI M (r + 5) i) (hF : Fqq M r (kft (mI M (r + 5) kk = if o = 41 then 1 else 0) (mI M (r + 2) k)) M') (hO : ∀ i, mI M' O i = if i = L then o else mI M O i) (hP : ∀ i, mI M' P i = if i = L then mI M (r + 2) k else mI M P i) : RW0 u M' r O P s (cst o) (pst o) (L + 1) a := by
  obtain ⟨m, x, t, od, mq, kn, ft, e, q1, q2, q3⟩ := h.cases hk ho
  subst e
  obtain ⟨od', mq', last, kn', e1, e2, e3, hl, g⟩ := q2.gpre ho2 hc
  subst e1 e2 e3
  obtain ⟨-, p2, -, -, -⟩ := q1.hd
  obtain ⟨k1, k2⟩ := q1.kn1
  have hkl : kk = kn'.length := by have : mI M r 14 = ((kn'.length + 1 : Nat) : Int) := q1.2.1.2; omega
  subst hkl
  rw [p2, k1] at hF
  rw [p2] at hP
  exact ⟨t, od', mq', _, _, q1.pop (by rw [h12, hk]; omega) (fun i i1 i4 j _ => by rw [hT i i1 i4]) (k2.put t5) (by rw [h14]; rfl) (hF ft q1.2.2.2.1) (by rw [h5]; rcases ho2 with e | e <;> subst e <;> rfl), g _ _ (fun i hi => ⟨by rw [hO, if_neg (by omega)], by rw [hP, if_neg (by omega)]⟩) (by rw [hO, if_pos rfl]) (by rw [hP, if_pos rfl]), q3.trans (sim_pop q1.q6 q1.wo (Or.inr (by omega)) hm)⟩
/-- a sign between two operands is grouped -/
theorem RW0.gbin (h : RW0 u M r O P s c c' L a) (hk : mI M r 12 = (k : Int) + 1) (ho : mI M (r + 1) k = o) (ho2 : 19 ≤ o ∧ o ≤ 29) (hc : c ≤ rsq o) (hm : lwx (ruW u a) ≤ c' ∨ rsq o < lwx (ruW u a)) (h12 : mI M' r 12 = k) (h5 : mI M' r 5 = mI M r 5) (hkk : mI M r 14 = (kk : Int) + 2) (h14 : mI M' r 14 = (kk : Int) + 1) (hT : ∀ i, 1 ≤ i → i ≤ 4 → mI M' (r + i) = mI M (r + i)) (t5 : ∀ i : Nat, mI M' (r + 5) i = if i = kk then (if o ≤ 24 then 1 else 0) else mI M (r + 5) i) (hF : Fqq M r (kft (okq (o - 1) (mI M (r + 5) kk) (mI M (r + 5) (kk + 1))) (mI M (r + 2) k)) M') (hO : ∀ i, mI M' O i = if i = L then o else mI M O i) (hP : ∀ i, mI M' P i = if i = L then mI M (r + 2) k else mI M P i) : RW0 u M' r O P s (cst o) (pst o) (L + 1) a := by
  obtain ⟨m, x, t, od, mq, kn, ft, e, q1, q2, q3⟩ := h.cases hk ho
  subst e
  obtain ⟨od', mq', last, left, kn', e1, e2, e3, hl, g⟩ := q2.gbin ho2 hc
  subst e1 e2 e3
  obtain ⟨-, p2, -, -, -⟩ := q1.hd
  obtain ⟨k1, k2, k3⟩ := q1.kn1
  have hkl : kk = kn'.length := by have : mI M r 14 = ((kn'.length + 2 : Nat) : Int) := q1.2.1.2; omega
  subst hkl
  have k1 : mI M (r + 5) (kn'.length + 1) = last := k1
  rw [p2, k1, k2] at hF
  rw [p2] at hP
  exact ⟨t, od', mq', _, _, q1.pop (by rw [h12, hk]; omega) (fun i i1 i4 j _ => by rw [hT i i1 i4]) (k3.put t5) (by rw [h14]; rfl) (hF ft q1.2.2.2.1) (by rw [h5, cdq0 (by omega)]; omega), g _ _ (fun i hi => ⟨by rw [hO, if_neg (by omega)], by rw [hP, if_neg (by omega)]⟩) (by rw [hO, if_pos rfl]) (by rw [hP, if_pos rfl]), q3.trans (sim_pop q1.q6 q1.wo (Or.inl (by omega)) hm)⟩
/-- '&' or '|' is grouped -/
theorem RW0.gjmp {dd : Nat} (h : RW0 u M r O P s c c' L a) (hk : mI M r 12 = (k : Int) + 1) (ho : mI M (r + 1) k = o) (ho2 : o = 30 ∨ o = 31) (hc : c ≤ rsq o) (hm : lwx (ruW u a) ≤ c' ∨ rsq o < lwx (ruW u a)) (h12 : mI M' r 12 = k) (h5 : mI M' r 5 = mI M r 5) (hkk : mI M r 14 = (kk : Int) + 2) (h14 : mI M' r 14 = (kk : Int) + 1) (hT : ∀ i, 1 ≤ i → i ≤ 4 → mI M' (r + i) = mI M (r + i)) (t5 : ∀ i : Nat, mI M' (r + 5) i = if i = kk then 1 else mI M (r + 5) i) (hF : Fqq M r (kft (okq (o - 1) (mI M (r + 5) kk) (mI M (r + 5) (kk + 1))) (mI M (r + 2) k)) M') (hd : mI M (r + 3) k = dd) (hO : ∀ i, mI M' O i = mI M O i) (hP : ∀ i, mI M' P i = if i = dd then (L : Int) else mI M P i) : RW0 u M' r O P s (cst o) (pst o) L a := by
  obtain ⟨m, x, t, od, mq, kn, ft, e, q1, q2, q3⟩ := h.cases hk ho
  subst e
  obtain ⟨d9, od', mq', last, left, kn', e1, e2, e3, hl, hdL, g⟩ := q2.gjmp ho2 hc
  subst e1 e2 e3
  obtain ⟨-, p2, p3, -, -⟩ := q1.hd
  obtain ⟨k1, k2, k3⟩ := q1.kn1
  have hkl : kk = kn'.length := by have : mI M r 14 = ((kn'.length + 2 : Nat) : Int) := q1.2.1.2; omega
  subst hkl
  have k1 : mI M (r + 5) (kn'.length + 1) = last := k1
  have hdd : dd = d9 := by rw [hd] at p3; omega
  subst hdd
  rw [p2, k1, k2] at hF
  exact ⟨t, od', mq', _, _, q1.pop (by rw [h12, hk]; omega) (fun i i1 i4 j _ => by rw [hT i i1 i4]) (k3.put t5) (by rw [h14]; rfl) (hF ft q1.2.2.2.1) (by rw [h5, cdq0 (by omega)]; omega), g _ _ (fun i hi => hO i) (fun i hi hn => by rw [hP, if_neg hn]) (by rw [hP, if_pos rfl]), q3.trans (sim_pop q1.q6 q1.wo (Or.inl (by omega)) hm)⟩
/-- '?' with its ':' is grouped -/
theorem RW0.gels {dd : Nat} (h : RW0 u M r O P s c c' L a) (hk : mI M r 12 = (k : Int) + 1) (ho : mI M (r + 1) k = 42) (hc : c ≤ 6) (hm : lwx (ruW u a) ≤ c') (h12 : mI M' r 12 = k) (h5 : mI M' r 5 = mI M r 5 - 1) (hkk : mI M r 14 = (kk : Int) + 1) (h14 : mI M' r 14 = (kk : Int) + 1) (hT : ∀ i, 1 ≤ i → i ≤ 4 → mI M' (r + i) = mI M (r + i)) (t5 : ∀ i : Nat, mI M' (r + 5) i = mI M (r + 5) i) (hF : Fqq M r (kft (mI M (r + 4) k = if mI M (r + 5) kk = 1 then 4 else 0) (mI M (r + 2) k)) M') (hd : mI M (r + 3) k = dd) (hO : ∀ i, mI M' O i = mI M O i) (hP : ∀ i, mI M' P i = if i = dd then (L : Int) else mI M P i) : RW0 u M' r O P s 6 6 L a := by
  obtain ⟨m, x, t, od, mq, kn, ft, e, q1, q2, q3⟩ := h.cases hk ho
  subst e
  obtain ⟨d9, od', k9, mq', last, kn', e1, e2, e3, hl, hdL, g⟩ := q2.gels hc
  subst e1 e2 e3
  obtain ⟨-, p2, p3, p4, -⟩ := q1.hd
  obtain ⟨k1, k2⟩ := q1.kn1
  have hkl : kk = kn'.length := by have : mI M r 14 = ((kn'.length + 1 : Nat) : Int) := q1.2.1.2; omega
  subst hkl
  have hdd : dd = d9 := by rw [hd] at p3; omega
  subst hdd
  rw [p2, p4, k1] at hF
  exact ⟨t, od', mq', last :: kn', _, q1.pop (by rw [h12, hk]; omega) (fun i i1 i4 j _ => by rw [hT i i1 i4]) (q1.1.2.2.2.2.cg (fun i _ => t5 i)) (by rw [h14]; rfl) (hF ft q1.2.2.2.1) (by rw [h5]; rfl), g _ _ (fun i hi => hO i) (fun i hi hn => by rw [hP, if_neg hn]) (by rw [hP, if_pos rfl]), q3.trans (sim_pop q1.q6 q1.wo (Or.inr (by omega)) (Or.inl hm))⟩
end RY
end
section
/-! The class's reader: signs, '?', ':' and what closes, over its piles in memory. -/
section RZ
variable {u : Ru} {M M' : mM} {r O P s c c' L a m x k kk : Nat} {gs t : List gqq} {od mq kn kn' : List Int} {ft ft' : Int × Int} {o d v : Int}
/-- how strong the operand behind the latest operation may be -/
def hrs (u : Ru) (M : mM) (r : Nat) (y : Nat) : Prop := (mI M r 12 = 0 ∧ uQ u = y) ∨ ∃ j : Nat, mI M r 12 = (j : Int) + 1 ∧ rsq (mI M (r + 1) j) = y
theorem RWc.rsl (h : RWc u M r gs od mq kn ft) : hrs u M r (rsl (uQ u) (ops gs)) := by
  cases gs with
  | nil => exact Or.inl ⟨h.kl, rfl⟩
  | cons g t =>
    obtain ⟨o, m, x⟩ := g
    have hkl : mI M r 12 = ((t.length + 1 : Nat) : Int) := h.kl
    have hop : mI M (r + 1) t.length = o := by have := h.1.1.1; rw [List.length_map] at this; exact this
    exact Or.inr ⟨t.length, by omega, by rw [hop]; rfl⟩
theorem hrs.eq {y y' : Nat} (h : hrs u M r y) (h' : hrs u M r y') : y = y' := by
  rcases h with ⟨h1, h2⟩ | ⟨j, h1, h2⟩ <;> rcases h' with ⟨g1, g2⟩ | ⟨i, g1, g2⟩
  · omega
  · omega
  · omega
  · have : i = j := by omega
    rw [this] at g2
    omega
theorem cst_x {o : Int} (ho : 19 ≤ o ∧ o ≤ 31) : cst o = lwx (o - 1) := by
  unfold cst lwx
  (repeat' split) <;> omega
/-- a sign between two operands, without an order -/
theorem RW0.sbin {y : Nat} (h : RW0 u M r O P s c c' L a) (ho : 19 ≤ o ∧ o ≤ 29) (hw : ruW u a = o - 1) (hc : c ≤ lsq o) (hm : c' < lwx (ruW u a)) (hy : hrs u M r y) (hr : lwx (ruW u a) ≤ y) (hk : mI M r 12 = k) (h12 : mI M' r 12 = (k : Int) + 1) (h5 : mI M' r 5 = mI M r 5) (h3 : mI M' r 3 = mI M r 3) (h4 : mI M' r 4 = mI M r 4) (h14 : mI M' r 14 = mI M r 14) (t1 : ∀ i, mI M' (r + 1) i = if i = k then o else mI M (r + 1) i) (t2 : ∀ i, mI M' (r + 2) i = if i = k then uP u a else mI M (r + 2) i) (t3 : ∀ i, mI M' (r + 3) i = if i = k then -1 else mI M (r + 3) i) (t4 : ∀ i, mI M' (r + 4) i = if i = k then 0 else mI M (r + 4) i) (t5 : mI M' (r + 5) = mI M (r + 5)) (hO : mI M' O = mI M O) (hP : mI M' P = mI M P) : RW1 u M' r O P s L (a + 1) := by
  obtain ⟨gs, od, mq, kn, ft, q1, q2, q3⟩ := h
  have hl : k = gs.length := by have := q1.kl; omega
  subst hl
  have er := hy.eq q1.rsl
  subst er
  have hcs : cst o = lwx (ruW u a) := by rw [hw]; exact cst_x (by omega)
  refine ⟨(o, a, a + 1) :: gs, -1 :: od, 0 :: mq, kn, ft, q1.push (by rw [h12, hk]) t1 t2 t3 t4 (by rw [t5]; exact q1.1.2.2.2.2) (by rw [h14]; exact q1.2.1.2) (q1.2.2.2.1.same h3 h4) (by rw [h5, cdq0 (by omega)]; omega) (by unfold opq; omega) (by rw [hcs]; exact hr), ?_, rfl, ?_⟩
  · rw [hO, hP]
    exact q2.sbin ho hw hc
  · have l5 : lwx (ruW u a) ≤ 5 := by rw [hw]; unfold lwx; (repeat' split) <;> omega
    have e := sim_sign (z := uZ u) (x := o - 1) q1.q6 hw (by rw [← hw]; omega) (by rw [← hw]; exact l5) (by rw [← hw]; exact hm) (by rw [← hw]; exact hr)
    rw [show o - 1 + 1 = o by first | rfl | omega] at e
    exact q3.trans e
/-- '&', '|' -/
theorem RW0.sjmp {y : Nat} (h : RW0 u M r O P s c c' L a) (ho : o = 30 ∨ o = 31) (hw : ruW u a = o - 1) (hc : c ≤ lsq o) (hm : c' < lwx (ruW u a)) (hy : hrs u M r y) (hr : lwx (ruW u a) ≤ y) (hk : mI M r 12 = k) (h12 : mI M' r 12 = (k : Int) + 1) (h5 : mI M' r 5 = mI M r 5) (h3 : mI M' r 3 = mI M r 3) (h4 : mI M' r 4 = mI M r 4) (h14 : mI M' r 14 = mI M r 14) (t1 : ∀ i, mI M' (r + 1) i = if i = k then o else mI M (r + 1) i) (t2 : ∀ i, mI M' (r + 2) i = if i = k then uP u a else mI M (r + 2) i) (t3 : ∀ i, mI M' (r + 3) i = if i = k then (L : Int) else mI M (r + 3) i) (t4 : ∀ i, mI M' (r + 4) i = if i = k then 0 else mI M (r + 4) i) (t5 : mI M' (r + 5) = mI M (r + 5)) (hO : ∀ i, mI M' O i = if i = L then o else mI M O i) (hP : ∀ i, i < L → mI M' P i = mI M P i) : RW1 u M' r O P s (L + 1) (a + 1) := by
  obtain ⟨gs, od, mq, kn, ft, q1, q2, q3⟩ := h
  have hl : k = gs.length := by have := q1.kl; omega
  subst hl
  have er := hy.eq q1.rsl
  subst er
  have hcs : cst o = lwx (ruW u a) := by rw [hw]; exact cst_x (by omega)
  refine ⟨(o, a, a + 1) :: gs, (L : Int) :: od, 0 :: mq, kn, ft, q1.push (by rw [h12, hk]) t1 t2 t3 t4 (by rw [t5]; exact q1.1.2.2.2.2) (by rw [h14]; exact q1.2.1.2) (q1.2.2.2.1.same h3 h4) (by rw [h5, cdq0 (by omega)]; omega) (by unfold opq; omega) (by rw [hcs]; exact hr), q2.sjmp ho hw hc (fun i hi => ⟨by rw [hO, if_neg (by omega)], hP i hi⟩) (by rw [hO, if_pos rfl]), rfl, ?_⟩
  have l5 : lwx (ruW u a) ≤ 5 := by rw [hw]; unfold lwx; (repeat' split) <;> omega
  have e := sim_sign (z := uZ u) (x := o - 1) q1.q6 hw (by rw [← hw]; omega) (by rw [← hw]; exact l5) (by rw [← hw]; exact hm) (by rw [← hw]; exact hr)
  rw [show o - 1 + 1 = o by first | rfl | omega] at e
  exact q3.trans e
/-- a second comparison -/
theorem RW0.dead (h : RW0 u M r O P s c c' L a) (hx : lwx (ruW u a) = 3) (hz : Rf (ruW u) (uZ u) a a) (hk : mI M r 12 = (k : Int) + 1) (ho : 19 ≤ mI M (r + 1) k ∧ mI M (r + 1) k ≤ 24) (hm : c' ≤ 2) : Rf (ruW u) (uS u) (uK u) a := by
  obtain ⟨m, x, t, od, mq, kn, ft, e, q1, q2, q3⟩ := h.cases hk rfl
  generalize mI M (r + 1) k = o at *
  have hwo : woq (uQ u) (o :: ops t) := q1.wo
  have h2 : rsq o = 2 := by unfold rsq; rw [if_neg (by omega), if_neg (by omega), if_pos ho]
  have h3 : cst o = 3 := by unfold cst; rw [if_neg (by omega), if_neg (by omega), if_pos (Or.inl ho)]
  have hp : pst o = 3 := by unfold pst; rw [if_neg (by omega)]; exact h3
  have s1 := sim_pop (w := ruW u) (k := a) (z := uZ u) (c := c') q1.q6 hwo (Or.inl (by omega)) (Or.inr (by rw [h2, hx]; omega))
  rw [hp] at s1
  have h33 : 3 ≤ rsl (uQ u) (ops t) := by have := hwo.2.1; rw [h3] at this; exact this
  exact (q3.trans s1).rf (sim_dead q1.q6 hx hz hwo.2.2 (by omega) h33)
/-- '?' -/
theorem RW0.ask (h : RW0 u M r O P s c c' L a) (hw : ruW u a = 32) (hc : c ≤ 5) (hm : c' ≤ 5) (hy : hrs u M r 6) (hlt : mI M r 5 < 40) (hk : mI M r 12 = k) (hkk : mI M r 14 = (kk : Int) + 1) (h12 : mI M' r 12 = (k : Int) + 1) (h5 : mI M' r 5 = mI M r 5 + 1) (h3 : mI M' r 3 = mI M r 3) (h4 : mI M' r 4 = mI M r 4) (h14 : mI M' r 14 = kk) (t1 : ∀ i, mI M' (r + 1) i = if i = k then 33 else mI M (r + 1) i) (t2 : ∀ i, mI M' (r + 2) i = if i = k then uP u a else mI M (r + 2) i) (t3 : ∀ i, mI M' (r + 3) i = if i = k then (L : Int) else mI M (r + 3) i) (t4 : ∀ i, mI M' (r + 4) i = if i = k then (if mI M (r + 5) kk = 1 then 0 else 1) else mI M (r + 4) i) (t5 : ∀ i, i < kk → mI M' (r + 5) i = mI M (r + 5) i) (hO : ∀ i, mI M' O i = if i = L then 33 else mI M O i) (hP : ∀ i, i < L → mI M' P i = mI M P i) : RW1 u M' r O P s (L + 1) (a + 1) := by
  obtain ⟨gs, od, mq, kn, ft, q1, q2, q3⟩ := h
  have hl : k = gs.length := by have := q1.kl; omega
  subst hl
  have er := hy.eq q1.rsl
  obtain ⟨last, kn', e1, e2, g⟩ := q2.sask (O' := mI M' O) (P' := mI M' P) hw hc (fun i hi => ⟨by rw [hO, if_neg (by omega)], hP i hi⟩) (by rw [hO, if_pos rfl])
  subst e1
  obtain ⟨k1, k2⟩ := q1.kn1
  have hkl : kk = kn'.length := by have : mI M r 14 = ((kn'.length + 1 : Nat) : Int) := q1.2.1.2; omega
  subst hkl
  rw [k1] at t4
  have hd : slv (uZ u) + lvs (ops gs) < 40 := by rw [← q1.dp]; exact hlt
  exact ⟨(33, a, a + 1) :: gs, (L : Int) :: od, _ :: mq, kn', ft, q1.push (by rw [h12, hk]) t1 t2 t3 t4 (k2.cg t5) h14 (q1.2.2.2.1.same h3 h4) (by rw [h5]; rfl) (by unfold opq; omega) (by rw [← er]; exact cst_le 33), g, rfl, q3.trans (sim_ask q1.q6 q1.wo er.symm hw hm hd)⟩
theorem RW0.ask_no (h : RW0 u M r O P s c c' L a) (hw : ruW u a = 32) (hm : c' ≤ 5) (hy : hrs u M r 6) (hlt : ¬ mI M r 5 < 40) : Rf (ruW u) (uS u) (uK u) a := by
  obtain ⟨gs, od, mq, kn, ft, q1, q2, q3⟩ := h
  have er := hy.eq q1.rsl
  rw [q1.dp] at hlt
  exact q3.rf (sim_ask_no q1.q6 q1.wo er.symm hw hm hlt)
/-- the rule is over -/
theorem RW0.over (h : RW0 u M r O P s c c' L a) (hk : mI M r 12 = 0) (hm : lwx (ruW u a) ≤ c' ∨ uQ u < lwx (ruW u a)) : Eo (ruW u) c (ruI u) a ∧ mI M (r + 5) 0 = kdq (ruW u) (uE u) 0 (ruI u) a ∧ FT M r (fst9 (uF u) (fl (ruW u) (uE u) (uP u) 0 (ruI u) a)) ∧ Cd (ruW u) (uC u) (uP u) (mI M O) (mI M P) 0 0 0 (ruI u) a s L ∧ mI M r 5 = slv (uZ u) ∧ Rc (ruW u) (uS u) (uK u) (uZ u) a := by
  obtain ⟨gs, od, mq, kn, ft, q1, q2, q3⟩ := h
  cases gs with
  | cons g t => have := q1.kl; rw [hk] at this; have e : ((t.length + 1 : Nat) : Int) = 0 := this.symm; omega
  | nil =>
    obtain ⟨a1, a2, a3, a4⟩ := q2.done
    subst a2 a3
    have dd := q1.dp
    refine ⟨a1, q1.1.2.2.2.2.1, q1.2.2.2.1, a4, ?_, q3.trans (sim_end q1.q6 hm)⟩
    rw [dd]
    show slv (uZ u) + ((0 : Nat) : Int) = _
    omega
/-- ')' behind '(' -/
theorem RW0.par (h : RW0 u M r O P s c c' L a) (hw : ruW u a = 37) (hc : c ≤ 6) (hk : mI M r 12 = (k : Int) + 1) (ho : mI M (r + 1) k = 37) (h12 : mI M' r 12 = k) (h5 : mI M' r 5 = mI M r 5 - 1) (h3 : mI M' r 3 = mI M r 3) (h4 : mI M' r 4 = mI M r 4) (h14 : mI M' r 14 = mI M r 14) (hT : ∀ i, 1 ≤ i → i ≤ 4 → mI M' (r + i) = mI M (r + i)) (t5 : mI M' (r + 5) = mI M (r + 5)) (hO : mI M' O = mI M O) (hP : mI M' P = mI M P) : RW0 u M' r O P s 0 0 L (a + 1) := by
  obtain ⟨m, x, t, od, mq, kn, ft, e, q1, q2, q3⟩ := h.cases hk ho
  subst e
  obtain ⟨od', mq', e1, e2, g⟩ := q2.cpar hc hw
  subst e1 e2
  have hl0 : lwx (ruW u a) = 0 := by rw [hw]; decide
  refine ⟨t, od', mq', kn, ft, q1.pop (by rw [h12, hk]; omega) (fun i i1 i4 j _ => by rw [hT i i1 i4]) (by rw [t5]; exact q1.1.2.2.2.2) (by rw [h14]; exact q1.2.1.2) (q1.2.2.2.1.same h3 h4) (by rw [h5]; rfl), by rw [hO, hP]; exact g, (q3.trans (sim_end (os := 37 :: ops t) q1.q6 (Or.inl (by omega)))).trans (sim_close (Or.inl rfl) hw)⟩
/-- ')' behind a list -/
theorem RW0.clos {L' : Nat} (h : RW0 u M r O P s c c' L a) (hw : ruW u a = 37) (hc : c ≤ 6) (hk : mI M r 12 = (k : Int) + 1) (ho : mI M (r + 1) k = o) (ho2 : o = 15 ∨ o = 16) (hkk : mI M r 14 = (kk : Int) + 1) (h12 : mI M' r 12 = k) (h5 : mI M' r 5 = mI M r 5 - 1) (h14 : mI M' r 14 = (kk : Int) + 1) (hT : ∀ i, 1 ≤ i → i ≤ 4 → ∀ j, j < k → mI M' (r + i) j = mI M (r + i) j) (t5 : ∀ i : Nat, mI M' (r + 5) i = if i = kk then 0 else mI M (r + 5) i) (hF : Fqq M r (kft (¬ (mI M (r + 4) k = 3 ∨ mI M (r + 5) kk = 1)) (mI M (r + 2) k)) M') (h0 : mI M (r + 4) k = 0 → L' = L ∧ mI M' O = mI M O ∧ mI M' P = mI M P) (h1 : mI M (r + 4) k ≠ 0 → L' = L + 1 ∧ (∀ i, mI M' O i = if i = L then o else mI M O i) ∧ (∀ i, mI M' P i = if i = L then mI M (r + 2) k else mI M P i)) : RW0 u M' r O P s 0 0 L' (a + 1) := by
  obtain ⟨m, x, t, od, mq, kn, ft, e, q1, q2, q3⟩ := h.cases hk ho
  subst e
  obtain ⟨od', k9, mq', last, kn', e1, e2, e3, hl, g⟩ := q2.clos ho2 hc hw
  subst e1 e2 e3
  obtain ⟨-, p2, -, p4, -⟩ := q1.hd
  obtain ⟨k1, k2⟩ := q1.kn1
  have hkl : kk = kn'.length := by have : mI M r 14 = ((kn'.length + 1 : Nat) : Int) := q1.2.1.2; omega
  subst hkl
  rw [p2, p4, k1] at hF
  rw [p4] at h0 h1
  rw [p2] at h1
  have hl0 : lwx (ruW u a) = 0 := by rw [hw]; decide
  refine ⟨t, od', mq', _, _, q1.pop (by rw [h12, hk]; omega) (fun i i1 i4 j hj => hT i i1 i4 j hj) (k2.put t5) (by rw [h14]; rfl) (hF ft q1.2.2.2.1) (by rw [h5]; rcases ho2 with e | e <;> subst e <;> rfl), g _ _ L' (fun i hi => ?_) (fun q => (h0 q).1) (fun q => ⟨(h1 q).1, by rw [(h1 q).2.1, if_pos rfl], by rw [(h1 q).2.2, if_pos rfl]⟩), (q3.trans (sim_end (os := o :: ops t) q1.q6 (Or.inl (by omega)))).trans (sim_close (Or.inr ho2) hw)⟩
  by_cases z : k9 = 0
  · rw [(h0 z).2.1, (h0 z).2.2]; exact ⟨rfl, rfl⟩
  · exact ⟨by rw [(h1 z).2.1, if_neg (by omega)], by rw [(h1 z).2.2, if_neg (by omega)]⟩
/-- ',' in a list -/
theorem RW0.comma {L' : Nat} (h : RW0 u M r O P s c c' L a) (hw : ruW u a = 35) (hc : c ≤ 6) (hk : mI M r 12 = (k : Int) + 1) (ho : mI M (r + 1) k = o) (ho2 : o = 15 ∨ o = 16) (hkk : mI M r 14 = (kk : Int) + 1) (h12 : mI M' r 12 = (k : Int) + 1) (h5 : mI M' r 5 = mI M r 5) (h3 : mI M' r 3 = mI M r 3) (h4 : mI M' r 4 = mI M r 4) (h14 : mI M' r 14 = kk) (hT : ∀ i, 1 ≤ i → i ≤ 3 → mI M' (r + i) = mI M (r + i)) (t4 : ∀ i, mI M' (r + 4) i = if i = k then (if mI M (r + 4) k = 3 ∨ mI M (r + 5) kk = 1 then 3 else 2) else mI M (r + 4) i) (t5 : ∀ i, i < kk → mI M' (r + 5) i = mI M (r + 5) i) (h0 : mI M (r + 4) k = 0 → L' = L ∧ mI M' O = mI M O ∧ mI M' P = mI M P) (h1 : mI M (r + 4) k ≠ 0 → L' = L + 1 ∧ (∀ i, mI M' O i = if i = L then o else mI M O i) ∧ (∀ i, mI M' P i = if i = L then mI M (r + 2) k else mI M P i)) : RW1 u M' r O P s L' (a + 1) := by
  obtain ⟨m, x, t, od, mq, kn, ft, e, q1, q2, q3⟩ := h.cases hk ho
  subst e
  obtain ⟨od', k9, mq', last, kn', e1, e2, e3, hl, g⟩ := q2.comma ho2 hc hw
  subst e1 e2 e3
  obtain ⟨p1, p2, p3, p4, -⟩ := q1.hd
  obtain ⟨k1, k2⟩ := q1.kn1
  have hkl : kk = kn'.length := by have : mI M r 14 = ((kn'.length + 1 : Nat) : Int) := q1.2.1.2; omega
  subst hkl
  rw [p4, k1] at t4
  rw [p4] at h0 h1
  rw [p2] at h1
  have hl0 : lwx (ruW u a) = 0 := by rw [hw]; decide
  refine ⟨(o, m, a + 1) :: t, -1 :: od', _ :: mq', kn', ft, q1.top (o' := o) (d' := -1) (x' := a + 1) (by rw [h12, hk]) (fun i => ?_) (fun i => by rw [hT 2 (by omega) (by omega)]) (fun i => ?_) t4 (k2.cg t5) h14 (q1.2.2.2.1.same h3 h4) h5 q1.wo.1 rfl rfl, g _ _ L' (fun i hi => ?_) (fun q => (h0 q).1) (fun q => ⟨(h1 q).1, by rw [(h1 q).2.1, if_pos rfl], by rw [(h1 q).2.2, if_pos rfl]⟩), rfl, (q3.trans (sim_end (os := o :: ops t) q1.q6 (Or.inl (by omega)))).trans (sim_comma ho2 hw)⟩
  · rw [hT 1 (by omega) (by omega)]
    split
    · rename_i y; rw [y]; exact p1
    · rfl
  · rw [hT 3 (by omega) (by omega)]
    split
    · rename_i y; rw [y]; exact p3
    · rfl
  · by_cases z : k9 = 0
    · rw [(h0 z).2.1, (h0 z).2.2]; exact ⟨rfl, rfl⟩
    · exact ⟨by rw [(h1 z).2.1, if_neg (by omega)], by rw [(h1 z).2.2, if_neg (by omega)]⟩
/-- ':' behind '?' -/
theorem RW0.colon {dd : Nat} (h : RW0 u M r O P s c c' L a) (hw : ruW u a = 33) (hc : c ≤ 6) (hk : mI M r 12 = (k : Int) + 1) (ho : mI M (r + 1) k = 33) (hkk : mI M r 14 = (kk : Int) + 1) (hd : mI M (r + 3) k = dd) (h12 : mI M' r 12 = (k : Int) + 1) (h5 : mI M' r 5 = mI M r 5) (h3 : mI M' r 3 = mI M r 3) (h4 : mI M' r 4 = mI M r 4) (h14 : mI M' r 14 = kk) (t1 : ∀ i, mI M' (r + 1) i = if i = k then 42 else mI M (r + 1) i) (t2 : mI M' (r + 2) = mI M (r + 2)) (t3 : ∀ i, mI M' (r + 3) i = if i = k then (L : Int) else mI M (r + 3) i) (t4 : ∀ i, mI M' (r + 4) i = if i = k then mI M (r + 4) k + (if mI M (r + 5) kk = 1 then 4 else 0) else mI M (r + 4) i) (t5 : ∀ i, i < kk → mI M' (r + 5) i = mI M (r + 5) i) (hO : ∀ i, mI M' O i = if i = L then 42 else mI M O i) (hP : ∀ i, i < L → mI M' P i = if i = dd then (L : Int) + 1 else mI M P i) : RW1 u M' r O P s (L + 1) (a + 1) := by
  obtain ⟨m, x, t, od, mq, kn, ft, e, q1, q2, q3⟩ := h.cases hk ho
  subst e
  obtain ⟨d9, od', k9, mq', last, kn', e1, e2, e3, hl, hdL, g⟩ := q2.colon hw hc
  subst e1 e2 e3
  obtain ⟨p1, p2, p3, p4, -⟩ := q1.hd
  obtain ⟨k1, k2⟩ := q1.kn1
  have hkl : kk = kn'.length := by have : mI M r 14 = ((kn'.length + 1 : Nat) : Int) := q1.2.1.2; omega
  subst hkl
  have hdd : dd = d9 := by rw [hd] at p3; omega
  subst hdd
  rw [p4, k1] at t4
  have hl0 : lwx (ruW u a) = 0 := by rw [hw]; decide
  exact ⟨(42, m, a + 1) :: t, (L : Int) :: od', _ :: mq', kn', ft, q1.top (o' := 42) (x' := a + 1) (by rw [h12, hk]) t1 (fun i => by rw [t2]) t3 t4 (k2.cg t5) h14 (q1.2.2.2.1.same h3 h4) h5 (by unfold opq; omega) rfl rfl, g _ _ (fun i hi => by rw [hO, if_neg (by omega)]) (fun i hi hn => by rw [hP i hi, if_neg hn]) (by rw [hO, if_pos rfl]) (by rw [hP dd hdL, if_pos rfl]), rfl, (q3.trans (sim_end (os := 33 :: ops t) q1.q6 (Or.inl (by omega)))).trans (sim_colon hw)⟩
/-- a word that neither goes on nor closes -/
theorem RW0.shut (h : RW0 u M r O P s c c' L a) (hk : mI M r 12 = (k : Int) + 1) (ho : mI M (r + 1) k = o) (ho2 : o = 37 ∨ o = 15 ∨ o = 16 ∨ o = 33) (hm : lwx (ruW u a) ≤ c' ∨ rsq o < lwx (ruW u a)) (h1 : o = 37 → ruW u a ≠ 37) (h2 : o = 15 ∨ o = 16 → ruW u a ≠ 37 ∧ ruW u a ≠ 35) (h3 : o = 33 → ruW u a ≠ 33) : Rf (ruW u) (uS u) (uK u) a := by
  obtain ⟨m, x, t, od, mq, kn, ft, e, q1, q2, q3⟩ := h.cases hk ho
  exact (q3.trans (sim_end (os := o :: ops t) q1.q6 hm)).rf (sim_close_no ho2 h1 h2 h3)
end RZ
end
section
/-! The class's reader: small steps, exactly. -/
/-- an operation is put on the pile -/
def pshE (M : mM) (r k : Nat) (o pl od mq dep kk : Int) (M' : mM) : Prop := (mI M' r 12 = (k : Int) + 1 ∧ mI M' r 5 = dep ∧ mI M' r 3 = mI M r 3 ∧ mI M' r 4 = mI M r 4 ∧ mI M' r 14 = kk) ∧ (∀ i, mI M' (r + 1) i = if i = k then o else mI M (r + 1) i) ∧ (∀ i, mI M' (r + 2) i = if i = k then pl else mI M (r + 2) i) ∧ (∀ i, mI M' (r + 3) i = if i = k then od else mI M (r + 3) i) ∧ (∀ i, mI M' (r + 4) i = if i = k then mq else mI M (r + 4) i) ∧ mI M' (r + 5) = mI M (r + 5)
section RX1
variable {G : mG} {d z r w T A B D N C n p O P K k a s L V F d0 c : Nat} {M0 M M' M1 M2 M110 M126 M133 : mM} {H H' : Nat → Nat} {ns : Nat → Int} {wt : Int}

theorem x_RR_note {x y : Int} (hx : i32 x) (hy : i32 y) (h : RB M z r w T A B D N C n p O P K) : Cv G y_RR_note d [vr r, vi x, vi y] M (fun M' => RB M' z r w T A B D N C n p O P K ∧ FI (fun b => b = r) M M' ∧ (∀ i, i ≠ 3 → i ≠ 4 → mI M' r i = mI M r i) ∧ (mI M r 3 = 0 → mI M' r 3 = x) ∧ (mI M r 3 ≠ 0 → mI M' r 3 = mI M r 3) ∧ (x ≠ 0 → Fqq M r (x, y) M')) := by
  refine k_RR_note h.1 hx hy ⟨h.2.1.1, fun e M5 e5 M7 e7 => ?_, fun e => ⟨h, FI.refl, fun _ _ _ => rfl, fun q => absurd q e, fun _ => rfl, fun x0 => Fq_note x0 (fun q => absurd q e) (fun _ => ⟨rfl, rfl⟩)⟩⟩
  obtain ⟨h5, -, g5, -⟩ := rb_fld h hx e5
  obtain ⟨h7, -, g7, -⟩ := rb_fld h5 hy e7
  have f5 : FI (fun b => b = r) M M5 := by rw [e5]; exact FI.ui rfl
  have f7 : FI (fun b => b = r) M5 M7 := by rw [e7]; exact FI.ui rfl
  exact ⟨h7, f5.trans f7, fun i i3 i4 => by rw [g7, if_neg i4, g5, if_neg i3], fun _ => by rw [g7, if_neg (by decide), g5, if_pos rfl], fun q => absurd e q, fun x0 => Fq_note x0 (fun _ => ⟨by rw [g7, if_neg (by decide), g5, if_pos rfl], by rw [g7, if_pos rfl]⟩) (fun q => absurd e q)⟩

theorem x_RR_popKind {c : Nat} (h : RB M z r w T A B D N C n p O P K) (hc : mI M r 14 = ((c + 1 : Nat) : Int)) (h3 : c < 336) : Ci G y_RR_popKind d [vr r] M (fun v M' => ((v = 0 ∨ v = 1) ∧ ((mI M (r + 5) c = 0 ∨ mI M (r + 5) c = 1) → v = mI M (r + 5) c)) ∧ RB M' z r w T A B D N C n p O P K ∧ FI (fun b => b = r) M M' ∧ (∀ i, mI M' r i = if i = 14 then (c : Int) else mI M r i)) := by
  obtain ⟨hO, hK, -⟩ := id h
  obtain ⟨k0, ⟨-, -, -, -, q13, -⟩, ⟨-, -, -, -, k5, -⟩, ⟨-, -, -, -, n5, -⟩⟩ := id hK
  refine k_RR_popKind hO ⟨k0, fun y => ?_, fun v e M9 e9 => ?_⟩
  · have o' : mOk (mUI M r 14 ((mI M r 14) - 1)) := mOk_UI hO ⟨by omega, by omega⟩
    refine ⟨⟨by omega, by omega⟩, ?_⟩
    rw [q13, mK_UI, mN_UI, n5]
    exact ⟨k5, by omega, (o' _ _).1⟩
  · rw [if_neg (by omega), hc, show ((c + 1 : Nat) : Int) - 1 = (c : Int) by first | rfl | omega] at e9
    rw [q13, hc, show ((c + 1 : Nat) : Int) - 1 = (c : Int) by first | rfl | omega, Int.toNat_natCast] at e
    have ev : mI (mUI M r 14 (c : Int)) (r + 5) c = mI M (r + 5) c := by rw [mI_UI, if_neg (by omega)]
    rw [ev] at e
    obtain ⟨h9, -, g9, -⟩ := rb_fld h ⟨by omega, by omega⟩ e9
    refine ⟨h9.1, ⟨by rw [e]; split <;> omega, fun q => by rw [e]; split <;> omega⟩, h9, by rw [e9]; exact FI.ui rfl, g9⟩

theorem x_RR_takeValue {o x t : Int} (ho : i32 o) (hx : i32 x) (ht : t = 0 ∨ t = 1) (h : RB M z r w T A B D N C n p O P K) (g : RG M r p O P n s V F ns d0 H L k a 1) (han : a < n) (hs : ∀ H' : Nat → Nat, H' (L + 1) = H' L + 1 → stO V F ns H' L o x) (hj : ¬ jm o) : Ci G y_RR_takeValue (d + 1) [vr r, vi o, vi x, vi t] M (fun y M' => ((∀ i, 1 ≤ i → i ≤ 4 → mI M' (r + i) = mI M (r + i)) ∧ mI M' r 14 = mI M r 14 + 1 ∧ (∀ (c : Nat), mI M r 14 = c → ∀ i, mI M' (r + 5) i = if i = c then t else mI M (r + 5) i) ∧ (∀ i, mI M' O i = if i = L then o else mI M O i) ∧ (∀ i, mI M' P i = if i = L then x else mI M P i)) ∧ y = 0 ∧ RB M' z r w T A B D N C n p O P K ∧ FI (rdS r p O P) M M' ∧ (∀ i, i ≠ 2 → i ≠ 7 → i ≠ 14 → mI M' r i = mI M r i) ∧ (∀ i, 6 ≤ i → i ≤ 9 → mI M' (r + i) = mI M (r + i)) ∧ (∀ i, i ≠ 2 → mI M' p i = mI M p i) ∧ (∀ i, i ≠ L → mI M' O i = mI M O i ∧ mI M' P i = mI M P i) ∧ ∃ H', RG M' r p O P n s V F ns d0 H' (L + 1) k (a + 1) 0 ∧ ∀ i, i ≤ L → H' i = H i) := by
  have rm := g.room
  obtain ⟨oO, oP, op, e1, e2, e3⟩ := h.off
  replace oO : Hid0 _ := oO
  replace oP : Hid0 _ := oP
  replace op : Hid0 _ := op
  replace e1 : Hid0 _ := e1
  replace e2 : Hid0 _ := e2
  replace e3 : Hid0 _ := e3
  have hW := h.2.2.2.1
  have hwN := hW.2.2.1
  have hN := hW.1.2.2.2.2.2.2.1
  obtain ⟨⟨g1, g2, g3, g4⟩, gw, ⟨ga, gs⟩, gc, ⟨gd, gd4⟩, gr, ge, ⟨gH, gHs⟩, gC, gL, gt⟩ := g
  have hPK := h.2.2.2.2.1
  have hK := h.2.2.2.2.2.2
  refine k_RR_takeValue h.1 ho hx (i32s (by omega) (by omega)) ?_
  rw [h.2.2.1.2]
  refine ⟨h.2.1.1, hPK.1, (s_Pr_add ho hx h.1 hPK g4 (by omega)).mono (fun y M3 q => ?_)⟩
  obtain ⟨ey, o3, f3, p3, q3, u3⟩ := q
  have f3' : FI (rdS r p O P) M M3 := f3.mono (fun b q => Or.inr q)
  have h3 := h.fi o3 f3'
  have nr : ∀ b, r ≤ b → b ≤ r + 9 → mI M3 b = mI M b := fun b b1 b2 => f3.2.2.2.2.2.2 b (fun q => by
    have q' : b = p ∨ b = O ∨ b = P := q
    first | exact off3 op oO oP (by assumption) (by assumption) q' | omega)
  refine ⟨⟨by omega, by omega⟩, o3, h3.2.1.1, (s_RR_pushKind (c := uw 1 + skk M r k) ht h3 (by rw [nr r (by omega) (by omega)]; exact gc) (by omega)).mono (fun M7 q => ?_)⟩
  obtain ⟨h7, f7, r7, t7⟩ := q
  have nr7 : ∀ b, b ≠ r → b ≠ r + 5 → mI M7 b = mI M3 b := fun b b1 b2 => f7.2.2.2.2.2.2 b (fun q => by
    have q' : b = r ∨ b = r + 5 := q
    first | exact rin5 q' | exact nin5 (by assumption) (by assumption) q' | omega)
  refine ⟨h7.1, h7.2.1.1, fun M11 e11 => ?_⟩
  obtain ⟨h11, f11, r11, n11⟩ := rb_fld h7 (v := 0) (i32s (by omega) (by omega)) e11
  have a11 : mI M11 r 2 = a := by rw [r11, if_neg (by decide), r7, if_neg (by decide), nr r (by omega) (by omega), g1]
  rw [a11]
  refine ⟨⟨by omega, by omega⟩, fun M14 e14 => ?_⟩
  obtain ⟨h14, f14, r14, n14⟩ := rb_fld h11 ⟨by omega, by omega⟩ e14
  have R14 : ∀ i, mI M14 r i = if i = 2 then (a : Int) + 1 else if i = 7 then 0 else if i = 14 then ((uw 1 + skk M r k : Nat) : Int) + 1 else mI M r i := fun i => by
    rw [r14]
    by_cases y2 : i = 2
    · rw [if_pos y2, if_pos y2]
    · rw [if_neg y2, if_neg y2, r11]
      by_cases y7 : i = 7
      · rw [if_pos y7, if_pos y7]
      · rw [if_neg y7, if_neg y7, r7, nr r (by omega) (by omega)]
  have X14 : ∀ b, b ≠ r → b ≠ r + 5 → mI M14 b = mI M3 b := fun b b1 b2 => by rw [n14 b b1, n11 b b1, nr7 b b1 b2]
  have T14 : ∀ i, 1 ≤ i → i ≤ 9 → i ≠ 5 → mI M14 (r + i) = mI M (r + i) := fun i i1 i9 i5 => by rw [X14 (r + i) (by omega) (by omega), nr (r + i) (by omega) (by omega)]
  have f57 : FI (rdS r p O P) M3 M7 := f7.mono (fun b q => Or.inl (by have q' : b = r ∨ b = r + 5 := q; first | exact rin5 q' | exact nin5 (by assumption) (by assumption) q' | omega))
  have fi : FI (rdS r p O P) M M14 := ((f3'.trans f57).trans f11).trans f14
  refine ⟨⟨fun i i1 i4 => T14 i i1 (by omega) (by omega), by rw [R14, if_neg (by decide), if_neg (by decide), if_pos rfl, gc], fun c9 hc9 i => by rw [n14 (r + 5) (by omega), n11 (r + 5) (by omega), t7, nr (r + 5) (by omega) (by omega), show c9 = uw 1 + skk M r k by first | rfl | omega], fun i => by rw [X14 O (by first | exact oO | exact off0 oO | exact off9 oO (by decide) | exact off4 oO | exact e1 | exact e3 | omega) (by first | exact oO | exact off0 oO | exact off9 oO (by decide) | exact off4 oO | exact e1 | exact e3 | omega), q3], fun i => by rw [X14 P (by first | exact oP | exact off0 oP | exact off9 oP (by decide) | exact off4 oP | exact e2 | exact fun q => e3 q.symm | omega) (by first | exact oP | exact off0 oP | exact off9 oP (by decide) | exact off4 oP | exact e2 | exact fun q => e3 q.symm | omega), u3]⟩, rfl, h14, fi, fun i i2 i7 i14 => by rw [R14, if_neg i2, if_neg i7, if_neg i14], fun i i6 i9 => T14 i (by omega) i9 (by omega), fun i i2 => by rw [X14 p (by first | exact op | exact off0 op | exact off9 op (by decide) | exact off4 op | exact fun q => e1 q.symm | exact fun q => e2 q.symm | omega) (by first | exact op | exact off0 op | exact off9 op (by decide) | exact off4 op | exact fun q => e1 q.symm | exact fun q => e2 q.symm | omega), p3, if_neg i2], fun i iL => ⟨by rw [X14 O (by first | exact oO | exact off0 oO | exact off9 oO (by decide) | exact off4 oO | exact e1 | exact e3 | omega) (by first | exact oO | exact off0 oO | exact off9 oO (by decide) | exact off4 oO | exact e1 | exact e3 | omega), q3, if_neg iL], by rw [X14 P (by first | exact oP | exact off0 oP | exact off9 oP (by decide) | exact off4 oP | exact e2 | exact fun q => e3 q.symm | omega) (by first | exact oP | exact off0 oP | exact off9 oP (by decide) | exact off4 oP | exact e2 | exact fun q => e3 q.symm | omega), u3, if_neg iL]⟩, ?_⟩
  obtain ⟨H', hH'⟩ : ∃ H' : Nat → Nat, ∀ i, H' i = if i = L + 1 then H L + 1 else H i := ⟨fun i => if i = L + 1 then H L + 1 else H i, fun _ => rfl⟩
  have hHs : ∀ i, i ≤ L → H' i = H i := fun i hi => by rw [hH', if_neg (by omega)]
  have hHL : H' (L + 1) = H' L + 1 := by rw [hH', if_pos rfl, hHs L (Nat.le_refl _)]
  have sm := fun i hi => sums_cg (M := M) (M' := M14) (r := r) (k := k) (fun j _ => by rw [T14 1 (by omega) (by omega) (by omega)]) (fun j _ => by rw [T14 4 (by omega) (by omega) (by omega)]) i hi
  have u1 : uw 1 = 0 := rfl
  have u0 : uw 0 = 1 := rfl
  refine ⟨H', ⟨⟨by rw [R14, if_pos rfl]; omega, by rw [R14, if_neg (by decide), if_neg (by decide), if_neg (by decide)]; exact g2, by rw [R14, if_neg (by decide), if_pos rfl], by rw [X14 p (by first | exact op | exact off0 op | exact off9 op (by decide) | exact off4 op | exact fun q => e1 q.symm | exact fun q => e2 q.symm | omega) (by first | exact op | exact off0 op | exact off9 op (by decide) | exact off4 op | exact fun q => e1 q.symm | exact fun q => e2 q.symm | omega), p3, if_pos rfl]; omega⟩, Or.inl rfl, ⟨by omega, by omega⟩, by rw [R14, if_neg (by decide), if_neg (by decide), if_pos rfl, (sm k (Nat.le_refl _)).2.1]; omega, ⟨by rw [R14, if_neg (by decide), if_neg (by decide), if_neg (by decide), (sm k (Nat.le_refl _)).2.2.2]; exact gd, by rw [(sm k (Nat.le_refl _)).2.2.2]; exact gd4⟩, fun i hi => by rw [(sm (i + 1) (by omega)).2.2.2, T14 1 (by omega) (by omega) (by omega)]; exact gr i hi, fun i hi => ?_, ⟨?_, ?_⟩, ?_, by rw [(sm k (Nat.le_refl _)).2.2.1]; omega, fun j => ?_⟩, hHs⟩
  · exact (ge i hi).cg (fun j _ => by rw [T14 1 (by omega) (by omega) (by omega)]) (by rw [T14 2 (by omega) (by omega) (by omega)]) (by rw [T14 3 (by omega) (by omega) (by omega)]) (fun j _ => by rw [T14 4 (by omega) (by omega) (by omega)]) (by omega) (fun j hj => by rw [X14 O (by first | exact oO | exact off0 oO | exact off9 oO (by decide) | exact off4 oO | exact e1 | exact e3 | omega) (by first | exact oO | exact off0 oO | exact off9 oO (by decide) | exact off4 oO | exact e1 | exact e3 | omega), q3, if_neg (by omega)]) hHs
  · rw [hHL, hHs L (Nat.le_refl _), gH, (sm k (Nat.le_refl _)).1]
    omega
  · rw [hHL, hHs L (Nat.le_refl _)]
    omega
  · exact gC.add gs hHs gHs (fun i => by rw [X14 O (by first | exact oO | exact off0 oO | exact off9 oO (by decide) | exact off4 oO | exact e1 | exact e3 | omega) (by first | exact oO | exact off0 oO | exact off9 oO (by decide) | exact off4 oO | exact e1 | exact e3 | omega), q3]) (fun i => by rw [X14 P (by first | exact oP | exact off0 oP | exact off9 oP (by decide) | exact off4 oP | exact e2 | exact fun q => e3 q.symm | omega) (by first | exact oP | exact off0 oP | exact off9 oP (by decide) | exact off4 oP | exact e2 | exact fun q => e3 q.symm | omega), u3]) (fun i _ q => pdg_cg q (Nat.le_refl _) (fun j _ => by rw [T14 1 (by omega) (by omega) (by omega)]) (fun j _ => by rw [T14 3 (by omega) (by omega) (by omega)])) (hs H' hHL) (fun q => absurd q hj)
  · rw [n14 (r + 5) (by omega), n11 (r + 5) (by omega), t7, nr (r + 5) (by omega) (by omega)]
    split
    · exact ht
    · exact gt j

theorem x_RR_mayDeny (h : RB M z r w T A B D N C n p O P K) (hk : mI M r 12 = k) (hk3 : k ≤ 336) : Ci G y_RR_mayDeny (d + 1) [vr r] M (fun x M' => M' = M ∧ (x = 0 ∨ x = 1) ∧ (x ≠ 0 ↔ myd M r)) := by
  obtain ⟨-, ⟨k0, ⟨q8, -⟩, ⟨k1, -⟩, ⟨n1, -⟩⟩, -⟩ := id h
  refine k_RR_mayDeny h.1 ⟨k0, fun y => ⟨rfl, Or.inr rfl, fun _ => Or.inl y, fun _ => by omega⟩, fun y => ?_⟩
  rw [q8, n1]
  refine ⟨k1, by omega, (s_RR_level (h.1 _ _).1 h.1).mono (fun x M2 q => ?_)⟩
  obtain ⟨e2, ex⟩ := q
  subst e2
  have ek : ((mI M2 r 12) - 1).toNat = k - 1 := by omega
  rw [ek] at ex ⊢
  have := lvl_b (mI M2 (r + 1) (k - 1))
  have key : myd M2 r ↔ (lvl (mI M2 (r + 1) (k - 1)) < 4 ∧ mI M2 (r + 1) (k - 1) ≠ 40) := by
    constructor
    · intro q
      rcases q with q | ⟨j, j1, j2, j3⟩
      · exact absurd q y
      · have : j = k - 1 := by omega
        rw [this] at j2 j3
        exact ⟨j2, j3⟩
    · intro q
      exact Or.inr ⟨k - 1, by omega, q.1, q.2⟩
  rw [key]
  refine ⟨i32s (by omega) (by omega), h.1, fun v e => ⟨rfl, by rw [e]; split <;> omega, ?_⟩⟩
  rw [e]
  split
  · exact ⟨fun q => absurd rfl q, fun q => by omega⟩
  · exact ⟨fun _ => by omega, fun _ => by omega⟩
theorem gp_c9 {o : Int} (h : o = 37 ∨ o = 40 ∨ o = 41 ∨ o = 15 ∨ o = 16) : cdp o = 1 := by unfold cdp; split <;> omega
theorem x_RR_takeLevel {o pl : Int} (h : RB M z r w T A B D N C n p O P K) (g : RG M r p O P n s V F ns d0 H L k a 1) (ho : o = 37 ∨ o = 40 ∨ o = 41 ∨ o = 15 ∨ o = 16) (hpl : 0 ≤ pl ∧ pl ≤ 16384) (han : a < n) : Ci G y_RR_takeLevel (d + 1) [vr r, vi o, vi pl] M (fun x M' => lvQ M z r w T A B D N C n p O P K s V F ns d0 H L k a x M' ∧ ((x = 2 ∧ ¬ mI M r 5 < 40) ∨ (x = 0 ∧ mI M r 5 < 40 ∧ pshE M r k o pl (-1) 0 (mI M r 5 + 1) (mI M r 14) M'))) := by
  have rm := g.room
  obtain ⟨oO, oP, op, e1, e2, e3⟩ := h.off
  replace oO : Hid0 _ := oO
  replace oP : Hid0 _ := oP
  replace op : Hid0 _ := op
  replace e1 : Hid0 _ := e1
  replace e2 : Hid0 _ := e2
  replace e3 : Hid0 _ := e3
  have hwN := h.2.2.2.1.2.2.1
  have hN := h.2.2.2.1.1.2.2.2.2.2.2.1
  obtain ⟨⟨g1, g2, g3, g4⟩, -, -, -, ⟨gd, gd4⟩, -⟩ := id g
  refine k_RR_takeLevel h.1 (i32s (by omega) (by omega)) (i32s (by omega) (by omega)) ⟨h.2.1.1, fun y => ⟨⟨by omega, by omega⟩, fun M5 e5 => ?_⟩, fun y => ⟨⟨h, FI.refl, fun _ _ _ _ _ => rfl, fun _ _ _ => rfl, ⟨rfl, rfl, rfl⟩, Or.inl ⟨rfl, rfl⟩⟩, Or.inl ⟨rfl, by omega⟩⟩⟩
  obtain ⟨h5, f5, r5, n5⟩ := rb_fld h ⟨by omega, by omega⟩ e5
  refine (s_RR_push (k := k) (a := a) (i32s (by omega) (by omega)) (i32s (by omega) (by omega)) (i32s (by omega) (by omega)) h5 (by rw [r5, if_neg (by decide)]; exact g2) (by omega) (by rw [r5, if_neg (by decide)]; exact g1) (by omega)).mono (fun M7 q => ?_)
  obtain ⟨h7, f7, r7, t1, t2, t3, t4⟩ := q
  have o7 : ∀ b, (b < r ∨ r + 4 < b) → mI M7 b = mI M b := fun b hb => by
    rw [f7.2.2.2.2.2.2 b (fun q => by have q' : r ≤ b ∧ b ≤ r + 4 := q; omega), n5 b (by omega)]
  have R7 : ∀ i, mI M7 r i = if i = 2 then (a : Int) + 1 else if i = 7 then 1 else if i = 12 then (k : Int) + 1 else if i = 5 then ((d0 + sdp M r k + 1 : Nat) : Int) else mI M r i := fun i => by
    rw [r7, r5]
    by_cases y5 : i = 5
    · subst y5
      rw [if_neg (by decide), if_neg (by decide), if_neg (by decide), if_pos rfl, if_neg (by decide), if_neg (by decide), if_neg (by decide), if_pos rfl, gd]
      omega
    · rw [if_neg y5, if_neg y5]
  have cd : cdp o = 1 := gp_c9 ho
  have f57 : FI (rdS r p O P) M5 M7 := f7.mono (fun b q => Or.inl (by have q' : r ≤ b ∧ b ≤ r + 4 := q; omega))
  have s7 : ∀ i, i ≠ 2 → i ≠ 5 → i ≠ 7 → i ≠ 12 → mI M7 r i = mI M r i := fun i i2 i5 i7 i12 => by rw [R7, if_neg i2, if_neg i7, if_neg i12, if_neg i5]
  refine ⟨h7.1, ⟨h7, f5.trans f57, fun i i2 i5 i7 i12 => by rw [R7, if_neg i2, if_neg i7, if_neg i12, if_neg i5], fun i i5 i9 => o7 (r + i) (by omega), ⟨o7 p (by first | exact op | exact off0 op | exact off9 op (by decide) | exact off4 op | exact fun q => e1 q.symm | exact fun q => e2 q.symm | omega), o7 O (by first | exact oO | exact off0 oO | exact off9 oO (by decide) | exact off4 oO | exact e1 | exact e3 | omega), o7 P (by first | exact oP | exact off0 oP | exact off9 oP (by decide) | exact off4 oP | exact e2 | exact fun q => e3 q.symm | omega)⟩, Or.inr ⟨rfl, ?_⟩⟩, Or.inr ⟨rfl, by omega, ⟨by rw [R7, if_neg (by decide), if_neg (by decide), if_pos rfl], by rw [R7, if_neg (by decide), if_neg (by decide), if_neg (by decide), if_pos rfl, gd]; omega, s7 3 (by decide) (by decide) (by decide) (by decide), s7 4 (by decide) (by decide) (by decide) (by decide), s7 14 (by decide) (by decide) (by decide) (by decide)⟩, fun i => by rw [t1, n5 (r + 1) (by omega)], fun i => by rw [t2, n5 (r + 2) (by omega)], fun i => by rw [t3, n5 (r + 3) (by omega)], fun i => by rw [t4, n5 (r + 4) (by omega)], o7 _ (by omega)⟩⟩
  exact g.psh (o := o) (pl := pl) (dd := d0 + sdp M r k + 1) R7 (fun i => by rw [t1, n5 (r + 1) (by omega)]) (fun i => by rw [t2, n5 (r + 2) (by omega)]) (fun i => by rw [t3, n5 (r + 3) (by omega)]) (fun i => by rw [t4, n5 (r + 4) (by omega)]) (o7 _ (by omega)) (o7 p (by first | exact op | exact off0 op | exact off9 op (by decide) | exact off4 op | exact fun q => e1 q.symm | exact fun q => e2 q.symm | omega)) (o7 O (by first | exact oO | exact off0 oO | exact off9 oO (by decide) | exact off4 oO | exact e1 | exact e3 | omega)) (o7 P (by first | exact oP | exact off0 oP | exact off9 oP (by decide) | exact off4 oP | exact e2 | exact fun q => e3 q.symm | omega)) (by unfold opn; omega) (by unfold jm; omega) hpl (by rw [cd]) (by omega) (g.lvl (Or.inl cd)) (by show 0 = ckk o; unfold ckk; split <;> omega) (by show 0 = cm o 0; unfold cm; (repeat' split) <;> omega) han

end RX1
end
section
/-! The class's reader: an operation is grouped, exactly. -/
/-- what grouping does to the piles: tv the kind that comes, v9 the fault that is noted -/
def gE (M0 : mM) (r p O P k L : Nat) (tv : Int) (v9 : Int × Int) (M' : mM) : Prop :=
  (mI M' r 12 = k ∧ mI M' r 5 = mI M0 r 5 - cdp (mI M0 (r + 1) k) ∧ mI M' r 14 = ((1 + skk M0 r k : Nat) : Int)) ∧ (∀ i, 1 ≤ i → i ≤ 4 → mI M' (r + i) = mI M0 (r + i)) ∧ (∀ i, mI M' (r + 5) i = if i = skk M0 r k then tv else mI M0 (r + 5) i) ∧ Fqq M0 r v9 M' ∧ (¬ jm (mI M0 (r + 1) k) → (∀ i, mI M' O i = if i = L then mI M0 (r + 1) k else mI M0 O i) ∧ (∀ i, mI M' P i = if i = L then mI M0 (r + 2) k else mI M0 P i) ∧ mI M' p 2 = (L : Int) + 1) ∧ (jm (mI M0 (r + 1) k) → ∃ t : Nat, mI M0 (r + 3) k = t ∧ (∀ i, mI M' O i = mI M0 O i) ∧ (∀ i, mI M' P i = if i = t then (L : Int) else mI M0 P i) ∧ mI M' p 2 = L)
/-- the kind that grouping leaves -/
def gtv (o last : Int) : Int := if o = 40 then 0 else if o = 42 then last else if o = 41 ∨ o ≤ 24 ∨ o = 30 ∨ o = 31 then 1 else 0
/-- whether the kinds fit -/
def gft (o mk left last : Int) : Prop := if o = 40 then last = 0 else if o = 41 then last = 1 else if o = 42 then mk = (if last = 1 then 4 else 0) else okq (o - 1) left last
theorem gp_i {o : Int} (ho : grpO o) : i32 o := by unfold grpO at ho; exact i32s (by omega) (by omega)
theorem gp_y {o : Int} (y : o = 40 ∨ o = 41 ∨ o = 42) : cdp o = 1 := by unfold cdp; split <;> omega
theorem gp_z {o : Int} (ho : grpO o) (y : ¬ (o = 40 ∨ o = 41 ∨ o = 42)) : cdp o = 0 := by unfold grpO at ho; unfold cdp; split <;> omega
theorem gp_n {o : Int} (ho : grpO o) (nj : ¬ jm o) : (19 ≤ o ∧ o ≤ 29) ∨ o = 40 ∨ o = 41 := by unfold grpO at ho; unfold jm at nj; omega
theorem gp_3 {o : Int} (ho : grpO o) : o ≠ 33 := by unfold grpO at ho; omega
theorem gp_r {o : Int} (ho : grpO o) (y1 : ¬ (o = 40 ∨ o = 41)) (y2 : ¬ o = 42) : 19 ≤ o ∧ o ≤ 31 := by unfold grpO at ho; omega
theorem gp_j {o : Int} (y : o = 40 ∨ o = 41) : ¬ jm o := by unfold jm; omega
theorem gp_k {o : Int} (y : o = 40 ∨ o = 41) : ¬ (19 ≤ o ∧ o ≤ 31) := by omega
theorem gp_d {o : Int} (y : o = 40 ∨ o = 41) : o = 15 ∨ o = 16 ∨ o = 33 ∨ o = 37 ∨ o = 40 ∨ o = 41 ∨ o = 42 := y.elim (fun e => Or.inr (Or.inr (Or.inr (Or.inr (Or.inl e))))) (fun e => Or.inr (Or.inr (Or.inr (Or.inr (Or.inr (Or.inl e))))))
theorem gp_e {o : Int} (h : 19 ≤ o ∧ o ≤ 31) : ¬ (o = 15 ∨ o = 16 ∨ o = 33 ∨ o = 37 ∨ o = 40 ∨ o = 41 ∨ o = 42) := by omega
theorem gp_v {o x : Int} (y : o = 40 ∨ o = 41) : gtv o x = if o = 41 then 1 else 0 := by unfold gtv; (repeat' split) <;> omega
theorem gp_jm {o : Int} (y : o = 30 ∨ o = 31) : jm o := y.elim (fun e => Or.inl e) (fun e => Or.inr (Or.inl e))
theorem gp_nj {o : Int} (h : 19 ≤ o ∧ o ≤ 31) (y : ¬ (o = 30 ∨ o = 31)) : ¬ jm o := by unfold jm; omega
section RX2
variable {G : mG} {d z r w T A B D N C n p O P K k a s L V F d0 c : Nat} {M0 M M' M1 M2 M110 M126 M133 : mM} {H H' : Nat → Nat} {ns : Nat → Int} {wt : Int}

theorem Fqq.two {r : Nat} {v v' : Int × Int} (h : Fqq M r v M1) (h' : Fqq M1 r v' M2) (e : v.1 = 0) : Fqq M r v' M2 := fun ft hf => by
  have a := h ft hf
  have b := h' _ a
  by_cases z : ft.1 = 0
  · have e1 : fst9 ft v = v := if_pos z
    have e2 : fst9 ft v' = v' := if_pos z
    rw [e1] at b
    rw [e2]
    have e3 : fst9 v v' = v' := if_pos e
    rw [e3] at b
    exact b
  · have e1 : fst9 ft v = ft := if_neg z
    rw [e1] at b
    exact b
theorem Fqq.later {r : Nat} {v : Int × Int} (h : Fqq M r v M1) (h3 : mI M2 r 3 = mI M1 r 3) (h4 : mI M2 r 4 = mI M1 r 4) : Fqq M r v M2 := fun ft hf => (h ft hf).same h3 h4
theorem Fqq.first {r : Nat} {v : Int × Int} (h : Fqq M1 r v M2) (h3 : mI M1 r 3 = mI M r 3) (h4 : mI M1 r 4 = mI M r 4) : Fqq M r v M2 := fun ft hf => h ft (hf.same h3 h4)
theorem gE_ord {o l3 : Int} {v9 : Int × Int} (hb0 : RB M0 z r w T A B D N C n p O P K) (hop : mI M0 (r + 1) k = o) (nj : ¬ jm o) (R12 : mI M110 r 12 = k) (GD : mI M110 r 5 = mI M0 r 5 - cdp o) (R14 : mI M110 r 14 = ((uw 0 + skk M0 r k : Nat) : Int)) (X : ∀ b, b ≠ r → b ≠ r + 5 → mI M110 b = mI M0 b) (G5 : ∀ i, mI M110 (r + 5) i = if i = skk M0 r k then l3 else mI M0 (r + 5) i) (GF : Fqq M0 r v9 M110) (f126 : FI (prS p O P) M110 M126) (p126 : ∀ j, mI M126 p j = if j = 2 then (L : Int) + 1 else mI M110 p j) (q126 : ∀ j, mI M126 O j = if j = L then o else mI M110 O j) (u126 : ∀ j, mI M126 P j = if j = L then mI M0 (r + 2) k else mI M110 P j) : gE M0 r p O P k L l3 v9 M126 := by
  obtain ⟨oO, oP, op, e1, e2, e3⟩ := hb0.off
  have Y6 : ∀ b, b ≠ p → b ≠ O → b ≠ P → mI M126 b = mI M110 b := fun b y1 y2 y3 => f126.2.2.2.2.2.2 b (fun q => by
    have q' : b = p ∨ b = O ∨ b = P := q
    first | exact off3 op oO oP (by assumption) (by assumption) q' | omega)
  have Yr : mI M126 r = mI M110 r := Y6 r (by omega) (by omega) (by omega)
  have Y5 : mI M126 (r + 5) = mI M110 (r + 5) := Y6 (r + 5) (by omega) (by omega) (by omega)
  have XO : mI M110 O = mI M0 O := X O (by first | exact oO | exact off0 oO | exact off9 oO (by decide) | exact off4 oO | exact e1 | exact e3 | omega) (by first | exact oO | exact off0 oO | exact off9 oO (by decide) | exact off4 oO | exact e1 | exact e3 | omega)
  have XP : mI M110 P = mI M0 P := X P (by first | exact oP | exact off0 oP | exact off9 oP (by decide) | exact off4 oP | exact e2 | exact fun q => e3 q.symm | omega) (by first | exact oP | exact off0 oP | exact off9 oP (by decide) | exact off4 oP | exact e2 | exact fun q => e3 q.symm | omega)
  have YT : ∀ i, 1 ≤ i → i ≤ 4 → mI M126 (r + i) = mI M0 (r + i) := fun i i1 i4 => by rw [Y6 (r + i) (by omega) (by omega) (by omega), X (r + i) (by omega) (by omega)]
  unfold gE
  rw [hop]
  exact ⟨⟨by rw [Yr]; exact R12, by rw [Yr]; exact GD, by rw [Yr]; exact R14⟩, YT, fun i => by rw [Y5]; exact G5 i, GF.later (by rw [Yr]) (by rw [Yr]), fun _ => ⟨fun i => by rw [q126, XO], fun i => by rw [u126, XP], by rw [p126, if_pos rfl]⟩, fun q => absurd q nj⟩
theorem gE_jmp {o l3 : Int} {v9 : Int × Int} {t : Nat} (hb0 : RB M0 z r w T A B D N C n p O P K) (hop : mI M0 (r + 1) k = o) (yj : jm o) (R12 : mI M110 r 12 = k) (GD : mI M110 r 5 = mI M0 r 5 - cdp o) (R14 : mI M110 r 14 = ((uw 0 + skk M0 r k : Nat) : Int)) (X : ∀ b, b ≠ r → b ≠ r + 5 → mI M110 b = mI M0 b) (G5 : ∀ i, mI M110 (r + 5) i = if i = skk M0 r k then l3 else mI M0 (r + 5) i) (GF : Fqq M0 r v9 M110) (g4 : mI M0 p 2 = L) (t1 : mI M0 (r + 3) k = t) (e133 : M133 = mUI M110 P t L) : gE M0 r p O P k L l3 v9 M133 := by
  obtain ⟨oO, oP, op, e1, e2, e3⟩ := hb0.off
  have Y6 : ∀ b, b ≠ P → mI M133 b = mI M110 b := fun b y1 => by rw [e133]; funext i; rw [mI_UI, if_neg (fun q => y1 q.1)]
  have Yr : mI M133 r = mI M110 r := Y6 r (by omega)
  have Y5 : mI M133 (r + 5) = mI M110 (r + 5) := Y6 (r + 5) (by omega)
  have YO : mI M133 O = mI M0 O := by rw [Y6 O (by first | exact oO | exact off0 oO | exact off9 oO (by decide) | exact off4 oO | exact e1 | exact e3 | omega), X O (by first | exact oO | exact off0 oO | exact off9 oO (by decide) | exact off4 oO | exact e1 | exact e3 | omega) (by first | exact oO | exact off0 oO | exact off9 oO (by decide) | exact off4 oO | exact e1 | exact e3 | omega)]
  have Yp : mI M133 p = mI M0 p := by rw [Y6 p (by first | exact op | exact off0 op | exact off9 op (by decide) | exact off4 op | exact fun q => e1 q.symm | exact fun q => e2 q.symm | omega), X p (by first | exact op | exact off0 op | exact off9 op (by decide) | exact off4 op | exact fun q => e1 q.symm | exact fun q => e2 q.symm | omega) (by first | exact op | exact off0 op | exact off9 op (by decide) | exact off4 op | exact fun q => e1 q.symm | exact fun q => e2 q.symm | omega)]
  have XP : mI M110 P = mI M0 P := X P (by first | exact oP | exact off0 oP | exact off9 oP (by decide) | exact off4 oP | exact e2 | exact fun q => e3 q.symm | omega) (by first | exact oP | exact off0 oP | exact off9 oP (by decide) | exact off4 oP | exact e2 | exact fun q => e3 q.symm | omega)
  have YT : ∀ i, 1 ≤ i → i ≤ 4 → mI M133 (r + i) = mI M0 (r + i) := fun i i1 i4 => by rw [Y6 (r + i) (by omega), X (r + i) (by omega) (by omega)]
  have YP : ∀ i, mI M133 P i = if i = t then (L : Int) else mI M0 P i := fun i => by
    rw [e133, mI_UI]
    by_cases v : i = t
    · rw [if_pos ⟨rfl, v⟩, if_pos v]
    · rw [if_neg (fun q => v q.2), if_neg v, XP]
  unfold gE
  rw [hop]
  exact ⟨⟨by rw [Yr]; exact R12, by rw [Yr]; exact GD, by rw [Yr]; exact R14⟩, YT, fun i => by rw [Y5]; exact G5 i, GF.later (by rw [Yr]) (by rw [Yr]), fun q => absurd yj q, fun _ => ⟨t, t1, fun i => by rw [YO], YP, by rw [Yp]; exact g4⟩⟩
theorem x_gr271 {l3 : Int} {v9 : Int × Int} (g : RG M0 r p O P n s V F ns d0 H L (k + 1) a 0) (hb0 : RB M0 z r w T A B D N C n p O P K) (ho : grpO (mI M0 (r + 1) k)) (h : gI M0 z r w T A B D N C n p O P K k (skk M0 r k) M) (h3 : l3 = 0 ∨ l3 = 1) (hx5 : mI M (r + 5) = mI M0 (r + 5)) (hxf : Fqq M0 r v9 M) : h_RR_group_271 G d r (mI M0 (r + 1) k) l3 M (fun M' => gQ M0 z r w T A B D N C n p O P K s V F ns d0 H L k a M' ∧ gE M0 r p O P k L l3 v9 M') := by
  have rm := g.room
  have sk1 := skk_le M0 r k
  obtain ⟨oO, oP, op, e1, e2, e3⟩ := hb0.off
  replace oO : Hid0 _ := oO
  replace oP : Hid0 _ := oP
  replace op : Hid0 _ := op
  replace e1 : Hid0 _ := e1
  replace e2 : Hid0 _ := e2
  replace e3 : Hid0 _ := e3
  have hK := hb0.2.2.2.2.2.2
  obtain ⟨⟨g1, g2, g3, g4⟩, gw, ⟨ga, gs⟩, gc, ⟨gd, gd4⟩, gr, ge, ⟨gH, gHs⟩, gC, gL, gt⟩ := id g
  obtain ⟨h1, h2, h3', ⟨h4, h5⟩, h6, h7, h8⟩ := h
  have b4 := (sum_top M0 r k).2.2.2
  obtain ⟨en1, en2, en3, en4, en5, en6, -⟩ := ge k (by omega)
  generalize hop : mI M0 (r + 1) k = o at *
  have u0 : uw 0 = 1 := rfl
  have io : i32 o := gp_i ho
  refine k_RR_group_271 h1.1 io (i32s (by omega) (by omega)) ⟨h1.2.1.1, (s_RR_pushKind h3 h1 h5 (by omega)).mono (fun M98 q => ?_)⟩
  obtain ⟨h98, f98, r98, t98⟩ := q
  have o98 : ∀ b, b ≠ r → b ≠ r + 5 → mI M98 b = mI M0 b := fun b y1 y2 => by rw [f98.2.2.2.2.2.2 b (fun q => by have q' : b = r ∨ b = r + 5 := q; first | exact rin5 q' | exact nin5 (by assumption) (by assumption) q' | omega), h7 b y1 y2]
  have d98 : mI M98 r 5 = ((d0 + sdp M0 r (k + 1) : Nat) : Int) := by rw [r98, if_neg (by decide), h3' 5 (by decide) (by decide) (by decide) (by decide), gd]
  have i5 : mK M98 r = 4 ∧ i32 ((mI M98 r 5) - 1) := ⟨h98.2.1.1, by rw [d98]; exact ⟨by omega, by omega⟩⟩
  refine ⟨h98.1, ⟨fun _ => i5, fun _ => ⟨fun _ => i5, fun _ _ => i5⟩⟩, fun M110 e110 => ?_⟩
  -- the depth
  have D110 : RB M110 z r w T A B D N C n p O P K ∧ FI (rdS r p O P) M98 M110 ∧ (∀ i, i ≠ 5 → mI M110 r i = mI M98 r i) ∧ mI M110 r 5 = ((d0 + sdp M0 r k : Nat) : Int) ∧ ∀ b, b ≠ r → mI M110 b = mI M98 b := by
    by_cases y : o = 40 ∨ o = 41 ∨ o = 42
    · rw [if_pos y] at e110
      obtain ⟨x1, x2, x3, x4⟩ := rb_fld h98 i5.2 e110
      have cd : cdp o = 1 := gp_y y
      exact ⟨x1, x2, fun i hi => by rw [x3, if_neg hi], by rw [x3, if_pos rfl, d98, b4, cd]; omega, x4⟩
    · rw [if_neg y] at e110
      have cd : cdp o = 0 := gp_z ho y
      subst e110
      exact ⟨h98, FI.refl, fun _ _ => rfl, by rw [d98, b4, cd]; omega, fun _ _ => rfl⟩
  obtain ⟨h110, f110, r110, d110, o110⟩ := D110
  have X : ∀ b, b ≠ r → b ≠ r + 5 → mI M110 b = mI M0 b := fun b y1 y2 => by rw [o110 b y1, o98 b y1 y2]
  have R : ∀ i, i ≠ 3 → i ≠ 4 → i ≠ 5 → i ≠ 12 → i ≠ 14 → mI M110 r i = mI M0 r i := fun i i3 i4 i5 i12 i14 => by rw [r110 i i5, r98, if_neg i14, h3' i i3 i4 i12 i14]
  have R12 : mI M110 r 12 = k := by rw [r110 12 (by decide), r98, if_neg (by decide)]; exact h4
  have R14 : mI M110 r 14 = ((uw 0 + skk M0 r k : Nat) : Int) := by rw [r110 14 (by decide), r98, if_pos rfl]; omega
  have R3 : mI M0 r 3 ≠ 0 → mI M110 r 3 = mI M0 r 3 := fun q => by rw [r110 3 (by decide), r98, if_neg (by decide)]; exact h6 q
  have T5 : ∀ j, mI M110 (r + 5) j = 0 ∨ mI M110 (r + 5) j = 1 := fun j => by
    rw [o110 (r + 5) (by omega), t98]
    split
    · exact h3
    · exact h8 j
  have F110 : FI (rdS r p O P) M0 M110 := (h2.trans (f98.mono (fun b q => Or.inl (by have q' : b = r ∨ b = r + 5 := q; first | exact rin5 q' | exact nin5 (by assumption) (by assumption) q' | omega)))).trans f110
  have hJ : gJ M0 z r w T A B D N C n p O P K d0 k M110 := ⟨h110, F110, R, ⟨R12, R14, d110⟩, R3, X, T5⟩
  have G5 : ∀ i, mI M110 (r + 5) i = if i = skk M0 r k then l3 else mI M0 (r + 5) i := fun i => by rw [o110 (r + 5) (by omega), t98, hx5]
  have GD : mI M110 r 5 = mI M0 r 5 - cdp o := by rw [d110, gd, b4]; omega
  have GF : Fqq M0 r v9 M110 := hxf.later (by rw [r110 3 (by decide), r98, if_neg (by decide)]) (by rw [r110 4 (by decide), r98, if_neg (by decide)])
  obtain ⟨-, ⟨k0, ⟨q8, q9, q10, -⟩, ⟨kk1, kk2, kk3, -⟩, ⟨nn1, nn2, nn3, -⟩⟩, ⟨rw0, rp0⟩, -, hPK, -⟩ := id h110
  obtain ⟨pk1, ⟨pk2, pk3⟩, ⟨pk4, pk5, pk6, pk7⟩, -, -, pkC, -⟩ := id hPK
  rw [q10, q9, R12, Int.toNat_natCast, nn3, nn2, rp0, pk3, pk7, X (r + 3) (by omega) (by omega), X (r + 2) (by omega) (by omega), X p (by first | exact op | exact off0 op | exact off9 op (by decide) | exact off4 op | exact fun q => e1 q.symm | exact fun q => e2 q.symm | omega) (by first | exact op | exact off0 op | exact off9 op (by decide) | exact off4 op | exact fun q => e1 q.symm | exact fun q => e2 q.symm | omega), g4]
  refine ⟨h110.1, k0, kk3, by omega, fun y => ⟨kk2, by omega, pk1, ?_⟩, fun y => ⟨pk1, by omega, pk5, ?_⟩⟩
  · -- an order
    have nj : ¬ jm o := fun q => by obtain ⟨t, t1, -⟩ := en5 q; omega
    have no3 : (19 ≤ o ∧ o ≤ 29) ∨ o = 40 ∨ o = 41 := gp_n ho nj
    refine (s_Pr_add (n := L) io ((hb0.1 _ _).1) h110.1 hPK (by rw [X p (by first | exact op | exact off0 op | exact off9 op (by decide) | exact off4 op | exact fun q => e1 q.symm | exact fun q => e2 q.symm | omega) (by first | exact op | exact off0 op | exact off9 op (by decide) | exact off4 op | exact fun q => e1 q.symm | exact fun q => e2 q.symm | omega)]; exact g4) (by omega)).mono (fun x M126 q => ?_)
    obtain ⟨ex, o126, f126, p126, q126, u126⟩ := q
    exact ⟨by rw [ex]; exact ⟨by omega, by omega⟩, o126, k_RR_group_362 o126 ⟨gr_ord g hb0 hop no3 hJ o126 f126 p126 q126 u126, gE_ord hb0 hop nj R12 GD R14 X G5 GF f126 p126 q126 u126⟩⟩
  · -- a jump is settled
    have yj : jm o := Classical.byContradiction (fun q => y (en6 q))
    obtain ⟨t, t1, t2, t3, t4, t5, t6⟩ := en5 yj
    rw [t1, Int.toNat_natCast]
    refine ⟨by omega, fun M133 e133 => ?_⟩
    have o133 : mOk M133 := by rw [e133]; exact mOk_UI h110.1 ⟨by omega, by omega⟩
    exact k_RR_group_362 o133 ⟨gr_jmp g hb0 hop yj (gp_3 ho) hJ t1 t2 t3 t4 t5 o133 e133, gE_jmp hb0 hop yj R12 GD R14 X G5 GF g4 t1 e133⟩

theorem x_gr252 {l3 l4 : Int} {pp : Prop} (g : RG M0 r p O P n s V F ns d0 H L (k + 1) a 0) (hb0 : RB M0 z r w T A B D N C n p O P K) (ho : grpO (mI M0 (r + 1) k)) (h : gI M0 z r w T A B D N C n p O P K k (skk M0 r k) M) (h3 : l3 = 0 ∨ l3 = 1) (h4 : i32 l4) (hx5 : mI M (r + 5) = mI M0 (r + 5)) (hx3 : mI M r 3 = mI M0 r 3 ∧ mI M r 4 = mI M0 r 4) (hpp : l4 = 0 ↔ ¬ pp) : h_RR_group_252 G d r (mI M0 (r + 1) k) l3 l4 M (fun M' => gQ M0 z r w T A B D N C n p O P K s V F ns d0 H L k a M' ∧ gE M0 r p O P k L l3 (kft pp (mI M0 (r + 2) k)) M') := by
  have rm := g.room
  obtain ⟨-, ⟨k0, ⟨q8, q9, -⟩, ⟨kk1, kk2, -⟩, ⟨nn1, nn2, -⟩⟩, -⟩ := id h.1
  have e12 := h.2.2.2.1.1
  refine k_RR_group_252 h.1.1 (hb0.1 _ _).1 (i32s (by omega) (by omega)) h4 ⟨fun y => ?_, fun y => ?_⟩
  · rw [q9, nn2]
    have hnp : ¬ pp := hpp.mp y
    have ek : kft pp (mI M0 (r + 2) k) = (3, mI M0 (r + 2) k) := if_neg hnp
    have h7 := h.2.2.2.2.2.1 (r + 2) (by omega) (by omega)
    refine ⟨k0, kk2, by omega, ?_⟩
    rw [e12, Int.toNat_natCast, h7]
    have h' := h
    obtain ⟨a1, a2, a3, ⟨a4, a5⟩, a6, a7, a8⟩ := h'
    refine (x_RR_note (i32s (by omega) (by omega)) (hb0.1 _ _).1 a1).mono (fun M1 q => ?_)
    obtain ⟨b1, f1, g1, -, g3, g4⟩ := q
    have o1 : ∀ b, b ≠ r → mI M1 b = mI M b := fun b hb => f1.2.2.2.2.2.2 b hb
    have hI : gI M0 z r w T A B D N C n p O P K k (skk M0 r k) M1 := ⟨b1, a2.trans (f1.mono (fun b q => Or.inl ⟨by omega, by omega⟩)), fun i i3 i4 i12 i14 => by rw [g1 i i3 i4]; exact a3 i i3 i4 i12 i14, ⟨by rw [g1 12 (by decide) (by decide)]; exact a4, by rw [g1 14 (by decide) (by decide)]; exact a5⟩, fun q => by rw [g3 (by rw [a6 q]; exact q)]; exact a6 q, fun b b1 b2 => by rw [o1 b b1]; exact a7 b b1 b2, fun j => by rw [o1 (r + 5) (by omega)]; exact a8 j⟩
    refine ⟨b1.1, ?_⟩
    rw [ek]
    exact x_gr271 g hb0 ho hI h3 (by rw [o1 (r + 5) (by omega)]; exact hx5) ((g4 (by decide)).first hx3.1 hx3.2)
  · have hp : pp := Classical.byContradiction (fun q => y (hpp.mpr q))
    have ek : kft pp (mI M0 (r + 2) k) = (0, 0) := if_pos hp
    rw [ek]
    exact x_gr271 g hb0 ho h h3 hx5 (Fq_none hx3.1 hx3.2)

theorem x_RR_group (g : RG M0 r p O P n s V F ns d0 H L (k + 1) a 0) (hb0 : RB M0 z r w T A B D N C n p O P K) (ho : grpO (mI M0 (r + 1) k)) (e : M = mUI M0 r 12 (((k + 1 : Nat) : Int) - 1)) : Cv G y_RR_group (d + 1) [vr r] M (fun M' => gQ M0 z r w T A B D N C n p O P K s V F ns d0 H L k a M' ∧ gE M0 r p O P k L (gtv (mI M0 (r + 1) k) (mI M0 (r + 5) (skk M0 r k + ckk (mI M0 (r + 1) k)))) (kft (gft (mI M0 (r + 1) k) (mI M0 (r + 4) k) (mI M0 (r + 5) (skk M0 r k)) (mI M0 (r + 5) (skk M0 r k + ckk (mI M0 (r + 1) k)))) (mI M0 (r + 2) k)) M') := by
  have rm := g.room
  have u0 : uw 0 = 1 := rfl
  rw [show ((k + 1 : Nat) : Int) - 1 = (k : Int) by first | rfl | omega] at e
  obtain ⟨hM, fM, rM, nM⟩ := rb_fld hb0 ⟨by omega, by omega⟩ e
  have sk1 := (sum_top M0 r k).2.1
  have gt0 : ∀ j, mI M0 (r + 5) j = 0 ∨ mI M0 (r + 5) j = 1 := g.2.2.2.2.2.2.2.2.2.2
  have hg : gI M0 z r w T A B D N C n p O P K k (skk M0 r k + ckk (mI M0 (r + 1) k) + 1) M := by
    obtain ⟨-, -, -, gc, -, -, -, -, -, -, gt⟩ := id g
    refine ⟨hM, fM, fun i i3 i4 i12 i14 => by rw [rM, if_neg i12], ⟨by rw [rM, if_pos rfl], by rw [rM, if_neg (by decide), gc, sk1]; omega⟩, fun _ => by rw [rM, if_neg (by decide)], fun b b1 _ => nM b b1, fun j => by rw [nM (r + 5) (by omega)]; exact gt j⟩
  -- a kind is taken, and nothing else
  have pop : ∀ {c9 : Nat} {M4 : mM}, gI M0 z r w T A B D N C n p O P K k (c9 + 1) M4 → mI M4 (r + 5) = mI M0 (r + 5) → (mI M4 r 3 = mI M0 r 3 ∧ mI M4 r 4 = mI M0 r 4) → c9 < 336 → Ci G y_RR_popKind d [vr r] M4 (fun v M5 => v = mI M0 (r + 5) c9 ∧ gI M0 z r w T A B D N C n p O P K k c9 M5 ∧ mI M5 (r + 5) = mI M0 (r + 5) ∧ (mI M5 r 3 = mI M0 r 3 ∧ mI M5 r 4 = mI M0 r 4)) := fun {c9 M4} h h5 h34 hc => by
    obtain ⟨h1, h2, h3, ⟨h4, h5'⟩, h6, h7, h8⟩ := h
    refine (x_RR_popKind h1 h5' hc).mono (fun v M1 q => ?_)
    obtain ⟨⟨hv, hv2⟩, b1, f1, g1⟩ := q
    have o1 : ∀ b, b ≠ r → mI M1 b = mI M4 b := fun b hb => f1.2.2.2.2.2.2 b hb
    refine ⟨by rw [← h5]; exact hv2 (h8 c9), ⟨b1, h2.trans (f1.mono (fun b q => Or.inl ⟨by omega, by omega⟩)), fun i i3 i4 i12 i14 => by rw [g1, if_neg i14]; exact h3 i i3 i4 i12 i14, ⟨by rw [g1, if_neg (by decide)]; exact h4, by rw [g1, if_pos rfl]⟩, fun q => by rw [g1, if_neg (by decide)]; exact h6 q, fun b b1 b2 => by rw [o1 b b1]; exact h7 b b1 b2, fun j => by rw [o1 (r + 5) (by omega)]; exact h8 j⟩, by rw [o1 (r + 5) (by omega)]; exact h5, by rw [g1, if_neg (by decide)]; exact h34.1, by rw [g1, if_neg (by decide)]; exact h34.2⟩
  have b1 : skk M0 r k + ckk (mI M0 (r + 1) k) < 336 := by omega
  obtain ⟨-, ⟨k0, ⟨q8, -⟩, ⟨kk1, -⟩, ⟨nn1, -⟩⟩, -⟩ := id hM
  have e12 := hg.2.2.2.1.1
  refine k_RR_group hM.1 ?_
  rw [q8, nn1, e12, Int.toNat_natCast, nM (r + 1) (by omega)]
  refine ⟨k0, kk1, by omega, (pop hg (nM (r + 5) (by omega)) ⟨by rw [rM, if_neg (by decide)], by rw [rM, if_neg (by decide)]⟩ b1).mono (fun x5 M4 q => ?_)⟩
  obtain ⟨hx5, g4, y4, z4⟩ := q
  have hx01 := gt0 (skk M0 r k + ckk (mI M0 (r + 1) k))
  rw [← hx5] at hx01 ⊢
  refine ⟨i32s (by omega) (by omega), g4.1.1, (s_RR_level (hb0.1 _ _).1 g4.1.1).mono (fun x8 M7 q => ?_)⟩
  obtain ⟨e7, ex8⟩ := q
  subst e7
  have lb := lvl_b (mI M0 (r + 1) k)
  have h4k : mI M7 (r + 4) k = mI M0 (r + 4) k := by rw [g4.2.2.2.2.2.1 (r + 4) (by omega) (by omega)]
  generalize hop : mI M0 (r + 1) k = o at *
  have D1 : ∀ {l3 l4 : Int} {pp : Prop} {M2 : mM}, gI M0 z r w T A B D N C n p O P K k (skk M0 r k) M2 → mI M2 (r + 5) = mI M0 (r + 5) → (mI M2 r 3 = mI M0 r 3 ∧ mI M2 r 4 = mI M0 r 4) → (l3 = 0 ∨ l3 = 1) → (l4 = 0 ∨ l4 = 1) → (l4 = 0 ↔ ¬ pp) → l3 = gtv o x5 → (pp ↔ gft o (mI M0 (r + 4) k) (mI M0 (r + 5) (skk M0 r k)) x5) → h_RR_group_252 G d r o l3 l4 M2 (fun M' => gQ M0 z r w T A B D N C n p O P K s V F ns d0 H L k a M' ∧ gE M0 r p O P k L (gtv o x5) (kft (gft o (mI M0 (r + 4) k) (mI M0 (r + 5) (skk M0 r k)) x5) (mI M0 (r + 2) k)) M') := fun {l3 l4 pp M2} h2 y5 y34 y3 y4 yp et ep => by
    have := x_gr252 (G := G) (d := d) (l3 := l3) (l4 := l4) (pp := pp) g hb0 (by rw [hop]; exact ho) h2 y3 (i32s (by omega) (by omega)) y5 y34 yp
    rw [hop, propext ep, et] at this
    rw [et]
    exact this
  refine ⟨i32s (by omega) (by omega), g4.1.1, fun v11 e11 => ?_⟩
  have i11 : v11 = 0 ∨ v11 = 1 := by rw [e11]; split <;> omega
  have two : (19 ≤ o ∧ o ≤ 31) → gI M0 z r w T A B D N C n p O P K k (skk M0 r k + 1) M7 := fun y => by
    have : ckk o = 1 := by unfold ckk; rw [if_pos y]
    rw [this] at g4
    exact g4
  have one : ¬ (19 ≤ o ∧ o ≤ 31) → gI M0 z r w T A B D N C n p O P K k (skk M0 r k) M7 := fun y => by
    have : ckk o = 0 := by unfold ckk; rw [if_neg y]
    rw [this] at g4
    exact g4
  have sb : skk M0 r k < 336 := by omega
  have l01 := gt0 (skk M0 r k)
  have tv11 : ((19 ≤ o ∧ o ≤ 31) ∨ o = 41) → v11 = gtv o x5 := fun y => by
    rw [e11, ex8]
    clear i11 l01 lb hx01 sb b1 rm sk1 u0
    unfold gtv lvl
    (repeat' split) <;> omega
  have gf : (19 ≤ o ∧ o ≤ 31) → (gft o (mI M0 (r + 4) k) (mI M0 (r + 5) (skk M0 r k)) x5 ↔ okq (o - 1) (mI M0 (r + 5) (skk M0 r k)) x5) := fun y => by
    unfold gft
    rw [if_neg (by omega), if_neg (by omega), if_neg (by omega)]
  refine ⟨fun y => ⟨g4.1.2.1.1, (pop (two (by omega)) y4 z4 sb).mono (fun x M2 q => ?_)⟩, fun y1 => ⟨fun y => ⟨g4.1.2.1.1, (pop (two (by omega)) y4 z4 sb).mono (fun x M2 q => ?_)⟩, fun y2 => ⟨fun y v48 e48 => D1 (pp := x5 = 0) (one (by omega)) y4 z4 (Or.inl rfl) (by rw [e48]; split <;> omega) (by rw [e48]; split <;> omega) (by unfold gtv; rw [if_pos y]) (by unfold gft; rw [if_pos y]), fun y3 => ⟨fun y => D1 (pp := x5 = 1) (one (by omega)) y4 z4 i11 hx01 (by omega) (tv11 (Or.inr y)) (by unfold gft; rw [if_neg y3, if_pos y]), fun y4' => ⟨fun y => ?_, fun y5 => ⟨g4.1.2.1.1, (pop (two (by unfold grpO at ho; omega)) y4 z4 sb).mono (fun x M2 q => ?_)⟩⟩⟩⟩⟩⟩
  · obtain ⟨w1, w2, w3, w4⟩ := q
    refine ⟨i32s (by omega) (by omega), w2.1.1, fun v24 e24 => D1 (pp := okq (o - 1) (mI M0 (r + 5) (skk M0 r k)) x5) w2 w3 w4 i11 (by rw [e24]; split <;> omega) ?_ (tv11 (Or.inl (by omega))) (gf (by omega)).symm⟩
    have ok : okq (o - 1) (mI M0 (r + 5) (skk M0 r k)) x5 ↔ mI M0 (r + 5) (skk M0 r k) = x5 := by
      unfold okq
      rw [if_neg (by omega), if_pos (by omega)]
    rw [ok, e24, w1]
    split <;> omega
  · obtain ⟨w1, w2, w3, w4⟩ := q
    refine ⟨i32s (by omega) (by omega), w2.1.1, fun v24 e24 => D1 (pp := okq (o - 1) (mI M0 (r + 5) (skk M0 r k)) x5) w2 w3 w4 i11 (by rw [e24]; split <;> omega) ?_ (tv11 (Or.inl (by omega))) (gf (by omega)).symm⟩
    have ok : okq (o - 1) (mI M0 (r + 5) (skk M0 r k)) x5 ↔ (mI M0 (r + 5) (skk M0 r k) = 1 ∧ x5 = 1) := by
      unfold okq
      rw [if_pos (by omega)]
    rw [ok, e24, w1]
    split <;> omega
  · obtain ⟨-, ⟨k0', ⟨-, -, -, q11, -⟩, ⟨-, -, -, kk4, -⟩, ⟨-, -, -, nn4, -⟩⟩, -⟩ := id g4.1
    have e12' := g4.2.2.2.1.1
    rw [q11, nn4, e12', Int.toNat_natCast, h4k]
    refine ⟨k0', kk4, by omega, fun v62 e62 v67 e67 => D1 (pp := mI M0 (r + 4) k = if x5 = 1 then 4 else 0) (one (by omega)) y4 z4 hx01 (by rw [e67]; split <;> omega) ?_ (by unfold gtv; rw [if_neg y3, if_pos y]) (by unfold gft; rw [if_neg y3, if_neg y4', if_pos y])⟩
    have ev : v62 = if x5 = 1 then 4 else 0 := by rw [e62]; (repeat' split) <;> omega
    rw [e67, ev]
    by_cases yy : mI M0 (r + 4) k = if x5 = 1 then 4 else 0
    · rw [if_pos yy]; exact ⟨fun q => absurd q (by decide), fun q => absurd yy q⟩
    · rw [if_neg yy]; exact ⟨fun _ => yy, fun _ => rfl⟩
  · obtain ⟨w1, w2, w3, w4⟩ := q
    have hr : 19 ≤ o ∧ o ≤ 31 := by unfold grpO at ho; omega
    refine ⟨i32s (by omega) (by omega), w2.1.1, fun v24 e24 => D1 (pp := okq (o - 1) (mI M0 (r + 5) (skk M0 r k)) x5) w2 w3 w4 i11 (by rw [e24]; split <;> omega) ?_ (tv11 (Or.inl hr)) (gf hr).symm⟩
    have ok : okq (o - 1) (mI M0 (r + 5) (skk M0 r k)) x5 ↔ (mI M0 (r + 5) (skk M0 r k) = 0 ∧ x5 = 0) := by
      unfold okq
      rw [if_neg (by omega), if_neg (by omega)]
    rw [ok, e24, w1]
    split <;> omega
end RX2
end
section
/-! The class's reader: grouping, over its piles. -/
section RX3
variable {G : mG} {d z r w T A B D N C n p O P K k a s L L' V F d0 c c' : Nat} {M0 M M' M1 M2 : mM} {H H' : Nat → Nat} {ns : Nat → Int} {wt o : Int} {u : Ru}
theorem RW0.grp (v : RW0 u M0 r O P s c c' L a) (g : RG M0 r p O P n s V F ns d0 H L (k + 1) a 0) (hop : mI M0 (r + 1) k = o) (ho : grpO o) (hc : c ≤ rsq o) (hm : lwx (ruW u a) ≤ c' ∨ rsq o < lwx (ruW u a)) (h42 : o = 42 → lwx (ruW u a) ≤ c') (e : gE M0 r p O P k L (gtv (mI M0 (r + 1) k) (mI M0 (r + 5) (skk M0 r k + ckk (mI M0 (r + 1) k)))) (kft (gft (mI M0 (r + 1) k) (mI M0 (r + 4) k) (mI M0 (r + 5) (skk M0 r k)) (mI M0 (r + 5) (skk M0 r k + ckk (mI M0 (r + 1) k)))) (mI M0 (r + 2) k)) M') (hL : mI M' p 2 = L') : RW0 u M' r O P s (cst o) (pst o) L' a := by
  obtain ⟨⟨g1, g2, g3, g4⟩, -, -, gc, -⟩ := g
  have hk : mI M0 r 12 = (k : Int) + 1 := by rw [g2]; rfl
  have sk := (sum_top M0 r k).2.1
  have u0 : uw 0 = 1 := rfl
  rw [hop] at e sk
  obtain ⟨⟨e1, e2, e3⟩, e4, e5, e6, e7, e8⟩ := e
  rw [hop] at e2 e7 e8
  by_cases y1 : o = 40 ∨ o = 41
  · have nj : ¬ jm o := gp_j y1
    obtain ⟨f1, f2, f3⟩ := e7 nj
    have hLL : L' = L + 1 := by omega
    have ck : ckk o = 0 := by unfold ckk; rw [if_neg (gp_k y1)]
    have cd : cdp o = 1 := by unfold cdp; rw [if_pos (gp_d y1)]
    rw [ck] at e5 e6 sk
    rw [cd] at e2
    rw [hLL]
    have tv : gtv o (mI M0 (r + 5) (skk M0 r k + 0)) = if o = 41 then 1 else 0 := gp_v y1
    have gf : gft o (mI M0 (r + 4) k) (mI M0 (r + 5) (skk M0 r k)) (mI M0 (r + 5) (skk M0 r k + 0)) ↔ mI M0 (r + 5) (skk M0 r k) = if o = 41 then 1 else 0 := by
      unfold gft
      rcases y1 with y | y
      · subst y; rw [if_pos rfl, if_neg (by decide)]; exact Iff.rfl
      · subst y; rw [if_neg (by decide), if_pos rfl, if_pos rfl]; exact Iff.rfl
    rw [tv] at e5
    rw [propext gf] at e6
    exact v.gun (kk := skk M0 r k) hk hop y1 hc hm e1 e2 (by rw [gc]; omega) (by rw [e3]; omega) e4 e5 e6 f1 f2
  · by_cases y2 : o = 42
    · subst y2
      obtain ⟨t, t1, f1, f2, f3⟩ := e8 (by unfold jm; omega)
      have hLL : L' = L := by omega
      rw [hLL]
      have tv : gtv 42 (mI M0 (r + 5) (skk M0 r k + ckk 42)) = mI M0 (r + 5) (skk M0 r k) := by unfold gtv; rw [if_neg (by decide), if_pos rfl]; rfl
      have gf : gft 42 (mI M0 (r + 4) k) (mI M0 (r + 5) (skk M0 r k)) (mI M0 (r + 5) (skk M0 r k + ckk 42)) ↔ mI M0 (r + 4) k = if mI M0 (r + 5) (skk M0 r k) = 1 then 4 else 0 := by
        unfold gft
        rw [if_neg (by decide), if_neg (by decide), if_pos rfl]
        exact Iff.rfl
      rw [tv] at e5
      rw [propext gf] at e6
      have ck : ckk 42 = 0 := rfl
      rw [ck] at sk
      exact v.gels (kk := skk M0 r k) (dd := t) hk hop hc (h42 rfl) e1 e2 (by rw [gc]; omega) (by rw [e3]; omega) e4 (fun i => by
        rw [e5]
        split
        · rename_i q; rw [q]
        · rfl) e6 t1 f1 f2
    · have hr : 19 ≤ o ∧ o ≤ 31 := gp_r ho y1 y2
      have ck : ckk o = 1 := by unfold ckk; rw [if_pos hr]
      have cd : cdp o = 0 := by unfold cdp; rw [if_neg (gp_e hr)]
      rw [ck] at e5 e6 sk
      rw [cd] at e2
      have gf : gft o (mI M0 (r + 4) k) (mI M0 (r + 5) (skk M0 r k)) (mI M0 (r + 5) (skk M0 r k + 1)) ↔ okq (o - 1) (mI M0 (r + 5) (skk M0 r k)) (mI M0 (r + 5) (skk M0 r k + 1)) := by
        unfold gft
        rw [if_neg (by omega), if_neg (by omega), if_neg (by omega)]
      rw [propext gf] at e6
      by_cases y3 : o = 30 ∨ o = 31
      · obtain ⟨t, t1, f1, f2, f3⟩ := e8 (gp_jm y3)
        have hLL : L' = L := by omega
        rw [hLL]
        have tv : gtv o (mI M0 (r + 5) (skk M0 r k + 1)) = 1 := by unfold gtv; rw [if_neg (by omega), if_neg (by omega), if_pos (by omega)]
        rw [tv] at e5
        exact v.gjmp (kk := skk M0 r k) (dd := t) hk hop y3 hc hm e1 (by omega) (by rw [gc]; omega) (by rw [e3]; omega) e4 e5 e6 t1 f1 f2
      · obtain ⟨f1, f2, f3⟩ := e7 (gp_nj hr y3)
        have hLL : L' = L + 1 := by omega
        rw [hLL]
        have tv : gtv o (mI M0 (r + 5) (skk M0 r k + 1)) = if o ≤ 24 then 1 else 0 := by unfold gtv; (repeat' split) <;> omega
        rw [tv] at e5
        exact v.gbin (kk := skk M0 r k) hk hop (by omega) hc hm e1 (by omega) (by rw [gc]; omega) (by rw [e3]; omega) e4 e5 e6 f1 f2
end RX3
end
section
/-! The class's reader: signs and '?', exactly. -/
/-- a second comparison -/
def cmp2 (M : mM) (r k : Nat) (o : Int) : Prop := lvl o = 4 ∧ 0 < k ∧ lvl (mI M (r + 1) (k - 1)) = 4
/-- a sign's step -/
def sgE (M : mM) (r p O P B k L a : Nat) (o x : Int) (M' : mM) : Prop := (x = 2 ∧ cmp2 M r k o) ∨ (x = 0 ∧ ¬ cmp2 M r k o ∧ pshE M r k o (mI M B a) (if o = 30 ∨ o = 31 then (L : Int) else -1) 0 (mI M r 5) (mI M r 14) M' ∧ ((o = 30 ∨ o = 31) → (∀ i, mI M' O i = if i = L then o else mI M O i) ∧ mI M' p 2 = (L : Int) + 1) ∧ (¬ (o = 30 ∨ o = 31) → mI M' O = mI M O ∧ mI M' P = mI M P ∧ mI M' p 2 = L))
/-- the step of a '?' -/
def akE (M : mM) (r p O P B k kk L a : Nat) (x : Int) (M' : mM) : Prop := (x = 2 ∧ ¬ mI M r 5 < 40) ∨ (x = 0 ∧ mI M r 5 < 40 ∧ pshE M r k 33 (mI M B a) L (if mI M (r + 5) kk = 1 then 0 else 1) (mI M r 5 + 1) kk M' ∧ (∀ i, mI M' O i = if i = L then 33 else mI M O i) ∧ mI M' p 2 = (L : Int) + 1)
section RX4
variable {G : mG} {d z r w T A B D N C n p O P K k a s L V F d0 c : Nat} {M0 M M' M1 M2 M110 M126 M133 : mM} {H H' : Nat → Nat} {ns : Nat → Int} {wt : Int}

theorem pshE.of {M18 M22 : mM} {o pl od : Int} (r22 : ∀ i, mI M22 r i = if i = 2 then (a : Int) + 1 else if i = 7 then 1 else if i = 12 then (k : Int) + 1 else mI M18 r i) (t1 : ∀ i, mI M22 (r + 1) i = if i = k then o else mI M18 (r + 1) i) (t2 : ∀ i, mI M22 (r + 2) i = if i = k then pl else mI M18 (r + 2) i) (t3 : ∀ i, mI M22 (r + 3) i = if i = k then od else mI M18 (r + 3) i) (t4 : ∀ i, mI M22 (r + 4) i = if i = k then 0 else mI M18 (r + 4) i) (Z : ∀ b, (b < r ∨ r + 4 < b) → mI M22 b = mI M18 b) (Y : ∀ b, r ≤ b → b ≤ r + 9 → mI M18 b = mI M b) : pshE M r k o pl od 0 (mI M r 5) (mI M r 14) M22 := by
  have y0 := Y r (by omega) (by omega)
  have S22 : ∀ i, i ≠ 2 → i ≠ 7 → i ≠ 12 → mI M22 r i = mI M r i := fun i i2 i7 i12 => by rw [r22, if_neg i2, if_neg i7, if_neg i12, y0]
  exact ⟨⟨by rw [r22, if_neg (by decide), if_neg (by decide), if_pos rfl], S22 5 (by decide) (by decide) (by decide), S22 3 (by decide) (by decide) (by decide), S22 4 (by decide) (by decide) (by decide), S22 14 (by decide) (by decide) (by decide)⟩, fun i => by rw [t1, Y (r + 1) (by omega) (by omega)], fun i => by rw [t2, Y (r + 2) (by omega) (by omega)], fun i => by rw [t3, Y (r + 3) (by omega) (by omega)], fun i => by rw [t4, Y (r + 4) (by omega) (by omega)], by rw [Z (r + 5) (by omega), Y (r + 5) (by omega) (by omega)]⟩
set_option maxHeartbeats 2000000 in
theorem x_RR_takeSign {o : Int} (h : RB M z r w T A B D N C n p O P K) (g : RG M r p O P n s V F ns d0 H L k a 0) (ho : 19 ≤ o ∧ o ≤ 31) (han : a < n) (ht : 0 < k → lvl (mI M (r + 1) (k - 1)) < (if lvl o = 4 then 5 else lvl o)) : Ci G y_RR_takeSign (d + 1) [vr r, vi o, vi (lvl o)] M (fun x M' => sgQ M z r w T A B D N C n p O P K s V F ns d0 H L k a x M' ∧ sgE M r p O P B k L a o x M') := by
  have rm := g.room
  obtain ⟨oO, oP, op, e1, e2, e3⟩ := h.off
  replace oO : Hid0 _ := oO
  replace oP : Hid0 _ := oP
  replace op : Hid0 _ := op
  replace e1 : Hid0 _ := e1
  replace e2 : Hid0 _ := e2
  replace e3 : Hid0 _ := e3
  have hwN := h.2.2.2.1.2.2.1
  have hN := h.2.2.2.1.1.2.2.2.2.2.2.1
  have hK := h.2.2.2.2.2.2
  have lb := lvl_b o
  have rl := rk_lvl o
  have cd : cdp o = 0 := by unfold cdp; rw [if_neg (gp_e ho)]
  have r1 : 1 ≤ rkk o := by unfold rkk; (repeat' split) <;> omega
  have ck : ckk o = 1 := by unfold ckk; rw [if_pos ho]
  obtain ⟨⟨g1, g2, g3, g4⟩, -, -, gc, ⟨gd, gd4⟩, -, -, -, -, gL, gt⟩ := id g
  obtain ⟨-, ⟨k0, ⟨q8, -⟩, ⟨kk1, -⟩, ⟨nn1, -⟩⟩, ⟨-, rp1⟩, -, hPK, -⟩ := id h
  have u0 : uw 0 = 1 := rfl
  -- the sign is put
  have put : (0 < k → rkk (mI M (r + 1) (k - 1)) < rkk o) → ¬ cmp2 M r k o → Ci G y_RR_here d [vr r] M (fun x8 M7 => i32 x8 ∧ mOk M7 ∧ ((((o = 30) ∨ (o = 31)) → (mK M7 r = 4 ∧ mK M7 (mR M7 r 1) = 6 ∧ Ci G y_Pr_add d [vr (mR M7 r 1), vi o, vi 0] M7 (fun x19 M18 => i32 x19 ∧ mOk M18 ∧ (mK M18 r = 4 ∧ Cv G y_RR_push d [vr r, vi o, vi x8, vi x19] M18 (fun M22 => mOk M22 ∧ ((sgQ M z r w T A B D N C n p O P K s V F ns d0 H L k a 0 M22 ∧ sgE M r p O P B k L a o 0 M22))))))) ∧ (¬ ((o = 30) ∨ (o = 31)) → (mK M7 r = 4 ∧ Cv G y_RR_push d [vr r, vi o, vi x8, vi (-1)] M7 (fun M27 => mOk M27 ∧ ((sgQ M z r w T A B D N C n p O P K s V F ns d0 H L k a 0 M27 ∧ sgE M r p O P B k L a o 0 M27))))))) := fun hrk hnd => by
    have lv := g.lvl (o := o) (Or.inr ⟨cd, r1, hrk⟩)
    refine (s_RR_here h g1 (by omega)).mono (fun x8 M7 q => ?_)
    obtain ⟨e7, x8v, x0, x1⟩ := q
    subst e7
    refine ⟨i32s (by omega) (by omega), h.1, fun y => ?_, fun y => ?_⟩
    · rw [rp1]
      refine ⟨k0, hPK.1, (s_Pr_add (n := L) (i32s (by omega) (by omega)) (i32s (by omega) (by omega)) h.1 hPK g4 (by omega)).mono (fun x19 M18 q => ?_)⟩
      obtain ⟨ex, o18, f18, p18, q18, u18⟩ := q
      have f18' : FI (rdS r p O P) M7 M18 := f18.mono (fun b q => Or.inr q)
      have h18 := h.fi o18 f18'
      have Y : ∀ b, r ≤ b → b ≤ r + 9 → mI M18 b = mI M7 b := fun b y1 y2 => f18.2.2.2.2.2.2 b (fun q => by
        have q' : b = p ∨ b = O ∨ b = P := q
        first | exact off3 op oO oP (by assumption) (by assumption) q' | omega)
      refine ⟨⟨by omega, by omega⟩, o18, h18.2.1.1, (s_RR_push (k := k) (a := a) (i32s (by omega) (by omega)) (i32s (by omega) (by omega)) ⟨by omega, by omega⟩ h18 (by rw [Y r (by omega) (by omega)]; exact g2) (by omega) (by rw [Y r (by omega) (by omega)]; exact g1) (by omega)).mono (fun M22 q => ?_)⟩
      obtain ⟨h22, f22, r22, t1, t2, t3, t4⟩ := q
      have Z : ∀ b, (b < r ∨ r + 4 < b) → mI M22 b = mI M18 b := fun b hb => f22.2.2.2.2.2.2 b (fun q => by have q' : r ≤ b ∧ b ≤ r + 4 := q; omega)
      have f22' : FI (rdS r p O P) M18 M22 := f22.mono (fun b q => Or.inl (by have q' : r ≤ b ∧ b ≤ r + 4 := q; omega))
      have ZO : mI M22 O = mI M18 O := Z O (by first | exact oO | exact off0 oO | exact off9 oO (by decide) | exact off4 oO | exact e1 | exact e3 | omega)
      have Zp : mI M22 p = mI M18 p := Z p (by first | exact op | exact off0 op | exact off9 op (by decide) | exact off4 op | exact fun q => e1 q.symm | exact fun q => e2 q.symm | omega)
      refine ⟨h22.1, ⟨h22, f18'.trans f22', fun i i2 i5 i7 i12 i14 => by rw [r22, if_neg i2, if_neg i7, if_neg i12, Y r (by omega) (by omega)], fun i i6 i9 => by rw [Z (r + i) (by omega), Y (r + i) (by omega) (by omega)], fun i i2 => by rw [Z p (by first | exact op | exact off0 op | exact off9 op (by decide) | exact off4 op | exact fun q => e1 q.symm | exact fun q => e2 q.symm | omega), p18, if_neg i2], fun i hi => ⟨by rw [Z O (by first | exact oO | exact off0 oO | exact off9 oO (by decide) | exact off4 oO | exact e1 | exact e3 | omega), q18, if_neg (by omega)], by rw [Z P (by first | exact oP | exact off0 oP | exact off9 oP (by decide) | exact off4 oP | exact e2 | exact fun q => e3 q.symm | omega), u18, if_neg (by omega)]⟩, Or.inr ⟨rfl, ?_⟩⟩, Or.inr ⟨rfl, hnd, by rw [if_pos y, ← x8v, ← ex]; exact pshE.of r22 t1 t2 t3 t4 Z Y, fun _ => ⟨fun i => by rw [ZO, q18], by rw [Zp, p18, if_pos rfl]⟩, fun q => absurd y q⟩⟩
      obtain ⟨H', gg, hh⟩ := g.pshj (M' := M22) (o := o) (pl := x8) (mk := 0) (dd := d0 + sdp M7 r k) (c' := skk M7 r k + 1) (fun i => by
        rw [r22, Y r (by omega) (by omega)]
        by_cases y5 : i = 5
        · subst y5
          rw [if_neg (by decide), if_neg (by decide), if_neg (by decide), if_neg (by decide), if_neg (by decide), if_neg (by decide), if_pos rfl]
          exact gd
        · by_cases y14 : i = 14
          · subst y14
            rw [if_neg (by decide), if_neg (by decide), if_neg (by decide), if_neg (by decide), if_neg (by decide), if_neg (by decide), if_neg (by decide), if_pos rfl, gc]
            omega
          · rw [if_neg y5, if_neg y14]) (fun i => by rw [t1, Y (r + 1) (by omega) (by omega)]) (fun i => by rw [t2, Y (r + 2) (by omega) (by omega)]) (fun i => by rw [t3, Y (r + 3) (by omega) (by omega), ex]) (fun i => by rw [t4, Y (r + 4) (by omega) (by omega)]) (fun j => by rw [Z (r + 5) (by omega), Y (r + 5) (by omega) (by omega)]; exact gt j) (by rw [Z p (by first | exact op | exact off0 op | exact off9 op (by decide) | exact off4 op | exact fun q => e1 q.symm | exact fun q => e2 q.symm | omega), p18, if_pos rfl]) (fun i => by rw [Z O (by first | exact oO | exact off0 oO | exact off9 oO (by decide) | exact off4 oO | exact e1 | exact e3 | omega), q18]) (fun i => by rw [Z P (by first | exact oP | exact off0 oP | exact off9 oP (by decide) | exact off4 oP | exact e2 | exact fun q => e3 q.symm | omega), u18]) (by omega) ⟨x0, x1⟩ ⟨by omega, by omega⟩ (by omega) gd4 lv (by omega) han (fun q => absurd q (by omega))
      exact ⟨H', L + 1, gg, by omega, hh⟩
    · refine ⟨k0, (s_RR_push (k := k) (a := a) (i32s (by omega) (by omega)) (i32s (by omega) (by omega)) ⟨by omega, by omega⟩ h g2 (by omega) g1 (by omega)).mono (fun M22 q => ?_)⟩
      obtain ⟨h22, f22, r22, t1, t2, t3, t4⟩ := q
      have Z : ∀ b, (b < r ∨ r + 4 < b) → mI M22 b = mI M7 b := fun b hb => f22.2.2.2.2.2.2 b (fun q => by have q' : r ≤ b ∧ b ≤ r + 4 := q; omega)
      have f22' : FI (rdS r p O P) M7 M22 := f22.mono (fun b q => Or.inl (by have q' : r ≤ b ∧ b ≤ r + 4 := q; omega))
      refine ⟨h22.1, ⟨h22, f22', fun i i2 i5 i7 i12 i14 => by rw [r22, if_neg i2, if_neg i7, if_neg i12], fun i i6 i9 => Z (r + i) (by omega), fun i i2 => by rw [Z p (by first | exact op | exact off0 op | exact off9 op (by decide) | exact off4 op | exact fun q => e1 q.symm | exact fun q => e2 q.symm | omega)], fun i hi => ⟨by rw [Z O (by first | exact oO | exact off0 oO | exact off9 oO (by decide) | exact off4 oO | exact e1 | exact e3 | omega)], by rw [Z P (by first | exact oP | exact off0 oP | exact off9 oP (by decide) | exact off4 oP | exact e2 | exact fun q => e3 q.symm | omega)]⟩, Or.inr ⟨rfl, H, L, ?_, Nat.le_refl _, fun _ _ => rfl⟩⟩, Or.inr ⟨rfl, hnd, by rw [if_neg y, ← x8v]; exact pshE.of r22 t1 t2 t3 t4 Z (fun _ _ _ => rfl), fun q => absurd q y, fun _ => ⟨Z O (by first | exact oO | exact off0 oO | exact off9 oO (by decide) | exact off4 oO | exact e1 | exact e3 | omega), Z P (by first | exact oP | exact off0 oP | exact off9 oP (by decide) | exact off4 oP | exact e2 | exact fun q => e3 q.symm | omega), by rw [Z p (by first | exact op | exact off0 op | exact off9 op (by decide) | exact off4 op | exact fun q => e1 q.symm | exact fun q => e2 q.symm | omega)]; exact g4⟩⟩⟩
      exact g.psh (M' := M22) (o := o) (pl := x8) (dd := d0 + sdp M7 r k) (fun i => by
        rw [r22]
        by_cases y5 : i = 5
        · subst y5
          rw [if_neg (by decide), if_neg (by decide), if_neg (by decide), if_neg (by decide), if_neg (by decide), if_neg (by decide), if_pos rfl]
          exact gd
        · rw [if_neg y5]) t1 t2 t3 t4 (Z _ (by omega)) (Z p (by first | exact op | exact off0 op | exact off9 op (by decide) | exact off4 op | exact fun q => e1 q.symm | exact fun q => e2 q.symm | omega)) (Z O (by first | exact oO | exact off0 oO | exact off9 oO (by decide) | exact off4 oO | exact e1 | exact e3 | omega)) (Z P (by first | exact oP | exact off0 oP | exact off9 oP (by decide) | exact off4 oP | exact e2 | exact fun q => e3 q.symm | omega)) (by unfold opn; omega) (by unfold jm; omega) ⟨x0, x1⟩ (by omega) gd4 lv (by rw [ck]; rfl) (by unfold cm; rw [if_pos (by omega)]; rfl) han
  refine k_RR_takeSign h.1 (i32s (by omega) (by omega)) (i32s (by omega) (by omega)) ⟨fun _ => k0, fun y => ⟨k0, put (fun hk => ?_) (fun q => by have q1 := q.1; have q2 := q.2.1; omega)⟩, fun y => ⟨k0, ?_⟩⟩
  · have rt := rk_lvl (mI M (r + 1) (k - 1))
    have t := ht hk
    rw [if_neg (by omega)] at t
    omega
  · rw [q8, nn1, g2, show ((k : Int) - 1).toNat = k - 1 by first | rfl | omega]
    refine ⟨kk1, by omega, (s_RR_level (h.1 _ _).1 h.1).mono (fun x37 M36 q => ?_)⟩
    obtain ⟨e36, ex⟩ := q
    subst e36
    have lt := lvl_b (mI M36 (r + 1) (k - 1))
    refine ⟨i32s (by omega) (by omega), h.1, fun z4 => ⟨⟨h, FI.refl, fun _ _ _ _ _ _ => rfl, fun _ _ _ => rfl, fun _ _ => rfl, fun _ _ => ⟨rfl, rfl⟩, Or.inl ⟨rfl, rfl⟩⟩, Or.inl ⟨rfl, by omega, by omega, by rw [← ex]; exact z4⟩⟩, fun z4 => ⟨k0, put (fun hk => ?_) (fun q => z4 (ex.trans q.2.2))⟩⟩
    have rt := rk_lvl (mI M36 (r + 1) (k - 1))
    have t := ht hk
    rw [if_pos (by omega)] at t
    omega

theorem x_RR_takeAsk (h : RB M z r w T A B D N C n p O P K) (g : RG M r p O P n s V F ns d0 H L k a 0) (han : a < n) (hat : 0 < k → lvl (mI M (r + 1) (k - 1)) = 0) : Ci G y_RR_takeAsk (d + 1) [vr r] M (fun x M' => sgQ M z r w T A B D N C n p O P K s V F ns d0 H L k a x M' ∧ akE M r p O P B k (skk M r k) L a x M') := by
  have rm := g.room
  obtain ⟨oO, oP, op, e1, e2, e3⟩ := h.off
  replace oO : Hid0 _ := oO
  replace oP : Hid0 _ := oP
  replace op : Hid0 _ := op
  replace e1 : Hid0 _ := e1
  replace e2 : Hid0 _ := e2
  replace e3 : Hid0 _ := e3
  have hwN := h.2.2.2.1.2.2.1
  have hN := h.2.2.2.1.1.2.2.2.2.2.2.1
  have hK := h.2.2.2.2.2.2
  have cd : cdp 33 = 1 := rfl
  have ck : ckk 33 = 0 := rfl
  obtain ⟨⟨g1, g2, g3, g4⟩, -, -, gc, ⟨gd, gd4⟩, -, -, -, -, gL, gt⟩ := id g
  have u0 : uw 0 = 1 := rfl
  refine k_RR_takeAsk h.1 ⟨h.2.1.1, fun y => ⟨⟨h, FI.refl, fun _ _ _ _ _ _ => rfl, fun _ _ _ => rfl, fun _ _ => rfl, fun _ _ => ⟨rfl, rfl⟩, Or.inl ⟨rfl, rfl⟩⟩, Or.inl ⟨rfl, by omega⟩⟩, fun y => ⟨⟨by omega, by omega⟩, fun M8 e8 => ?_⟩⟩
  have d40 : d0 + sdp M r k < 40 := by omega
  obtain ⟨h8, f8, r8, n8⟩ := rb_fld h ⟨by omega, by omega⟩ e8
  refine (x_RR_popKind (c := skk M r k) h8 (by rw [r8, if_neg (by decide), gc]; omega) (by omega)).mono (fun x11 M10 q => ?_)
  obtain ⟨⟨hx, hx2⟩, h10, f10, r10⟩ := q
  have hx3 : x11 = mI M (r + 5) (skk M r k) := by rw [n8 (r + 5) (by omega)] at hx2; exact hx2 (gt _)
  have n10 : ∀ b, b ≠ r → mI M10 b = mI M b := fun b hb => by rw [f10.2.2.2.2.2.2 b hb, n8 b hb]
  have R10 : ∀ i, mI M10 r i = if i = 14 then ((skk M r k : Nat) : Int) else if i = 5 then ((d0 + sdp M r k + 1 : Nat) : Int) else mI M r i := fun i => by
    rw [r10]
    by_cases y14 : i = 14
    · rw [if_pos y14, if_pos y14]
    · rw [if_neg y14, if_neg y14, r8]
      by_cases y5 : i = 5
      · rw [if_pos y5, if_pos y5, gd]
        omega
      · rw [if_neg y5, if_neg y5]
  have F10 : FI (rdS r p O P) M M10 := f8.trans (f10.mono (fun b q => Or.inl ⟨by omega, by omega⟩))
  refine ⟨i32s (by omega) (by omega), h10.1, fun v14 e14 => ⟨h10.2.1.1, (s_RR_here (a := a) h10 (by rw [R10, if_neg (by decide), if_neg (by decide)]; exact g1) (by omega)).mono (fun x21 M20 q => ?_)⟩⟩
  obtain ⟨e20, x21v, x0, x1⟩ := q
  subst e20
  have b14 : v14 = 0 ∨ v14 = 1 := by rw [e14]; split <;> omega
  obtain ⟨-, -, ⟨-, rp1⟩, -, hPK, -⟩ := id h10
  rw [rp1]
  refine ⟨i32s (by omega) (by omega), h10.1, h10.2.1.1, hPK.1, (s_Pr_add (n := L) (i32s (by omega) (by omega)) (i32s (by omega) (by omega)) h10.1 hPK (by rw [n10 p (by first | exact op | exact off0 op | exact off9 op (by decide) | exact off4 op | exact fun q => e1 q.symm | exact fun q => e2 q.symm | omega)]; exact g4) (by omega)).mono (fun x26 M25 q => ?_)⟩
  obtain ⟨ex, o25, f25, p25, q25, u25⟩ := q
  have f25' : FI (rdS r p O P) M20 M25 := f25.mono (fun b q => Or.inr q)
  have h25 := h10.fi o25 f25'
  have Y : ∀ b, r ≤ b → b ≤ r + 9 → mI M25 b = mI M20 b := fun b y1 y2 => f25.2.2.2.2.2.2 b (fun q => by
    have q' : b = p ∨ b = O ∨ b = P := q
    first | exact off3 op oO oP (by assumption) (by assumption) q' | omega)
  refine ⟨⟨by omega, by omega⟩, o25, h25.2.1.1, (s_RR_push (k := k) (a := a) (i32s (by omega) (by omega)) (i32s (by omega) (by omega)) ⟨by omega, by omega⟩ h25 (by rw [Y r (by omega) (by omega), R10, if_neg (by decide), if_neg (by decide)]; exact g2) (by omega) (by rw [Y r (by omega) (by omega), R10, if_neg (by decide), if_neg (by decide)]; exact g1) (by omega)).mono (fun M29 q => ?_)⟩
  obtain ⟨h29, f29, r29, t1, t2, t3, t4⟩ := q
  have Z : ∀ b, (b < r ∨ r + 4 < b) → mI M29 b = mI M25 b := fun b hb => f29.2.2.2.2.2.2 b (fun q => by have q' : r ≤ b ∧ b ≤ r + 4 := q; omega)
  have f29' : FI (rdS r p O P) M25 M29 := f29.mono (fun b q => Or.inl (by have q' : r ≤ b ∧ b ≤ r + 4 := q; omega))
  have e12 : mI M29 r 12 = (k : Int) + 1 := by rw [r29, if_neg (by decide), if_neg (by decide), if_pos rfl]
  obtain ⟨-, ⟨k0', ⟨-, -, -, q11, -⟩, ⟨-, -, -, kk4, -⟩, ⟨-, -, -, nn4, -⟩⟩, -⟩ := id h29
  rw [q11, nn4, e12, show ((k : Int) + 1 - 1).toNat = k by first | rfl | omega]
  refine ⟨h29.1, k0', kk4, by omega, fun M35 e35 => ?_⟩
  obtain ⟨h35, f35, g35, n35⟩ := rb_tab h29 (i := 4) (by omega) (by omega) (i32s (by omega) (by omega)) e35
  have W : ∀ b, (b < r ∨ r + 4 < b) → mI M35 b = mI M25 b := fun b hb => by rw [n35 b (by omega), Z b hb]
  have S35 : ∀ i, i ≠ 2 → i ≠ 5 → i ≠ 7 → i ≠ 12 → i ≠ 14 → mI M35 r i = mI M r i := fun i i2 i5 i7 i12 i14 => by rw [n35 r (by omega), r29, if_neg i2, if_neg i7, if_neg i12, Y r (by omega) (by omega), R10, if_neg i14, if_neg i5]
  have hB : mI M20 B = mI M B := n10 B (fun q => h.2.2.2.2.2.1.2.2 B (by omega) (by omega))
  refine ⟨⟨h35, ((F10.trans f25').trans f29').trans f35, fun i i2 i5 i7 i12 i14 => by rw [n35 r (by omega), r29, if_neg i2, if_neg i7, if_neg i12, Y r (by omega) (by omega), R10, if_neg i14, if_neg i5], fun i i6 i9 => by rw [W (r + i) (by omega), Y (r + i) (by omega) (by omega), n10 (r + i) (by omega)], fun i i2 => by rw [W p (by first | exact op | exact off0 op | exact off9 op (by decide) | exact off4 op | exact fun q => e1 q.symm | exact fun q => e2 q.symm | omega), p25, if_neg i2, n10 p (by first | exact op | exact off0 op | exact off9 op (by decide) | exact off4 op | exact fun q => e1 q.symm | exact fun q => e2 q.symm | omega)], fun i hi => ⟨by rw [W O (by first | exact oO | exact off0 oO | exact off9 oO (by decide) | exact off4 oO | exact e1 | exact e3 | omega), q25, if_neg (by omega), n10 O (by first | exact oO | exact off0 oO | exact off9 oO (by decide) | exact off4 oO | exact e1 | exact e3 | omega)], by rw [W P (by first | exact oP | exact off0 oP | exact off9 oP (by decide) | exact off4 oP | exact e2 | exact fun q => e3 q.symm | omega), u25, if_neg (by omega), n10 P (by first | exact oP | exact off0 oP | exact off9 oP (by decide) | exact off4 oP | exact e2 | exact fun q => e3 q.symm | omega)]⟩, Or.inr ⟨rfl, ?_⟩⟩, Or.inr ⟨rfl, by omega, ⟨⟨by rw [n35 r (by omega)]; exact e12, by rw [n35 r (by omega), r29, if_neg (by decide), if_neg (by decide), if_neg (by decide), Y r (by omega) (by omega), R10, if_neg (by decide), if_pos rfl, gd]; omega, S35 3 (by decide) (by decide) (by decide) (by decide) (by decide), S35 4 (by decide) (by decide) (by decide) (by decide) (by decide), by rw [n35 r (by omega), r29, if_neg (by decide), if_neg (by decide), if_neg (by decide), Y r (by omega) (by omega), R10, if_pos rfl]⟩, fun i => by rw [n35 (r + 1) (by omega), t1, Y (r + 1) (by omega) (by omega), n10 (r + 1) (by omega)], fun i => by rw [n35 (r + 2) (by omega), t2, Y (r + 2) (by omega) (by omega), n10 (r + 2) (by omega), x21v, hB], fun i => by rw [n35 (r + 3) (by omega), t3, Y (r + 3) (by omega) (by omega), n10 (r + 3) (by omega), ex], fun i => ?_, by rw [W (r + 5) (by omega), Y (r + 5) (by omega) (by omega), n10 (r + 5) (by omega)]⟩, fun i => by rw [W O (by first | exact oO | exact off0 oO | exact off9 oO (by decide) | exact off4 oO | exact e1 | exact e3 | omega), q25, n10 O (by first | exact oO | exact off0 oO | exact off9 oO (by decide) | exact off4 oO | exact e1 | exact e3 | omega)], by rw [W p (by first | exact op | exact off0 op | exact off9 op (by decide) | exact off4 op | exact fun q => e1 q.symm | exact fun q => e2 q.symm | omega), p25, if_pos rfl]⟩⟩
  rotate_left
  · rw [g35]
    by_cases yk : i = k
    · rw [if_pos yk, if_pos yk, e14, hx3]
      have := gt (skk M r k)
      (repeat' split) <;> omega
    · rw [if_neg yk, if_neg yk, t4, if_neg yk, Y (r + 4) (by omega) (by omega), n10 (r + 4) (by omega)]
  obtain ⟨H', gg, hh⟩ := g.pshj (M' := M35) (o := 33) (pl := x21) (mk := v14) (dd := d0 + sdp M r k + 1) (c' := skk M r k) (fun i => by
    rw [n35 r (by omega), r29, Y r (by omega) (by omega), R10]
    by_cases y5 : i = 5
    · subst y5
      rw [if_neg (by decide), if_neg (by decide), if_neg (by decide), if_neg (by decide), if_pos rfl, if_neg (by decide), if_neg (by decide), if_neg (by decide), if_pos rfl]
    · rw [if_neg y5, if_neg y5]) (fun i => by rw [n35 (r + 1) (by omega), t1, Y (r + 1) (by omega) (by omega), n10 (r + 1) (by omega)]) (fun i => by rw [n35 (r + 2) (by omega), t2, Y (r + 2) (by omega) (by omega), n10 (r + 2) (by omega)]) (fun i => by rw [n35 (r + 3) (by omega), t3, Y (r + 3) (by omega) (by omega), n10 (r + 3) (by omega), ex]) (fun i => by
    rw [g35]
    by_cases yk : i = k
    · rw [if_pos yk, if_pos yk]
    · rw [if_neg yk, if_neg yk, t4, if_neg yk, Y (r + 4) (by omega) (by omega), n10 (r + 4) (by omega)]) (fun j => by rw [W (r + 5) (by omega), Y (r + 5) (by omega) (by omega), n10 (r + 5) (by omega)]; exact gt j) (by rw [W p (by first | exact op | exact off0 op | exact off9 op (by decide) | exact off4 op | exact fun q => e1 q.symm | exact fun q => e2 q.symm | omega), p25, if_pos rfl]) (fun i => by rw [W O (by first | exact oO | exact off0 oO | exact off9 oO (by decide) | exact off4 oO | exact e1 | exact e3 | omega), q25, n10 O (by first | exact oO | exact off0 oO | exact off9 oO (by decide) | exact off4 oO | exact e1 | exact e3 | omega)]) (fun i => by rw [W P (by first | exact oP | exact off0 oP | exact off9 oP (by decide) | exact off4 oP | exact e2 | exact fun q => e3 q.symm | omega), u25, n10 P (by first | exact oP | exact off0 oP | exact off9 oP (by decide) | exact off4 oP | exact e2 | exact fun q => e3 q.symm | omega)]) (by omega) ⟨x0, x1⟩ ⟨by omega, by omega⟩ (by omega) (by omega) (g.lvl (Or.inl cd)) (by omega) han (fun _ _ j hj => by rw [n35 (r + 1) (by omega), t1, if_neg (by omega), Y (r + 1) (by omega) (by omega), n10 (r + 1) (by omega), show j = k - 1 by first | rfl | omega]; exact hat (by omega))
  exact ⟨H', L + 1, gg, by omega, hh⟩

end RX4
end
end
section
/-! The class's reader: what closes, exactly. -/
/-- the reader's state at word a, whatever is wanted -/
def RWx (u : Ru) (M : mM) (r p O P s a : Nat) : Prop := ∀ L' : Nat, mI M p 2 = L' → (mI M r 7 = 0 → RW0 u M r O P s 0 0 L' a) ∧ (mI M r 7 = 1 → RW1 u M r O P s L' a)
/-- a step: refused, or the next state -/
def clV (u : Ru) (r p O P s a : Nat) (x : Int) (M' : mM) : Prop := (x = 2 ∧ Rf (ruW u) (uS u) (uK u) a) ∨ (x = 0 ∧ RWx u M' r p O P s (a + 1))
/-- kept out of arithmetic -/
def Hid (p : Prop) : Prop := p
theorem ho_c {o : Int} (ho : o = 15 ∨ o = 16) : ¬ (19 ≤ o ∧ o ≤ 29) := by omega
theorem ho_k {o : Int} (ho : o = 15 ∨ o = 16) : ¬ (19 ≤ o ∧ o ≤ 31) := by omega
theorem ho_e {o : Int} (ho : o = 15 ∨ o = 16) : ¬ ((19 ≤ o ∧ o ≤ 29) ∨ o = 40 ∨ o = 41) := by omega
theorem ho_j {o : Int} (ho : o = 15 ∨ o = 16) : ¬ jm o := by unfold jm; omega
theorem ho_d {o : Int} (ho : o = 15 ∨ o = 16) : o = 15 ∨ o = 16 ∨ o = 33 ∨ o = 37 ∨ o = 40 ∨ o = 41 ∨ o = 42 := ho.elim (fun e => Or.inl e) (fun e => Or.inr (Or.inl e))
theorem dcan (a b : Nat) : ((a + b : Nat) : Int) = ((a + (b + 1) : Nat) : Int) - 1 := by omega
section RX5
variable {G : mG} {d z r w T A B D N C n p O P K k a s L V F d0 c : Nat} {M0 M M' M1 M2 M110 M126 M133 : mM} {H H' : Nat → Nat} {ns : Nat → Int} {wt : Int} {u : Ru} {c9 c8 L1 : Nat} {H1 : Nat → Nat}

theorem RW0.m33 (v : RW0 u M r O P s c9 c8 L a) (hw : ruW u a = 33) (hc : c9 ≤ 6) (hk : mI M r 12 = (k : Int) + 1) (ho : mI M (r + 1) k = 33) : mI M (r + 4) k = 0 ∨ mI M (r + 4) k = 1 := by
  obtain ⟨m, x, t, od, mq, kn, ft, e, q1, q2, q3⟩ := v.cases hk ho
  subst e
  obtain ⟨d9, od', k9, mq', last, kn', e1, e2, e3, hl, hdL, g⟩ := q2.colon hw hc
  subst e1 e2 e3
  obtain ⟨-, -, -, p4, -⟩ := q1.hd
  rw [p4]
  exact hl.2
theorem RW0.m15 {o : Int} (v : RW0 u M r O P s c9 c8 L a) (hc : c9 ≤ 6) (hk : mI M r 12 = (k : Int) + 1) (ho : mI M (r + 1) k = o) (ho2 : o = 15 ∨ o = 16) : mI M (r + 4) k = 0 ∨ mI M (r + 4) k = 2 ∨ mI M (r + 4) k = 3 := by
  obtain ⟨m, x, t, od, mq, kn, ft, e, q1, q2, q3⟩ := v.cases hk ho
  subst e
  obtain ⟨od', k9, mq', last, kn', e1, e2, e3, hl, g⟩ := q2.part ho2 hc
  subst e1 e2 e3
  obtain ⟨-, -, -, p4, -⟩ := q1.hd
  rw [p4]
  exact hl.2
theorem or_4 {m l v : Int} (hm : m = 0 ∨ m = 1) (hl : l = 0 ∨ l = 1) (hv : v = if l = 0 then 0 else 4) : orI m v = m + if l = 1 then 4 else 0 := by
  rcases hm with e | e <;> rcases hl with f | f <;> subst e <;> subst f <;> subst hv <;> decide
theorem or_3 {m l v : Int} (hm : m = 0 ∨ m = 2 ∨ m = 3) (hl : l = 0 ∨ l = 1) (hv : v = if l = 0 then 0 else 1) : orI m (orI 2 v) = (if m = 3 ∨ l = 1 then 3 else 2) ∧ (andI (orI m (orI 2 v)) 1 = 0 ↔ ¬ (m = 3 ∨ l = 1)) := by
  rcases hm with e | e | e <;> rcases hl with f | f <;> subst e <;> subst f <;> subst hv <;> decide
theorem x_ciOpen (h : RB M z r w T A B D N C n p O P K) (g : RG M r p O P n s V F ns d0 H L (k + 1) a 0) (han : a < n) (ho : mI M (r + 1) k = 37) (v : RW0 u M r O P s c9 c8 L a) (hw : ruW u a = 37) (hc9 : c9 ≤ 6) : h_RR_closeInner_165 G d r k 0 0 M (fun x M' => cliQ M z r w T A B D N C n p O P K s V F ns d0 L a x M' ∧ clV u r p O P s a x M') := by
  have rm := g.room
  have hwN := h.2.2.2.1.2.2.1
  have hN := h.2.2.2.1.1.2.2.2.2.2.2.1
  obtain ⟨oO, oP, op, e1, e2, e3⟩ := h.off
  replace oO : Hid0 _ := oO
  replace oP : Hid0 _ := oP
  replace op : Hid0 _ := op
  replace e1 : Hid0 _ := e1
  replace e2 : Hid0 _ := e2
  replace e3 : Hid0 _ := e3
  obtain ⟨b1, b2, b3, b4⟩ := sum_top M r k
  have u0 : uw 0 = 1 := rfl
  have cd : cdp (mI M (r + 1) k) = 1 := by unfold cdp; rw [if_pos (by omega)]
  have ck : ckk (mI M (r + 1) k) = 0 := by unfold ckk; rw [if_neg (by omega)]
  have c0 : cm (mI M (r + 1) k) (mI M (r + 4) k) = 0 := by unfold cm; rw [if_neg (by omega), if_neg (by omega)]
  have nj : ¬ jm (mI M (r + 1) k) := by unfold jm; omega
  rw [cd] at b4
  rw [ck] at b2
  rw [c0] at b1
  obtain ⟨⟨g1, g2, g3, g4⟩, -, ⟨-, gs⟩, gc, ⟨gd, gd4⟩, -, -, ⟨gH, gHs⟩, gC, gL, gt⟩ := id g
  refine k_RR_closeInner_165 h.1 ⟨by omega, by omega⟩ (i32s (by omega) (by omega)) (i32s (by omega) (by omega)) ⟨fun _ => ⟨fun _ => ⟨fun _ => ?_, fun y => absurd rfl y⟩, fun y => absurd (Or.inl rfl) y⟩, fun y => absurd rfl y⟩
  refine s_ciPop (a := a) (k := k) (e := d0 + sdp M r k) h g1 (by omega) g2 (by omega) (by rw [gd, b4]; rfl) (by omega) (fun M' h' f' g' n' => ?_)
  have nt : ∀ i, 1 ≤ i → mI M' (r + i) = mI M (r + i) := fun i hi => n' (r + i) (by omega)
  have zO : mI M' O = mI M O := n' O (by first | exact oO | exact off0 oO | exact off9 oO (by decide) | exact off4 oO | exact e1 | exact e3 | omega)
  have zP : mI M' P = mI M P := n' P (by first | exact oP | exact off0 oP | exact off9 oP (by decide) | exact off4 oP | exact e2 | exact fun q => e3 q.symm | omega)
  have zp : mI M' p = mI M p := n' p (by first | exact op | exact off0 op | exact off9 op (by decide) | exact off4 op | exact fun q => e1 q.symm | exact fun q => e2 q.symm | omega)
  refine ⟨⟨h', f', fun i i2 i3 i4 i5 i7 i12 i14 => by rw [g', if_neg i2, if_neg i7, if_neg i5, if_neg i12], fun _ => by rw [g', if_neg (by decide), if_neg (by decide), if_neg (by decide), if_neg (by decide)], fun i i6 i9 => nt i (by omega), fun i _ => by rw [n' p (by first | exact op | exact off0 op | exact off9 op (by decide) | exact off4 op | exact fun q => e1 q.symm | exact fun q => e2 q.symm | omega)], fun i _ => by rw [n' O (by first | exact oO | exact off0 oO | exact off9 oO (by decide) | exact off4 oO | exact e1 | exact e3 | omega), n' P (by first | exact oP | exact off0 oP | exact off9 oP (by decide) | exact off4 oP | exact e2 | exact fun q => e3 q.symm | omega)]; exact ⟨rfl, rfl⟩, Or.inr ⟨rfl, H, L, k, 0, ?_, Nat.le_refl _⟩⟩, Or.inr ⟨rfl, fun L9 hL9 => ⟨fun _ => ?_, fun q => absurd q (by rw [g', if_neg (by decide), if_pos rfl]; decide)⟩⟩⟩
  rotate_left
  · have e9 : L9 = L := by rw [zp, g4] at hL9; exact (Int.ofNat_inj.mp hL9).symm
    rw [e9]
    exact v.par (k := k) hw hc9 (by rw [g2]; rfl) ho (by rw [g', if_neg (by decide), if_neg (by decide), if_neg (by decide), if_pos rfl]) (by rw [g', if_neg (by decide), if_neg (by decide), if_pos rfl, gd, b4]; exact dcan _ _) (by rw [g', if_neg (by decide), if_neg (by decide), if_neg (by decide), if_neg (by decide)]) (by rw [g', if_neg (by decide), if_neg (by decide), if_neg (by decide), if_neg (by decide)]) (by rw [g', if_neg (by decide), if_neg (by decide), if_neg (by decide), if_neg (by decide)]) (fun i i1 _ => nt i i1) (nt 5 (by decide)) zO zP
  refine g.popc ⟨by rw [g', if_pos rfl], by rw [g', if_neg (by decide), if_neg (by decide), if_neg (by decide), if_pos rfl], by rw [g', if_neg (by decide), if_pos rfl], by rw [g', if_neg (by decide), if_neg (by decide), if_neg (by decide), if_neg (by decide), gc, b2]; omega, by rw [g', if_neg (by decide), if_neg (by decide), if_pos rfl]⟩ (fun j _ => by rw [nt 1 (by omega)]) (fun j _ => by rw [nt 2 (by omega)]) (fun j _ => by rw [nt 3 (by omega)]) (fun j _ => by rw [nt 4 (by omega)]) (fun j => by rw [nt 5 (by omega)]; exact gt j) (by rw [n' p (by first | exact op | exact off0 op | exact off9 op (by decide) | exact off4 op | exact fun q => e1 q.symm | exact fun q => e2 q.symm | omega)]; exact g4) (Nat.le_refl _) (fun j _ => by rw [n' O (by first | exact oO | exact off0 oO | exact off9 oO (by decide) | exact off4 oO | exact e1 | exact e3 | omega)]) (fun _ _ => rfl) (by omega) gHs (fun pc p0 p1 => ?_) (by omega) han
  rw [n' O (by first | exact oO | exact off0 oO | exact off9 oO (by decide) | exact off4 oO | exact e1 | exact e3 | omega), n' P (by first | exact oP | exact off0 oP | exact off9 oP (by decide) | exact off4 oP | exact e2 | exact fun q => e3 q.symm | omega)]
  obtain ⟨a1, a2, a3⟩ := gC pc p0 p1
  refine ⟨a1, fun q => ?_, a3⟩
  rcases a2 q with ⟨j, j1, j2, j3⟩ | v
  · have jk : j ≠ k := fun y => nj (by rw [← y]; exact j3)
    exact Or.inl ⟨j, by omega, by rw [nt 3 (by omega)]; exact j2, by rw [nt 1 (by omega)]; exact j3⟩
  · exact Or.inr v

theorem x_ciElse (h : RB M z r w T A B D N C n p O P K) (g : RG M r p O P n s V F ns d0 H L (k + 1) a 0) (han : a < n) (ho : mI M (r + 1) k = 33) (v : RW0 u M r O P s c9 c8 L a) (hw : ruW u a = 33) (hc9 : c9 ≤ 6) : mK M (r + 4) = 30 ∧ ((0 : Int) ≤ (k : Int) ∧ (k : Int) < (mN M (r + 4) : Int)) ∧ Ci G y_RR_popKind d [vr r] M (fun x40 M39 => i32 x40 ∧ mOk M39 ∧ (∀ v43 : Int, v43 = (if (x40 = 0) then 0 else 4) → mK M39 (r + 4) = 30 ∧ ((0 : Int) ≤ (k : Int) ∧ (k : Int) < (mN M39 (r + 4) : Int)) ∧ ∀ M49, M49 = mUI M39 (r + 4) k (orI (mI M (r + 4) k) v43) → mK M49 r = 4 ∧ mK M49 (mR M49 r 1) = 6 ∧ Ci G y_Pr_add d [vr (mR M49 r 1), vi 42, vi 0] M49 (fun x54 M53 => i32 x54 ∧ mOk M53 ∧ (mK M53 r = 4 ∧ mK M53 (mR M53 r 1) = 6 ∧ mK M53 (mR M53 r 10) = 30 ∧ ((0 : Int) ≤ (k : Int) ∧ (k : Int) < (mN M53 (mR M53 r 10) : Int)) ∧ mK M53 (mR M53 (mR M53 r 1) 1) = 30 ∧ ((0 : Int) ≤ mI M53 (mR M53 r 10) k ∧ mI M53 (mR M53 r 10) k < (mN M53 (mR M53 (mR M53 r 1) 1) : Int)) ∧ ∀ M62, M62 = mUI M53 (mR M53 (mR M53 r 1) 1) (Int.toNat (mI M53 (mR M53 r 10) k)) (mI M53 (mR M53 r 1) 2) → mK M62 (mR M62 r 10) = 30 ∧ ((0 : Int) ≤ (k : Int) ∧ (k : Int) < (mN M62 (mR M62 r 10) : Int)) ∧ ∀ M66, M66 = mUI M62 (mR M62 r 10) k x54 → mK M66 (mR M66 r 8) = 30 ∧ ((0 : Int) ≤ (k : Int) ∧ (k : Int) < (mN M66 (mR M66 r 8) : Int)) ∧ ∀ M70, M70 = mUI M66 (mR M66 r 8) k 42 → h_RR_closeInner_165 G d r k 0 1 M70 (fun x M' => cliQ M z r w T A B D N C n p O P K s V F ns d0 L a x M' ∧ clV u r p O P s a x M'))))) := by
  have rm := g.room
  have hwN := h.2.2.2.1.2.2.1
  have hN := h.2.2.2.1.1.2.2.2.2.2.2.1
  have hK := h.2.2.2.2.2.2
  obtain ⟨oO, oP, op, e1, e2, e3⟩ := h.off
  replace oO : Hid0 _ := oO
  replace oP : Hid0 _ := oP
  replace op : Hid0 _ := op
  replace e1 : Hid0 _ := e1
  replace e2 : Hid0 _ := e2
  replace e3 : Hid0 _ := e3
  obtain ⟨b1, b2, b3, b4⟩ := sum_top M r k
  have u0 : uw 0 = 1 := rfl
  have z1 : cdp 33 = 1 := rfl
  have z2 : ckk 33 = 0 := rfl
  have z3 : cee 33 = 0 := rfl
  have z4 : ∀ m, cm 33 m = 0 := fun m => by unfold cm; rw [if_neg (by omega), if_neg (by omega)]
  have z5 : ∀ m, cm 42 m = 0 := fun m => by unfold cm; rw [if_neg (by omega), if_neg (by omega)]
  rw [ho] at b1 b2 b3 b4
  rw [z4] at b1
  obtain ⟨⟨g1, g2, g3, g4⟩, -, ⟨-, gs⟩, gc, ⟨gd, gd4⟩, -, ge, ⟨gH, gHs⟩, gC, gL, gt⟩ := id g
  have kk14 : mI M r 14 = ((skk M r k : Nat) : Int) + 1 := by rw [gc, b2, z2, u0]; omega
  have m01 : Hid (mI M (r + 4) k = 0 ∨ mI M (r + 4) k = 1) := v.m33 (k := k) hw hc9 (by rw [g2]; rfl) ho
  obtain ⟨en1, en2, en3, en4, en5, -, en7⟩ := ge k (by omega)
  obtain ⟨t, t1, t2, t3, t4, t5, t6⟩ := en5 (by rw [ho]; exact Or.inr (Or.inr (Or.inl rfl)))
  rw [ho] at t4
  have pl : ∀ {Mx : mM}, RB Mx z r w T A B D N C n p O P K → (mR Mx r 8 = r + 1 ∧ mR Mx r 10 = r + 3) ∧ (mK Mx (r + 1) = 30 ∧ mK Mx (r + 3) = 30 ∧ mK Mx (r + 4) = 30) ∧ (mN Mx (r + 1) = 336 ∧ mN Mx (r + 3) = 336 ∧ mN Mx (r + 4) = 336) ∧ (mR Mx r 1 = p ∧ mR Mx p 1 = P ∧ mK Mx P = 30 ∧ mN Mx P = K) := fun hx => by
    obtain ⟨-, ⟨-, ⟨a1, a2, a3, a4, -⟩, ⟨b1, b2, b3, b4, -⟩, ⟨c1, c2, c3, c4, -⟩⟩, ⟨-, r1⟩, -, ⟨-, ⟨-, p1⟩, ⟨-, p2, -, p3⟩, -⟩, -⟩ := hx
    exact ⟨⟨a1, a3⟩, ⟨b1, b3, b4⟩, ⟨c1, c3, c4⟩, r1, p1, p2, p3⟩
  refine ⟨(pl h).2.1.2.2, by rw [(pl h).2.2.1.2.2]; omega, (x_RR_popKind (c := skk M r k) h (by rw [gc, b2, z2]; omega) (by omega)).mono (fun x40 M39 q => ?_)⟩
  obtain ⟨⟨hx, hx2⟩, h39, f39, r39⟩ := q
  have hx3 := hx2 (gt _)
  clear hx2
  have n39 : ∀ b, b ≠ r → mI M39 b = mI M b := fun b hb => f39.2.2.2.2.2.2 b hb
  have f39' : FI (rdS r p O P) M M39 := f39.mono (fun b q => Or.inl ⟨by omega, by omega⟩)
  refine ⟨i32s (by omega) (by omega), h39.1, fun v43 e43 => ⟨(pl h39).2.1.2.2, by rw [(pl h39).2.2.1.2.2]; omega, fun M49 e49 => ?_⟩⟩
  have b43 : v43 = 0 ∨ v43 = 4 := by rw [e43]; split <;> omega
  have mb := mk_or4 en3 b43
  have m4 : Hid (orI (mI M (r + 4) k) v43 = mI M (r + 4) k + if mI M (r + 5) (skk M r k) = 1 then 4 else 0) := or_4 (v := v43) m01 (gt (skk M r k)) (by rw [← hx3]; exact e43)
  obtain ⟨h49, f49, g49, n49⟩ := rb_tab h39 (i := 4) (by omega) (by omega) (i32s (by omega) (by omega)) e49
  have hPK := h49.2.2.2.2.1
  rw [(pl h49).2.2.2.1]
  refine ⟨h49.2.1.1, hPK.1, (s_Pr_add (n := L) (i32s (by omega) (by omega)) (i32s (by omega) (by omega)) h49.1 hPK (by rw [n49 p (by first | exact op | exact off0 op | exact off9 op (by decide) | exact off4 op | exact fun q => e1 q.symm | exact fun q => e2 q.symm | omega), n39 p (by first | exact op | exact off0 op | exact off9 op (by decide) | exact off4 op | exact fun q => e1 q.symm | exact fun q => e2 q.symm | omega)]; exact g4) (by omega)).mono (fun x54 M53 q => ?_)⟩
  obtain ⟨ex, o53, f53, p53, q53, u53⟩ := q
  have f53' : FI (rdS r p O P) M49 M53 := f53.mono (fun b q => Or.inr q)
  have h53 := h49.fi o53 f53'
  have Y : ∀ b, r ≤ b → b ≤ r + 9 → mI M53 b = mI M49 b := fun b y1 y2 => f53.2.2.2.2.2.2 b (fun q => by
    have q' : b = p ∨ b = O ∨ b = P := q
    first | exact off3 op oO oP (by assumption) (by assumption) q' | omega)
  have o3 : mI M53 (r + 3) k = t := by rw [Y (r + 3) (by omega) (by omega), n49 (r + 3) (by omega), n39 (r + 3) (by omega)]; exact t1
  have KK := hPK.2.2.2.2.2.1
  rw [(pl h53).2.2.2.1, (pl h53).1.2, (pl h53).2.2.2.2.1, (pl h53).2.2.2.2.2.2, (pl h53).2.2.1.2.1, o3, Int.toNat_natCast, p53, if_pos rfl]
  refine ⟨⟨by omega, by omega⟩, o53, h53.2.1.1, h53.2.2.2.2.1.1, (pl h53).2.1.2.1, by omega, (pl h53).2.2.2.2.2.1, by omega, fun M62 e62 => ?_⟩
  have f62 : FI (rdS r p O P) M53 M62 := by rw [e62]; exact FI.ui (Or.inr (Or.inr (Or.inr rfl)))
  have h62 := h53.fi (by rw [e62]; exact mOk_UI o53 ⟨by omega, by omega⟩) f62
  have n62 : ∀ b, b ≠ P → mI M62 b = mI M53 b := fun b hb => by rw [e62]; funext i; rw [mI_UI, if_neg (fun q => hb q.1)]
  rw [(pl h62).1.2, (pl h62).2.2.1.2.1]
  refine ⟨(pl h62).2.1.2.1, by omega, fun M66 e66 => ?_⟩
  obtain ⟨h66, f66, g66, n66⟩ := rb_tab h62 (i := 3) (by omega) (by omega) (by rw [ex]; exact ⟨by omega, by omega⟩) e66
  rw [(pl h66).1.1, (pl h66).2.2.1.1]
  refine ⟨(pl h66).2.1.1, by omega, fun M70 e70 => ?_⟩
  obtain ⟨h70, f70, g70, n70⟩ := rb_tab h66 (i := 1) (by omega) (by omega) (i32s (by omega) (by omega)) e70
  have r70 : mI M70 r = mI M39 r := by rw [n70 r (by omega), n66 r (by omega), n62 r (by first | exact fof0 oP | omega), Y r (by omega) (by omega), n49 r (by omega)]
  refine k_RR_closeInner_165 h70.1 ⟨by omega, by omega⟩ (i32s (by omega) (by omega)) (i32s (by omega) (by omega)) ⟨fun _ => ⟨fun _ => ⟨fun y => absurd y (by omega), fun _ => ?_⟩, fun y => absurd (Or.inl rfl) y⟩, fun y => absurd rfl y⟩
  refine s_ci286 (a := a) (Or.inr rfl) h70 (by rw [r70, r39, if_neg (by decide)]; exact g1) (by omega) (fun M' h' f' g' n' => ?_)
  have x1 : ∀ j, mI M' (r + 1) j = if j = k then 42 else mI M (r + 1) j := fun j => by
    rw [n' (r + 1) (by omega), g70, n66 (r + 1) (by omega), n62 (r + 1) (by first | exact fof9 oP (by decide) | omega), Y (r + 1) (by omega) (by omega), n49 (r + 1) (by omega), n39 (r + 1) (by omega)]
  have x2 : mI M' (r + 2) = mI M (r + 2) := by
    rw [n' (r + 2) (by omega), n70 (r + 2) (by omega), n66 (r + 2) (by omega), n62 (r + 2) (by first | exact fof9 oP (by decide) | omega), Y (r + 2) (by omega) (by omega), n49 (r + 2) (by omega), n39 (r + 2) (by omega)]
  have x3 : ∀ j, mI M' (r + 3) j = if j = k then (L : Int) else mI M (r + 3) j := fun j => by
    rw [n' (r + 3) (by omega), n70 (r + 3) (by omega), g66, n62 (r + 3) (by first | exact fof9 oP (by decide) | omega), Y (r + 3) (by omega) (by omega), n49 (r + 3) (by omega), n39 (r + 3) (by omega), ex]
  have x4 : ∀ j, mI M' (r + 4) j = if j = k then orI (mI M (r + 4) k) v43 else mI M (r + 4) j := fun j => by
    rw [n' (r + 4) (by omega), n70 (r + 4) (by omega), n66 (r + 4) (by omega), n62 (r + 4) (by first | exact fof9 oP (by decide) | omega), Y (r + 4) (by omega) (by omega), g49, n39 (r + 4) (by omega)]
  have x5 : ∀ i, 5 ≤ i → i ≤ 9 → mI M' (r + i) = mI M (r + i) := fun i i5 i9 => by
    rw [n' (r + i) (by omega), n70 (r + i) (by omega), n66 (r + i) (by omega), n62 (r + i) (by first | exact fof9 oP (by assumption) | omega), Y (r + i) (by omega) (by omega), n49 (r + i) (by omega), n39 (r + i) (by omega)]
  have xp : ∀ i, mI M' p i = if i = 2 then (L : Int) + 1 else mI M p i := fun i => by
    rw [n' p (by first | exact op | exact off0 op | exact off9 op (by decide) | exact off4 op | exact fun q => e1 q.symm | exact fun q => e2 q.symm | omega), n70 p (by first | exact op | exact off0 op | exact off9 op (by decide) | exact off4 op | exact fun q => e1 q.symm | exact fun q => e2 q.symm | omega), n66 p (by first | exact op | exact off0 op | exact off9 op (by decide) | exact off4 op | exact fun q => e1 q.symm | exact fun q => e2 q.symm | omega), n62 p (by first | exact op | exact off0 op | exact off9 op (by decide) | exact off4 op | exact fun q => e1 q.symm | exact fun q => e2 q.symm | omega), p53, n49 p (by first | exact op | exact off0 op | exact off9 op (by decide) | exact off4 op | exact fun q => e1 q.symm | exact fun q => e2 q.symm | omega), n39 p (by first | exact op | exact off0 op | exact off9 op (by decide) | exact off4 op | exact fun q => e1 q.symm | exact fun q => e2 q.symm | omega)]
  have xO : ∀ i, mI M' O i = mI M53 O i := fun i => by
    rw [n' O (by first | exact oO | exact off0 oO | exact off9 oO (by decide) | exact off4 oO | exact e1 | exact e3 | omega), n70 O (by first | exact oO | exact off0 oO | exact off9 oO (by decide) | exact off4 oO | exact e1 | exact e3 | omega), n66 O (by first | exact oO | exact off0 oO | exact off9 oO (by decide) | exact off4 oO | exact e1 | exact e3 | omega), n62 O (by first | exact oO | exact off0 oO | exact off9 oO (by decide) | exact off4 oO | exact e1 | exact e3 | omega)]
  have yO : ∀ i, mI M53 O i = if i = L then 42 else mI M O i := fun i => by rw [q53, n49 O (by first | exact oO | exact off0 oO | exact off9 oO (by decide) | exact off4 oO | exact e1 | exact e3 | omega), n39 O (by first | exact oO | exact off0 oO | exact off9 oO (by decide) | exact off4 oO | exact e1 | exact e3 | omega)]
  have yP : ∀ i, mI M53 P i = if i = L then 0 else mI M P i := fun i => by rw [u53, n49 P (by first | exact oP | exact off0 oP | exact off9 oP (by decide) | exact off4 oP | exact e2 | exact fun q => e3 q.symm | omega), n39 P (by first | exact oP | exact off0 oP | exact off9 oP (by decide) | exact off4 oP | exact e2 | exact fun q => e3 q.symm | omega)]
  have xP : ∀ i, mI M' P i = if i = t then (L : Int) + 1 else mI M53 P i := fun i => by
    rw [n' P (by first | exact oP | exact off0 oP | exact off9 oP (by decide) | exact off4 oP | exact e2 | exact fun q => e3 q.symm | omega), n70 P (by first | exact oP | exact off0 oP | exact off9 oP (by decide) | exact off4 oP | exact e2 | exact fun q => e3 q.symm | omega), n66 P (by first | exact oP | exact off0 oP | exact off9 oP (by decide) | exact off4 oP | exact e2 | exact fun q => e3 q.symm | omega), e62, mI_UI]
    by_cases y : i = t
    · rw [if_pos ⟨rfl, y⟩, if_pos y]
    · rw [if_neg (fun q => y q.2), if_neg y]
  have xr : ∀ i, mI M' r i = if i = 2 then (a : Int) + 1 else if i = 7 then 1 else if i = 14 then ((skk M r k : Nat) : Int) else mI M r i := fun i => by rw [g', r70, r39]
  refine ⟨⟨h', (((((f39'.trans f49).trans f53').trans f62).trans f66).trans f70).trans f', fun i i2 i3 i4 i5 i7 i12 i14 => by rw [xr, if_neg i2, if_neg i7, if_neg i14], fun _ => by rw [xr, if_neg (by decide), if_neg (by decide), if_neg (by decide)], fun i i6 i9 => x5 i (by omega) i9, fun i i2 => by rw [xp, if_neg i2], fun i hi => ⟨by rw [xO, yO, if_neg (by omega)], by rw [xP, if_neg (by omega), yP, if_neg (by omega)]⟩, Or.inr ⟨rfl, ?_⟩⟩, Or.inr ⟨rfl, fun L9 hL9 => ⟨fun q => absurd q (by rw [xr, if_neg (by decide), if_pos rfl]; decide), fun _ => ?_⟩⟩⟩
  rotate_left
  · have e9 : L9 = L + 1 := by rw [xp, if_pos rfl] at hL9; exact (Int.ofNat_inj.mp hL9).symm
    rw [e9]
    exact v.colon (k := k) (kk := skk M r k) (dd := t) hw hc9 (by rw [g2]; rfl) ho kk14 t1 (by rw [xr, if_neg (by decide), if_neg (by decide), if_neg (by decide), g2]; rfl) (by rw [xr, if_neg (by decide), if_neg (by decide), if_neg (by decide)]) (by rw [xr, if_neg (by decide), if_neg (by decide), if_neg (by decide)]) (by rw [xr, if_neg (by decide), if_neg (by decide), if_neg (by decide)]) (by rw [xr, if_neg (by decide), if_neg (by decide), if_pos rfl]) x1 x2 x3 (fun i => by rw [x4, show orI (mI M (r + 4) k) v43 = _ from m4]) (fun i _ => by rw [x5 5 (by decide) (by decide)]) (fun i => by rw [xO, yO]) (fun i hi => by rw [xP, yP, if_neg (Nat.ne_of_lt hi)])
  obtain ⟨H', hH'⟩ : ∃ H' : Nat → Nat, ∀ i, H' i = if i = L + 1 then bs M r k else H i := ⟨fun i => if i = L + 1 then bs M r k else H i, fun _ => rfl⟩
  have hHs : ∀ i, i ≤ L → H' i = H i := fun i hi => by rw [hH', if_neg (by omega)]
  have hHL : H' (L + 1) = bs M r k := by rw [hH', if_pos rfl]
  have hL0 := hHs L (Nat.le_refl _)
  have ht0 := hHs t (by omega)
  refine ⟨H', L + 1, k + 1, 1, ?_, by omega⟩
  clear f39 f49 f53 f62 f66 f70 f' f39' f53' n39 n49 n62 n66 n70 n' Y e43 e49 e62 e66 e70 p53 q53 u53 pl
  have c53 : CO M53 O P V F ns H' s (L + 1) (fun i => pdg M r (k + 1) i ∨ i = L) := gC.add gs hHs gHs yO yP (fun i _ q => Or.inl q) (Or.inr (Or.inr (Or.inr (Or.inr (Or.inl ⟨rfl, by omega⟩))))) (fun _ => Or.inl (Or.inr rfl))
  have bsk : bs M' r k = bs M r k := (sums_cg (M := M) (M' := M') (r := r) (k := k) (fun j hj => by rw [x1, if_neg (by omega)]) (fun j hj => by rw [x4, if_neg (by omega)]) k (Nat.le_refl _)).1
  refine g.goes (o' := 42) (m' := orI (mI M (r + 4) k) v43) ⟨by rw [xr, if_pos rfl], by rw [xr, if_neg (by decide), if_neg (by decide), if_neg (by decide), g2]; omega, by rw [xr, if_neg (by decide), if_pos rfl], by rw [xr, if_neg (by decide), if_neg (by decide), if_pos rfl], by rw [xr, if_neg (by decide), if_neg (by decide), if_neg (by decide)]; exact gd⟩ x1 (fun j => by rw [x2]) (fun j hj => by rw [x3, if_neg (by omega)]) x4 (fun j => by rw [x5 5 (by omega) (by omega)]; exact gt j) (by rw [xp, if_pos rfl]; omega) (by omega) (fun j hj => by rw [xO, yO, if_neg (by omega)]) hHs (by rw [hHL, z5]; rfl) (by omega) ?_ (by omega) han ⟨rfl, rfl, by rw [ho]; rfl, by rw [ho]; rfl⟩ ?_
  · have ot : mI M53 O t = 33 := by rw [yO, if_neg (by omega)]; exact t4
    refine c53.put (t := t) (x := (L : Int) + 1) (by rw [ot]; exact Or.inr (Or.inr (Or.inl rfl))) xO xP (fun i hi it q => ?_) ⟨L + 1, by omega, by omega, Nat.le_refl _, fun _ => by omega, fun q => absurd ot q⟩
    rcases q with ⟨j, j1, j2, j3⟩ | q
    · have jk : j ≠ k := fun y => it (by rw [y, t1] at j2; omega)
      exact ⟨j, j1, by rw [x3, if_neg jk]; exact j2, by rw [x1, if_neg jk]; exact j3⟩
    · exact ⟨k, by omega, by rw [x3, if_pos rfl, q], by rw [x1, if_pos rfl]; exact Or.inr (Or.inr (Or.inr rfl))⟩
  · unfold enO
    rw [x1, if_pos rfl, x2, x3, if_pos rfl, x4, if_pos rfl, bsk]
    exact ⟨by unfold opn; omega, en2, mb, fun q => absurd q (by omega), fun _ => ⟨L, rfl, gs, by omega, by rw [xO, yO, if_pos rfl], by omega, fun q => absurd rfl q⟩, fun q => absurd (Or.inr (Or.inr (Or.inr rfl))) q, fun _ j hj => by rw [x1, if_neg (by omega)]; exact en7 (Or.inl ho) j hj⟩

theorem x_ci201 {l5 : Int} (g : RG M r p O P n s V F ns d0 H L (k + 1) a 0) (h0 : RB M z r w T A B D N C n p O P K) (han : a < n) (ho : mI M (r + 1) k = 15 ∨ mI M (r + 1) k = 16) (hl : liA M z r w T A B D N C n p O P K s V F ns H L k a H1 L1 M1) (h5 : l5 = 0 ∨ l5 = 1) (v : RW0 u M r O P s c9 c8 L a) (hw0 : Hid (l5 = 0 → ruW u a = 37)) (hw1 : Hid (l5 = 1 → ruW u a = 35)) (hc9 : c9 ≤ 6) (hA0 : Hid (mI M (r + 4) k = 0 → L1 = L ∧ mI M1 O = mI M O ∧ mI M1 P = mI M P)) (hA1 : Hid (mI M (r + 4) k ≠ 0 → L1 = L + 1 ∧ (∀ i, mI M1 O i = if i = L then mI M (r + 1) k else mI M O i) ∧ (∀ i, mI M1 P i = if i = L then mI M (r + 2) k else mI M P i))) : h_RR_closeInner_201 G d r k 1 l5 M1 (fun x M' => cliQ M z r w T A B D N C n p O P K s V F ns d0 L a x M' ∧ clV u r p O P s a x M') := by
  have rm := g.room
  have hwN := h0.2.2.2.1.2.2.1
  have hN := h0.2.2.2.1.1.2.2.2.2.2.2.1
  obtain ⟨oO, oP, op, e1, e2, e3⟩ := h0.off
  replace oO : Hid0 _ := oO
  replace oP : Hid0 _ := oP
  replace op : Hid0 _ := op
  replace e1 : Hid0 _ := e1
  replace e2 : Hid0 _ := e2
  replace e3 : Hid0 _ := e3
  obtain ⟨b1, b2, b3, b4⟩ := sum_top M r k
  have cd : cdp (mI M (r + 1) k) = 1 := by unfold cdp; rw [if_pos (ho_d ho)]
  have ck : ckk (mI M (r + 1) k) = 0 := by unfold ckk; rw [if_neg (ho_k ho)]
  have ce : cee (mI M (r + 1) k) = 0 := by unfold cee; rw [if_neg (ho_e ho)]
  have nj : ¬ jm (mI M (r + 1) k) := ho_j ho
  rw [cd] at b4
  rw [ck] at b2
  have u0 : uw 0 = 1 := rfl
  obtain ⟨⟨g1, g2, g3, g4⟩, -, ⟨-, gs⟩, gc, ⟨gd, gd4⟩, -, ge, -, -, -, gt⟩ := id g
  have kk14 : mI M r 14 = ((skk M r k : Nat) : Int) + 1 := by rw [gc, b2, u0]; omega
  have m023 : Hid (mI M (r + 4) k = 0 ∨ mI M (r + 4) k = 2 ∨ mI M (r + 4) k = 3) := v.m15 (k := k) hc9 (by rw [g2]; rfl) rfl ho
  obtain ⟨en1, en2, en3, en4, -, en6, -⟩ := ge k (by omega)
  obtain ⟨h1, f1, t1, p1, q1, L01, H01, HL1, Hs1, C1, se1⟩ := hl
  have m3 := en4 ho
  have pdk : ∀ {Mx : mM} {kk i : Nat}, (∀ j, j < k → mI Mx (r + 1) j = mI M (r + 1) j ∧ mI Mx (r + 3) j = mI M (r + 3) j) → k ≤ kk → pdg M r (k + 1) i → pdg Mx r kk i := fun {Mx kk i} hx hk q => by
    obtain ⟨j, j1, j2, j3⟩ := q
    have jk : j ≠ k := fun y => nj (by rw [← y]; exact j3)
    exact ⟨j, by omega, by rw [(hx j (by omega)).2]; exact j2, by rw [(hx j (by omega)).1]; exact j3⟩
  have pl : ∀ {Mx : mM}, RB Mx z r w T A B D N C n p O P K → (mR Mx r 9 = r + 2 ∧ mR Mx r 11 = r + 4) ∧ (mK Mx (r + 2) = 30 ∧ mK Mx (r + 4) = 30) ∧ (mN Mx (r + 2) = 336 ∧ mN Mx (r + 4) = 336) := fun hx => by
    obtain ⟨-, ⟨-, ⟨a1, a2, a3, a4, -⟩, ⟨b1, b2, b3, b4, -⟩, ⟨c1, c2, c3, c4, -⟩⟩, -⟩ := hx
    exact ⟨⟨a2, a4⟩, ⟨b2, b4⟩, c2, c4⟩
  refine k_RR_closeInner_201 h1.1 ⟨by omega, by omega⟩ (i32s (by omega) (by omega)) (i32s (by omega) (by omega)) ?_
  rw [(pl h1).1.2, (pl h1).2.2.2, Int.toNat_natCast, t1 (r + 4) (by omega) (by omega)]
  refine ⟨h1.2.1.1, (pl h1).2.1.2, by omega, (x_RR_popKind (c := skk M r k) h1 (by rw [t1 r (by omega) (by omega), gc, b2]; omega) (by omega)).mono (fun x145 M144 q => ?_)⟩
  obtain ⟨⟨hx, hx2⟩, h144, f144, r144⟩ := q
  rw [t1 (r + 5) (by omega) (by omega)] at hx2
  have hx3 := hx2 (gt _)
  clear hx2
  have n144 : ∀ b, b ≠ r → mI M144 b = mI M1 b := fun b hb => f144.2.2.2.2.2.2 b hb
  have f144' : FI (rdS r p O P) M1 M144 := f144.mono (fun b q => Or.inl ⟨by omega, by omega⟩)
  refine ⟨i32s (by omega) (by omega), h144.1, fun v148 e148 => ⟨(pl h144).2.1.2, by rw [(pl h144).2.2.2]; omega, fun M155 e155 => ?_⟩⟩
  have b148 : v148 = 0 ∨ v148 = 1 := by rw [e148]; split <;> omega
  have mo := mk_or (m := mI M (r + 4) k) ⟨en3.1, m3⟩ b148
  have m3x : Hid (orI (mI M (r + 4) k) (orI 2 v148) = (if mI M (r + 4) k = 3 ∨ mI M (r + 5) (skk M r k) = 1 then 3 else 2) ∧ (andI (orI (mI M (r + 4) k) (orI 2 v148)) 1 = 0 ↔ ¬ (mI M (r + 4) k = 3 ∨ mI M (r + 5) (skk M r k) = 1))) := or_3 (v := v148) m023 (gt (skk M r k)) (by rw [← hx3]; exact e148)
  generalize hmm : orI (mI M (r + 4) k) (orI 2 v148) = mm at *
  obtain ⟨h155, f155, g155, n155⟩ := rb_tab h144 (i := 4) (by omega) (by omega) (i32s (by omega) (by omega)) e155
  have F155 : FI (rdS r p O P) M M155 := (f1.trans f144').trans f155
  have r155 : ∀ i, mI M155 r i = if i = 14 then ((skk M r k : Nat) : Int) else mI M r i := fun i => by rw [n155 r (by omega), r144, t1 r (by omega) (by omega)]
  have t155 : ∀ i, 1 ≤ i → i ≤ 9 → i ≠ 4 → mI M155 (r + i) = mI M (r + i) := fun i i1 i9 i4 => by rw [n155 (r + i) (by omega), n144 (r + i) (by omega), t1 (r + i) (by omega) (by omega)]
  have x4 : ∀ j, mI M155 (r + 4) j = if j = k then mm else mI M (r + 4) j := fun j => by rw [g155, n144 (r + 4) (by omega), t1 (r + 4) (by omega) (by omega)]
  have o155 : ∀ b, (b < r ∨ r + 9 < b) → mI M155 b = mI M1 b := fun b hb => by rw [n155 b (by omega), n144 b (by omega)]
  rcases h5 with y5 | y5
  · -- ')'
    subst y5
    have fin : ∀ {My : mM}, gI M155 z r w T A B D N C n p O P K (k + 1) (skk M r k) My → mI My (r + 5) = mI M (r + 5) → Fqq M r (kft (¬ (mI M (r + 4) k = 3 ∨ mI M (r + 5) (skk M r k) = 1)) (mI M (r + 2) k)) My → h_RR_closeInner_256 G d r 0 My (fun x M' => cliQ M z r w T A B D N C n p O P K s V F ns d0 L a x M' ∧ clV u r p O P s a x M') := fun {My} hy hy5 hyF => by
      obtain ⟨hb, fb, rb, ⟨rb12, rb14⟩, rb3, nb, tb⟩ := hy
      refine k_RR_closeInner_256 hb.1 (i32s (by omega) (by omega)) ⟨hb.2.1.1, (s_RR_pushKind (Or.inl rfl) hb rb14 (by omega)).mono (fun M189 q => ?_)⟩
      obtain ⟨h189, f189, r189, t189⟩ := q
      have n189 : ∀ b, b ≠ r → b ≠ r + 5 → mI M189 b = mI My b := fun b y1 y2 => f189.2.2.2.2.2.2 b (fun q => by have q' : b = r ∨ b = r + 5 := q; first | exact rin5 q' | exact nin5 (by assumption) (by assumption) q' | omega)
      refine ⟨h189.1, fun _ => ?_, fun y => absurd rfl y⟩
      refine s_ciPop (a := a) (k := k) (e := d0 + sdp M r k) h189 (by rw [r189, if_neg (by decide), rb 2 (by decide) (by decide) (by decide) (by decide), r155, if_neg (by decide)]; exact g1) (by omega) (by rw [r189, if_neg (by decide)]; exact rb12) (by omega) (by rw [r189, if_neg (by decide), rb 5 (by decide) (by decide) (by decide) (by decide), r155, if_neg (by decide), gd, b4]; rfl) (by omega) (fun M' h' f' g' n' => ?_)
      have X : ∀ b, b ≠ r → b ≠ r + 5 → mI M' b = mI M155 b := fun b y1 y2 => by rw [n' b y1, n189 b y1 y2, nb b y1 y2]
      have TT : ∀ i, 1 ≤ i → i ≤ 9 → i ≠ 4 → i ≠ 5 → mI M' (r + i) = mI M (r + i) := fun i i1 i9 i4 i5 => by rw [X (r + i) (by omega) (by omega), t155 i i1 i9 i4]
      have xO : mI M' O = mI M1 O := by rw [X O (by first | exact oO | exact off0 oO | exact off9 oO (by decide) | exact off4 oO | exact e1 | exact e3 | omega) (by first | exact oO | exact off0 oO | exact off9 oO (by decide) | exact off4 oO | exact e1 | exact e3 | omega), o155 O (by first | exact oO | exact off0 oO | exact off9 oO (by decide) | exact off4 oO | exact e1 | exact e3 | omega)]
      have xP : mI M' P = mI M1 P := by rw [X P (by first | exact oP | exact off0 oP | exact off9 oP (by decide) | exact off4 oP | exact e2 | exact fun q => e3 q.symm | omega) (by first | exact oP | exact off0 oP | exact off9 oP (by decide) | exact off4 oP | exact e2 | exact fun q => e3 q.symm | omega), o155 P (by first | exact oP | exact off0 oP | exact off9 oP (by decide) | exact off4 oP | exact e2 | exact fun q => e3 q.symm | omega)]
      have xp : mI M' p = mI M1 p := by rw [X p (by first | exact op | exact off0 op | exact off9 op (by decide) | exact off4 op | exact fun q => e1 q.symm | exact fun q => e2 q.symm | omega) (by first | exact op | exact off0 op | exact off9 op (by decide) | exact off4 op | exact fun q => e1 q.symm | exact fun q => e2 q.symm | omega), o155 p (by first | exact op | exact off0 op | exact off9 op (by decide) | exact off4 op | exact fun q => e1 q.symm | exact fun q => e2 q.symm | omega)]
      have RR : ∀ i, i ≠ 2 → i ≠ 7 → i ≠ 5 → i ≠ 12 → i ≠ 14 → mI M' r i = mI My r i := fun i i2 i7 i5 i12 i14 => by rw [g', if_neg i2, if_neg i7, if_neg i5, if_neg i12, r189, if_neg i14]
      refine ⟨⟨h', ((F155.trans fb).trans (f189.mono (fun b q => Or.inl (by have q' : b = r ∨ b = r + 5 := q; first | exact rin5 q' | exact nin5 (by assumption) (by assumption) q' | omega)))).trans f', fun i i2 i3 i4 i5 i7 i12 i14 => by rw [RR i i2 i7 i5 i12 i14, rb i i3 i4 i12 i14, r155, if_neg i14], fun q => ?_, fun i i6 i9 => TT i (by omega) i9 (by omega) (by omega), fun i i2 => by rw [xp, p1, if_neg i2], fun i hi => ⟨by rw [xO]; exact (q1 i (by omega)).1, by rw [xP]; exact (q1 i (by omega)).2⟩, Or.inr ⟨rfl, H1, L1, k, 0, ?_, L01⟩⟩, Or.inr ⟨rfl, fun L9 hL9 => ⟨fun _ => ?_, fun q => absurd q (by rw [g', if_neg (by decide), if_pos rfl]; decide)⟩⟩⟩
      · have e3' : mI M155 r 3 = mI M r 3 := by rw [r155, if_neg (by decide)]
        rw [RR 3 (by decide) (by decide) (by decide) (by decide) (by decide), rb3 (by rw [e3']; exact q), e3']
      · refine g.popc ⟨by rw [g', if_pos rfl], by rw [g', if_neg (by decide), if_neg (by decide), if_neg (by decide), if_pos rfl], by rw [g', if_neg (by decide), if_pos rfl], by rw [g', if_neg (by decide), if_neg (by decide), if_neg (by decide), if_neg (by decide), r189, if_pos rfl]; omega, by rw [g', if_neg (by decide), if_neg (by decide), if_pos rfl]⟩ (fun j _ => by rw [TT 1 (by omega) (by omega) (by omega) (by omega)]) (fun j _ => by rw [TT 2 (by omega) (by omega) (by omega) (by omega)]) (fun j _ => by rw [TT 3 (by omega) (by omega) (by omega) (by omega)]) (fun j hj => by rw [X (r + 4) (by omega) (by omega), x4, if_neg (by omega)]) (fun j => ?_) (by rw [xp, p1, if_pos rfl]) L01 (fun j hj => by rw [xO]; exact (q1 j hj).1) H01 HL1 Hs1 (fun pc p0 pL => ?_) se1 han
        · rw [n' (r + 5) (by omega), t189]
          split
          · exact Or.inl rfl
          · exact tb j
        · rw [xO, xP]
          obtain ⟨c1, c2, c3⟩ := C1 pc p0 pL
          exact ⟨c1, fun q => (c2 q).imp (fun u => pdk (fun j _ => ⟨by rw [TT 1 (by omega) (by omega) (by omega) (by omega)], by rw [TT 3 (by omega) (by omega) (by omega) (by omega)]⟩) (Nat.le_refl _) u) (fun u => u), c3⟩
      · have e9 : L9 = L1 := by rw [xp, p1, if_pos rfl] at hL9; exact (Int.ofNat_inj.mp hL9).symm
        rw [e9]
        exact v.clos (k := k) (kk := skk M r k) (L' := L1) (hw0 rfl) hc9 (by rw [g2]; rfl) rfl ho kk14 (by rw [g', if_neg (by decide), if_neg (by decide), if_neg (by decide), if_pos rfl]) (by rw [g', if_neg (by decide), if_neg (by decide), if_pos rfl, gd, b4]; exact dcan _ _) (by rw [g', if_neg (by decide), if_neg (by decide), if_neg (by decide), if_neg (by decide), r189, if_pos rfl]) (fun i i1 i4 j hj => by
          by_cases y4 : i = 4
          · subst y4
            rw [X (r + 4) (by omega) (by omega), x4, if_neg (Nat.ne_of_lt hj)]
          · rw [TT i i1 (by omega) y4 (by omega)]) (fun i => by rw [n' (r + 5) (by omega), t189, hy5]) (hyF.later (RR 3 (by decide) (by decide) (by decide) (by decide) (by decide)) (RR 4 (by decide) (by decide) (by decide) (by decide) (by decide))) (fun q => ⟨(hA0 q).1, by rw [xO]; exact (hA0 q).2.1, by rw [xP]; exact (hA0 q).2.2⟩) (fun q => ⟨(hA1 q).1, fun i => by rw [xO]; exact (hA1 q).2.1 i, fun i => by rw [xP]; exact (hA1 q).2.2 i⟩)
    have gi : gI M155 z r w T A B D N C n p O P K (k + 1) (skk M r k) M155 := ⟨h155, FI.refl, fun _ _ _ _ _ => rfl, ⟨by rw [r155, if_neg (by decide)]; exact g2, by rw [r155, if_pos rfl]⟩, fun _ => rfl, fun _ _ _ => rfl, fun j => by rw [t155 5 (by omega) (by omega) (by omega)]; exact gt j⟩
    refine ⟨fun y => absurd y (by omega), fun _ => ?_⟩
    rw [(pl h155).1.2, (pl h155).1.1, (pl h155).2.2.2, (pl h155).2.2.1]
    have r3 : mI M155 r 3 = mI M r 3 ∧ mI M155 r 4 = mI M r 4 := ⟨by rw [r155, if_neg (by decide)], by rw [r155, if_neg (by decide)]⟩
    have z5 : mI M155 (r + 5) = mI M (r + 5) := t155 5 (by omega) (by omega) (by omega)
    have z2 : mI M155 (r + 2) = mI M (r + 2) := t155 2 (by omega) (by omega) (by omega)
    have z4 : mI M155 (r + 4) k = mm := by rw [x4, if_pos rfl]
    rw [z4, z2]
    refine ⟨h155.2.1.1, (pl h155).2.1.2, by omega, fun y => fin gi z5 ?_, fun y => ⟨(pl h155).2.1.1, by omega, ?_⟩⟩
    · have : kft (¬ (mI M (r + 4) k = 3 ∨ mI M (r + 5) (skk M r k) = 1)) (mI M (r + 2) k) = (0, 0) := if_pos ((show _ ∧ _ from m3x).2.mp y)
      rw [this]
      exact Fq_none r3.1 r3.2
    · refine (x_RR_note (i32s (by omega) (by omega)) (h0.1 _ _).1 h155).mono (fun M182 q => ?_)
      obtain ⟨b1', f1', g1', -, g3', g4'⟩ := q
      have o1 : ∀ b, b ≠ r → mI M182 b = mI M155 b := fun b hb => f1'.2.2.2.2.2.2 b hb
      obtain ⟨a1, a2, a3, ⟨a4, a5⟩, a6, a7, a8⟩ := gi
      have hI : gI M155 z r w T A B D N C n p O P K (k + 1) (skk M r k) M182 := ⟨b1', f1'.mono (fun b q => Or.inl ⟨by omega, by omega⟩), fun i i3 i4 _ _ => g1' i i3 i4, ⟨by rw [g1' 12 (by decide) (by decide)]; exact a4, by rw [g1' 14 (by decide) (by decide)]; exact a5⟩, fun q => g3' q, fun b b1 _ => o1 b b1, fun j => by rw [o1 (r + 5) (by omega)]; exact a8 j⟩
      refine ⟨b1'.1, fin hI (by rw [o1 (r + 5) (by omega)]; exact z5) ?_⟩
      have : kft (¬ (mI M (r + 4) k = 3 ∨ mI M (r + 5) (skk M r k) = 1)) (mI M (r + 2) k) = (3, mI M (r + 2) k) := if_neg (fun q => y ((show _ ∧ _ from m3x).2.mpr q))
      rw [this]
      exact (g4' (by decide)).first r3.1 r3.2
  · -- ','
    subst y5
    refine ⟨fun _ => ⟨fun y => absurd y (by omega), fun _ => ?_⟩, fun y => absurd (Or.inr (by omega)) y⟩
    refine s_ci286 (a := a) (Or.inr rfl) h155 (by rw [r155, if_neg (by decide)]; exact g1) (by omega) (fun M' h' f' g' n' => ?_)
    have TT : ∀ i, 1 ≤ i → i ≤ 9 → i ≠ 4 → mI M' (r + i) = mI M (r + i) := fun i i1 i9 i4 => by rw [n' (r + i) (by omega), t155 i i1 i9 i4]
    have xO : mI M' O = mI M1 O := by rw [n' O (by first | exact oO | exact off0 oO | exact off9 oO (by decide) | exact off4 oO | exact e1 | exact e3 | omega), o155 O (by first | exact oO | exact off0 oO | exact off9 oO (by decide) | exact off4 oO | exact e1 | exact e3 | omega)]
    have xP : mI M' P = mI M1 P := by rw [n' P (by first | exact oP | exact off0 oP | exact off9 oP (by decide) | exact off4 oP | exact e2 | exact fun q => e3 q.symm | omega), o155 P (by first | exact oP | exact off0 oP | exact off9 oP (by decide) | exact off4 oP | exact e2 | exact fun q => e3 q.symm | omega)]
    have xp : mI M' p = mI M1 p := by rw [n' p (by first | exact op | exact off0 op | exact off9 op (by decide) | exact off4 op | exact fun q => e1 q.symm | exact fun q => e2 q.symm | omega), o155 p (by first | exact op | exact off0 op | exact off9 op (by decide) | exact off4 op | exact fun q => e1 q.symm | exact fun q => e2 q.symm | omega)]
    have xr : ∀ i, mI M' r i = if i = 2 then (a : Int) + 1 else if i = 7 then 1 else if i = 14 then ((skk M r k : Nat) : Int) else mI M r i := fun i => by rw [g', r155]
    have x4' : ∀ j, mI M' (r + 4) j = if j = k then mm else mI M (r + 4) j := fun j => by rw [n' (r + 4) (by omega), x4]
    have cmm : cm (mI M (r + 1) k) mm = 1 := by unfold cm; rw [if_neg (ho_c ho), if_pos ⟨ho, mo⟩]
    refine ⟨⟨h', F155.trans f', fun i i2 i3 i4 i5 i7 i12 i14 => by rw [xr, if_neg i2, if_neg i7, if_neg i14], fun _ => by rw [xr, if_neg (by decide), if_neg (by decide), if_neg (by decide)], fun i i6 i9 => TT i (by omega) i9 (by omega), fun i i2 => by rw [xp, p1, if_neg i2], fun i hi => ⟨by rw [xO]; exact (q1 i (by omega)).1, by rw [xP]; exact (q1 i (by omega)).2⟩, Or.inr ⟨rfl, H1, L1, k + 1, 1, ?_, L01⟩⟩, Or.inr ⟨rfl, fun L9 hL9 => ⟨fun q => absurd q (by rw [xr, if_neg (by decide), if_pos rfl]; decide), fun _ => ?_⟩⟩⟩
    rotate_left
    · have e9 : L9 = L1 := by rw [xp, p1, if_pos rfl] at hL9; exact (Int.ofNat_inj.mp hL9).symm
      rw [e9]
      exact v.comma (k := k) (kk := skk M r k) (L' := L1) (hw1 rfl) hc9 (by rw [g2]; rfl) rfl ho kk14 (by rw [xr, if_neg (by decide), if_neg (by decide), if_neg (by decide), g2]; rfl) (by rw [xr, if_neg (by decide), if_neg (by decide), if_neg (by decide)]) (by rw [xr, if_neg (by decide), if_neg (by decide), if_neg (by decide)]) (by rw [xr, if_neg (by decide), if_neg (by decide), if_neg (by decide)]) (by rw [xr, if_neg (by decide), if_neg (by decide), if_pos rfl]) (fun i i1 i3 => TT i i1 (by omega) (by omega)) (fun i => by rw [x4', (show _ ∧ _ from m3x).1]) (fun i _ => by rw [TT 5 (by decide) (by decide) (by decide)]) (fun q => ⟨(hA0 q).1, by rw [xO]; exact (hA0 q).2.1, by rw [xP]; exact (hA0 q).2.2⟩) (fun q => ⟨(hA1 q).1, fun i => by rw [xO]; exact (hA1 q).2.1 i, fun i => by rw [xP]; exact (hA1 q).2.2 i⟩)
    refine g.goes (o' := mI M (r + 1) k) (m' := mm) ⟨by rw [xr, if_pos rfl], by rw [xr, if_neg (by decide), if_neg (by decide), if_neg (by decide), g2]; omega, by rw [xr, if_neg (by decide), if_pos rfl], by rw [xr, if_neg (by decide), if_neg (by decide), if_pos rfl], by rw [xr, if_neg (by decide), if_neg (by decide), if_neg (by decide)]; exact gd⟩ (fun j => ?_) (fun j => by rw [TT 2 (by omega) (by omega) (by omega)]) (fun j _ => by rw [TT 3 (by omega) (by omega) (by omega)]) x4' (fun j => by rw [TT 5 (by omega) (by omega) (by omega)]; exact gt j) (by rw [xp, p1, if_pos rfl]) L01 (fun j hj => by rw [xO]; exact (q1 j hj).1) H01 (by rw [HL1, cmm]; omega) Hs1 (fun pc p0 pL => ?_) se1 han ⟨ck, ce, rfl, rfl⟩ ?_
    · rw [TT 1 (by omega) (by omega) (by omega)]
      by_cases y : j = k
      · rw [if_pos y, y]
      · rw [if_neg y]
    · rw [xO, xP]
      obtain ⟨c1, c2, c3⟩ := C1 pc p0 pL
      exact ⟨c1, fun q => (c2 q).imp (fun u => pdk (fun j _ => ⟨by rw [TT 1 (by omega) (by omega) (by omega)], by rw [TT 3 (by omega) (by omega) (by omega)]⟩) (by omega) u) (fun u => u), c3⟩
    · unfold enO
      rw [TT 1 (by omega) (by omega) (by omega), TT 2 (by omega) (by omega) (by omega), TT 3 (by omega) (by omega) (by omega), x4', if_pos rfl]
      exact ⟨en1, en2, by omega, fun _ => by omega, fun q => absurd q nj, en6, fun q => by rw [TT 1 (by omega) (by omega) (by omega)] at q; have ho2 := ho; omega⟩

theorem x_ciList {l5 : Int} (g : RG M r p O P n s V F ns d0 H L (k + 1) a 0) (h : RB M z r w T A B D N C n p O P K) (han : a < n) (ho : mI M (r + 1) k = 15 ∨ mI M (r + 1) k = 16) (h5 : l5 = 0 ∨ l5 = 1) (v : RW0 u M r O P s c9 c8 L a) (hw0 : Hid (l5 = 0 → ruW u a = 37)) (hw1 : Hid (l5 = 1 → ruW u a = 35)) (hc9 : c9 ≤ 6) : h_RR_closeInner_165 G d r k 1 l5 M (fun x M' => cliQ M z r w T A B D N C n p O P K s V F ns d0 L a x M' ∧ clV u r p O P s a x M') := by
  have rm := g.room
  have hwN := h.2.2.2.1.2.2.1
  have hN := h.2.2.2.1.1.2.2.2.2.2.2.1
  have hK := h.2.2.2.2.2.2
  obtain ⟨oO, oP, op, e1, e2, e3⟩ := h.off
  replace oO : Hid0 _ := oO
  replace oP : Hid0 _ := oP
  replace op : Hid0 _ := op
  replace e1 : Hid0 _ := e1
  replace e2 : Hid0 _ := e2
  replace e3 : Hid0 _ := e3
  obtain ⟨b1, -, b3, -⟩ := sum_top M r k
  have ce : cee (mI M (r + 1) k) = 0 := by unfold cee; rw [if_neg (ho_e ho)]
  have nj : ¬ jm (mI M (r + 1) k) := ho_j ho
  rw [ce] at b3
  have u0 : uw 0 = 1 := rfl
  obtain ⟨⟨g1, g2, g3, g4⟩, -, ⟨-, gs⟩, -, -, -, ge, ⟨gH, gHs⟩, gC, gL, -⟩ := id g
  obtain ⟨-, en2, en3, en4, -, -⟩ := ge k (by omega)
  have m023 : Hid (mI M (r + 4) k = 0 ∨ mI M (r + 4) k = 2 ∨ mI M (r + 4) k = 3) := v.m15 (k := k) hc9 (by rw [g2]; rfl) rfl ho
  have mk2 := mk_and2 (m := mI M (r + 4) k) ⟨en3.1, en4 ho⟩
  obtain ⟨-, ⟨k0, ⟨q8, q9, -, q11, -⟩, ⟨kk1, kk2, -, kk4, -⟩, ⟨nn1, nn2, -, nn4, -⟩⟩, ⟨-, rp1⟩, -, hPK, -⟩ := id h
  refine k_RR_closeInner_165 h.1 ⟨by omega, by omega⟩ (i32s (by omega) (by omega)) (i32s (by omega) (by omega)) ⟨fun y => absurd y (by omega), fun _ => ?_⟩
  rw [q11, q8, q9, nn4, nn1, nn2, Int.toNat_natCast, rp1]
  refine ⟨k0, kk4, by omega, fun y => ?_, fun y => ⟨kk1, by omega, kk2, by omega, hPK.1, (s_Pr_add (n := L) (h.1 _ _).1 (h.1 _ _).1 h.1 hPK g4 (by omega)).mono (fun x M1 q => ?_)⟩⟩
  · have c0 : cm (mI M (r + 1) k) (mI M (r + 4) k) = 0 := by
      have := mk2.resolve_right (fun u => u.1 y)
      unfold cm
      rw [if_neg (ho_c ho), if_neg (fun u => this.2 u.2)]
    rw [c0] at b1
    have m0 : mI M (r + 4) k = 0 := (show _ ∨ _ from m023).resolve_right (mk2.resolve_right (fun u => u.1 y)).2
    exact x_ci201 (H1 := H) (L1 := L) g h han ho ⟨h, FI.refl, fun _ _ _ => rfl, fun i => by
      by_cases v : i = 2
      · rw [if_pos v, v]; exact g4
      · rw [if_neg v], fun _ _ => ⟨rfl, rfl⟩, Nat.le_refl _, fun _ _ => rfl, by omega, gHs, gC, by omega⟩ h5 v hw0 hw1 hc9 (fun _ => ⟨rfl, rfl, rfl⟩) (fun q => absurd m0 q)
  · have c1 : cm (mI M (r + 1) k) (mI M (r + 4) k) = 1 := by
      have := mk2.resolve_left (fun u => y u.1)
      unfold cm
      rw [if_neg (ho_c ho), if_pos ⟨ho, this.2⟩]
    rw [c1] at b1
    obtain ⟨ex, o1, f1, p1, q1, v1⟩ := q
    have f1' : FI (rdS r p O P) M M1 := f1.mono (fun b q => Or.inr q)
    have h1 := h.fi o1 f1'
    obtain ⟨H', hH'⟩ : ∃ H' : Nat → Nat, ∀ i, H' i = if i = L + 1 then 1 + bs M r k else H i := ⟨fun i => if i = L + 1 then 1 + bs M r k else H i, fun _ => rfl⟩
    have hHs : ∀ i, i ≤ L → H' i = H i := fun i hi => by rw [hH', if_neg (by omega)]
    have hHL : H' (L + 1) = 1 + bs M r k := by rw [hH', if_pos rfl]
    have hL0 := hHs L (Nat.le_refl _)
    have m0 : mI M (r + 4) k ≠ 0 := fun q => by rw [q] at y; exact y (by decide)
    refine ⟨⟨by omega, by omega⟩, o1, x_ci201 (H1 := H') (L1 := L + 1) g h han ho ⟨h1, f1', fun b y1 y2 => f1.2.2.2.2.2.2 b (fun q => by
      have q' : b = p ∨ b = O ∨ b = P := q
      first | exact off3 op oO oP (by assumption) (by assumption) q' | omega), fun i => by rw [p1]; rfl, fun i hi => ⟨by rw [q1, if_neg (by omega)], by rw [v1, if_neg (by omega)]⟩, by omega, hHs, hHL, by omega, gC.add gs hHs gHs q1 v1 (fun _ _ u => u) (Or.inr (Or.inr (Or.inr (Or.inr (Or.inr (Or.inr (Or.inl ⟨by first | exact ho.elim (fun e => Or.inl e) (fun e => Or.inr (Or.inl e)) | omega, by omega, by omega⟩))))))) (fun u => absurd u nj), by omega⟩ h5 v hw0 hw1 hc9 (fun q => absurd q m0) (fun _ => ⟨rfl, q1, v1⟩)⟩

theorem x_RR_closeInner {l1 : Int} (i1 : i32 l1) (g : RG M r p O P n s V F ns d0 H L (k + 1) a 0) (h : RB M z r w T A B D N C n p O P K) (han : a < n) (ho : mI M (r + 1) k = 37 ∨ mI M (r + 1) k = 15 ∨ mI M (r + 1) k = 16 ∨ mI M (r + 1) k = 33) (v : RW0 u M r O P s c9 c8 L a) (hl1 : Hid (ruW u a = 37 ↔ l1 = 38)) (hl2 : Hid (ruW u a = 35 ↔ l1 = 36)) (hl3 : Hid (ruW u a = 33 ↔ l1 = 34)) (hc9 : c9 ≤ 6) (hm9 : lwx (ruW u a) = 0) : Ci G y_RR_closeInner (d + 1) [vr r, vi l1, vi k] M (fun x M' => cliQ M z r w T A B D N C n p O P K s V F ns d0 L a x M' ∧ clV u r p O P s a x M') := by
  have rm := g.room
  have hk := g.1.2.1
  obtain ⟨-, ⟨k0, ⟨q8, -, -, q11, -⟩, ⟨kk1, -⟩, ⟨nn1, -⟩⟩, -⟩ := id h
  refine k_RR_closeInner h.1 i1 ⟨by omega, by omega⟩ ?_
  rw [q8, nn1, Int.toNat_natCast, q11]
  refine ⟨k0, kk1, by omega, fun v5 e5 => ⟨by omega, fun _ => by omega, fun v14 e14 v25 e25 => ⟨fun y => ⟨fun y5 => ?_, fun y5 => ?_⟩, fun y => ⟨⟨h, FI.refl, fun _ _ _ _ _ _ _ _ => rfl, fun _ => rfl, fun _ _ _ => rfl, fun _ _ => rfl, fun _ _ => ⟨rfl, rfl⟩, Or.inl ⟨rfl, rfl⟩⟩, Or.inl ⟨rfl, ?_⟩⟩⟩⟩⟩
  · have n33 : mI M (r + 1) k ≠ 33 := fun q => by rw [if_pos q] at e5; omega
    by_cases y15 : mI M (r + 1) k = 15 ∨ mI M (r + 1) k = 16
    · rw [if_pos y15] at e14
      subst e14
      have b25 : v25 = 0 ∨ v25 = 1 := by rw [e25]; split <;> omega
      have c25 : v25 = 1 ↔ l1 = 36 := by
        rw [e25]
        split <;> omega
      refine x_ciList g h han y15 b25 v (fun q => (show _ ↔ _ from hl1).mpr ?_) (fun q => (show _ ↔ _ from hl2).mpr (c25.mp q)) hc9
      rcases y with y | y
      · exact absurd q y
      · exact y.2
    · rw [if_neg y15] at e14
      rw [if_pos (Or.inl ⟨y5, Or.inl e14⟩)] at e25
      subst e14 e25
      refine x_ciOpen h g han (by omega) v ((show _ ↔ _ from hl1).mpr ?_) hc9
      rcases y with y | y
      · exact absurd rfl y
      · exact y.2
  · have y33 : mI M (r + 1) k = 33 := Classical.byContradiction (fun q => y5 (by rw [e5, if_neg q]))
    have z14 : v14 = 0 := by rw [e14, if_neg (by omega)]
    have b25 : v25 = 0 ∨ v25 = 1 := by rw [e25]; split <;> omega
    have z25 : v25 = 1 := by
      rcases y with q | q
      · omega
      · exact absurd q.1 y5
    have c34 : l1 = 34 := by
      refine Classical.byContradiction (fun q => ?_)
      rw [if_pos (Or.inr ⟨y5, q, Or.inl z14⟩)] at e25
      omega
    rw [z14, z25]
    exact x_ciElse h g han y33 v ((show _ ↔ _ from hl3).mpr c34) hc9
  · have b25 : v25 = 0 := Classical.byContradiction (fun q => y (Or.inl q))
    refine v.shut (k := k) (by rw [hk]; rfl) rfl ho (Or.inl (by omega)) (fun q w37 => ?_) (fun q => ⟨fun w37 => ?_, fun w35 => ?_⟩) (fun q w33 => ?_)
    · rw [if_neg (by omega)] at e5
      exact y (Or.inr ⟨e5, (show _ ↔ _ from hl1).mp w37⟩)
    · rw [if_neg (by omega)] at e5
      exact y (Or.inr ⟨e5, (show _ ↔ _ from hl1).mp w37⟩)
    · rw [if_neg (by omega)] at e5
      rw [if_pos q] at e14
      have := (show _ ↔ _ from hl2).mp w35
      rw [if_neg (by omega)] at e25
      omega
    · rw [if_pos q] at e5
      have := (show _ ↔ _ from hl3).mp w33
      rw [if_neg (by omega)] at e25
      omega
end RX5
end
