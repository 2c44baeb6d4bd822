section
section
/-! The class's reader of rules: what its piles hold, and the heights of the code that it makes. -/
section RRH
variable {G : mG} {d z r w T A B D N C n p O P K k a s L V F : Nat} {M M' M1 M2 : mM} {H H' : Nat → Nat} {ns : Nat → Int}
/-- sums over the open operations -/
def sq (f : Nat → Nat) : Nat → Nat
  | 0 => 0
  | i + 1 => sq f i + f i
theorem sq_cg {f g : Nat → Nat} : ∀ (i : Nat), (∀ j, j < i → f j = g j) → sq f i = sq g i
  | 0, _ => rfl
  | i + 1, h => by
    show sq f i + f i = sq g i + g i
    rw [sq_cg i (fun j hj => h j (by omega)), h i (by omega)]
/-- values of the machine that an open operation o with marks m holds -/
def cm (o m : Int) : Nat := if 19 ≤ o ∧ o ≤ 29 then 1 else if (o = 15 ∨ o = 16) ∧ (m = 2 ∨ m = 3) then 1 else 0
/-- kinds that it holds, orders that it will make, levels that it is -/
def ckk (o : Int) : Nat := if 19 ≤ o ∧ o ≤ 31 then 1 else 0
def cee (o : Int) : Nat := if (19 ≤ o ∧ o ≤ 29) ∨ o = 40 ∨ o = 41 then 1 else 0
def cdp (o : Int) : Nat := if o = 15 ∨ o = 16 ∨ o = 33 ∨ o = 37 ∨ o = 40 ∨ o = 41 ∨ o = 42 then 1 else 0
/-- the rank of a sign between two operands -/
def rkk (o : Int) : Nat := if o = 31 then 1 else if o = 30 then 2 else if 19 ≤ o ∧ o ≤ 24 then 3 else if o = 25 ∨ o = 26 then 4 else if 27 ≤ o ∧ o ≤ 29 then 5 else 0
def opn (o : Int) : Prop := o = 15 ∨ o = 16 ∨ (19 ≤ o ∧ o ≤ 31) ∨ o = 33 ∨ o = 37 ∨ o = 40 ∨ o = 41 ∨ o = 42
def jm (o : Int) : Prop := o = 30 ∨ o = 31 ∨ o = 33 ∨ o = 42
def bs (M : mM) (r i : Nat) : Nat := sq (fun j => cm (mI M (r + 1) j) (mI M (r + 4) j)) i
def skk (M : mM) (r i : Nat) : Nat := sq (fun j => ckk (mI M (r + 1) j)) i
def se (M : mM) (r i : Nat) : Nat := sq (fun j => cee (mI M (r + 1) j)) i
def sdp (M : mM) (r i : Nat) : Nat := sq (fun j => cdp (mI M (r + 1) j)) i
/-- an order that goes straight on -/
def stO (V F : Nat) (ns : Nat → Int) (H : Nat → Nat) (pc : Nat) (o x : Int) : Prop :=
  (o = 3 ∧ -999999999 ≤ x ∧ x ≤ 999999999 ∧ H (pc + 1) = H pc + 1) ∨ ((o = 4 ∨ o = 7) ∧ 0 ≤ x ∧ x < F ∧ ns x.toNat = o ∧ H (pc + 1) = H pc + 1) ∨ (o = 5 ∧ 0 ≤ x ∧ x < V ∧ H (pc + 1) = H pc + 1) ∨ ((o = 30 ∨ o = 31 ∨ o = 33) ∧ H (pc + 1) + 1 = H pc) ∨ (o = 42 ∧ 1 ≤ H pc) ∨ ((o = 40 ∨ o = 41) ∧ 1 ≤ H pc ∧ H (pc + 1) = H pc) ∨ ((o = 15 ∨ o = 16 ∨ (19 ≤ o ∧ o ≤ 29)) ∧ 2 ≤ H pc ∧ H (pc + 1) + 1 = H pc) ∨ (o = 43 ∧ 0 ≤ x ∧ x ≤ 1000000 ∧ x % 16 < V ∧ H (pc + 1) + 1 = H pc)
/-- where it may jump to -/
def tgO (H : Nat → Nat) (L pc : Nat) (o x : Int) : Prop := ∃ t : Nat, x = t ∧ pc < t ∧ t ≤ L ∧ (o = 33 → H t + 1 = H pc) ∧ (o ≠ 33 → H t = H pc)
/-- the code from s to L; pd: jumps that are not settled yet -/
def CO (M : mM) (O P V F : Nat) (ns : Nat → Int) (H : Nat → Nat) (s L : Nat) (pd : Nat → Prop) : Prop := ∀ pc, s ≤ pc → pc < L → stO V F ns H pc (mI M O pc) (mI M P pc) ∧ (jm (mI M O pc) → pd pc ∨ tgO H L pc (mI M O pc) (mI M P pc)) ∧ H pc + s ≤ pc
theorem stO.cg {pc : Nat} {o x : Int} (h : stO V F ns H pc o x) (h0 : H' pc = H pc) (h1 : H' (pc + 1) = H (pc + 1)) : stO V F ns H' pc o x := by
  unfold stO at h ⊢
  rw [h0, h1]
  exact h
theorem tgO.cg {L' pc : Nat} {o x : Int} (h : tgO H L pc o x) (hL : L ≤ L') (hp : pc < L) (hH : ∀ i, i ≤ L → H' i = H i) : tgO H' L' pc o x := by
  obtain ⟨t, e, t1, t2, t3, t4⟩ := h
  refine ⟨t, e, t1, by omega, ?_, ?_⟩
  · rw [hH t t2, hH pc (by omega)]
    exact t3
  · rw [hH t t2, hH pc (by omega)]
    exact t4
/-- one order more -/
theorem CO.add {pd pd' : Nat → Prop} {o x : Int} (h : CO M O P V F ns H s L pd) (hsL : s ≤ L) (hH : ∀ i, i ≤ L → H' i = H i) (hb : H L + s ≤ L) (hO : ∀ i, mI M' O i = if i = L then o else mI M O i) (hP : ∀ i, mI M' P i = if i = L then x else mI M P i) (hpd : ∀ i, i < L → pd i → pd' i) (hs : stO V F ns H' L o x) (hj : jm o → pd' L ∨ tgO H' (L + 1) L o x) : CO M' O P V F ns H' s (L + 1) pd' := by
  intro pc h0 h1
  rw [hO, hP]
  by_cases y : pc = L
  · subst y
    rw [if_pos rfl, if_pos rfl]
    exact ⟨hs, hj, by rw [hH pc (Nat.le_refl _)]; exact hb⟩
  · rw [if_neg y, if_neg y]
    obtain ⟨a1, a2, a3⟩ := h pc h0 (by omega)
    refine ⟨a1.cg (hH pc (by omega)) (hH (pc + 1) (by omega)), fun q => ?_, by rw [hH pc (by omega)]; exact a3⟩
    rcases a2 q with u | u
    · exact Or.inl (hpd pc (by omega) u)
    · exact Or.inr (u.cg (by omega) (by omega) hH)
/-- a jump is settled -/
theorem CO.put {pd pd' : Nat → Prop} {t : Nat} {x : Int} (h : CO M O P V F ns H s L pd) (hj : jm (mI M O t)) (hO : ∀ i, mI M' O i = mI M O i) (hP : ∀ i, mI M' P i = if i = t then x else mI M P i) (hpd : ∀ i, i < L → i ≠ t → pd i → pd' i) (ht : tgO H L t (mI M O t) x) : CO M' O P V F ns H s L pd' := by
  intro pc h0 h1
  rw [hO, hP]
  obtain ⟨a1, a2, a3⟩ := h pc h0 h1
  by_cases y : pc = t
  · subst y
    rw [if_pos rfl]
    refine ⟨?_, fun _ => Or.inr ht, a3⟩
    clear h hO hP hpd ht a2 a3
    unfold jm at hj
    rcases a1 with q | q | q | q | q | q | q | q
    · exact absurd q.1 (by omega)
    · exact absurd q.1 (by omega)
    · exact absurd q.1 (by omega)
    · exact Or.inr (Or.inr (Or.inr (Or.inl q)))
    · exact Or.inr (Or.inr (Or.inr (Or.inr (Or.inl q))))
    · exact absurd q.1 (by omega)
    · exact absurd q.1 (by omega)
    · exact absurd q.1 (by omega)
  · rw [if_neg y]
    refine ⟨a1, fun q => ?_, a3⟩
    rcases a2 q with u | u
    · exact Or.inl (hpd pc h1 y u)
    · exact Or.inr u
/-- below a '?' nothing tighter is open -/
def aO (M : mM) (r i : Nat) : Prop := (mI M (r + 1) i = 33 ∨ mI M (r + 1) i = 42) → ∀ j, j + 1 = i → lvl (mI M (r + 1) j) = 0
/-- what an open operation keeps -/
def enO (M : mM) (r O s L : Nat) (H : Nat → Nat) (i : Nat) : Prop := opn (mI M (r + 1) i) ∧ (0 ≤ mI M (r + 2) i ∧ mI M (r + 2) i ≤ 16384) ∧ (0 ≤ mI M (r + 4) i ∧ mI M (r + 4) i ≤ 7) ∧ ((mI M (r + 1) i = 15 ∨ mI M (r + 1) i = 16) → mI M (r + 4) i ≤ 3) ∧ (jm (mI M (r + 1) i) → ∃ t : Nat, mI M (r + 3) i = t ∧ s ≤ t ∧ t < L ∧ mI M O t = mI M (r + 1) i ∧ H t = bs M r i + 1 ∧ (mI M (r + 1) i ≠ 42 → H (t + 1) = bs M r i)) ∧ (¬ jm (mI M (r + 1) i) → mI M (r + 3) i = -1) ∧ aO M r i
def pdg (M : mM) (r k : Nat) (pc : Nat) : Prop := ∃ i, i < k ∧ mI M (r + 3) i = pc ∧ jm (mI M (r + 1) i)
/-- how many operands stand behind the latest sign -/
def uw (wt : Int) : Nat := if wt = 0 then 1 else 0
/-- reading a rule: k operations are open, at word a, L orders -/
def RG (M : mM) (r p O P n s V F : Nat) (ns : Nat → Int) (d0 : Nat) (H : Nat → Nat) (L k a : Nat) (wt : Int) : Prop :=
  (mI M r 2 = a ∧ mI M r 12 = k ∧ mI M r 7 = wt ∧ mI M p 2 = L) ∧ (wt = 0 ∨ wt = 1) ∧ (a ≤ n ∧ s ≤ L) ∧ mI M r 14 = ((uw wt + skk M r k : Nat) : Int) ∧ (mI M r 5 = ((d0 + sdp M r k : Nat) : Int) ∧ d0 + sdp M r k ≤ 40) ∧ (∀ i, i < k → i + 1 ≤ 6 * sdp M r (i + 1) + rkk (mI M (r + 1) i)) ∧ (∀ i, i < k → enO M r O s L H i) ∧ (H L = uw wt + bs M r k ∧ H L + s ≤ L) ∧ CO M O P V F ns H s L (pdg M r k) ∧ L + se M r k ≤ a ∧ (∀ j, mI M (r + 5) j = 0 ∨ mI M (r + 5) j = 1)
theorem rkk_b (o : Int) : rkk o ≤ 5 := by unfold rkk; (repeat' split) <;> omega
theorem skk_le (M : mM) (r : Nat) : ∀ k, skk M r k ≤ k
  | 0 => Nat.le_refl _
  | k + 1 => by
    have h1 := skk_le M r k
    have h2 : ckk (mI M (r + 1) k) ≤ 1 := by unfold ckk; split <;> omega
    have h3 : skk M r (k + 1) = skk M r k + ckk (mI M (r + 1) k) := rfl
    omega
/-- there is room on the piles -/
theorem RG.room {d0 : Nat} {wt : Int} (h : RG M r p O P n s V F ns d0 H L k a wt) : k ≤ 245 ∧ uw wt + skk M r k ≤ 246 := by
  obtain ⟨-, h2, -, -, ⟨-, h5⟩, h6, -⟩ := h
  have hk : k ≤ 245 := by
    by_cases y : k = 0
    · omega
    · have a1 := h6 (k - 1) (by omega)
      have a2 := rkk_b (mI M (r + 1) (k - 1))
      rw [show k - 1 + 1 = k by omega] at a1
      omega
  have := skk_le M r k
  have hu : uw wt ≤ 1 := by unfold uw; split <;> omega
  exact ⟨hk, by omega⟩
/-- the sums look at the piles alone -/
theorem sums_cg (h1 : ∀ j, j < k → mI M' (r + 1) j = mI M (r + 1) j) (h4 : ∀ j, j < k → mI M' (r + 4) j = mI M (r + 4) j) : ∀ i, i ≤ k → bs M' r i = bs M r i ∧ skk M' r i = skk M r i ∧ se M' r i = se M r i ∧ sdp M' r i = sdp M r i := fun i hi =>
  ⟨sq_cg i (fun j hj => by rw [h1 j (by omega), h4 j (by omega)]), sq_cg i (fun j hj => by rw [h1 j (by omega)]), sq_cg i (fun j hj => by rw [h1 j (by omega)]), sq_cg i (fun j hj => by rw [h1 j (by omega)])⟩
end RRH
end
section
/-! The class's reader of rules: push, mayDeny, takeValue, takeLevel. -/
section RRP
variable {G : mG} {d z r w T A B D N C n p O P K k a s L V F d0 : Nat} {M M' M1 M2 : mM} {H H' : Nat → Nat} {ns : Nat → Int} {wt : Int}
theorem s_RR_push {o pl od : Int} (ho : i32 o) (hpl : i32 pl) (hod : i32 od) (h : RB M z r w T A B D N C n p O P K) (hk : mI M r 12 = k) (hk3 : k < 336) (ha : mI M r 2 = a) (ha2 : a ≤ 16384) : Cv G y_RR_push d [vr r, vi o, vi pl, vi od] M (fun M' => RB M' z r w T A B D N C n p O P K ∧ FI (fun b => r ≤ b ∧ b ≤ r + 4) M M' ∧ (∀ i, mI M' r i = if i = 2 then (a : Int) + 1 else if i = 7 then 1 else if i = 12 then (k : Int) + 1 else mI M r i) ∧ (∀ i, mI M' (r + 1) i = if i = k then o else mI M (r + 1) i) ∧ (∀ i, mI M' (r + 2) i = if i = k then pl else mI M (r + 2) i) ∧ (∀ i, mI M' (r + 3) i = if i = k then od else mI M (r + 3) i) ∧ (∀ i, mI M' (r + 4) i = if i = k then 0 else mI M (r + 4) i)) := by
  have q8 : ∀ {Mx : mM}, RB Mx z r w T A B D N C n p O P K → (mR Mx r 8 = r + 1 ∧ mR Mx r 9 = r + 2 ∧ mR Mx r 10 = r + 3 ∧ mR Mx r 11 = r + 4) ∧ (mK Mx (r + 1) = 30 ∧ mK Mx (r + 2) = 30 ∧ mK Mx (r + 3) = 30 ∧ mK Mx (r + 4) = 30) ∧ (mN Mx (r + 1) = 336 ∧ mN Mx (r + 2) = 336 ∧ mN Mx (r + 3) = 336 ∧ mN Mx (r + 4) = 336) := fun hx => by
    obtain ⟨-, ⟨-, ⟨a1, a2, a3, a4, -⟩, ⟨b1, b2, b3, b4, -⟩, ⟨c1, c2, c3, c4, -⟩⟩, -⟩ := hx
    exact ⟨⟨a1, a2, a3, a4⟩, ⟨b1, b2, b3, b4⟩, ⟨c1, c2, c3, c4⟩⟩
  refine k_RR_push h.1 ho hpl hod ⟨h.2.1.1, fun y => absurd y (by omega), fun _ => ?_⟩
  rw [(q8 h).1.1, hk, Int.toNat_natCast, (q8 h).2.2.1]
  refine ⟨(q8 h).2.1.1, by omega, fun M16 e16 => ?_⟩
  obtain ⟨h16, f16, g16, u16⟩ := rb_tab h (i := 1) (by omega) (by omega) ho e16
  rw [(q8 h16).1.2.1, u16 r (by omega), hk, Int.toNat_natCast, (q8 h16).2.2.2.1]
  refine ⟨(q8 h16).2.1.2.1, by omega, fun M20 e20 => ?_⟩
  obtain ⟨h20, f20, g20, u20⟩ := rb_tab h16 (i := 2) (by omega) (by omega) hpl e20
  rw [(q8 h20).1.2.2.1, u20 r (by omega), u16 r (by omega), hk, Int.toNat_natCast, (q8 h20).2.2.2.2.1]
  refine ⟨(q8 h20).2.1.2.2.1, by omega, fun M24 e24 => ?_⟩
  obtain ⟨h24, f24, g24, u24⟩ := rb_tab h20 (i := 3) (by omega) (by omega) hod e24
  rw [(q8 h24).1.2.2.2, u24 r (by omega), u20 r (by omega), u16 r (by omega), hk, Int.toNat_natCast, (q8 h24).2.2.2.2.2]
  refine ⟨(q8 h24).2.1.2.2.2, by omega, fun M28 e28 => ?_⟩
  obtain ⟨h28, f28, g28, u28⟩ := rb_tab h24 (i := 4) (by omega) (by omega) (v := 0) (i32s (by omega) (by omega)) e28
  have r28 : mI M28 r = mI M r := by rw [u28 r (by omega), u24 r (by omega), u20 r (by omega), u16 r (by omega)]
  rw [r28, hk]
  refine ⟨⟨by omega, by omega⟩, fun M31 e31 M33 e33 => ?_⟩
  obtain ⟨h31, f31, g31, u31⟩ := rb_fld h28 ⟨by omega, by omega⟩ e31
  obtain ⟨h33, f33, g33, u33⟩ := rb_fld h31 (v := 1) (i32s (by omega) (by omega)) e33
  have e2 : mI M33 r 2 = a := by rw [g33, if_neg (by decide), g31, if_neg (by decide), r28, ha]
  rw [e2]
  refine ⟨⟨by omega, by omega⟩, fun M36 e36 => ?_⟩
  obtain ⟨h36, f36, g36, u36⟩ := rb_fld h33 ⟨by omega, by omega⟩ e36
  have fi : FI (fun b => r ≤ b ∧ b ≤ r + 4) M M36 := by
    have x16 : FI (fun b => r ≤ b ∧ b ≤ r + 4) M M16 := by rw [e16]; exact FI.ui ⟨by omega, by omega⟩
    have x20 : FI (fun b => r ≤ b ∧ b ≤ r + 4) M16 M20 := by rw [e20]; exact FI.ui ⟨by omega, by omega⟩
    have x24 : FI (fun b => r ≤ b ∧ b ≤ r + 4) M20 M24 := by rw [e24]; exact FI.ui ⟨by omega, by omega⟩
    have x28 : FI (fun b => r ≤ b ∧ b ≤ r + 4) M24 M28 := by rw [e28]; exact FI.ui ⟨by omega, by omega⟩
    have x31 : FI (fun b => r ≤ b ∧ b ≤ r + 4) M28 M31 := by rw [e31]; exact FI.ui ⟨by omega, by omega⟩
    have x33 : FI (fun b => r ≤ b ∧ b ≤ r + 4) M31 M33 := by rw [e33]; exact FI.ui ⟨by omega, by omega⟩
    have x36 : FI (fun b => r ≤ b ∧ b ≤ r + 4) M33 M36 := by rw [e36]; exact FI.ui ⟨by omega, by omega⟩
    exact (((((x16.trans x20).trans x24).trans x28).trans x31).trans x33).trans x36
  refine ⟨h36, fi, fun i => ?_, fun i => ?_, fun i => ?_, fun i => ?_, fun i => ?_⟩
  · rw [g36]
    by_cases y2 : i = 2
    · rw [if_pos y2, if_pos y2]
    · rw [if_neg y2, if_neg y2, g33]
      by_cases y7 : i = 7
      · rw [if_pos y7, if_pos y7]
      · rw [if_neg y7, if_neg y7, g31, r28]
  · rw [u36 _ (by omega), u33 _ (by omega), u31 _ (by omega), u28 _ (by omega), u24 _ (by omega), u20 _ (by omega), g16]
  · rw [u36 _ (by omega), u33 _ (by omega), u31 _ (by omega), u28 _ (by omega), u24 _ (by omega), g20, u16 _ (by omega)]
  · rw [u36 _ (by omega), u33 _ (by omega), u31 _ (by omega), u28 _ (by omega), g24, u20 _ (by omega), u16 _ (by omega)]
  · rw [u36 _ (by omega), u33 _ (by omega), u31 _ (by omega), g28, u24 _ (by omega), u20 _ (by omega), u16 _ (by omega)]
/-- the orders lie apart from the reader -/
theorem off0 {x r : Nat} (h : x < r ∨ r + 9 < x) : x ≠ r := by omega
theorem off9 {x r i : Nat} (h : x < r ∨ r + 9 < x) (hi : i ≤ 9) : x ≠ r + i := by omega
theorem off4 {x r : Nat} (h : x < r ∨ r + 9 < x) : x < r ∨ r + 4 < x := by omega
theorem fof0 {x r : Nat} (h : x < r ∨ r + 9 < x) : r ≠ x := by omega
theorem fof9 {x r i : Nat} (h : x < r ∨ r + 9 < x) (hi : i ≤ 9) : r + i ≠ x := by omega
theorem off3 {b r p O P : Nat} (h1 : p < r ∨ r + 9 < p) (h2 : O < r ∨ r + 9 < O) (h3 : P < r ∨ r + 9 < P) (y1 : r ≤ b) (y2 : b ≤ r + 9) (q : b = p ∨ b = O ∨ b = P) : False := by
  rcases q with q | q | q <;> omega
theorem nin5 {b r : Nat} (y1 : b ≠ r) (y2 : b ≠ r + 5) (q : b = r ∨ b = r + 5) : False := q.elim y1 y2
theorem rin5 {b r : Nat} (q : b = r ∨ b = r + 5) : r ≤ b ∧ b ≤ r + 9 := by omega
theorem RB.off (h : RB M z r w T A B D N C n p O P K) : (O < r ∨ r + 9 < O) ∧ (P < r ∨ r + 9 < P) ∧ (p < r ∨ r + 9 < p) ∧ O ≠ p ∧ P ≠ p ∧ O ≠ P := by
  obtain ⟨-, -, -, -, ⟨-, -, -, ⟨a1, a2, a3, a4⟩, -⟩, ⟨s1, s2, -⟩, -⟩ := h
  refine ⟨?_, ?_, ?_, ?_, ?_, a3⟩ <;> omega
/-- an open operation keeps what it keeps -/
theorem enO.cg {L' i : Nat} (h : enO M r O s L H i) (h1 : ∀ j, j ≤ i → mI M' (r + 1) j = mI M (r + 1) j) (h2 : mI M' (r + 2) i = mI M (r + 2) i) (h3 : mI M' (r + 3) i = mI M (r + 3) i) (h4 : ∀ j, j ≤ i → mI M' (r + 4) j = mI M (r + 4) j) (hL : L ≤ L') (hO : ∀ j, j < L → mI M' O j = mI M O j) (hH : ∀ j, j ≤ L → H' j = H j) : enO M' r O s L' H' i := by
  obtain ⟨a1, a2, a3, a4, a5, a6, a7⟩ := h
  have b := (sums_cg (M := M) (M' := M') (r := r) (k := i) (fun j hj => h1 j (by omega)) (fun j hj => h4 j (by omega)) i (Nat.le_refl _)).1
  unfold enO
  rw [h1 i (Nat.le_refl _), h2, h3, h4 i (Nat.le_refl _), b]
  refine ⟨a1, a2, a3, a4, fun q => ?_, a6, fun q j hj => by rw [h1 j (by omega)]; exact a7 (by rw [h1 i (Nat.le_refl _)] at q; exact q) j hj⟩
  obtain ⟨t, t1, t2, t3, t4, t5, t6⟩ := a5 q
  exact ⟨t, t1, t2, by omega, by rw [hO t t3]; exact t4, by rw [hH t (by omega)]; exact t5, fun y => by rw [hH (t + 1) (by omega)]; exact t6 y⟩
theorem pdg_cg {k' pc : Nat} (h : pdg M r k pc) (hk : k ≤ k') (h1 : ∀ j, j < k → mI M' (r + 1) j = mI M (r + 1) j) (h3 : ∀ j, j < k → mI M' (r + 3) j = mI M (r + 3) j) : pdg M' r k' pc := by
  obtain ⟨i, i1, i2, i3⟩ := h
  exact ⟨i, by omega, by rw [h3 i i1]; exact i2, by rw [h1 i i1]; exact i3⟩
end RRP
end
section
/-! The class's reader of rules: a level begins, a sign is read. -/
section RRL
variable {G : mG} {d z r w T A B D N C n p O P K k a s L V F d0 : Nat} {M M' M1 M2 : mM} {H H' : Nat → Nat} {ns : Nat → Int} {wt : Int}
theorem sum_top (M : mM) (r k : Nat) : bs M r (k + 1) = bs M r k + cm (mI M (r + 1) k) (mI M (r + 4) k) ∧ skk M r (k + 1) = skk M r k + ckk (mI M (r + 1) k) ∧ se M r (k + 1) = se M r k + cee (mI M (r + 1) k) ∧ sdp M r (k + 1) = sdp M r k + cdp (mI M (r + 1) k) := ⟨rfl, rfl, rfl, rfl⟩
theorem cee_b (o : Int) : cee o ≤ 1 := by unfold cee; split <;> omega
/-- an operation without an order of its own is open now -/
theorem RG.psh {o pl : Int} {dd : Nat} (g : RG M r p O P n s V F ns d0 H L k a wt) (hr : ∀ i, mI M' r i = if i = 2 then (a : Int) + 1 else if i = 7 then 1 else if i = 12 then (k : Int) + 1 else if i = 5 then (dd : Int) else mI M r i) (t1 : ∀ i, mI M' (r + 1) i = if i = k then o else mI M (r + 1) i) (t2 : ∀ i, mI M' (r + 2) i = if i = k then pl else mI M (r + 2) i) (t3 : ∀ i, mI M' (r + 3) i = if i = k then -1 else mI M (r + 3) i) (t4 : ∀ i, mI M' (r + 4) i = if i = k then 0 else mI M (r + 4) i) (t5 : mI M' (r + 5) = mI M (r + 5)) (tp : mI M' p = mI M p) (tO : mI M' O = mI M O) (tP : mI M' P = mI M P) (ho : opn o) (hj : ¬ jm o) (hpl : 0 ≤ pl ∧ pl ≤ 16384) (hd : dd = d0 + sdp M r k + cdp o) (hd4 : dd ≤ 40) (hrk : k + 1 ≤ 6 * (sdp M r k + cdp o) + rkk o) (hu : uw wt = ckk o) (hb : uw wt = cm o 0) (han : a < n) : RG M' r p O P n s V F ns d0 H L (k + 1) (a + 1) 1 := by
  obtain ⟨⟨g1, g2, g3, g4⟩, gw, ⟨ga, gs⟩, gc, ⟨gd, gd4⟩, gr, ge, ⟨gH, gHs⟩, gC, gL, gt⟩ := g
  have l1 : ∀ j, j < k → mI M' (r + 1) j = mI M (r + 1) j := fun j hj => by rw [t1, if_neg (by omega)]
  have l2 : ∀ j, j < k → mI M' (r + 2) j = mI M (r + 2) j := fun j hj => by rw [t2, if_neg (by omega)]
  have l3 : ∀ j, j < k → mI M' (r + 3) j = mI M (r + 3) j := fun j hj => by rw [t3, if_neg (by omega)]
  have l4 : ∀ j, j < k → mI M' (r + 4) j = mI M (r + 4) j := fun j hj => by rw [t4, if_neg (by omega)]
  have sm := fun i hi => sums_cg (M := M) (M' := M') (r := r) (k := k) l1 l4 i hi
  obtain ⟨b1, b2, b3, b4⟩ := sum_top M' r k
  rw [t1, if_pos rfl, (sm k (Nat.le_refl _)).2.1] at b2
  rw [t1, if_pos rfl, (sm k (Nat.le_refl _)).2.2.1] at b3
  rw [t1, if_pos rfl, (sm k (Nat.le_refl _)).2.2.2] at b4
  rw [t1, if_pos rfl, t4, if_pos rfl, (sm k (Nat.le_refl _)).1] at b1
  have u1 : uw 1 = 0 := rfl
  have ce := cee_b o
  refine ⟨⟨by rw [hr, if_pos rfl]; omega, by rw [hr, if_neg (by decide), if_neg (by decide), if_pos rfl]; omega, by rw [hr, if_neg (by decide), if_pos rfl], by rw [tp]; exact g4⟩, Or.inr rfl, ⟨by omega, gs⟩, by rw [hr, if_neg (by decide), if_neg (by decide), if_neg (by decide), if_neg (by decide), gc, b2]; omega, ⟨by rw [hr, if_neg (by decide), if_neg (by decide), if_neg (by decide), if_pos rfl, b4]; omega, by omega⟩, fun i hi => ?_, fun i hi => ?_, ⟨by omega, gHs⟩, ?_, by omega, fun j => by rw [t5]; exact gt j⟩
  · by_cases y : i = k
    · subst y
      rw [b4, t1, if_pos rfl]
      exact hrk
    · rw [(sm (i + 1) (by omega)).2.2.2, l1 i (by omega)]
      exact gr i (by omega)
  · by_cases y : i = k
    · subst y
      unfold enO
      rw [t1, if_pos rfl, t2, if_pos rfl, t3, if_pos rfl, t4, if_pos rfl]
      exact ⟨ho, hpl, by omega, fun _ => by omega, fun q => absurd q hj, fun _ => rfl, fun q => absurd (show jm o by rw [t1, if_pos rfl] at q; unfold jm; omega) hj⟩
    · exact (ge i (by omega)).cg (fun j hj => l1 j (by omega)) (l2 i (by omega)) (l3 i (by omega)) (fun j hj => l4 j (by omega)) (Nat.le_refl _) (fun j _ => by rw [tO]) (fun _ _ => rfl)
  · intro pc h0 h1
    obtain ⟨a1, a2, a3⟩ := gC pc h0 h1
    rw [tO, tP]
    refine ⟨a1, fun q => ?_, a3⟩
    rcases a2 q with v | v
    · exact Or.inl (pdg_cg v (by omega) l1 l3)
    · exact Or.inr v
/-- there is room for a level, or a sign -/
theorem RG.lvl (g : RG M r p O P n s V F ns d0 H L k a wt) {o : Int} (h : cdp o = 1 ∨ (cdp o = 0 ∧ 1 ≤ rkk o ∧ (0 < k → rkk (mI M (r + 1) (k - 1)) < rkk o))) : k + 1 ≤ 6 * (sdp M r k + cdp o) + rkk o := by
  have gr := g.2.2.2.2.2.1
  by_cases y : k = 0
  · omega
  · have a1 := gr (k - 1) (by omega)
    have a2 := rkk_b (mI M (r + 1) (k - 1))
    rw [show k - 1 + 1 = k by omega] at a1
    omega
/-- what a step that opens something, and nothing else, comes to -/
def lvQ (M : mM) (z r w T A B D N C n p O P K s V F : Nat) (ns : Nat → Int) (d0 : Nat) (H : Nat → Nat) (L k a : Nat) (x : Int) (M' : mM) : Prop := RB M' z r w T A B D N C n p O P K ∧ FI (rdS r p O P) M M' ∧ (∀ i, i ≠ 2 → i ≠ 5 → i ≠ 7 → i ≠ 12 → mI M' r i = mI M r i) ∧ (∀ i, 5 ≤ i → i ≤ 9 → mI M' (r + i) = mI M (r + i)) ∧ (mI M' p = mI M p ∧ mI M' O = mI M O ∧ mI M' P = mI M P) ∧ ((x = 2 ∧ M' = M) ∨ (x = 0 ∧ RG M' r p O P n s V F ns d0 H L (k + 1) (a + 1) 1))
end RRL
end
section
/-! The class's reader of rules: an operation is grouped. -/
section RRG
variable {G : mG} {d z r w T A B D N C n p O P K k a s L V F d0 c : Nat} {M0 M M' M1 M2 M110 M126 M133 : mM} {H H' : Nat → Nat} {ns : Nat → Int} {wt : Int}
/-- kinds are taken and put, a fault may be noted -/
def gI (M0 : mM) (z r w T A B D N C n p O P K k c : Nat) (M : mM) : Prop := RB M z r w T A B D N C n p O P K ∧ FI (rdS r p O P) M0 M ∧ (∀ i, i ≠ 3 → i ≠ 4 → i ≠ 12 → i ≠ 14 → mI M r i = mI M0 r i) ∧ (mI M r 12 = k ∧ mI M r 14 = c) ∧ (mI M0 r 3 ≠ 0 → mI M r 3 = mI M0 r 3) ∧ (∀ b, b ≠ r → b ≠ r + 5 → mI M b = mI M0 b) ∧ (∀ j, mI M (r + 5) j = 0 ∨ mI M (r + 5) j = 1)
theorem gI.pop (h : gI M0 z r w T A B D N C n p O P K k (c + 1) M) (hc : c < 336) : Ci G y_RR_popKind d [vr r] M (fun v M' => (v = 0 ∨ v = 1) ∧ gI M0 z r w T A B D N C n p O P K k c M') := by
  obtain ⟨h1, h2, h3, ⟨h4, h5⟩, h6, h7, h8⟩ := h
  refine (s_RR_popKind h1 h5 hc).mono (fun v M1 q => ?_)
  obtain ⟨hv, b1, f1, g1⟩ := q
  have o1 : ∀ b, b ≠ r → mI M1 b = mI M b := fun b hb => f1.2.2.2.2.2.2 b hb
  refine ⟨hv, b1, h2.trans (f1.mono (fun b q => Or.inl ⟨by omega, by omega⟩)), fun i i3 i4 i12 i14 => by rw [g1, if_neg i14]; exact h3 i i3 i4 i12 i14, ⟨by rw [g1, if_neg (by decide)]; exact h4, by rw [g1, if_pos rfl]⟩, fun q => by rw [g1, if_neg (by decide)]; exact h6 q, fun b b1 b2 => by rw [o1 b b1]; exact h7 b b1 b2, fun j => by rw [o1 (r + 5) (by omega)]; exact h8 j⟩
theorem gI.note {x y : Int} (hx : i32 x) (hy : i32 y) (h : gI M0 z r w T A B D N C n p O P K k c M) : Cv G y_RR_note d [vr r, vi x, vi y] M (fun M' => gI M0 z r w T A B D N C n p O P K k c M') := by
  obtain ⟨h1, h2, h3, ⟨h4, h5⟩, h6, h7, h8⟩ := h
  refine (s_RR_note hx hy h1).mono (fun M1 q => ?_)
  obtain ⟨b1, f1, g1, -, g3⟩ := q
  have o1 : ∀ b, b ≠ r → mI M1 b = mI M b := fun b hb => f1.2.2.2.2.2.2 b hb
  refine ⟨b1, h2.trans (f1.mono (fun b q => Or.inl ⟨by omega, by omega⟩)), fun i i3 i4 i12 i14 => by rw [g1 i i3 i4]; exact h3 i i3 i4 i12 i14, ⟨by rw [g1 12 (by decide) (by decide)]; exact h4, by rw [g1 14 (by decide) (by decide)]; exact h5⟩, fun q => by rw [g3 (by rw [h6 q]; exact q)]; exact h6 q, fun b b1 b2 => by rw [o1 b b1]; exact h7 b b1 b2, fun j => by rw [o1 (r + 5) (by omega)]; exact h8 j⟩
/-- what is left when an operation has been grouped -/
def gQ (M0 : mM) (z r w T A B D N C n p O P K s V F : Nat) (ns : Nat → Int) (d0 : Nat) (H : Nat → Nat) (L k a : Nat) (M' : mM) : Prop := RB M' z r w T A B D N C n p O P K ∧ FI (rdS r p O P) M0 M' ∧ (∀ i, i ≠ 3 → i ≠ 4 → i ≠ 5 → i ≠ 12 → i ≠ 14 → mI M' r i = mI M0 r i) ∧ (mI M0 r 3 ≠ 0 → mI M' r 3 = mI M0 r 3) ∧ (∀ i, 6 ≤ i → i ≤ 9 → mI M' (r + i) = mI M0 (r + i)) ∧ (∀ i, i ≠ 2 → mI M' p i = mI M0 p i) ∧ (∀ i, i < s → mI M' O i = mI M0 O i ∧ mI M' P i = mI M0 P i) ∧ (∀ i, i < k → mI M' (r + 1) i = mI M0 (r + 1) i) ∧ ∃ H' L', RG M' r p O P n s V F ns d0 H' L' k a 0 ∧ L ≤ L' ∧ ∀ i, i ≤ L → H' i = H i
/-- operations that are grouped -/
def grpO (o : Int) : Prop := (19 ≤ o ∧ o ≤ 31) ∨ o = 40 ∨ o = 41 ∨ o = 42
/-- kinds, faults and depth are as they will be -/
def gJ (M0 : mM) (z r w T A B D N C n p O P K d0 k : Nat) (M : mM) : Prop := RB M z r w T A B D N C n p O P K ∧ FI (rdS r p O P) M0 M ∧ (∀ i, i ≠ 3 → i ≠ 4 → i ≠ 5 → i ≠ 12 → i ≠ 14 → mI M r i = mI M0 r i) ∧ (mI M r 12 = k ∧ mI M r 14 = ((uw 0 + skk M0 r k : Nat) : Int) ∧ mI M r 5 = ((d0 + sdp M0 r k : Nat) : Int)) ∧ (mI M0 r 3 ≠ 0 → mI M r 3 = mI M0 r 3) ∧ (∀ b, b ≠ r → b ≠ r + 5 → mI M b = mI M0 b) ∧ (∀ j, mI M (r + 5) j = 0 ∨ mI M (r + 5) j = 1)
theorem gr_ord {o : Int} (g : RG M0 r p O P n s V F ns d0 H L (k + 1) a 0) (hb0 : RB M0 z r w T A B D N C n p O P K) (hop : mI M0 (r + 1) k = o) (no3 : (19 ≤ o ∧ o ≤ 29) ∨ o = 40 ∨ o = 41) (hJ : gJ M0 z r w T A B D N C n p O P K d0 k M110) (o126 : mOk M126) (f126 : FI (prS p O P) M110 M126) (p126 : ∀ j, mI M126 p j = if j = 2 then (L : Int) + 1 else mI M110 p j) (q126 : ∀ j, mI M126 O j = if j = L then o else mI M110 O j) (u126 : ∀ j, mI M126 P j = if j = L then mI M0 (r + 2) k else mI M110 P j) : gQ M0 z r w T A B D N C n p O P K s V F ns d0 H L k a M126 := by
  obtain ⟨oO, oP, op, e1, e2, e3⟩ := hb0.off
  obtain ⟨⟨g1, g2, g3, g4⟩, gw, ⟨ga, gs⟩, gc, ⟨gd, gd4⟩, gr, ge, ⟨gH, gHs⟩, gC, gL, gt⟩ := id g
  obtain ⟨h110, F110, R, ⟨R12, R14, d110⟩, R3, X, T5⟩ := hJ
  obtain ⟨b1, b2, b3, b4⟩ := sum_top M0 r k
  have u0 : uw 0 = 1 := rfl
  rw [hop] at b1 b2 b3 b4
  have nj : ¬ jm o := by unfold jm; omega
  have f126' : FI (rdS r p O P) M110 M126 := f126.mono (fun b q => Or.inr q)
  have h126 := h110.fi o126 f126'
  have Y : ∀ b, r ≤ b → b ≤ r + 9 → mI M126 b = mI M110 b := fun b y1 y2 => f126.2.2.2.2.2.2 b (fun q => by
    have q' : b = p ∨ b = O ∨ b = P := q
    first | exact off3 op oO oP (by assumption) (by assumption) q' | omega)
  have YT : ∀ i, 1 ≤ i → i ≤ 9 → i ≠ 5 → mI M126 (r + i) = mI M0 (r + i) := fun i i1 i9 i5 => by rw [Y (r + i) (by omega) (by omega), X (r + i) (by omega) (by omega)]
  obtain ⟨H', hH'⟩ : ∃ H' : Nat → Nat, ∀ i, H' i = if i = L + 1 then 1 + bs M0 r k else H i := ⟨fun i => if i = L + 1 then 1 + bs M0 r k else H i, fun _ => rfl⟩
  have hHs : ∀ i, i ≤ L → H' i = H i := fun i hi => by rw [hH', if_neg (by omega)]
  have hHL : H' (L + 1) = 1 + bs M0 r k := by rw [hH', if_pos rfl]
  have sm := fun i hi => sums_cg (M := M0) (M' := M126) (r := r) (k := k) (fun j _ => by rw [YT 1 (by omega) (by omega) (by omega)]) (fun j _ => by rw [YT 4 (by omega) (by omega) (by omega)]) i hi
  have QO : ∀ i, mI M126 O i = if i = L then o else mI M0 O i := fun i => by rw [q126, X O (by first | exact oO | exact off0 oO | exact off9 oO (by decide) | exact off4 oO | exact e1 | exact e3 | omega) (by first | exact oO | exact off0 oO | exact off9 oO (by decide) | exact off4 oO | exact e1 | exact e3 | omega)]
  have QP : ∀ i, mI M126 P i = if i = L then mI M0 (r + 2) k else mI M0 P i := fun i => by rw [u126, X P (by first | exact oP | exact off0 oP | exact off9 oP (by decide) | exact off4 oP | exact e2 | exact fun q => e3 q.symm | omega) (by first | exact oP | exact off0 oP | exact off9 oP (by decide) | exact off4 oP | exact e2 | exact fun q => e3 q.symm | omega)]
  have cmv : bs M0 r (k + 1) = bs M0 r k + (if 19 ≤ o ∧ o ≤ 29 then 1 else 0) := by
    rw [b1]
    unfold cm
    by_cases v : 19 ≤ o ∧ o ≤ 29
    · rw [if_pos v, if_pos v]
    · rw [if_neg v, if_neg v, if_neg (by omega)]
  have ce1 : cee o = 1 := by unfold cee; rw [if_pos no3]
  refine ⟨h126, F110.trans f126', fun i i3 i4 i5 i12 i14 => by rw [Y r (by omega) (by omega)]; exact R i i3 i4 i5 i12 i14, fun q => by rw [Y r (by omega) (by omega)]; exact R3 q, fun i i6 i9 => YT i (by omega) i9 (by omega), fun i i2 => by rw [p126, if_neg i2, X p (by first | exact op | exact off0 op | exact off9 op (by decide) | exact off4 op | exact fun q => e1 q.symm | exact fun q => e2 q.symm | omega) (by first | exact op | exact off0 op | exact off9 op (by decide) | exact off4 op | exact fun q => e1 q.symm | exact fun q => e2 q.symm | omega)], fun i hi => ⟨by rw [QO, if_neg (by omega)], by rw [QP, if_neg (by omega)]⟩, fun i _ => by rw [YT 1 (by omega) (by omega) (by omega)], H', L + 1, ⟨⟨by rw [Y r (by omega) (by omega), R 2 (by decide) (by decide) (by decide) (by decide) (by decide)]; exact g1, by rw [Y r (by omega) (by omega)]; exact R12, by rw [Y r (by omega) (by omega), R 7 (by decide) (by decide) (by decide) (by decide) (by decide)]; exact g3, by rw [p126, if_pos rfl]; omega⟩, Or.inl rfl, ⟨ga, by omega⟩, by rw [Y r (by omega) (by omega), R14, (sm k (Nat.le_refl _)).2.1], ⟨by rw [Y r (by omega) (by omega), d110, (sm k (Nat.le_refl _)).2.2.2], by rw [(sm k (Nat.le_refl _)).2.2.2]; omega⟩, fun i hi => by rw [(sm (i + 1) (by omega)).2.2.2, YT 1 (by omega) (by omega) (by omega)]; exact gr i (by omega), fun i hi => ?_, ⟨?_, ?_⟩, ?_, by rw [(sm k (Nat.le_refl _)).2.2.1]; omega, fun j => by rw [Y (r + 5) (by omega) (by omega)]; exact T5 j⟩, by omega, hHs⟩
  · exact (ge i (by omega)).cg (fun j _ => by rw [YT 1 (by omega) (by omega) (by omega)]) (by rw [YT 2 (by omega) (by omega) (by omega)]) (by rw [YT 3 (by omega) (by omega) (by omega)]) (fun j _ => by rw [YT 4 (by omega) (by omega) (by omega)]) (by omega) (fun j hj => by rw [QO, if_neg (by omega)]) hHs
  · rw [hHL, (sm k (Nat.le_refl _)).1]; omega
  · rw [hHL]
    split at cmv <;> omega
  · refine gC.add gs hHs gHs QO QP (fun i _ q => ?_) ?_ (fun q => absurd q nj)
    · obtain ⟨j, j1, j2, j3⟩ := q
      have jk : j ≠ k := fun z => by rw [z, hop] at j3; exact nj j3
      exact ⟨j, by omega, by rw [YT 3 (by omega) (by omega) (by omega)]; exact j2, by rw [YT 1 (by omega) (by omega) (by omega)]; exact j3⟩
    · have e0 := hHs L (Nat.le_refl _)
      by_cases v : 19 ≤ o ∧ o ≤ 29
      · rw [if_pos v] at cmv
        exact Or.inr (Or.inr (Or.inr (Or.inr (Or.inr (Or.inr (Or.inl ⟨Or.inr (Or.inr v), by omega, by omega⟩))))))
      · rw [if_neg v] at cmv
        exact Or.inr (Or.inr (Or.inr (Or.inr (Or.inr (Or.inl ⟨by omega, by omega, by omega⟩)))))
theorem gr_jmp {o : Int} {t : Nat} (g : RG M0 r p O P n s V F ns d0 H L (k + 1) a 0) (hb0 : RB M0 z r w T A B D N C n p O P K) (hop : mI M0 (r + 1) k = o) (yj : jm o) (no33 : o ≠ 33) (hJ : gJ M0 z r w T A B D N C n p O P K d0 k M110) (t1 : mI M0 (r + 3) k = t) (t2 : s ≤ t) (t3 : t < L) (t4 : mI M0 O t = o) (t5 : H t = bs M0 r k + 1) (o133 : mOk M133) (e133 : M133 = mUI M110 P t L) : gQ M0 z r w T A B D N C n p O P K s V F ns d0 H L k a M133 := by
  obtain ⟨oO, oP, op, e1, e2, e3⟩ := hb0.off
  obtain ⟨⟨g1, g2, g3, g4⟩, gw, ⟨ga, gs⟩, gc, ⟨gd, gd4⟩, gr, ge, ⟨gH, gHs⟩, gC, gL, gt⟩ := id g
  obtain ⟨h110, F110, R, ⟨R12, R14, d110⟩, R3, X, T5⟩ := hJ
  obtain ⟨b1, b2, b3, b4⟩ := sum_top M0 r k
  have u0 : uw 0 = 1 := rfl
  rw [hop] at b1 b2 b3 b4
  have f133 : FI (rdS r p O P) M110 M133 := by rw [e133]; exact FI.ui (Or.inr (Or.inr (Or.inr rfl)))
  have h133 := h110.fi o133 f133
  have Y : ∀ b, b ≠ P → mI M133 b = mI M110 b := fun b y1 => by rw [e133]; funext i; rw [mI_UI, if_neg (fun q => y1 q.1)]
  have YT : ∀ i, 1 ≤ i → i ≤ 9 → i ≠ 5 → mI M133 (r + i) = mI M0 (r + i) := fun i i1 i9 i5 => by rw [Y (r + i) (by omega), X (r + i) (by omega) (by omega)]
  have sm := fun i hi => sums_cg (M := M0) (M' := M133) (r := r) (k := k) (fun j _ => by rw [YT 1 (by omega) (by omega) (by omega)]) (fun j _ => by rw [YT 4 (by omega) (by omega) (by omega)]) i hi
  have QP : ∀ i, mI M133 P i = if i = t then (L : Int) else mI M0 P i := fun i => by
    rw [e133, mI_UI]
    by_cases v : i = t
    · rw [if_pos ⟨rfl, v⟩, if_pos v]
    · rw [if_neg (fun q => v q.2), if_neg v, X P (by first | exact oP | exact off0 oP | exact off9 oP (by decide) | exact off4 oP | exact e2 | exact fun q => e3 q.symm | omega) (by first | exact oP | exact off0 oP | exact off9 oP (by decide) | exact off4 oP | exact e2 | exact fun q => e3 q.symm | omega)]
  have QO : ∀ i, mI M133 O i = mI M0 O i := fun i => by rw [Y O (by first | exact oO | exact off0 oO | exact off9 oO (by decide) | exact off4 oO | exact e1 | exact e3 | omega), X O (by first | exact oO | exact off0 oO | exact off9 oO (by decide) | exact off4 oO | exact e1 | exact e3 | omega) (by first | exact oO | exact off0 oO | exact off9 oO (by decide) | exact off4 oO | exact e1 | exact e3 | omega)]
  have cm0 : cm o (mI M0 (r + 4) k) = 0 := by
    unfold jm at yj
    unfold cm
    rw [if_neg (by omega), if_neg (by omega)]
  have ce0 : se M0 r k ≤ se M0 r (k + 1) := by omega
  refine ⟨h133, F110.trans f133, fun i i3 i4 i5 i12 i14 => by rw [Y r (by omega)]; exact R i i3 i4 i5 i12 i14, fun q => by rw [Y r (by omega)]; exact R3 q, fun i i6 i9 => YT i (by omega) i9 (by omega), fun i i2 => by rw [Y p (by first | exact op | exact off0 op | exact off9 op (by decide) | exact off4 op | exact fun q => e1 q.symm | exact fun q => e2 q.symm | omega), X p (by first | exact op | exact off0 op | exact off9 op (by decide) | exact off4 op | exact fun q => e1 q.symm | exact fun q => e2 q.symm | omega) (by first | exact op | exact off0 op | exact off9 op (by decide) | exact off4 op | exact fun q => e1 q.symm | exact fun q => e2 q.symm | omega)], fun i hi => ⟨QO i, by rw [QP, if_neg (by omega)]⟩, fun i _ => by rw [YT 1 (by omega) (by omega) (by omega)], H, L, ⟨⟨by rw [Y r (by omega), R 2 (by decide) (by decide) (by decide) (by decide) (by decide)]; exact g1, by rw [Y r (by omega)]; exact R12, by rw [Y r (by omega), R 7 (by decide) (by decide) (by decide) (by decide) (by decide)]; exact g3, by rw [Y p (by first | exact op | exact off0 op | exact off9 op (by decide) | exact off4 op | exact fun q => e1 q.symm | exact fun q => e2 q.symm | omega), X p (by first | exact op | exact off0 op | exact off9 op (by decide) | exact off4 op | exact fun q => e1 q.symm | exact fun q => e2 q.symm | omega) (by first | exact op | exact off0 op | exact off9 op (by decide) | exact off4 op | exact fun q => e1 q.symm | exact fun q => e2 q.symm | omega)]; exact g4⟩, Or.inl rfl, ⟨ga, gs⟩, by rw [Y r (by omega), R14, (sm k (Nat.le_refl _)).2.1], ⟨by rw [Y r (by omega), d110, (sm k (Nat.le_refl _)).2.2.2], by rw [(sm k (Nat.le_refl _)).2.2.2]; omega⟩, fun i hi => by rw [(sm (i + 1) (by omega)).2.2.2, YT 1 (by omega) (by omega) (by omega)]; exact gr i (by omega), fun i hi => ?_, ⟨by rw [(sm k (Nat.le_refl _)).1, gH, b1, cm0]; rfl, gHs⟩, ?_, by rw [(sm k (Nat.le_refl _)).2.2.1]; omega, fun j => by rw [Y (r + 5) (by omega)]; exact T5 j⟩, Nat.le_refl _, fun _ _ => rfl⟩
  · exact (ge i (by omega)).cg (fun j _ => by rw [YT 1 (by omega) (by omega) (by omega)]) (by rw [YT 2 (by omega) (by omega) (by omega)]) (by rw [YT 3 (by omega) (by omega) (by omega)]) (fun j _ => by rw [YT 4 (by omega) (by omega) (by omega)]) (Nat.le_refl _) (fun j _ => QO j) (fun _ _ => rfl)
  · refine gC.put (t := t) (x := (L : Int)) (by rw [t4]; exact yj) QO QP (fun i _ it q => ?_) ⟨L, rfl, t3, Nat.le_refl _, fun q => absurd q (by rw [t4]; exact no33), fun _ => by rw [gH, b1, cm0, t5]; omega⟩
    obtain ⟨j, j1, j2, j3⟩ := q
    have jk : j ≠ k := fun z => by rw [z, t1] at j2; omega
    exact ⟨j, by omega, by rw [YT 3 (by omega) (by omega) (by omega)]; exact j2, by rw [YT 1 (by omega) (by omega) (by omega)]; exact j3⟩
end RRG
end
section
/-! The class's reader of rules: group, a sign. -/
section RRM
variable {G : mG} {d z r w T A B D N C n p O P K k a s L V F d0 c : Nat} {M0 M M' M1 M2 : mM} {H H' : Nat → Nat} {ns : Nat → Int} {wt : Int}
end RRM
end
section
/-! The class's reader of rules: signs between operands. -/
section RRS
variable {G : mG} {d z r w T A B D N C n p O P K k a s L V F d0 c : Nat} {M0 M M' M1 M2 : mM} {H H' : Nat → Nat} {ns : Nat → Int} {wt : Int}
theorem rk_lvl (o : Int) : ((lvl o = 0 ∨ lvl o = 3) ∧ rkk o = 0) ∨ (lvl o = 1 ∧ rkk o = 1) ∨ (lvl o = 2 ∧ rkk o = 2) ∨ (lvl o = 4 ∧ rkk o = 3) ∨ (lvl o = 5 ∧ rkk o = 4) ∨ (lvl o = 6 ∧ rkk o = 5) := by
  unfold lvl rkk
  (repeat' split) <;> omega
/-- an operation with an order of its own that may jump is open now -/
theorem RG.pshj {o pl mk : Int} {dd c' : Nat} (g : RG M r p O P n s V F ns d0 H L k a 0) (hr : ∀ i, mI M' r i = if i = 2 then (a : Int) + 1 else if i = 7 then 1 else if i = 12 then (k : Int) + 1 else if i = 5 then (dd : Int) else if i = 14 then (c' : Int) else mI M r i) (t1 : ∀ i, mI M' (r + 1) i = if i = k then o else mI M (r + 1) i) (t2 : ∀ i, mI M' (r + 2) i = if i = k then pl else mI M (r + 2) i) (t3 : ∀ i, mI M' (r + 3) i = if i = k then (L : Int) else mI M (r + 3) i) (t4 : ∀ i, mI M' (r + 4) i = if i = k then mk else mI M (r + 4) i) (t5 : ∀ j, mI M' (r + 5) j = 0 ∨ mI M' (r + 5) j = 1) (tp : mI M' p 2 = (L : Int) + 1) (tO : ∀ i, mI M' O i = if i = L then o else mI M O i) (tP : ∀ i, mI M' P i = if i = L then 0 else mI M P i) (ho : o = 30 ∨ o = 31 ∨ o = 33) (hpl : 0 ≤ pl ∧ pl ≤ 16384) (hmk : 0 ≤ mk ∧ mk ≤ 7) (hd : dd = d0 + sdp M r k + cdp o) (hd4 : dd ≤ 40) (hrk : k + 1 ≤ 6 * (sdp M r k + cdp o) + rkk o) (hc : c' = skk M r k + ckk o) (han : a < n) (hat : o = 33 → aO M' r k) : ∃ H', RG M' r p O P n s V F ns d0 H' (L + 1) (k + 1) (a + 1) 1 ∧ ∀ i, i ≤ L → H' i = H i := by
  obtain ⟨⟨g1, g2, g3, g4⟩, gw, ⟨ga, gs⟩, gc, ⟨gd, gd4⟩, gr, ge, ⟨gH, gHs⟩, gC, gL, gt⟩ := g
  have l1 : ∀ j, j < k → mI M' (r + 1) j = mI M (r + 1) j := fun j hj => by rw [t1, if_neg (by omega)]
  have l2 : ∀ j, j < k → mI M' (r + 2) j = mI M (r + 2) j := fun j hj => by rw [t2, if_neg (by omega)]
  have l3 : ∀ j, j < k → mI M' (r + 3) j = mI M (r + 3) j := fun j hj => by rw [t3, if_neg (by omega)]
  have l4 : ∀ j, j < k → mI M' (r + 4) j = mI M (r + 4) j := fun j hj => by rw [t4, if_neg (by omega)]
  have sm := fun i hi => sums_cg (M := M) (M' := M') (r := r) (k := k) l1 l4 i hi
  obtain ⟨b1, b2, b3, b4⟩ := sum_top M' r k
  rw [t1, if_pos rfl, (sm k (Nat.le_refl _)).2.1] at b2
  rw [t1, if_pos rfl, (sm k (Nat.le_refl _)).2.2.1] at b3
  rw [t1, if_pos rfl, (sm k (Nat.le_refl _)).2.2.2] at b4
  rw [t1, if_pos rfl, t4, if_pos rfl, (sm k (Nat.le_refl _)).1] at b1
  have u1 : uw 1 = 0 := rfl
  have u0 : uw 0 = 1 := rfl
  have c0 : cm o mk = 0 := by
    unfold cm
    rw [if_neg (by omega), if_neg (by omega)]
  have e0 : cee o = 0 := by
    unfold cee
    rw [if_neg (by omega)]
  have jo : jm o := by unfold jm; omega
  obtain ⟨H', hH'⟩ : ∃ H' : Nat → Nat, ∀ i, H' i = if i = L + 1 then bs M r k else H i := ⟨fun i => if i = L + 1 then bs M r k else H i, fun _ => rfl⟩
  have hHs : ∀ i, i ≤ L → H' i = H i := fun i hi => by rw [hH', if_neg (by omega)]
  have hHL : H' (L + 1) = bs M r k := by rw [hH', if_pos rfl]
  have hL0 := hHs L (Nat.le_refl _)
  refine ⟨H', ⟨⟨by rw [hr, if_pos rfl]; omega, by rw [hr, if_neg (by decide), if_neg (by decide), if_pos rfl]; omega, by rw [hr, if_neg (by decide), if_pos rfl], by rw [tp]; omega⟩, Or.inr rfl, ⟨by omega, by omega⟩, by rw [hr, if_neg (by decide), if_neg (by decide), if_neg (by decide), if_neg (by decide), if_pos rfl, b2]; omega, ⟨by rw [hr, if_neg (by decide), if_neg (by decide), if_neg (by decide), if_pos rfl, b4]; omega, by omega⟩, fun i hi => ?_, fun i hi => ?_, ⟨by omega, by omega⟩, ?_, by omega, t5⟩, hHs⟩
  · by_cases y : i = k
    · subst y
      rw [b4, t1, if_pos rfl]
      exact hrk
    · rw [(sm (i + 1) (by omega)).2.2.2, l1 i (by omega)]
      exact gr i (by omega)
  · by_cases y : i = k
    · subst y
      unfold enO
      rw [t1, if_pos rfl, t2, if_pos rfl, t3, if_pos rfl, t4, if_pos rfl, (sm i (Nat.le_refl _)).1]
      refine ⟨by unfold opn; omega, hpl, hmk, fun q => absurd q (by omega), fun _ => ⟨L, rfl, gs, by omega, by rw [tO, if_pos rfl], by omega, fun _ => hHL⟩, fun q => absurd jo q, fun q => hat (by rw [t1, if_pos rfl] at q; omega) q⟩
    · exact (ge i (by omega)).cg (fun j hj => l1 j (by omega)) (l2 i (by omega)) (l3 i (by omega)) (fun j hj => l4 j (by omega)) (by omega) (fun j hj => by rw [tO, if_neg (by omega)]) hHs
  · refine gC.add gs hHs gHs tO tP (fun i _ q => pdg_cg q (by omega) l1 l3) (Or.inr (Or.inr (Or.inr (Or.inl ⟨ho, by omega⟩)))) (fun _ => Or.inl ⟨k, by omega, by rw [t3, if_pos rfl], by rw [t1, if_pos rfl]; exact jo⟩)
/-- what a sign comes to -/
def sgQ (M : mM) (z r w T A B D N C n p O P K s V F : Nat) (ns : Nat → Int) (d0 : Nat) (H : Nat → Nat) (L k a : Nat) (x : Int) (M' : mM) : Prop := RB M' z r w T A B D N C n p O P K ∧ FI (rdS r p O P) M M' ∧ (∀ i, i ≠ 2 → i ≠ 5 → i ≠ 7 → i ≠ 12 → i ≠ 14 → mI M' r i = mI M r i) ∧ (∀ i, 6 ≤ i → i ≤ 9 → mI M' (r + i) = mI M (r + i)) ∧ (∀ i, i ≠ 2 → mI M' p i = mI M p i) ∧ (∀ i, i < L → mI M' O i = mI M O i ∧ mI M' P i = mI M P i) ∧ ((x = 2 ∧ M' = M) ∨ (x = 0 ∧ ∃ H' L', RG M' r p O P n s V F ns d0 H' L' (k + 1) (a + 1) 1 ∧ L ≤ L' ∧ ∀ i, i ≤ L → H' i = H i))
end RRS
end
section
/-! The class's reader of rules: '?'. -/
section RRA
variable {G : mG} {d z r w T A B D N C n p O P K k a s L V F d0 c : Nat} {M0 M M' M1 M2 : mM} {H H' : Nat → Nat} {ns : Nat → Int} {wt : Int}
end RRA
end
section
/-! The class's reader of rules: what closing leaves. -/
section RRC
variable {G : mG} {d z r w T A B D N C n p O P K k a s L L' V F d0 c : Nat} {M0 M M' M1 M2 : mM} {H H' : Nat → Nat} {ns : Nat → Int} {wt : Int}
/-- the operation that was open last is closed -/
theorem RG.popc (g : RG M r p O P n s V F ns d0 H L (k + 1) a 0) (hr : mI M' r 2 = (a : Int) + 1 ∧ mI M' r 12 = k ∧ mI M' r 7 = 0 ∧ mI M' r 14 = ((1 + skk M r k : Nat) : Int) ∧ mI M' r 5 = ((d0 + sdp M r k : Nat) : Int)) (l1 : ∀ j, j < k → mI M' (r + 1) j = mI M (r + 1) j) (l2 : ∀ j, j < k → mI M' (r + 2) j = mI M (r + 2) j) (l3 : ∀ j, j < k → mI M' (r + 3) j = mI M (r + 3) j) (l4 : ∀ j, j < k → mI M' (r + 4) j = mI M (r + 4) j) (t5 : ∀ j, mI M' (r + 5) j = 0 ∨ mI M' (r + 5) j = 1) (tp : mI M' p 2 = L') (hLL : L ≤ L') (hO : ∀ j, j < L → mI M' O j = mI M O j) (hHs : ∀ i, i ≤ L → H' i = H i) (hH : H' L' = 1 + bs M r k) (hb : H' L' + s ≤ L') (hC : CO M' O P V F ns H' s L' (pdg M' r k)) (hL : L' + se M r k ≤ a + 1) (han : a < n) : RG M' r p O P n s V F ns d0 H' L' k (a + 1) 0 := by
  obtain ⟨-, -, ⟨ga, gs⟩, -, ⟨-, gd4⟩, gr, ge, -, -, -, -⟩ := g
  have sm := fun i hi => sums_cg (M := M) (M' := M') (r := r) (k := k) l1 l4 i hi
  obtain ⟨-, -, -, b4⟩ := sum_top M r k
  obtain ⟨h1, h2, h3, h4, h5⟩ := hr
  have u0 : uw 0 = 1 := rfl
  refine ⟨⟨by omega, h2, h3, tp⟩, Or.inl rfl, ⟨by omega, by omega⟩, by rw [h4, (sm k (Nat.le_refl _)).2.1, u0], ⟨by rw [h5, (sm k (Nat.le_refl _)).2.2.2], by rw [(sm k (Nat.le_refl _)).2.2.2]; omega⟩, fun i hi => by rw [(sm (i + 1) (by omega)).2.2.2, l1 i hi]; exact gr i (by omega), fun i hi => (ge i (by omega)).cg (fun j _ => l1 j (by omega)) (l2 i hi) (l3 i hi) (fun j _ => l4 j (by omega)) hLL hO hHs, ⟨by rw [hH, (sm k (Nat.le_refl _)).1, u0], hb⟩, hC, by rw [(sm k (Nat.le_refl _)).2.2.1]; omega, t5⟩
/-- the operation that was open last goes on: o' and marks m' stand there now -/
theorem RG.goes {o' m' : Int} (g : RG M r p O P n s V F ns d0 H L (k + 1) a 0) (hr : mI M' r 2 = (a : Int) + 1 ∧ mI M' r 12 = (k : Int) + 1 ∧ mI M' r 7 = 1 ∧ mI M' r 14 = ((skk M r k : Nat) : Int) ∧ mI M' r 5 = ((d0 + sdp M r (k + 1) : Nat) : Int)) (l1 : ∀ j, mI M' (r + 1) j = if j = k then o' else mI M (r + 1) j) (l2 : ∀ j, mI M' (r + 2) j = mI M (r + 2) j) (l3 : ∀ j, j < k → mI M' (r + 3) j = mI M (r + 3) j) (l4 : ∀ j, mI M' (r + 4) j = if j = k then m' else mI M (r + 4) j) (t5 : ∀ j, mI M' (r + 5) j = 0 ∨ mI M' (r + 5) j = 1) (tp : mI M' p 2 = L') (hLL : L ≤ L') (hO : ∀ j, j < L → mI M' O j = mI M O j) (hHs : ∀ i, i ≤ L → H' i = H i) (hH : H' L' = bs M r k + cm o' m') (hb : H' L' + s ≤ L') (hC : CO M' O P V F ns H' s L' (pdg M' r (k + 1))) (hL : L' + se M r k ≤ a + 1) (han : a < n) (hk : ckk o' = 0 ∧ cee o' = 0 ∧ cdp o' = cdp (mI M (r + 1) k) ∧ rkk o' = rkk (mI M (r + 1) k)) (hen : enO M' r O s L' H' k) : RG M' r p O P n s V F ns d0 H' L' (k + 1) (a + 1) 1 := by
  obtain ⟨-, -, ⟨ga, gs⟩, -, ⟨-, gd4⟩, gr, ge, -, -, -, -⟩ := g
  have e1 : ∀ j, j < k → mI M' (r + 1) j = mI M (r + 1) j := fun j hj => by rw [l1, if_neg (by omega)]
  have e4 : ∀ j, j < k → mI M' (r + 4) j = mI M (r + 4) j := fun j hj => by rw [l4, if_neg (by omega)]
  have sm := fun i hi => sums_cg (M := M) (M' := M') (r := r) (k := k) e1 e4 i hi
  obtain ⟨-, -, -, b4⟩ := sum_top M r k
  obtain ⟨c1, c2, c3, c4⟩ := sum_top M' r k
  rw [l1, if_pos rfl, (sm k (Nat.le_refl _)).2.1, hk.1] at c2
  rw [l1, if_pos rfl, (sm k (Nat.le_refl _)).2.2.1, hk.2.1] at c3
  rw [l1, if_pos rfl, (sm k (Nat.le_refl _)).2.2.2, hk.2.2.1, ← b4] at c4
  rw [l1, if_pos rfl, l4, if_pos rfl, (sm k (Nat.le_refl _)).1] at c1
  obtain ⟨h1, h2, h3, h4, h5⟩ := hr
  have u1 : uw 1 = 0 := rfl
  refine ⟨⟨by omega, by omega, h3, tp⟩, Or.inr rfl, ⟨by omega, by omega⟩, by rw [h4, c2]; omega, ⟨by rw [h5, c4], by rw [c4]; exact gd4⟩, fun i hi => ?_, fun i hi => ?_, ⟨by rw [hH, c1]; omega, hb⟩, hC, by rw [c3]; omega, t5⟩
  · by_cases y : i = k
    · subst y
      rw [c4, l1, if_pos rfl, hk.2.2.2]
      exact gr i (by omega)
    · rw [(sm (i + 1) (by omega)).2.2.2, e1 i (by omega)]
      exact gr i (by omega)
  · by_cases y : i = k
    · subst y
      exact hen
    · exact (ge i (by omega)).cg (fun j hj => e1 j (by omega)) (l2 i) (l3 i (by omega)) (fun j hj => e4 j (by omega)) hLL hO hHs
/-- marks of a list: bit 2 -/
theorem mk_or {m v : Int} (hm : 0 ≤ m ∧ m ≤ 3) (hv : v = 0 ∨ v = 1) : orI m (orI 2 v) = 2 ∨ orI m (orI 2 v) = 3 := by
  have : m = 0 ∨ m = 1 ∨ m = 2 ∨ m = 3 := by omega
  rcases this with e | e | e | e <;> rcases hv with f | f <;> subst e <;> subst f <;> decide
theorem mk_and2 {m : Int} (hm : 0 ≤ m ∧ m ≤ 3) : (andI m 2 = 0 ∧ ¬ (m = 2 ∨ m = 3)) ∨ (andI m 2 ≠ 0 ∧ (m = 2 ∨ m = 3)) := by
  have : m = 0 ∨ m = 1 ∨ m = 2 ∨ m = 3 := by omega
  rcases this with e | e | e | e <;> subst e <;> decide
theorem mk_or4 {m v : Int} (hm : 0 ≤ m ∧ m ≤ 7) (hv : v = 0 ∨ v = 4) : 0 ≤ orI m v ∧ orI m v ≤ 7 := by
  have : m = 0 ∨ m = 1 ∨ m = 2 ∨ m = 3 ∨ m = 4 ∨ m = 5 ∨ m = 6 ∨ m = 7 := by omega
  rcases this with e | e | e | e | e | e | e | e <;> rcases hv with f | f <;> subst e <;> subst f <;> decide
end RRC
end
end
section
theorem tLk1 (g : Nat) : tL g (g + 1) := Or.inl rfl
theorem tLk3 (g : Nat) : tL g (g + 3) := Or.inr (Or.inl rfl)
theorem tLk5 (g : Nat) : tL g (g + 5) := Or.inr (Or.inr (Or.inl rfl))
theorem tLk7 (g : Nat) : tL g (g + 7) := Or.inr (Or.inr (Or.inr (Or.inl rfl)))
theorem tLk9 (g : Nat) : tL g (g + 9) := Or.inr (Or.inr (Or.inr (Or.inr (Or.inl rfl))))
theorem tLk11 (g : Nat) : tL g (g + 11) := Or.inr (Or.inr (Or.inr (Or.inr (Or.inr rfl))))
theorem l33z {a g i : Nat} (hg : g = a + 13 ∨ g = a + 49) (hi : i = 85 ∨ i = 87 ∨ i = 89) (z : ((a + i = g + 1 ∨ a + i = g + 3 ∨ a + i = g + 5 ∨ a + i = g + 7 ∨ a + i = g + 9 ∨ a + i = g + 11) ∨ a + i = a + 91) ∨ (a + i = a + 93 ∨ a + i = a + 95 ∨ a + i = g + 7)) : False := by
  have h1 : g ≤ a + 49 := by omega
  have h2 : 85 ≤ i ∧ i ≤ 89 := by omega
  clear hg hi
  rcases z with (z | z) | z
  · rcases z with z | z | z | z | z | z <;> omega
  · omega
  · rcases z with z | z | z <;> omega
section
/-! The class's reader of rules: closing, its end and ')'. -/
section RRE
variable {G : mG} {d z r w T A B D N C n p O P K k a s L L' V F d0 c : Nat} {M0 M M' M1 M2 : mM} {H H' : Nat → Nat} {ns : Nat → Int} {wt : Int}
/-- what closing comes to -/
def cliQ (M : mM) (z r w T A B D N C n p O P K s V F : Nat) (ns : Nat → Int) (d0 L a : Nat) (x : Int) (M' : mM) : Prop := RB M' z r w T A B D N C n p O P K ∧ FI (rdS r p O P) M M' ∧ (∀ i, i ≠ 2 → i ≠ 3 → i ≠ 4 → i ≠ 5 → i ≠ 7 → i ≠ 12 → i ≠ 14 → mI M' r i = mI M r i) ∧ (mI M r 3 ≠ 0 → mI M' r 3 = mI M r 3) ∧ (∀ i, 6 ≤ i → i ≤ 9 → mI M' (r + i) = mI M (r + i)) ∧ (∀ i, i ≠ 2 → mI M' p i = mI M p i) ∧ (∀ i, i < s → mI M' O i = mI M O i ∧ mI M' P i = mI M P i) ∧ ((x = 2 ∧ M' = M) ∨ (x = 0 ∧ ∃ H' L' k' wt', RG M' r p O P n s V F ns d0 H' L' k' (a + 1) wt' ∧ L ≤ L'))
/-- the end of closing: a word is passed -/
theorem s_ci286 {l5 : Int} {Q : Int → mM → Prop} (h5 : l5 = 0 ∨ l5 = 1) (h : RB M z r w T A B D N C n p O P K) (ha : mI M r 2 = a) (han : a ≤ 16384) (hq : ∀ M', RB M' z r w T A B D N C n p O P K → FI (rdS r p O P) M M' → (∀ i, mI M' r i = if i = 2 then (a : Int) + 1 else if i = 7 then l5 else mI M r i) → (∀ b, b ≠ r → mI M' b = mI M b) → Q 0 M') : h_RR_closeInner_286 G d r l5 M Q := by
  refine k_RR_closeInner_286 h.1 (i32s (by omega) (by omega)) ⟨h.2.1.1, h5, fun M203 e203 => ?_⟩
  obtain ⟨h1, f1, g1, n1⟩ := rb_fld h (i32s (by omega) (by omega)) e203
  have e2 : mI M203 r 2 = a := by rw [g1, if_neg (by decide)]; exact ha
  rw [e2]
  refine ⟨⟨by omega, by omega⟩, fun M206 e206 => ?_⟩
  obtain ⟨h2, f2, g2, n2⟩ := rb_fld h1 ⟨by omega, by omega⟩ e206
  exact hq M206 h2 (f1.trans f2) (fun i => by
    rw [g2]
    by_cases y : i = 2
    · rw [if_pos y, if_pos y]
    · rw [if_neg y, if_neg y, g1]) (fun b hb => by rw [n2 b hb, n1 b hb])
/-- the operation that was open last is taken off, and a word is passed -/
theorem s_ciPop {Q : Int → mM → Prop} (h : RB M z r w T A B D N C n p O P K) (ha : mI M r 2 = a) (han : a ≤ 16384) (hk : mI M r 12 = ((k + 1 : Nat) : Int)) (hk3 : k < 336) {e : Nat} (he : mI M r 5 = ((e + 1 : Nat) : Int)) (he4 : e < 40) (hq : ∀ M', RB M' z r w T A B D N C n p O P K → FI (rdS r p O P) M M' → (∀ i, mI M' r i = if i = 2 then (a : Int) + 1 else if i = 7 then 0 else if i = 5 then (e : Int) else if i = 12 then (k : Int) else mI M r i) → (∀ b, b ≠ r → mI M' b = mI M b) → Q 0 M') : mK M r = 4 ∧ i32 ((mI M r 12) - 1) ∧ ∀ M110, M110 = mUI M r 12 ((mI M r 12) - 1) → i32 ((mI M110 r 5) - 1) ∧ ∀ M113, M113 = mUI M110 r 5 ((mI M110 r 5) - 1) → h_RR_closeInner_286 G d r 0 M113 Q := by
  rw [hk, show ((k + 1 : Nat) : Int) - 1 = (k : Int) by omega]
  refine ⟨h.2.1.1, ⟨by omega, by omega⟩, fun M110 e110 => ?_⟩
  obtain ⟨h1, f1, g1, n1⟩ := rb_fld h ⟨by omega, by omega⟩ e110
  have e5 : mI M110 r 5 = ((e + 1 : Nat) : Int) := by rw [g1, if_neg (by decide)]; exact he
  rw [e5, show ((e + 1 : Nat) : Int) - 1 = (e : Int) by omega]
  refine ⟨⟨by omega, by omega⟩, fun M113 e113 => ?_⟩
  obtain ⟨h2, f2, g2, n2⟩ := rb_fld h1 ⟨by omega, by omega⟩ e113
  refine s_ci286 (a := a) (Or.inl rfl) h2 (by rw [g2, if_neg (by decide), g1, if_neg (by decide)]; exact ha) han (fun M' h' f' g' n' => hq M' h' ((f1.trans f2).trans f') (fun i => ?_) (fun b hb => by rw [n' b hb, n2 b hb, n1 b hb]))
  rw [g']
  by_cases y2 : i = 2
  · rw [if_pos y2, if_pos y2]
  · by_cases y7 : i = 7
    · rw [if_neg y2, if_pos y7, if_neg y2, if_pos y7]
    · rw [if_neg y2, if_neg y7, if_neg y2, if_neg y7, g2]
      by_cases y5 : i = 5
      · rw [if_pos y5, if_pos y5]
      · rw [if_neg y5, if_neg y5, g1]
end RRE
end
section
/-! The class's reader of rules: ':' behind '?'. -/
section RRF
variable {G : mG} {d z r w T A B D N C n p O P K k a s L L' V F d0 c : Nat} {M0 M M' M1 M2 : mM} {H H' : Nat → Nat} {ns : Nat → Int} {wt : Int}
end RRF
end
section
/-! The class's reader of rules: ',' and ')' of least and most. -/
section RRI
variable {G : mG} {d z r w T A B D N C n p O P K k a s L L1 V F d0 c : Nat} {M0 M M' M1 M2 : mM} {H H1 : Nat → Nat} {ns : Nat → Int} {wt : Int}
/-- the order of a list, if there is one, stands -/
def liA (M : mM) (z r w T A B D N C n p O P K s V F : Nat) (ns : Nat → Int) (H : Nat → Nat) (L k a : Nat) (H1 : Nat → Nat) (L1 : Nat) (M1 : mM) : Prop := RB M1 z r w T A B D N C n p O P K ∧ FI (rdS r p O P) M M1 ∧ (∀ b, r ≤ b → b ≤ r + 9 → mI M1 b = mI M b) ∧ (∀ i, mI M1 p i = if i = 2 then (L1 : Int) else mI M p i) ∧ (∀ i, i < L → mI M1 O i = mI M O i ∧ mI M1 P i = mI M P i) ∧ L ≤ L1 ∧ (∀ i, i ≤ L → H1 i = H i) ∧ H1 L1 = 1 + bs M r k ∧ H1 L1 + s ≤ L1 ∧ CO M1 O P V F ns H1 s L1 (pdg M r (k + 1)) ∧ L1 + se M r k ≤ a + 1
end RRI
end
section
/-! The class's reader of rules: closeInner. -/
section RRJ
variable {G : mG} {d z r w T A B D N C n p O P K k a s L L1 V F d0 c : Nat} {M0 M M' M1 M2 : mM} {H H1 : Nat → Nat} {ns : Nat → Int} {wt : Int}
end RRJ
end
section
/-! The class's reader of rules: takeOperator. -/
section RRK
variable {G : mG} {d z r w T A B D N C n p O P K k a s L L1 V F d0 c : Nat} {M0 M M' M1 M2 : mM} {H H1 : Nat → Nat} {ns : Nat → Int} {wt : Int}
/-- what reading a rule may change -/
def rrF (M : mM) (r p O P s : Nat) (M' : mM) : Prop := FI (rdS r p O P) M M' ∧ (∀ i, i ≠ 2 → i ≠ 3 → i ≠ 4 → i ≠ 5 → i ≠ 7 → i ≠ 12 → i ≠ 14 → mI M' r i = mI M r i) ∧ (mI M r 3 ≠ 0 → mI M' r 3 = mI M r 3) ∧ (∀ i, 6 ≤ i → i ≤ 9 → mI M' (r + i) = mI M (r + i)) ∧ (∀ i, i ≠ 2 → mI M' p i = mI M p i) ∧ (∀ i, i < s → mI M' O i = mI M O i ∧ mI M' P i = mI M P i)
theorem rrF.refl : rrF M r p O P s M := ⟨FI.refl, fun _ _ _ _ _ _ _ _ => rfl, fun _ => rfl, fun _ _ _ => rfl, fun _ _ => rfl, fun _ _ => ⟨rfl, rfl⟩⟩
theorem rrF.trans (f : rrF M0 r p O P s M) (g : rrF M r p O P s M') : rrF M0 r p O P s M' := by
  obtain ⟨a1, a2, a3, a4, a5, a6⟩ := f
  obtain ⟨b1, b2, b3, b4, b5, b6⟩ := g
  refine ⟨a1.trans b1, fun i i2 i3 i4 i5 i7 i12 i14 => by rw [b2 i i2 i3 i4 i5 i7 i12 i14, a2 i i2 i3 i4 i5 i7 i12 i14], fun q => ?_, fun i i6 i9 => by rw [b4 i i6 i9, a4 i i6 i9], fun i i2 => by rw [b5 i i2, a5 i i2], fun i hi => ⟨by rw [(b6 i hi).1, (a6 i hi).1], by rw [(b6 i hi).2, (a6 i hi).2]⟩⟩
  have h3 := a3 q
  rw [b3 (by rw [h3]; exact q), h3]
/-- what a step comes to: 0 it goes on, 1 the rule is over, 2 a word is refused -/
def rtQ (M0 : mM) (z r w T A B D N C n p O P K s V F : Nat) (ns : Nat → Int) (d0 : Nat) (a : Nat) (x : Int) (M' : mM) : Prop := RB M' z r w T A B D N C n p O P K ∧ rrF M0 r p O P s M' ∧ (x = 0 ∨ x = 1 ∨ x = 2) ∧ ∃ H' L' k' wt' a', RG M' r p O P n s V F ns d0 H' L' k' a' wt' ∧ a ≤ a' ∧ (x = 1 → k' = 0 ∧ wt' = 0)
theorem RG.ref (g : RG M r p O P n s V F ns d0 H L k a wt) : ∃ a' L' : Nat, mI M r 2 = a' ∧ mI M p 2 = L' ∧ a' ≤ n ∧ s ≤ L' ∧ L' ≤ a' := by
  obtain ⟨⟨g1, -, -, g4⟩, -, ⟨g5, g6⟩, -, -, -, -, -, -, g7, -⟩ := g
  exact ⟨a, L, g1, g4, g5, g6, by omega⟩
theorem sg_st {x : Int} (g : RG M r p O P n s V F ns d0 H L k a 0) (f : rrF M0 r p O P s M) (q : sgQ M z r w T A B D N C n p O P K s V F ns d0 H L k a x M') : rtQ M0 z r w T A B D N C n p O P K s V F ns d0 a x M' := by
  obtain ⟨q1, q2, q3, q4, q5, q6, q7⟩ := q
  have gs := g.2.2.1.2
  refine ⟨q1, f.trans ⟨q2, fun i i2 i3 i4 i5 i7 i12 i14 => q3 i i2 i5 i7 i12 i14, fun _ => q3 3 (by decide) (by decide) (by decide) (by decide) (by decide), q4, q5, fun i hi => q6 i (by omega)⟩, ?_⟩
  rcases q7 with ⟨e, e2⟩ | ⟨e, H', L', g', -⟩
  · rw [e2]
    exact ⟨Or.inr (Or.inr e), H, L, k, 0, a, g, by omega, fun u => absurd u (by omega)⟩
  · exact ⟨Or.inl e, H', L', k + 1, 1, a + 1, g', by omega, fun u => absurd u (by omega)⟩
theorem s_RR_closeInner0 (g : RG M r p O P n s V F ns d0 H L (k + 1) a 0) (h : RB M z r w T A B D N C n p O P K) : Ci G y_RR_closeInner (d + 1) [vr r, vi 0, vi k] M (fun x M' => x = 2 ∧ M' = M) := by
  have rm := g.room
  obtain ⟨-, ⟨k0, ⟨q8, -, -, q11, -⟩, ⟨kk1, -⟩, ⟨nn1, -⟩⟩, -⟩ := id h
  refine k_RR_closeInner h.1 (i32s (by omega) (by omega)) ⟨by omega, by omega⟩ ?_
  rw [q8, nn1, Int.toNat_natCast, q11]
  refine ⟨k0, kk1, by omega, fun v5 e5 => ⟨by omega, fun _ => by omega, fun v14 e14 v25 e25 => ⟨fun y => ?_, fun _ => ⟨rfl, rfl⟩⟩⟩⟩
  exfalso
  have z25 : v25 = 0 := by
    rw [e25]
    by_cases u : v5 = 0
    · rw [if_pos (Or.inl ⟨u, Or.inr (by omega)⟩)]
    · rw [if_pos (Or.inr ⟨u, by omega, Or.inr (by omega)⟩)]
  rcases y with u | u
  · exact u z25
  · exact absurd u.2 (by omega)
theorem g_rrF {M9 : mM} (q : gQ M z r w T A B D N C n p O P K s V F ns d0 H L k a M9) : rrF M r p O P s M9 := by
  obtain ⟨-, q2, q3, q4, q5, q6, q7, -⟩ := q
  exact ⟨q2, fun i i2 i3 i4 i5 i7 i12 i14 => q3 i i3 i4 i5 i12 i14, q4, q5, q6, q7⟩
end RRK
end
section
/-! The class's reader of rules: takeOperator, the whole. -/
section RRL
variable {G : mG} {d z r w T A B D N C n p O P K k a s L L1 V F d0 c : Nat} {M0 M M' M1 M2 : mM} {H H1 : Nat → Nat} {ns : Nat → Int} {wt : Int}
theorem lvl_pos {o : Int} (h : 0 < lvl o) : (19 ≤ o ∧ o ≤ 31) ∨ o = 41 := by
  unfold lvl at h
  split at h
  · omega
  split at h
  · omega
  split at h
  · omega
  split at h
  · omega
  split at h
  · omega
  split at h
  · omega
  · exact absurd h (by omega)
/-- the level from which on all is grouped -/
def tgh (o : Int) : Int := if lvl o = 4 then lvl o + 1 else if lvl o < 1 then 1 else lvl o
end RRL
end
section
/-! The class's reader of rules: the names that it knows, and operands. -/
section RRM
variable {G : mG} {d z r w T A B D N C n p O P K k a a' s L L1 V F d0 c : Nat} {M0 M M' M1 M2 : mM} {H H1 : Nat → Nat} {ns : Nat → Int} {wt : Int}
/-- the c names that are known: words, sorts, numbers, kinds -/
def NK (M : mM) (r A n V F : Nat) (ns : Nat → Int) (c : Nat) : Prop := mI M r 19 = c ∧ c ≤ 72 ∧ ∀ i, i < c → (∃ v : Nat, mI M (r + 6) i = v ∧ v < n ∧ mI M A v = 2) ∧ ((mI M (r + 7) i = 5 ∧ 0 ≤ mI M (r + 8) i ∧ (mI M r 6 = 0 → mI M (r + 8) i < V)) ∨ (mI M (r + 7) i = 4 ∧ 0 ≤ mI M (r + 8) i ∧ mI M (r + 8) i < F ∧ ns (mI M (r + 8) i).toNat = 4) ∨ (mI M (r + 7) i = 7 ∧ 0 ≤ mI M (r + 8) i ∧ (mI M r 6 = 0 → mI M (r + 8) i < F ∧ ns (mI M (r + 8) i).toNat = 7))) ∧ (mI M (r + 9) i = 0 ∨ mI M (r + 9) i = 1)
/-- all names that are known -/
def TN (M : mM) (r A n V F : Nat) (ns : Nat → Int) (c : Nat) : Prop := mI M r 19 = c ∧ c ≤ 72 ∧ ∀ i, i < c → (∃ v : Nat, mI M (r + 6) i = v ∧ v < n ∧ mI M A v = 2) ∧ ((mI M (r + 7) i = 5 ∧ 0 ≤ mI M (r + 8) i ∧ mI M (r + 8) i < V) ∨ ((mI M (r + 7) i = 4 ∨ mI M (r + 7) i = 7) ∧ 0 ≤ mI M (r + 8) i ∧ mI M (r + 8) i < F ∧ ns (mI M (r + 8) i).toNat = mI M (r + 7) i)) ∧ (mI M (r + 9) i = 0 ∨ mI M (r + 9) i = 1)
/-- where only consts may stand -/
def nsc (ns : Nat → Int) : Nat → Int := fun x => if ns x = 4 then 4 else 0
theorem TN.nk (h : TN M r A n V F ns c) : NK M r A n V F ns c := by
  refine ⟨h.1, h.2.1, fun i hi => ?_⟩
  obtain ⟨h1, h2, h3⟩ := h.2.2 i hi
  refine ⟨h1, ?_, h3⟩
  rcases h2 with ⟨u1, u2, u3⟩ | ⟨u1, u2, u3, u4⟩
  · exact Or.inl ⟨u1, u2, fun _ => u3⟩
  · rcases u1 with e | e
    · exact Or.inr (Or.inl ⟨e, u2, u3, by rw [u4]; exact e⟩)
    · exact Or.inr (Or.inr ⟨e, u2, fun _ => ⟨u3, by rw [u4]; exact e⟩⟩)
theorem TN.nkc (h : TN M r A n V F ns c) (h6 : mI M r 6 ≠ 0) : NK M r A n 0 F (nsc ns) c := by
  refine ⟨h.1, h.2.1, fun i hi => ?_⟩
  obtain ⟨h1, h2, h3⟩ := h.2.2 i hi
  refine ⟨h1, ?_, h3⟩
  rcases h2 with ⟨u1, u2, u3⟩ | ⟨u1, u2, u3, u4⟩
  · exact Or.inl ⟨u1, u2, fun q => absurd q h6⟩
  · rcases u1 with e | e
    · refine Or.inr (Or.inl ⟨e, u2, u3, ?_⟩)
      unfold nsc
      rw [if_pos (by rw [u4]; exact e)]
    · exact Or.inr (Or.inr ⟨e, u2, fun q => absurd q h6⟩)
theorem RB.word (h : RB M z r w T A B D N C n p O P K) (f : FI (rdS r p O P) M M') : mI M' A = mI M A ∧ mI M' B = mI M B ∧ mI M' D = mI M D := by
  have hs := h.2.2.2.2.2.1.2.2
  have no : ∀ x, (x = w ∨ x = T ∨ x = A ∨ x = B ∨ x = D) → ¬ rdS r p O P x := fun x hx q => by
    have q' : (r ≤ x ∧ x ≤ r + 9) ∨ x = p ∨ x = O ∨ x = P := q
    have := hs x hx
    omega
  exact ⟨f.2.2.2.2.2.2 A (no A (by omega)), f.2.2.2.2.2.2 B (no B (by omega)), f.2.2.2.2.2.2 D (no D (by omega))⟩
theorem NK.rr (nk : NK M r A n V F ns c) (h : RB M z r w T A B D N C n p O P K) (f : rrF M r p O P s M') : NK M' r A n V F ns c := by
  have hA := (h.word f.1).1
  obtain ⟨-, f2, -, f4, -⟩ := f
  unfold NK at nk ⊢
  rw [hA, f2 19 (by decide) (by decide) (by decide) (by decide) (by decide) (by decide) (by decide), f2 6 (by decide) (by decide) (by decide) (by decide) (by decide) (by decide) (by decide), f4 6 (by omega) (by omega), f4 7 (by omega) (by omega), f4 8 (by omega) (by omega), f4 9 (by omega) (by omega)]
  exact nk
theorem RG.cg (g : RG M r p O P n s V F ns d0 H L k a wt) (h2 : mI M' r 2 = a') (haa : a ≤ a') (han : a' ≤ n) (h12 : mI M' r 12 = mI M r 12) (h7 : mI M' r 7 = mI M r 7) (h14 : mI M' r 14 = mI M r 14) (h5 : mI M' r 5 = mI M r 5) (t : ∀ i, 1 ≤ i → i ≤ 5 → mI M' (r + i) = mI M (r + i)) (tp : mI M' p 2 = mI M p 2) (tO : mI M' O = mI M O) (tP : mI M' P = mI M P) : RG M' r p O P n s V F ns d0 H L k a' wt := by
  obtain ⟨⟨g1, g2, g3, g4⟩, gw, ⟨ga, gs⟩, gc, ⟨gd, gd4⟩, gr, ge, gH, gC, gL, gt⟩ := g
  have l1 : ∀ j, mI M' (r + 1) j = mI M (r + 1) j := fun j => by rw [t 1 (by omega) (by omega)]
  have l2 : ∀ j, mI M' (r + 2) j = mI M (r + 2) j := fun j => by rw [t 2 (by omega) (by omega)]
  have l3 : ∀ j, mI M' (r + 3) j = mI M (r + 3) j := fun j => by rw [t 3 (by omega) (by omega)]
  have l4 : ∀ j, mI M' (r + 4) j = mI M (r + 4) j := fun j => by rw [t 4 (by omega) (by omega)]
  have sm := fun i hi => sums_cg (M := M) (M' := M') (r := r) (k := k) (fun j _ => l1 j) (fun j _ => l4 j) i hi
  obtain ⟨s1, s2, s3, s4⟩ := sm k (Nat.le_refl _)
  refine ⟨⟨h2, by rw [h12]; exact g2, by rw [h7]; exact g3, by rw [tp]; exact g4⟩, gw, ⟨han, gs⟩, by rw [h14, s2]; exact gc, ⟨by rw [h5, s4]; exact gd, by rw [s4]; exact gd4⟩, fun i hi => by rw [(sm (i + 1) (by omega)).2.2.2, l1]; exact gr i hi, fun i hi => (ge i hi).cg (fun j _ => l1 j) (l2 i) (l3 i) (fun j _ => l4 j) (Nat.le_refl _) (fun j _ => by rw [tO]) (fun _ _ => rfl), by rw [s1]; exact gH, ?_, by rw [s3]; omega, fun j => by rw [t 5 (by omega) (by omega)]; exact gt j⟩
  intro pc h0 h1
  rw [tO, tP]
  obtain ⟨a1, a2, a3⟩ := gC pc h0 h1
  exact ⟨a1, fun q => (a2 q).imp (fun u => pdg_cg u (Nat.le_refl _) (fun j _ => l1 j) (fun j _ => l3 j)) (fun u => u), a3⟩
theorem v_rt {y : Int} (g : RG M r p O P n s V F ns d0 H L k a 1) (f : rrF M0 r p O P s M) (q : y = 0 ∧ RB M' z r w T A B D N C n p O P K ∧ FI (rdS r p O P) M M' ∧ (∀ i, i ≠ 2 → i ≠ 7 → i ≠ 14 → mI M' r i = mI M r i) ∧ (∀ i, 6 ≤ i → i ≤ 9 → mI M' (r + i) = mI M (r + i)) ∧ (∀ i, i ≠ 2 → mI M' p i = mI M p i) ∧ (∀ i, i ≠ L → mI M' O i = mI M O i ∧ mI M' P i = mI M P i) ∧ ∃ H', RG M' r p O P n s V F ns d0 H' (L + 1) k (a + 1) 0 ∧ ∀ i, i ≤ L → H' i = H i) : i32 y ∧ mOk M' ∧ rtQ M0 z r w T A B D N C n p O P K s V F ns d0 a y M' := by
  obtain ⟨e, q1, q2, q3, q4, q5, q6, H', g', -⟩ := q
  have gs := g.2.2.1.2
  refine ⟨by rw [e]; exact i32s (by omega) (by omega), q1.1, q1, f.trans ⟨q2, fun i i2 _ _ _ i7 _ i14 => q3 i i2 i7 i14, fun _ => q3 3 (by decide) (by decide) (by decide), q4, q5, fun i hi => q6 i (by omega)⟩, Or.inl e, H', L + 1, k, 0, a + 1, g', by omega, fun u => absurd u (by omega)⟩
theorem l_rt {x : Int} (haa : a ≤ a') (g : RG M r p O P n s V F ns d0 H L k a' 1) (f : rrF M0 r p O P s M) (q : lvQ M z r w T A B D N C n p O P K s V F ns d0 H L k a' x M') : i32 x ∧ mOk M' ∧ rtQ M0 z r w T A B D N C n p O P K s V F ns d0 a x M' := by
  obtain ⟨q1, q2, q3, q4, ⟨q5, q6, q7⟩, q8⟩ := q
  refine ⟨?_, q1.1, q1, f.trans ⟨q2, fun i i2 _ _ i5 i7 i12 _ => q3 i i2 i5 i7 i12, fun _ => q3 3 (by decide) (by decide) (by decide) (by decide), fun i i6 i9 => q4 i (by omega) i9, fun i _ => by rw [q5], fun i _ => ⟨by rw [q6], by rw [q7]⟩⟩, ?_⟩
  · rcases q8 with ⟨e, -⟩ | ⟨e, -⟩ <;> rw [e] <;> exact i32s (by omega) (by omega)
  · rcases q8 with ⟨e, e2⟩ | ⟨e, g'⟩
    · rw [e2]; exact ⟨Or.inr (Or.inr e), H, L, k, 1, a', g, by omega, fun u => absurd u (by omega)⟩
    · exact ⟨Or.inl e, H, L, k + 1, 1, a' + 1, g', by omega, fun u => absurd u (by omega)⟩
end RRM
end
section
/-! The class's reader of rules: takeOperand. -/
section RRN
variable {G : mG} {d z r w T A B D N C n p O P K k a a' s L L1 V F d0 c : Nat} {M0 M M' M1 M2 : mM} {H H1 : Nat → Nat} {ns : Nat → Int} {wt : Int}
end RRN
end
end
