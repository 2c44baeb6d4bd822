theorem tLk1 (g : Nat) : tL g (g + 1) := Or.inl rfl
theorem tLk3 (g : Nat) : tL g (g + 3) := Or.inr (Or.inl rfl)
theorem tLk5 (g : Nat) : tL g (g + 5) := Or.inr (Or.inr (Or.inl rfl))
theorem tLk7 (g : Nat) : tL g (g + 7) := Or.inr (Or.inr (Or.inr (Or.inl rfl)))
theorem tLk9 (g : Nat) : tL g (g + 9) := Or.inr (Or.inr (Or.inr (Or.inr (Or.inl rfl))))
theorem tLk11 (g : Nat) : tL g (g + 11) := Or.inr (Or.inr (Or.inr (Or.inr (Or.inr rfl))))
theorem l33z {a g i : Nat} (hg : g = a + 13 ∨ g = a + 49) (hi : i = 85 ∨ i = 87 ∨ i = 89) (z : ((a + i = g + 1 ∨ a + i = g + 3 ∨ a + i = g + 5 ∨ a + i = g + 7 ∨ a + i = g + 9 ∨ a + i = g + 11) ∨ a + i = a + 91) ∨ (a + i = a + 93 ∨ a + i = a + 95 ∨ a + i = g + 7)) : False := by
  have h1 : g ≤ a + 49 := by omega
  have h2 : 85 ≤ i ∧ i ≤ 89 := by omega
  clear hg hi
  rcases z with (z | z) | z
  · rcases z with z | z | z | z | z | z <;> omega
  · omega
  · rcases z with z | z | z <;> omega
section
/-! The class's reader of rules: closing, its end and ')'. -/
section RRE
variable {G : mG} {d z r w T A B D N C n p O P K k a s L L' V F d0 c : Nat} {M0 M M' M1 M2 : mM} {H H' : Nat → Nat} {ns : Nat → Int} {wt : Int}
/-- what closing comes to -/
def cliQ (M : mM) (z r w T A B D N C n p O P K s V F : Nat) (ns : Nat → Int) (d0 L a : Nat) (x : Int) (M' : mM) : Prop := RB M' z r w T A B D N C n p O P K ∧ FI (rdS r p O P) M M' ∧ (∀ i, i ≠ 2 → i ≠ 3 → i ≠ 4 → i ≠ 5 → i ≠ 7 → i ≠ 12 → i ≠ 14 → mI M' r i = mI M r i) ∧ (mI M r 3 ≠ 0 → mI M' r 3 = mI M r 3) ∧ (∀ i, 6 ≤ i → i ≤ 9 → mI M' (r + i) = mI M (r + i)) ∧ (∀ i, i ≠ 2 → mI M' p i = mI M p i) ∧ (∀ i, i < s → mI M' O i = mI M O i ∧ mI M' P i = mI M P i) ∧ ((x = 2 ∧ M' = M) ∨ (x = 0 ∧ ∃ H' L' k' wt', RG M' r p O P n s V F ns d0 H' L' k' (a + 1) wt' ∧ L ≤ L'))
/-- the end of closing: a word is passed -/
theorem s_ci286 {l5 : Int} {Q : Int → mM → Prop} (h5 : l5 = 0 ∨ l5 = 1) (h : RB M z r w T A B D N C n p O P K) (ha : mI M r 2 = a) (han : a ≤ 16384) (hq : ∀ M', RB M' z r w T A B D N C n p O P K → FI (rdS r p O P) M M' → (∀ i, mI M' r i = if i = 2 then (a : Int) + 1 else if i = 7 then l5 else mI M r i) → (∀ b, b ≠ r → mI M' b = mI M b) → Q 0 M') : h_RR_closeInner_286 G d r l5 M Q := by
  refine k_RR_closeInner_286 h.1 (i32s (by omega) (by omega)) ⟨h.2.1.1, h5, fun M203 e203 => ?_⟩
  obtain ⟨h1, f1, g1, n1⟩ := rb_fld h (i32s (by omega) (by omega)) e203
  have e2 : mI M203 r 2 = a := by rw [g1, if_neg (by decide)]; exact ha
  rw [e2]
  refine ⟨⟨by omega, by omega⟩, fun M206 e206 => ?_⟩
  obtain ⟨h2, f2, g2, n2⟩ := rb_fld h1 ⟨by omega, by omega⟩ e206
  exact hq M206 h2 (f1.trans f2) (fun i => by
    rw [g2]
    by_cases y : i = 2
    · rw [if_pos y, if_pos y]
    · rw [if_neg y, if_neg y, g1]) (fun b hb => by rw [n2 b hb, n1 b hb])
/-- the operation that was open last is taken off, and a word is passed -/
theorem s_ciPop {Q : Int → mM → Prop} (h : RB M z r w T A B D N C n p O P K) (ha : mI M r 2 = a) (han : a ≤ 16384) (hk : mI M r 12 = ((k + 1 : Nat) : Int)) (hk3 : k < 336) {e : Nat} (he : mI M r 5 = ((e + 1 : Nat) : Int)) (he4 : e < 40) (hq : ∀ M', RB M' z r w T A B D N C n p O P K → FI (rdS r p O P) M M' → (∀ i, mI M' r i = if i = 2 then (a : Int) + 1 else if i = 7 then 0 else if i = 5 then (e : Int) else if i = 12 then (k : Int) else mI M r i) → (∀ b, b ≠ r → mI M' b = mI M b) → Q 0 M') : mK M r = 4 ∧ i32 ((mI M r 12) - 1) ∧ ∀ M110, M110 = mUI M r 12 ((mI M r 12) - 1) → i32 ((mI M110 r 5) - 1) ∧ ∀ M113, M113 = mUI M110 r 5 ((mI M110 r 5) - 1) → h_RR_closeInner_286 G d r 0 M113 Q := by
  rw [hk, show ((k + 1 : Nat) : Int) - 1 = (k : Int) by first | rfl | omega]
  refine ⟨h.2.1.1, ⟨by omega, by omega⟩, fun M110 e110 => ?_⟩
  obtain ⟨h1, f1, g1, n1⟩ := rb_fld h ⟨by omega, by omega⟩ e110
  have e5 : mI M110 r 5 = ((e + 1 : Nat) : Int) := by rw [g1, if_neg (by decide)]; exact he
  rw [e5, show ((e + 1 : Nat) : Int) - 1 = (e : Int) by first | rfl | omega]
  refine ⟨⟨by omega, by omega⟩, fun M113 e113 => ?_⟩
  obtain ⟨h2, f2, g2, n2⟩ := rb_fld h1 ⟨by omega, by omega⟩ e113
  refine s_ci286 (a := a) (Or.inl rfl) h2 (by rw [g2, if_neg (by decide), g1, if_neg (by decide)]; exact ha) han (fun M' h' f' g' n' => hq M' h' ((f1.trans f2).trans f') (fun i => ?_) (fun b hb => by rw [n' b hb, n2 b hb, n1 b hb]))
  rw [g']
  by_cases y2 : i = 2
  · rw [if_pos y2, if_pos y2]
  · by_cases y7 : i = 7
    · rw [if_neg y2, if_pos y7, if_neg y2, if_pos y7]
    · rw [if_neg y2, if_neg y7, if_neg y2, if_neg y7, g2]
      by_cases y5 : i = 5
      · rw [if_pos y5, if_pos y5]
      · rw [if_neg y5, if_neg y5, g1]
end RRE
end
section
/-! The class's reader of rules: ':' behind '?'. -/
section RRF
variable {G : mG} {d z r w T A B D N C n p O P K k a s L L' V F d0 c : Nat} {M0 M M' M1 M2 : mM} {H H' : Nat → Nat} {ns : Nat → Int} {wt : Int}
end RRF
end
section
/-! The class's reader of rules: ',' and ')' of least and most. -/
section RRI
variable {G : mG} {d z r w T A B D N C n p O P K k a s L L1 V F d0 c : Nat} {M0 M M' M1 M2 : mM} {H H1 : Nat → Nat} {ns : Nat → Int} {wt : Int}
/-- the order of a list, if there is one, stands -/
def liA (M : mM) (z r w T A B D N C n p O P K s V F : Nat) (ns : Nat → Int) (H : Nat → Nat) (L k a : Nat) (H1 : Nat → Nat) (L1 : Nat) (M1 : mM) : Prop := RB M1 z r w T A B D N C n p O P K ∧ FI (rdS r p O P) M M1 ∧ (∀ b, r ≤ b → b ≤ r + 9 → mI M1 b = mI M b) ∧ (∀ i, mI M1 p i = if i = 2 then (L1 : Int) else mI M p i) ∧ (∀ i, i < L → mI M1 O i = mI M O i ∧ mI M1 P i = mI M P i) ∧ L ≤ L1 ∧ (∀ i, i ≤ L → H1 i = H i) ∧ H1 L1 = 1 + bs M r k ∧ H1 L1 + s ≤ L1 ∧ CO M1 O P V F ns H1 s L1 (pdg M r (k + 1)) ∧ L1 + se M r k ≤ a + 1
end RRI
end
section
/-! The class's reader of rules: closeInner. -/
section RRJ
variable {G : mG} {d z r w T A B D N C n p O P K k a s L L1 V F d0 c : Nat} {M0 M M' M1 M2 : mM} {H H1 : Nat → Nat} {ns : Nat → Int} {wt : Int}
end RRJ
end
section
/-! The class's reader of rules: takeOperator. -/
section RRK
variable {G : mG} {d z r w T A B D N C n p O P K k a s L L1 V F d0 c : Nat} {M0 M M' M1 M2 : mM} {H H1 : Nat → Nat} {ns : Nat → Int} {wt : Int}
/-- what reading a rule may change -/
def rrF (M : mM) (r p O P s : Nat) (M' : mM) : Prop := FI (rdS r p O P) M M' ∧ (∀ i, i ≠ 2 → i ≠ 3 → i ≠ 4 → i ≠ 5 → i ≠ 7 → i ≠ 12 → i ≠ 14 → mI M' r i = mI M r i) ∧ (mI M r 3 ≠ 0 → mI M' r 3 = mI M r 3) ∧ (∀ i, 6 ≤ i → i ≤ 9 → mI M' (r + i) = mI M (r + i)) ∧ (∀ i, i ≠ 2 → mI M' p i = mI M p i) ∧ (∀ i, i < s → mI M' O i = mI M O i ∧ mI M' P i = mI M P i)
theorem rrF.refl : rrF M r p O P s M := ⟨FI.refl, fun _ _ _ _ _ _ _ _ => rfl, fun _ => rfl, fun _ _ _ => rfl, fun _ _ => rfl, fun _ _ => ⟨rfl, rfl⟩⟩
theorem rrF.trans (f : rrF M0 r p O P s M) (g : rrF M r p O P s M') : rrF M0 r p O P s M' := by
  obtain ⟨a1, a2, a3, a4, a5, a6⟩ := f
  obtain ⟨b1, b2, b3, b4, b5, b6⟩ := g
  refine ⟨a1.trans b1, fun i i2 i3 i4 i5 i7 i12 i14 => by rw [b2 i i2 i3 i4 i5 i7 i12 i14, a2 i i2 i3 i4 i5 i7 i12 i14], fun q => ?_, fun i i6 i9 => by rw [b4 i i6 i9, a4 i i6 i9], fun i i2 => by rw [b5 i i2, a5 i i2], fun i hi => ⟨by rw [(b6 i hi).1, (a6 i hi).1], by rw [(b6 i hi).2, (a6 i hi).2]⟩⟩
  have h3 := a3 q
  rw [b3 (by rw [h3]; exact q), h3]
/-- what a step comes to: 0 it goes on, 1 the rule is over, 2 a word is refused -/
def rtQ (M0 : mM) (z r w T A B D N C n p O P K s V F : Nat) (ns : Nat → Int) (d0 : Nat) (a : Nat) (x : Int) (M' : mM) : Prop := RB M' z r w T A B D N C n p O P K ∧ rrF M0 r p O P s M' ∧ (x = 0 ∨ x = 1 ∨ x = 2) ∧ ∃ H' L' k' wt' a', RG M' r p O P n s V F ns d0 H' L' k' a' wt' ∧ a ≤ a' ∧ (x = 1 → k' = 0 ∧ wt' = 0)
theorem RG.ref (g : RG M r p O P n s V F ns d0 H L k a wt) : ∃ a' L' : Nat, mI M r 2 = a' ∧ mI M p 2 = L' ∧ a' ≤ n ∧ s ≤ L' ∧ L' ≤ a' := by
  obtain ⟨⟨g1, -, -, g4⟩, -, ⟨g5, g6⟩, -, -, -, -, -, -, g7, -⟩ := g
  exact ⟨a, L, g1, g4, g5, g6, by omega⟩
theorem sg_st {x : Int} (g : RG M r p O P n s V F ns d0 H L k a 0) (f : rrF M0 r p O P s M) (q : sgQ M z r w T A B D N C n p O P K s V F ns d0 H L k a x M') : rtQ M0 z r w T A B D N C n p O P K s V F ns d0 a x M' := by
  obtain ⟨q1, q2, q3, q4, q5, q6, q7⟩ := q
  have gs := g.2.2.1.2
  refine ⟨q1, f.trans ⟨q2, fun i i2 i3 i4 i5 i7 i12 i14 => q3 i i2 i5 i7 i12 i14, fun _ => q3 3 (by decide) (by decide) (by decide) (by decide) (by decide), q4, q5, fun i hi => q6 i (by omega)⟩, ?_⟩
  rcases q7 with ⟨e, e2⟩ | ⟨e, H', L', g', -⟩
  · rw [e2]
    exact ⟨Or.inr (Or.inr e), H, L, k, 0, a, g, by omega, fun u => absurd u (by omega)⟩
  · exact ⟨Or.inl e, H', L', k + 1, 1, a + 1, g', by omega, fun u => absurd u (by omega)⟩
theorem s_RR_closeInner0 (g : RG M r p O P n s V F ns d0 H L (k + 1) a 0) (h : RB M z r w T A B D N C n p O P K) : Ci G y_RR_closeInner (d + 1) [vr r, vi 0, vi k] M (fun x M' => x = 2 ∧ M' = M) := by
  have rm := g.room
  obtain ⟨-, ⟨k0, ⟨q8, -, -, q11, -⟩, ⟨kk1, -⟩, ⟨nn1, -⟩⟩, -⟩ := id h
  refine k_RR_closeInner h.1 (i32s (by omega) (by omega)) ⟨by omega, by omega⟩ ?_
  rw [q8, nn1, Int.toNat_natCast, q11]
  refine ⟨k0, kk1, by omega, fun v5 e5 => ⟨by omega, fun _ => by omega, fun v14 e14 v25 e25 => ⟨fun y => ?_, fun _ => ⟨rfl, rfl⟩⟩⟩⟩
  exfalso
  have z25 : v25 = 0 := by
    rw [e25]
    by_cases u : v5 = 0
    · rw [if_pos (Or.inl ⟨u, Or.inr (by omega)⟩)]
    · rw [if_pos (Or.inr ⟨u, by omega, Or.inr (by omega)⟩)]
  rcases y with u | u
  · exact u z25
  · exact absurd u.2 (by omega)
theorem g_rrF {M9 : mM} (q : gQ M z r w T A B D N C n p O P K s V F ns d0 H L k a M9) : rrF M r p O P s M9 := by
  obtain ⟨-, q2, q3, q4, q5, q6, q7, -⟩ := q
  exact ⟨q2, fun i i2 i3 i4 i5 i7 i12 i14 => q3 i i3 i4 i5 i12 i14, q4, q5, q6, q7⟩
end RRK
end
section
/-! The class's reader of rules: takeOperator, the whole. -/
section RRL
variable {G : mG} {d z r w T A B D N C n p O P K k a s L L1 V F d0 c : Nat} {M0 M M' M1 M2 : mM} {H H1 : Nat → Nat} {ns : Nat → Int} {wt : Int}
theorem lvl_pos {o : Int} (h : 0 < lvl o) : (19 ≤ o ∧ o ≤ 31) ∨ o = 41 := by
  unfold lvl at h
  split at h
  · omega
  split at h
  · omega
  split at h
  · omega
  split at h
  · omega
  split at h
  · omega
  split at h
  · omega
  · exact absurd h (by omega)
/-- the level from which on all is grouped -/
def tgh (o : Int) : Int := if lvl o = 4 then lvl o + 1 else if lvl o < 1 then 1 else lvl o
end RRL
end
section
/-! The class's reader of rules: the names that it knows, and operands. -/
section RRM
variable {G : mG} {d z r w T A B D N C n p O P K k a a' s L L1 V F d0 c : Nat} {M0 M M' M1 M2 : mM} {H H1 : Nat → Nat} {ns : Nat → Int} {wt : Int}
/-- the c names that are known: words, sorts, numbers, kinds -/
def NK (M : mM) (r A n V F : Nat) (ns : Nat → Int) (c : Nat) : Prop := mI M r 19 = c ∧ c ≤ 72 ∧ ∀ i, i < c → (∃ v : Nat, mI M (r + 6) i = v ∧ v < n ∧ mI M A v = 2) ∧ ((mI M (r + 7) i = 5 ∧ 0 ≤ mI M (r + 8) i ∧ (mI M r 6 = 0 → mI M (r + 8) i < V)) ∨ (mI M (r + 7) i = 4 ∧ 0 ≤ mI M (r + 8) i ∧ mI M (r + 8) i < F ∧ ns (mI M (r + 8) i).toNat = 4) ∨ (mI M (r + 7) i = 7 ∧ 0 ≤ mI M (r + 8) i ∧ (mI M r 6 = 0 → mI M (r + 8) i < F ∧ ns (mI M (r + 8) i).toNat = 7))) ∧ (mI M (r + 9) i = 0 ∨ mI M (r + 9) i = 1)
/-- all names that are known -/
def TN (M : mM) (r A n V F : Nat) (ns : Nat → Int) (c : Nat) : Prop := mI M r 19 = c ∧ c ≤ 72 ∧ ∀ i, i < c → (∃ v : Nat, mI M (r + 6) i = v ∧ v < n ∧ mI M A v = 2) ∧ ((mI M (r + 7) i = 5 ∧ 0 ≤ mI M (r + 8) i ∧ mI M (r + 8) i < V) ∨ ((mI M (r + 7) i = 4 ∨ mI M (r + 7) i = 7) ∧ 0 ≤ mI M (r + 8) i ∧ mI M (r + 8) i < F ∧ ns (mI M (r + 8) i).toNat = mI M (r + 7) i)) ∧ (mI M (r + 9) i = 0 ∨ mI M (r + 9) i = 1)
/-- where only consts may stand -/
def nsc (ns : Nat → Int) : Nat → Int := fun x => if ns x = 4 then 4 else 0
theorem TN.nk (h : TN M r A n V F ns c) : NK M r A n V F ns c := by
  refine ⟨h.1, h.2.1, fun i hi => ?_⟩
  obtain ⟨h1, h2, h3⟩ := h.2.2 i hi
  refine ⟨h1, ?_, h3⟩
  rcases h2 with ⟨u1, u2, u3⟩ | ⟨u1, u2, u3, u4⟩
  · exact Or.inl ⟨u1, u2, fun _ => u3⟩
  · rcases u1 with e | e
    · exact Or.inr (Or.inl ⟨e, u2, u3, by rw [u4]; exact e⟩)
    · exact Or.inr (Or.inr ⟨e, u2, fun _ => ⟨u3, by rw [u4]; exact e⟩⟩)
theorem TN.nkc (h : TN M r A n V F ns c) (h6 : mI M r 6 ≠ 0) : NK M r A n 0 F (nsc ns) c := by
  refine ⟨h.1, h.2.1, fun i hi => ?_⟩
  obtain ⟨h1, h2, h3⟩ := h.2.2 i hi
  refine ⟨h1, ?_, h3⟩
  rcases h2 with ⟨u1, u2, u3⟩ | ⟨u1, u2, u3, u4⟩
  · exact Or.inl ⟨u1, u2, fun q => absurd q h6⟩
  · rcases u1 with e | e
    · refine Or.inr (Or.inl ⟨e, u2, u3, ?_⟩)
      unfold nsc
      rw [if_pos (by rw [u4]; exact e)]
    · exact Or.inr (Or.inr ⟨e, u2, fun q => absurd q h6⟩)
theorem RB.word (h : RB M z r w T A B D N C n p O P K) (f : FI (rdS r p O P) M M') : mI M' A = mI M A ∧ mI M' B = mI M B ∧ mI M' D = mI M D := by
  have hs := h.2.2.2.2.2.1.2.2
  have no : ∀ x, (x = w ∨ x = T ∨ x = A ∨ x = B ∨ x = D) → ¬ rdS r p O P x := fun x hx q => by
    have q' : (r ≤ x ∧ x ≤ r + 9) ∨ x = p ∨ x = O ∨ x = P := q
    have := hs x hx
    omega
  exact ⟨f.2.2.2.2.2.2 A (no A (by omega)), f.2.2.2.2.2.2 B (no B (by omega)), f.2.2.2.2.2.2 D (no D (by omega))⟩
theorem NK.rr (nk : NK M r A n V F ns c) (h : RB M z r w T A B D N C n p O P K) (f : rrF M r p O P s M') : NK M' r A n V F ns c := by
  have hA := (h.word f.1).1
  obtain ⟨-, f2, -, f4, -⟩ := f
  unfold NK at nk ⊢
  rw [hA, f2 19 (by decide) (by decide) (by decide) (by decide) (by decide) (by decide) (by decide), f2 6 (by decide) (by decide) (by decide) (by decide) (by decide) (by decide) (by decide), f4 6 (by omega) (by omega), f4 7 (by omega) (by omega), f4 8 (by omega) (by omega), f4 9 (by omega) (by omega)]
  exact nk
theorem RG.cg (g : RG M r p O P n s V F ns d0 H L k a wt) (h2 : mI M' r 2 = a') (haa : a ≤ a') (han : a' ≤ n) (h12 : mI M' r 12 = mI M r 12) (h7 : mI M' r 7 = mI M r 7) (h14 : mI M' r 14 = mI M r 14) (h5 : mI M' r 5 = mI M r 5) (t : ∀ i, 1 ≤ i → i ≤ 5 → mI M' (r + i) = mI M (r + i)) (tp : mI M' p 2 = mI M p 2) (tO : mI M' O = mI M O) (tP : mI M' P = mI M P) : RG M' r p O P n s V F ns d0 H L k a' wt := by
  obtain ⟨⟨g1, g2, g3, g4⟩, gw, ⟨ga, gs⟩, gc, ⟨gd, gd4⟩, gr, ge, gH, gC, gL, gt⟩ := g
  have l1 : ∀ j, mI M' (r + 1) j = mI M (r + 1) j := fun j => by rw [t 1 (by omega) (by omega)]
  have l2 : ∀ j, mI M' (r + 2) j = mI M (r + 2) j := fun j => by rw [t 2 (by omega) (by omega)]
  have l3 : ∀ j, mI M' (r + 3) j = mI M (r + 3) j := fun j => by rw [t 3 (by omega) (by omega)]
  have l4 : ∀ j, mI M' (r + 4) j = mI M (r + 4) j := fun j => by rw [t 4 (by omega) (by omega)]
  have sm := fun i hi => sums_cg (M := M) (M' := M') (r := r) (k := k) (fun j _ => l1 j) (fun j _ => l4 j) i hi
  obtain ⟨s1, s2, s3, s4⟩ := sm k (Nat.le_refl _)
  refine ⟨⟨h2, by rw [h12]; exact g2, by rw [h7]; exact g3, by rw [tp]; exact g4⟩, gw, ⟨han, gs⟩, by rw [h14, s2]; exact gc, ⟨by rw [h5, s4]; exact gd, by rw [s4]; exact gd4⟩, fun i hi => by rw [(sm (i + 1) (by omega)).2.2.2, l1]; exact gr i hi, fun i hi => (ge i hi).cg (fun j _ => l1 j) (l2 i) (l3 i) (fun j _ => l4 j) (Nat.le_refl _) (fun j _ => by rw [tO]) (fun _ _ => rfl), by rw [s1]; exact gH, ?_, by rw [s3]; omega, fun j => by rw [t 5 (by omega) (by omega)]; exact gt j⟩
  intro pc h0 h1
  rw [tO, tP]
  obtain ⟨a1, a2, a3⟩ := gC pc h0 h1
  exact ⟨a1, fun q => (a2 q).imp (fun u => pdg_cg u (Nat.le_refl _) (fun j _ => l1 j) (fun j _ => l3 j)) (fun u => u), a3⟩
theorem v_rt {y : Int} (g : RG M r p O P n s V F ns d0 H L k a 1) (f : rrF M0 r p O P s M) (q : y = 0 ∧ RB M' z r w T A B D N C n p O P K ∧ FI (rdS r p O P) M M' ∧ (∀ i, i ≠ 2 → i ≠ 7 → i ≠ 14 → mI M' r i = mI M r i) ∧ (∀ i, 6 ≤ i → i ≤ 9 → mI M' (r + i) = mI M (r + i)) ∧ (∀ i, i ≠ 2 → mI M' p i = mI M p i) ∧ (∀ i, i ≠ L → mI M' O i = mI M O i ∧ mI M' P i = mI M P i) ∧ ∃ H', RG M' r p O P n s V F ns d0 H' (L + 1) k (a + 1) 0 ∧ ∀ i, i ≤ L → H' i = H i) : i32 y ∧ mOk M' ∧ rtQ M0 z r w T A B D N C n p O P K s V F ns d0 a y M' := by
  obtain ⟨e, q1, q2, q3, q4, q5, q6, H', g', -⟩ := q
  have gs := g.2.2.1.2
  refine ⟨by rw [e]; exact i32s (by omega) (by omega), q1.1, q1, f.trans ⟨q2, fun i i2 _ _ _ i7 _ i14 => q3 i i2 i7 i14, fun _ => q3 3 (by decide) (by decide) (by decide), q4, q5, fun i hi => q6 i (by omega)⟩, Or.inl e, H', L + 1, k, 0, a + 1, g', by omega, fun u => absurd u (by omega)⟩
theorem l_rt {x : Int} (haa : a ≤ a') (g : RG M r p O P n s V F ns d0 H L k a' 1) (f : rrF M0 r p O P s M) (q : lvQ M z r w T A B D N C n p O P K s V F ns d0 H L k a' x M') : i32 x ∧ mOk M' ∧ rtQ M0 z r w T A B D N C n p O P K s V F ns d0 a x M' := by
  obtain ⟨q1, q2, q3, q4, ⟨q5, q6, q7⟩, q8⟩ := q
  refine ⟨?_, q1.1, q1, f.trans ⟨q2, fun i i2 _ _ i5 i7 i12 _ => q3 i i2 i5 i7 i12, fun _ => q3 3 (by decide) (by decide) (by decide) (by decide), fun i i6 i9 => q4 i (by omega) i9, fun i _ => by rw [q5], fun i _ => ⟨by rw [q6], by rw [q7]⟩⟩, ?_⟩
  · rcases q8 with ⟨e, -⟩ | ⟨e, -⟩ <;> rw [e] <;> exact i32s (by omega) (by omega)
  · rcases q8 with ⟨e, e2⟩ | ⟨e, g'⟩
    · rw [e2]; exact ⟨Or.inr (Or.inr e), H, L, k, 1, a', g, by omega, fun u => absurd u (by omega)⟩
    · exact ⟨Or.inl e, H, L, k + 1, 1, a' + 1, g', by omega, fun u => absurd u (by omega)⟩
end RRM
end
section
/-! The class's reader of rules: takeOperand. -/
section RRN
variable {G : mG} {d z r w T A B D N C n p O P K k a a' s L L1 V F d0 c : Nat} {M0 M M' M1 M2 : mM} {H H1 : Nat → Nat} {ns : Nat → Int} {wt : Int}
end RRN
end
