/-! The class's reader of rules: places, and its small steps. -/
section RRD
variable {G : mG} {d z r w T A B D N C n p O P K k a : Nat} {M M' M1 M2 : mM} {S : Nat → Prop}
/-- the reader's places -/
def RK (M : mM) (r : Nat) : Prop := mK M r = 4 ∧ (mR M r 8 = r + 1 ∧ mR M r 9 = r + 2 ∧ mR M r 10 = r + 3 ∧ mR M r 11 = r + 4 ∧ mR M r 13 = r + 5 ∧ mR M r 15 = r + 6 ∧ mR M r 16 = r + 7 ∧ mR M r 17 = r + 8 ∧ mR M r 18 = r + 9) ∧ (mK M (r + 1) = 30 ∧ mK M (r + 2) = 30 ∧ mK M (r + 3) = 30 ∧ mK M (r + 4) = 30 ∧ mK M (r + 5) = 31 ∧ mK M (r + 6) = 30 ∧ mK M (r + 7) = 30 ∧ mK M (r + 8) = 30 ∧ mK M (r + 9) = 31) ∧ (mN M (r + 1) = 336 ∧ mN M (r + 2) = 336 ∧ mN M (r + 3) = 336 ∧ mN M (r + 4) = 336 ∧ mN M (r + 5) = 336 ∧ mN M (r + 6) = 72 ∧ mN M (r + 7) = 72 ∧ mN M (r + 8) = 72 ∧ mN M (r + 9) = 72)
theorem RK.fi (h : RK M r) (f : FI S M M') : RK M' r := by
  obtain ⟨f1, f2, f3, -⟩ := f
  unfold RK at h ⊢
  rw [f1, f2, f3]
  exact h
/-- the cells that reading a rule may change -/
def rdS (r p O P : Nat) : Nat → Prop := fun x => (r ≤ x ∧ x ≤ r + 9) ∨ x = p ∨ x = O ∨ x = P
/-- words, program and reader lie apart -/
def Spr (z r w T A B D p O P : Nat) : Prop := r + 9 < z ∧ (r + 9 < p ∨ p + 15 < r) ∧ ∀ x, (x = w ∨ x = T ∨ x = A ∨ x = B ∨ x = D) → ¬ ((r ≤ x ∧ x ≤ r + 9) ∨ (p ≤ x ∧ x ≤ p + 15) ∨ x = O ∨ x = P)
/-- the reader while it reads: words w, program p -/
def RB (M : mM) (z r w T A B D N C n p O P K : Nat) : Prop := mOk M ∧ RK M r ∧ (mR M r 0 = w ∧ mR M r 1 = p) ∧ Wf M w T A B D N C n ∧ PK M z p O P K ∧ Spr z r w T A B D p O P ∧ n + 1 ≤ K
theorem Wf.fi (h : Wf M w T A B D N C n) (f : FI S M M') (hS : ∀ x, (x = w ∨ x = T ∨ x = A ∨ x = B ∨ x = D) → ¬ S x) : Wf M' w T A B D N C n := by
  obtain ⟨f1, f2, f3, f4, f5, f6, f7⟩ := f
  unfold Wf WA at h ⊢
  rw [f1, f2, f3, f7 w (hS w (Or.inl rfl)), f7 A (hS A (Or.inr (Or.inr (Or.inl rfl)))), f7 B (hS B (Or.inr (Or.inr (Or.inr (Or.inl rfl))))), f7 D (hS D (Or.inr (Or.inr (Or.inr (Or.inr rfl)))))]
  exact h
theorem RB.fi (h : RB M z r w T A B D N C n p O P K) (o : mOk M') (f : FI (rdS r p O P) M M') : RB M' z r w T A B D N C n p O P K := by
  obtain ⟨-, h2, h3, h4, h5, h6, h7⟩ := h
  refine ⟨o, h2.fi f, by rw [f.2.2.1]; exact h3, h4.fi f (fun x hx q => h6.2.2 x hx ?_), h5.fi f, h6, h7⟩
  have q' : (r ≤ x ∧ x ≤ r + 9) ∨ x = p ∨ x = O ∨ x = P := q
  omega
/-- a field of the reader is written -/
theorem rb_fld {j : Nat} {v : Int} (h : RB M z r w T A B D N C n p O P K) (hv : i32 v) (e : M' = mUI M r j v) : RB M' z r w T A B D N C n p O P K ∧ FI (rdS r p O P) M M' ∧ (∀ i, mI M' r i = if i = j then v else mI M r i) ∧ (∀ x, x ≠ r → mI M' x = mI M x) := by
  have f : FI (rdS r p O P) M M' := by rw [e]; exact FI.ui (Or.inl ⟨Nat.le_refl _, by omega⟩)
  refine ⟨h.fi (by rw [e]; exact mOk_UI h.1 hv) f, f, fun i => ?_, fun x hx => ?_⟩
  · rw [e, mI_UI]
    by_cases y : i = j
    · rw [if_pos ⟨rfl, y⟩, if_pos y]
    · rw [if_neg (fun q => y q.2), if_neg y]
  · rw [e]; funext i; rw [mI_UI, if_neg (fun q => hx q.1)]
/-- a place of the reader's tables is written -/
theorem rb_tab {i j : Nat} {v : Int} (h : RB M z r w T A B D N C n p O P K) (h1 : 1 ≤ i) (h9 : i ≤ 9) (hv : i32 v) (e : M' = mUI M (r + i) j v) : RB M' z r w T A B D N C n p O P K ∧ FI (rdS r p O P) M M' ∧ (∀ x, mI M' (r + i) x = if x = j then v else mI M (r + i) x) ∧ (∀ x, x ≠ r + i → mI M' x = mI M x) := by
  have f : FI (rdS r p O P) M M' := by rw [e]; exact FI.ui (Or.inl ⟨by omega, by omega⟩)
  refine ⟨h.fi (by rw [e]; exact mOk_UI h.1 hv) f, f, fun x => ?_, fun x hx => ?_⟩
  · rw [e, mI_UI]
    by_cases y : x = j
    · rw [if_pos ⟨rfl, y⟩, if_pos y]
    · rw [if_neg (fun q => y q.2), if_neg y]
  · rw [e]; funext i; rw [mI_UI, if_neg (fun q => hx q.1)]
theorem s_RR_here (h : RB M z r w T A B D N C n p O P K) (ha : mI M r 2 = a) (han : a ≤ n) : Ci G y_RR_here d [vr r] M (fun x M' => M' = M ∧ x = mI M B a ∧ 0 ≤ x ∧ x ≤ 16384) := by
  obtain ⟨hO, hK, ⟨r0, r1⟩, hW, -⟩ := id h
  obtain ⟨⟨w1, ⟨p0, p3, p4, p5⟩, -, ⟨k3, k4, k5⟩, ⟨c3, c4, c5⟩, w6, w7, w8, -⟩, e2, hnN, hw, hA, hB⟩ := id hW
  refine k_RR_here hO ?_
  rw [r0, p4, ha, Int.toNat_natCast, c4]
  refine ⟨hK.1, w1, k4, by omega, rfl, rfl, ?_⟩
  by_cases y : a = n
  · rw [y, hB]
    omega
  · have := (hw a (by omega)).2.1
    omega
theorem s_RR_accept {x : Int} (hx : i32 x) (h : RB M z r w T A B D N C n p O P K) (ha : mI M r 2 = a) (han : a ≤ n) : Ci G y_RR_accept d [vr r, vi x] M (fun v M' => RB M' z r w T A B D N C n p O P K ∧ ((v = 1 ∧ mI M A a = x ∧ M' = mUI M r 2 ((a : Int) + 1) ∧ mI M' r 2 = a + 1) ∨ (v = 0 ∧ mI M A a ≠ x ∧ M' = M))) := by
  obtain ⟨hO, hK, ⟨r0, r1⟩, hW, -⟩ := id h
  obtain ⟨⟨w1, ⟨p0, p3, p4, p5⟩, -, ⟨k3, k4, k5⟩, ⟨c3, c4, c5⟩, w6, w7, w8, -⟩, e2, hnN, hw, hA, hB⟩ := id hW
  refine k_RR_accept hO hx ?_
  rw [r0, p3, ha, Int.toNat_natCast, c3]
  refine ⟨hK.1, w1, k3, by omega, fun y => ⟨⟨by omega, by omega⟩, fun M9 e9 => ?_⟩, fun y => ⟨h, Or.inr ⟨rfl, y, rfl⟩⟩⟩
  obtain ⟨h9, f9, g9, -⟩ := rb_fld h ⟨by omega, by omega⟩ e9
  exact ⟨h9, Or.inl ⟨rfl, y, e9, by rw [g9, if_pos rfl]⟩⟩
theorem s_RR_note {x y : Int} (hx : i32 x) (hy : i32 y) (h : RB M z r w T A B D N C n p O P K) : Cv G y_RR_note d [vr r, vi x, vi y] M (fun M' => RB M' z r w T A B D N C n p O P K ∧ FI (fun b => b = r) M M' ∧ (∀ i, i ≠ 3 → i ≠ 4 → mI M' r i = mI M r i) ∧ (mI M r 3 = 0 → mI M' r 3 = x) ∧ (mI M r 3 ≠ 0 → mI M' r 3 = mI M r 3)) := by
  refine k_RR_note h.1 hx hy ⟨h.2.1.1, fun e M5 e5 M7 e7 => ?_, fun e => ⟨h, FI.refl, fun _ _ _ => rfl, fun q => absurd q e, fun _ => rfl⟩⟩
  obtain ⟨h5, -, g5, -⟩ := rb_fld h hx e5
  obtain ⟨h7, -, g7, -⟩ := rb_fld h5 hy e7
  have f5 : FI (fun b => b = r) M M5 := by rw [e5]; exact FI.ui rfl
  have f7 : FI (fun b => b = r) M5 M7 := by rw [e7]; exact FI.ui rfl
  exact ⟨h7, f5.trans f7, fun i i3 i4 => by rw [g7, if_neg i4, g5, if_neg i3], fun _ => by rw [g7, if_neg (by decide), g5, if_pos rfl], fun q => absurd e q⟩
/-- how tight an operation binds -/
def lvl (o : Int) : Int := if 19 ≤ o ∧ o ≤ 24 then 4 else if o = 25 ∨ o = 26 then 5 else if 27 ≤ o ∧ o ≤ 29 then 6 else if o = 30 then 2 else if o = 31 then 1 else if o = 41 then 3 else 0
theorem s_RR_level {o : Int} (ho : i32 o) (hO : mOk M) : Ci G y_RR_level d [vi o] M (fun x M' => M' = M ∧ x = lvl o) := by
  refine k_RR_level hO ho ⟨fun q => ⟨rfl, ?_⟩, fun q1 => ⟨fun q => ⟨rfl, ?_⟩, fun q2 => ⟨fun q => ⟨rfl, ?_⟩, fun q3 => ⟨fun q => ⟨rfl, ?_⟩, fun q4 => ⟨fun q => ⟨rfl, ?_⟩, fun q5 => ⟨fun q => ⟨rfl, ?_⟩, fun q6 => ⟨rfl, ?_⟩⟩⟩⟩⟩⟩⟩ <;> unfold lvl <;> (repeat' split) <;> omega
theorem lvl_b (o : Int) : 0 ≤ lvl o ∧ lvl o ≤ 6 := by unfold lvl; (repeat' split) <;> omega
/-- a kind is put on the pile -/
theorem s_RR_pushKind {v : Int} {c : Nat} (hv : v = 0 ∨ v = 1) (h : RB M z r w T A B D N C n p O P K) (hc : mI M r 14 = c) (h3 : c < 336) : Cv G y_RR_pushKind d [vr r, vi v] M (fun M' => RB M' z r w T A B D N C n p O P K ∧ FI (fun b => b = r ∨ b = r + 5) M M' ∧ (∀ i, mI M' r i = if i = 14 then (c : Int) + 1 else mI M r i) ∧ (∀ i, mI M' (r + 5) i = if i = c then v else mI M (r + 5) i)) := by
  obtain ⟨hO, hK, -⟩ := id h
  obtain ⟨k0, ⟨-, -, -, -, q13, -⟩, ⟨-, -, -, -, k5, -⟩, ⟨-, -, -, -, n5, -⟩⟩ := id hK
  refine k_RR_pushKind hO (i32s (by omega) (by omega)) ⟨k0, fun y => absurd y (by omega), fun y => ⟨⟨by omega, by omega⟩, fun M10 e10 => ?_⟩⟩
  rw [hc] at e10
  obtain ⟨h10, -, g10, u10⟩ := rb_fld h ⟨by omega, by omega⟩ e10
  obtain ⟨-, hK10, -⟩ := id h10
  rw [q13, hc, Int.toNat_natCast, show mN M10 (r + 5) = 336 from hK10.2.2.2.2.2.2.2.1]
  refine ⟨hK10.2.2.1.2.2.2.2.1, by omega, hv, fun M15 e15 => ?_⟩
  obtain ⟨h15, -, g15, u15⟩ := rb_tab h10 (i := 5) (by omega) (by omega) (i32s (by omega) (by omega)) e15
  have f10 : FI (fun b => b = r ∨ b = r + 5) M M10 := by rw [e10]; exact FI.ui (Or.inl rfl)
  have f15 : FI (fun b => b = r ∨ b = r + 5) M10 M15 := by rw [e15]; exact FI.ui (Or.inr rfl)
  exact ⟨h15, f10.trans f15, fun i => by rw [u15 r (by omega), g10], fun i => by rw [g15, u10 (r + 5) (by omega)]⟩
/-- a kind is taken -/
theorem s_RR_popKind {c : Nat} (h : RB M z r w T A B D N C n p O P K) (hc : mI M r 14 = ((c + 1 : Nat) : Int)) (h3 : c < 336) : Ci G y_RR_popKind d [vr r] M (fun v M' => (v = 0 ∨ v = 1) ∧ RB M' z r w T A B D N C n p O P K ∧ FI (fun b => b = r) M M' ∧ (∀ i, mI M' r i = if i = 14 then (c : Int) else mI M r i)) := by
  obtain ⟨hO, hK, -⟩ := id h
  obtain ⟨k0, ⟨-, -, -, -, q13, -⟩, ⟨-, -, -, -, k5, -⟩, ⟨-, -, -, -, n5, -⟩⟩ := id hK
  refine k_RR_popKind hO ⟨k0, fun y => ?_, fun v e M9 e9 => ?_⟩
  · have o' : mOk (mUI M r 14 ((mI M r 14) - 1)) := mOk_UI hO ⟨by omega, by omega⟩
    refine ⟨⟨by omega, by omega⟩, ?_⟩
    rw [q13, mK_UI, mN_UI, n5]
    exact ⟨k5, by omega, (o' _ _).1⟩
  · rw [if_neg (by omega), hc, show ((c + 1 : Nat) : Int) - 1 = (c : Int) by omega] at e9
    obtain ⟨h9, -, g9, -⟩ := rb_fld h ⟨by omega, by omega⟩ e9
    refine ⟨h9.1, by rw [e]; split <;> omega, h9, by rw [e9]; exact FI.ui rfl, g9⟩
end RRD
