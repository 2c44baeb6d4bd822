/-! The Residues: substitution, remainders put together, systems settled. -/
section NBL
variable {G : mG} {d e z n m i k rows B : Nat} {M M0 M' M1 M2 M3 : mM} {P a b x y X Y : Int} {L : List Nat} {W : Nat → Nat}
/-- residues from i on -/
def Rd9 (M : mM) (e : Nat) (P : Int) (i n : Nat) : Prop := ∀ j, i ≤ j → j ≤ n → 0 ≤ mI M (e + 6) j ∧ mI M (e + 6) j ≤ P
theorem s_su111 (hP : 1000000000 < P ∧ P < 1073741824) (h : Rk M e) (hr : rows ≤ 40) : ∀ (t i : Nat) (M1 : mM), rows ≤ i + t → i ≤ rows → mOk M1 → FI (fun x => x = e + 6) M M1 → Rd9 M1 e P 0 rows → h_Re_substitute_111 G d e rows P i M1 (fun M' => mOk M' ∧ FI (fun x => x = e + 6) M M' ∧ Rd9 M' e P 0 rows) := by
  intro t
  induction t with
  | zero =>
    intro i M1 h1 h2 o F r
    exact k_Re_substitute_111 o ⟨by omega, by omega⟩ ⟨by omega, by omega⟩ ⟨by omega, by omega⟩ ⟨fun _ => ⟨o, F, r⟩, fun u => absurd (by omega) u⟩
  | succ t ih =>
    intro i M1 h1 h2 o F r
    refine k_Re_substitute_111 o ⟨by omega, by omega⟩ ⟨by omega, by omega⟩ ⟨by omega, by omega⟩ ⟨fun _ => ⟨o, F, r⟩, fun u => ?_⟩
    obtain ⟨e0, ⟨-, -, -, -, -, r5, -⟩, ⟨-, -, -, -, -, k6⟩, ⟨-, -, -, -, -, n6⟩⟩ := h.fi F
    obtain ⟨p1, p2⟩ := pr_b hP.2 (r i (by omega) (by omega)) (r rows (by omega) (by omega)) ⟨Int.le_refl 0, by omega⟩
    rw [Int.zero_add] at p1 p2
    obtain ⟨t1, t2, t3⟩ := tm_b p1 (show 0 < P by omega)
    rw [r5, n6, Int.toNat_natCast, Int.toNat_natCast, t1, show ((i : Int) + 1) = ((i + 1 : Nat) : Int) by omega]
    refine ⟨e0, k6, ⟨by omega, by omega⟩, ⟨by omega, by omega⟩, p2, by omega, ⟨by omega, by omega⟩, ⟨by omega, by omega⟩, fun M64 e64 => ?_⟩
    have f64 : FI (fun x => x = e + 6) M1 M64 := by rw [e64]; exact FI.ui rfl
    refine ih (i + 1) M64 (by omega) (by omega) (by rw [e64]; exact mOk_UI o ⟨by omega, by omega⟩) (F.trans f64) (fun j h0 hj => ?_)
    rw [mI_ui _ j e64]
    by_cases c : e + 6 = e + 6 ∧ j = i
    · rw [if_pos c]; exact ⟨t2, Int.le_of_lt t3⟩
    · rw [if_neg c]; exact r j h0 hj
theorem s_su28 {Q : mM → Prop} (hP : 1000000000 < P ∧ P < 1073741824) (h : Rk M1 e) (hr : rows ≤ 40) (hi : i < rows) (o : mOk M1) (w : Wk9 M1 e P (rows * 41)) (iv : Iv9 M1 e P rows) (r : Rd9 M1 e P (i + 1) rows)
    (hQ : ∀ M30 v, 0 ≤ v ∧ v ≤ P → M30 = mUI M1 (e + 6) i v → h_Re_substitute_4 G d e rows P ((i : Int) + (-1)) M30 Q) : ∀ (t j : Nat) (s : Int), rows ≤ j + t → i + 1 ≤ j → j ≤ rows → 0 ≤ s ∧ s ≤ P → h_Re_substitute_28 G d e rows P i s j M1 Q := by
  obtain ⟨e0, ⟨-, -, r2, r3, -, r5, -⟩, ⟨-, -, k3, k4, -, k6⟩, ⟨-, -, n3, n4, -, n6⟩⟩ := id h
  have fin : ∀ (s : Int), 0 ≤ s ∧ s ≤ P → mK M1 e = 12 ∧ mK M1 (mR M1 e 3) = 30 ∧ ((0 : Int) ≤ i ∧ (i : Int) < (mN M1 (mR M1 e 3) : Int)) ∧ i64 (s * (mI M1 (mR M1 e 3) (Int.toNat i))) ∧ P ≠ 0 ∧ mK M1 (mR M1 e 5) = 30 ∧ ((0 : Int) ≤ i ∧ (i : Int) < (mN M1 (mR M1 e 5) : Int)) ∧ i32 (Int.tmod (s * (mI M1 (mR M1 e 3) (Int.toNat i))) P) ∧ ∀ M30, M30 = mUI M1 (mR M1 e 5) (Int.toNat i) (Int.tmod (s * (mI M1 (mR M1 e 3) (Int.toNat i))) P) → h_Re_substitute_4 G d e rows P ((i : Int) + (-1)) M30 Q := by
    intro s hs
    obtain ⟨p1, p2⟩ := pr_b hP.2 hs (iv i hi) ⟨Int.le_refl 0, by omega⟩
    rw [Int.zero_add] at p1 p2
    obtain ⟨t1, t2, t3⟩ := tm_b p1 (show 0 < P by omega)
    rw [r3, r5, n4, n6, Int.toNat_natCast, t1]
    exact ⟨e0, k4, ⟨by omega, by omega⟩, p2, by omega, k6, ⟨by omega, by omega⟩, ⟨by omega, by omega⟩, fun M30 e30 => hQ M30 _ ⟨t2, Int.le_of_lt t3⟩ e30⟩
  intro t
  induction t with
  | zero =>
    intro j s h1 h2 h3 hs
    exact k_Re_substitute_28 o ⟨by omega, by omega⟩ ⟨by omega, by omega⟩ ⟨by omega, by omega⟩ ⟨by omega, by omega⟩ ⟨by omega, by omega⟩ ⟨fun _ => fin s hs, fun u => absurd (by omega) u⟩
  | succ t ih =>
    intro j s h1 h2 h3 hs
    refine k_Re_substitute_28 o ⟨by omega, by omega⟩ ⟨by omega, by omega⟩ ⟨by omega, by omega⟩ ⟨by omega, by omega⟩ ⟨by omega, by omega⟩ ⟨fun _ => fin s hs, fun u => ?_⟩
    have w1 := w (i * 41 + j) (by omega)
    have rj := r j (by omega) (by omega)
    obtain ⟨p1, p2⟩ := pr_b hP.2 ⟨w1.1, Int.le_of_lt w1.2⟩ (show 0 ≤ P - mI M1 (e + 6) j ∧ P - mI M1 (e + 6) j ≤ P by omega) hs
    obtain ⟨t1, t2, t3⟩ := tm_b p1 (show 0 < P by omega)
    rw [r2, r5, n3, n6, show ((i : Nat) : Int) * 41 + ((j : Nat) : Int) = ((i * 41 + j : Nat) : Int) by omega, Int.toNat_natCast, Int.toNat_natCast, t1, show ((j : Int) + 1) = ((j + 1 : Nat) : Int) by omega]
    refine ⟨e0, k3, ⟨by omega, by omega⟩, fun _ => ⟨k6, ⟨by omega, by omega⟩, ⟨by omega, by omega⟩, p2, by omega⟩, fun v41 e41 => ih (j + 1) v41 (by omega) (by omega) (by omega) ?_⟩
    by_cases c : cmpL (mI M1 (e + 3) (i * 41 + j)) 0 = 0
    · rw [if_pos c] at e41; rw [e41]; exact hs
    · rw [if_neg c] at e41; rw [e41]; exact ⟨t2, Int.le_of_lt t3⟩
theorem s_Re_substitute (hP : 1000000000 < P ∧ P < 1073741824) (h : Rk M e) (hr : rows ≤ 40) (hw : Wk9 M e P (rows * 41)) (hiv : Iv9 M e P rows) (hd : 0 ≤ mI M (e + 6) rows ∧ mI M (e + 6) rows ≤ P) (hO : mOk M) : Cv G y_Re_substitute d [vr e, vi rows, vi P] M (fun M' => mOk M' ∧ FI (fun x => x = e + 6) M M' ∧ Rd9 M' e P 0 rows) := by
  refine k_Re_substitute hO ⟨by omega, by omega⟩ ⟨by omega, by omega⟩ ?_
  suffices HH : ∀ (i : Nat) (M1 : mM), i ≤ rows → mOk M1 → FI (fun x => x = e + 6) M M1 → Rd9 M1 e P i rows → h_Re_substitute_4 G d e rows P ((i : Int) - 1) M1 (fun M' => mOk M' ∧ FI (fun x => x = e + 6) M M' ∧ Rd9 M' e P 0 rows) from HH rows M (Nat.le_refl _) hO FI.refl (fun j h1 h2 => by rw [show j = rows by omega]; exact hd)
  intro i
  induction i with
  | zero =>
    intro M1 h2 o F r
    exact k_Re_substitute_4 o ⟨by omega, by omega⟩ ⟨by omega, by omega⟩ ⟨by omega, by omega⟩ ⟨fun _ => s_su111 hP h hr rows 0 M1 (by omega) (by omega) o F r, fun u => absurd (by omega) u⟩
  | succ i ih =>
    intro M1 h2 o F r
    have k1 := h.fi F
    obtain ⟨e0, ⟨-, -, r2, -⟩, ⟨-, -, k3, -⟩, ⟨-, -, n3, -⟩⟩ := id k1
    have w1 : Wk9 M1 e P (rows * 41) := fun j hj => by rw [F.2.2.2.2.2.2 (e + 3) (show ¬ e + 3 = e + 6 by omega)]; exact hw j hj
    have iv1 : Iv9 M1 e P rows := fun j hj => by rw [F.2.2.2.2.2.2 (e + 4) (show ¬ e + 4 = e + 6 by omega)]; exact hiv j hj
    have wi := w1 (i * 41 + 40) (by omega)
    refine k_Re_substitute_4 o ⟨by omega, by omega⟩ ⟨by omega, by omega⟩ ⟨by omega, by omega⟩ ⟨fun u => absurd u (by omega), fun _ => ?_⟩
    rw [show ((i + 1 : Nat) : Int) - 1 = ((i : Nat) : Int) by omega, r2, n3, show ((i : Nat) : Int) * 41 + 40 = ((i * 41 + 40 : Nat) : Int) by omega, Int.toNat_natCast, show ((i : Int) + 1) = ((i + 1 : Nat) : Int) by omega]
    refine ⟨e0, k3, ⟨by omega, by omega⟩, s_su28 hP k1 hr (by omega) o w1 iv1 r (fun M30 v hv e30 => ?_) rows (i + 1) _ (by omega) (Nat.le_refl _) (by omega) ⟨wi.1, Int.le_of_lt wi.2⟩⟩
    rw [show ((i : Nat) : Int) + (-1) = ((i : Nat) : Int) - 1 by omega]
    refine ih M30 (by omega) (by rw [e30]; exact mOk_UI o ⟨by omega, by omega⟩) (F.trans (by rw [e30]; exact FI.ui rfl)) (fun j h1 h3 => ?_)
    rw [mI_ui _ j e30]
    by_cases c : j = i
    · rw [if_pos ⟨rfl, c⟩]; exact hv
    · rw [if_neg (fun u => c u.2)]; exact r j (by omega) h3
/-- the Residues' places -/
def RsK (L : List Nat) (M : mM) (e : Nat) : Prop := Rk M e ∧ (∀ i, i ≤ 6 → Oc L M (e + i)) ∧ (∀ i, i < 41 → mR M (e + 2) i = e + 9 + 2 * i ∧ e + 9 + 2 * i ∈ L) ∧ e + 7 ∈ L
/-- the numbers of the Residues -/
def Trs (e x : Nat) : Prop := x = e + 7 ∨ ∃ i, i < 41 ∧ x = e + 9 + 2 * i
theorem RsK.tl (h : RsK L M e) : ∀ t, Trs e t → t ∈ L := fun t ht => by
  rcases ht with u | ⟨i, hi, u⟩
  · rw [u]; exact h.2.2.2
  · rw [u]; exact (h.2.2.1 i hi).2
theorem RsK.kd (h : RsK L M e) (hi : i ≤ 6) : mK M (e + i) ≠ 9 ∧ mK M (e + i) ≠ 11 := by
  obtain ⟨⟨k0, -, ⟨k1, k2, k3, k4, k5, k6⟩, -⟩, -⟩ := h
  rcases (show i = 0 ∨ i = 1 ∨ i = 2 ∨ i = 3 ∨ i = 4 ∨ i = 5 ∨ i = 6 by omega) with u | u | u | u | u | u | u <;> rw [u]
  · rw [Nat.add_zero, k0]; decide
  · rw [k1]; decide
  · rw [k2]; decide
  · rw [k3]; decide
  · rw [k4]; decide
  · rw [k5]; decide
  · rw [k6]; decide
/-- other cells under a change of numbers alone -/
theorem NC.oth {T : Nat → Prop} {x : Nat} (h : NC L W T M M') (hx : Oc L M x) : (mK M' x = mK M x ∧ mN M' x = mN M x ∧ mR M' x = mR M x ∧ mI M' x = mI M x) := by
  obtain ⟨-, h2, h3, h4, -⟩ := h
  obtain ⟨a1, a2, a3, a4, a5⟩ := h3.2 x hx.1
  refine ⟨a1, a2, a4 (fun u => hx.2.1 (h2 x u)), a5 ?_⟩
  rintro (u | ⟨t, ht, u⟩)
  · exact hx.2.1 (h2 x u)
  · exact hx.2.2 t (h2 t ht) u.symm
theorem NC.ocx {T : Nat → Prop} {x : Nat} (h : NC L W T M M') (hF : NF L W M) (hx : Oc L M x) : Oc L M' x := by
  refine ⟨Nat.lt_of_lt_of_le hx.1 h.2.2.1.1.1, hx.2.1, fun a ha u => ?_⟩
  by_cases c : T a
  · rcases h.2.2.2.1 a c with q | q
    · exact hx.2.2 a ha (by rw [← q]; exact u)
    · have := hx.1
      omega
  · rw [(h.num hF ha c).1] at u
    exact hx.2.2 a ha u
theorem RsK.nc {T : Nat → Prop} (h : RsK L M e) (k : NC L W T M M') (hF : NF L W M) : RsK L M' e ∧ ∀ i, i ≤ 6 → mI M' (e + i) = mI M (e + i) := by
  obtain ⟨⟨k0, r, ⟨k1, k2, k3, k4, k5, k6⟩, n⟩, o, p, q⟩ := h
  have c := fun i (hi : i ≤ 6) => k.oth (o i hi)
  have c0 := c 0 (by decide)
  rw [Nat.add_zero] at c0
  refine ⟨⟨⟨by rw [c0.1]; exact k0, by rw [c0.2.2.1]; exact r, ?_, ?_⟩, fun i hi => k.ocx hF (o i hi), fun i hi => by rw [(c 2 (by decide)).2.2.1]; exact p i hi, q⟩, fun i hi => (c i hi).2.2.2⟩
  · rw [(c 1 (by decide)).1, (c 2 (by decide)).1, (c 3 (by decide)).1, (c 4 (by decide)).1, (c 5 (by decide)).1, (c 6 (by decide)).1]
    exact ⟨k1, k2, k3, k4, k5, k6⟩
  · rw [(c 1 (by decide)).2.1, (c 2 (by decide)).2.1, (c 3 (by decide)).2.1, (c 4 (by decide)).2.1, (c 5 (by decide)).2.1, (c 6 (by decide)).2.1]
    exact n
end NBL
