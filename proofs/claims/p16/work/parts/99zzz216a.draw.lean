/-! The class's Solver: commands that are not chosen, mixed. -/
section NBYA
variable {G : mG} {d s g a R cn cc bc i k n c un x y B O j : Nat} {M M0 M' M1 M2 M3 : mM} {L L' : List Nat} {W : Nat → Nat} {S S' T C : Nat → Prop} {r : Prop}
/-- ints of cells of S change, and the Solver's own long -/
def Fxo (S : Nat → Prop) (s : Nat) (M M' : mM) : Prop := mK M' = mK M ∧ mN M' = mN M ∧ mR M' = mR M ∧ (∀ x, x ≠ s → mL M' x = mL M x) ∧ mZ M' = mZ M ∧ mS M' = mS M ∧ ∀ x, ¬ S x → mI M' x = mI M x
theorem Fxo.refl : Fxo S s M M := ⟨rfl, rfl, rfl, fun _ _ => rfl, rfl, rfl, fun _ _ => rfl⟩
theorem Fxo.trans (h : Fxo S s M M1) (q : Fxo S s M1 M2) : Fxo S s M M2 := ⟨q.1.trans h.1, q.2.1.trans h.2.1, q.2.2.1.trans h.2.2.1, fun x hx => (q.2.2.2.1 x hx).trans (h.2.2.2.1 x hx), q.2.2.2.2.1.trans h.2.2.2.2.1, q.2.2.2.2.2.1.trans h.2.2.2.2.2.1, fun x hx => (q.2.2.2.2.2.2 x hx).trans (h.2.2.2.2.2.2 x hx)⟩
theorem Fxo.mono (h : Fxo S s M M1) (hs : ∀ x, S x → S' x) : Fxo S' s M M1 := ⟨h.1, h.2.1, h.2.2.1, h.2.2.2.1, h.2.2.2.2.1, h.2.2.2.2.2.1, fun x hx => h.2.2.2.2.2.2 x (fun u => hx (hs x u))⟩
theorem FI.fo (f : FI S M M1) : Fxo S s M M1 := ⟨f.1, f.2.1, f.2.2.1, fun x _ => by rw [f.2.2.2.1], f.2.2.2.2.1, f.2.2.2.2.2.1, f.2.2.2.2.2.2⟩
theorem Fxo.ul {v : Int} (e : M1 = mUL M s j v) : Fxo S s M M1 := by
  subst e
  refine ⟨rfl, rfl, rfl, fun x hx => ?_, rfl, rfl, fun _ _ => rfl⟩
  funext k
  rw [mL_UL, if_neg (fun u => hx u.1)]
/-- the same memory with the old longs -/
def noG (M M' : mM) : mM := (mK M', mN M', mI M', mL M, mR M', mZ M', mS M')
theorem Fxo.fi (f : Fxo S s M M') : FI S M (noG M M') := ⟨f.1, f.2.1, f.2.2.1, rfl, f.2.2.2.2.1, f.2.2.2.2.2.1, f.2.2.2.2.2.2⟩
theorem noG_ok (o : mOk M) (o' : mOk M') : mOk (noG M M') := fun b k => ⟨(o' b k).1, (o b k).2⟩
/-- as numbers' steps -/
theorem Fxo.nx (f : Fxo C s M M') (o : mOk M) (o' : mOk M') (hF : NF L W M) (hT : ∀ t, T t → t ∈ L) (hC : ∀ x, C x → Oc L M x) (hz : s + 1 < mZ M ∧ mK M (s + 1) = 9) : NX L W T C r (s + 1) M M' ∧ ∀ a, a ∈ L → nv M' a = nv M a := by
  obtain ⟨⟨⟨-, q1⟩, q2, q3, q4, q5⟩, v⟩ := f.fi.nx (T := T) (r := r) (noG_ok o o') hF hT hC hz
  refine ⟨⟨⟨o', q1⟩, q2, ⟨q3.1, fun x hx => ?_⟩, q4, q5⟩, v⟩
  obtain ⟨a1, a2, -, a4, a5⟩ := q3.2 x hx
  exact ⟨a1, a2, fun u => f.2.2.2.1 x (fun e => u (Or.inr (by omega))), a4, a5⟩
/-- an unsigned shift by 33 -/
theorem ush33 {x : Int} : 0 ≤ ushrL x 33 := by
  unfold ushrL
  have e : ((Int32.ofInt 33).toInt64.toUInt64 &&& Int64.toUInt64 63) = (33 : UInt64) := by decide +kernel
  rw [e]
  generalize (Int64.ofInt x).toUInt64 = w
  have h1 : (w >>> 33).toNat < 2 ^ 31 := by
    rw [UInt64.toNat_shiftRight]
    have h2 : w.toNat < 2 ^ 64 := w.toNat_lt
    have e3 : (33 : UInt64).toNat % 64 = 33 := by decide
    rw [e3, Nat.shiftRight_eq_div_pow]
    exact Nat.div_lt_of_lt_mul (by omega)
  have h4 : (w >>> 33).toInt64.toInt = ((w >>> 33).toNat : Int) := by
    show (w >>> 33).toInt64.toBitVec.toInt = _
    have e5 : (w >>> 33).toInt64.toBitVec = (w >>> 33).toBitVec := rfl
    rw [e5, BitVec.toInt_eq_toNat_of_lt]
    · rfl
    · show 2 * (w >>> 33).toNat < 2 ^ 64
      omega
  rw [h4]
  omega
/-- the commands that are not chosen are mixed: nothing but their places and the draw changes -/
def mxQ (s O n : Nat) (M M' : mM) : Prop := mOk M' ∧ Fxo (fun x => x = O) s M M' ∧ ∀ P : Int → Prop, (∀ j, j < n → P (mI M O j)) → ∀ j, j < n → P (mI M' O j)
theorem s_So_mix {l1 l2 : Nat} (o : mOk M) (hs : mK M s = 8) (hr : mR M s 11 = O) (hK : mK M O = 30) (hn : mN M O = 2400) (h2 : l2 ≤ n) (hn2 : n ≤ 2400) (h1 : l1 ≤ 2400) : Cv G y_So_mix d [vr s, vi l1, vi l2] M (mxQ s O n M) := by
  refine k_So_mix o ⟨by omega, by omega⟩ ⟨by omega, by omega⟩ ?_
  suffices H : ∀ (t : Nat) (l3 : Int) (M1 : mM), l3 ≤ l1 + t → l3 < n → -1 ≤ l3 → mxQ s O n M M1 → h_So_mix_4 G d s l1 l3 M1 (mxQ s O n M) from H 2400 ((l2 : Int) - 1) M (by omega) (by omega) (by omega) ⟨o, Fxo.refl, fun _ u => u⟩
  intro t
  induction t with
  | zero =>
    intro l3 M1 a1 a2 a3 hI
    exact k_So_mix_4 hI.1 ⟨by omega, by omega⟩ ⟨by omega, by omega⟩ ⟨fun _ => hI, fun u => absurd (by omega) u⟩
  | succ t ih =>
    intro l3 M1 a1 a2 a3 hI
    refine k_So_mix_4 hI.1 ⟨by omega, by omega⟩ ⟨by omega, by omega⟩ ⟨fun _ => hI, fun u => ?_⟩
    obtain ⟨o1, f1, p1⟩ := hI
    have s1 : mK M1 s = 8 := by rw [f1.1]; exact hs
    refine ⟨s1, fun M4 e4 => ?_⟩
    have f4 : Fxo (fun x => x = O) s M1 M4 := Fxo.ul e4
    have o4 : mOk M4 := by rw [e4]; exact mOk_UL o1 i64_w64
    have i4 : mI M4 = mI M1 := by rw [e4]; rfl
    have hlt := ush33 (x := mL M4 s 14)
    obtain ⟨q, eq⟩ : ∃ q : Nat, ((q : Nat) : Int) = Int.tmod (ushrL (mL M4 s 14) 33) ((l3 - l1) + 1) ∧ (q : Int) < (l3 - l1) + 1 := by
      have b1 := Int.tmod_nonneg ((l3 - l1) + 1) hlt
      have b2 := Int.tmod_lt_of_pos (ushrL (mL M4 s 14) 33) (show 0 < (l3 - l1) + 1 by omega)
      exact ⟨(Int.tmod (ushrL (mL M4 s 14) 33) ((l3 - l1) + 1)).toNat, by omega, by omega⟩
    rw [← eq.1, f4.2.2.1, f1.2.2.1, hr, f4.1, f1.1, f4.2.1, f1.2.1, hn, i4]
    obtain ⟨m, em⟩ : ∃ m : Nat, l3 = ((m : Nat) : Int) := ⟨l3.toNat, by omega⟩
    subst em
    have eq2 := eq.2
    clear eq hlt
    have e5 : Int.toNat (((l1 : Nat) : Int) + ((q : Nat) : Int)) = l1 + q := by omega
    rw [e5, Int.toNat_natCast]
    refine ⟨⟨by omega, by omega⟩, by omega, hK, ⟨by omega, by omega⟩, ⟨by omega, by omega⟩, ⟨by omega, by omega⟩, fun M12 e12 => ?_⟩
    have f12 : FI (fun x => x = O) M4 M12 := by rw [e12]; exact FI.ui rfl
    have o12 : mOk M12 := by rw [e12]; exact mOk_UI o4 (o1 O (l1 + q)).1
    rw [f12.1, f12.2.1, f12.2.2.1, f4.2.2.1, f1.2.2.1, hr, f4.1, f1.1, f4.2.1, f1.2.1, hn]
    refine ⟨hK, ⟨by omega, by omega⟩, fun M16 e16 => ?_⟩
    have f16 : FI (fun x => x = O) M12 M16 := by rw [e16]; exact FI.ui rfl
    have o16 : mOk M16 := by rw [e16]; exact mOk_UI o12 (o1 O m).1
    rw [show ((m : Nat) : Int) + (-1) = ((m : Nat) : Int) - 1 by omega]
    refine ih _ M16 (by omega) (by omega) (by omega) ⟨o16, f1.trans (f4.trans ((f12.trans f16).fo)), fun P hP j hj => ?_⟩
    have p2 := p1 P hP
    rw [mI_ui O j e16, mI_ui O j e12, i4]
    split
    · exact p2 m (by omega)
    · split
      · exact p2 (l1 + q) (by omega)
      · exact p2 j hj
end NBYA
