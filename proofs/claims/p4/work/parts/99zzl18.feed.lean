/-! The class's top: the tape is fed. -/
section NCE
variable {G : mG} {d t A K n : Nat} {M M' M1 M2 M3 M4 : mM}
theorem i2c_a (x : Int) : 0 ≤ i2cI x ∧ i2cI x < 65536 := by
  unfold i2cI
  generalize (Int32.ofInt x).toUInt32 = u
  have h : (u % 65536).toNat < 65536 := by rw [UInt32.toNat_mod]; exact Nat.mod_lt _ (by decide)
  have e : (u % 65536).toInt32.toInt = ((u % 65536).toNat : Int) := BitVec.toInt_eq_toNat_of_lt (by show 2 * (u % 65536).toNat < 2 ^ 32; omega)
  rw [e]
  omega
/-- the tape: n characters in an array A of K places -/
def Tap (M : mM) (t A K n : Nat) : Prop := (mK M t = 1 ∧ mR M t 0 = A ∧ mI M t 1 = ((n : Nat) : Int)) ∧ (mK M A = 32 ∧ mN M A = K) ∧ (t ≠ A ∧ t < mZ M ∧ A < mZ M) ∧ (n ≤ K ∧ n ≤ 16384 ∧ 20 ≤ K ∧ K ≤ 32768) ∧ ∀ j, j < n → 0 ≤ mI M A j ∧ mI M A j < 65536
def Sta2 (t A x : Nat) : Prop := x = t ∨ x = A
/-- characters were put, m there are now -/
def pfQ (t A K : Nat) (M : mM) (m : Nat) (M' : mM) : Prop := mOk M' ∧ FI (Sta2 t A) M M' ∧ Tap M' t A K m ∧ ∀ i, i ≠ 1 → mI M' t i = mI M t i
theorem pf_put {v : Int} (h1 : mOk M) (h : Tap M t A K n) (hn : n + 1 ≤ K ∧ n + 1 ≤ 16384) (hv : 0 ≤ v ∧ v < 65536) (e1 : M1 = mUI M t 1 (((n : Nat) : Int) + 1)) (e2 : M2 = mUI M1 A n v) : pfQ t A K M (n + 1) M2 := by
  obtain ⟨⟨k1, k2, k3⟩, ⟨a1, a2⟩, ⟨n1, n2, n3⟩, ⟨b1, b2, b3, b4⟩, ch⟩ := h
  have f1 : FI (Sta2 t A) M M1 := by rw [e1]; exact FI.ui (Or.inl rfl)
  have f2 : FI (Sta2 t A) M1 M2 := by rw [e2]; exact FI.ui (Or.inr rfl)
  have ff := f1.trans f2
  have o2 : mOk M2 := by rw [e2]; exact mOk_UI (by rw [e1]; exact mOk_UI h1 ⟨by omega, by omega⟩) ⟨by omega, by omega⟩
  have ti : ∀ i, mI M2 t i = if i = 1 then ((n : Nat) : Int) + 1 else mI M t i := fun i => by
    rw [mI_ui t i e2, if_neg (fun u => n1 u.1), mI_ui t i e1]
    by_cases c : i = 1
    · rw [if_pos ⟨rfl, c⟩, if_pos c]
    · rw [if_neg (fun u => c u.2), if_neg c]
  refine ⟨o2, ff, ⟨⟨by rw [ff.1]; exact k1, by rw [ff.2.2.1]; exact k2, by rw [ti, if_pos rfl]; omega⟩, ⟨by rw [ff.1]; exact a1, by rw [ff.2.1]; exact a2⟩, by rw [ff.2.2.2.2.1]; exact ⟨n1, n2, n3⟩, by omega, fun j hj => ?_⟩, fun i hi => by rw [ti, if_neg hi]⟩
  rw [mI_ui A j e2]
  by_cases c : j = n
  · rw [if_pos ⟨rfl, c⟩]; exact hv
  · rw [if_neg (fun u => c u.2), mI_ui A j e1, if_neg (fun u => n1 u.1.symm)]
    exact ch j (by omega)
theorem pfQ.trans {m m' : Nat} (h : pfQ t A K M m M1) (k : pfQ t A K M1 m' M2) : pfQ t A K M m' M2 := ⟨k.1, h.2.1.trans k.2.1, k.2.2.1, fun i hi => by rw [k.2.2.2 i hi]; exact h.2.2.2 i hi⟩
theorem s_CA_putFour {l : Int} (il : i32 l) (h1 : mOk M) (h : Tap M t A K n) (hn : n + 4 ≤ K ∧ n + 4 ≤ 16384) : Cv G y_CA_putFour d [vr t, vi l] M (pfQ t A K M (n + 4)) := by
  refine k_CA_putFour h1 il ?_
  suffices HH : ∀ (k : Nat) (M1 : mM), k ≤ 4 → mOk M1 → Tap M1 t A K (n + (4 - k)) → (∀ M2, pfQ t A K M1 (n + 4) M2 → pfQ t A K M (n + 4) M2) → h_CA_putFour_3 G d t l (8 * (k : Int) + (-8)) M1 (pfQ t A K M (n + 4)) from HH 4 M (by omega) h1 h (fun M2 q => q)
  intro k
  induction k with
  | zero =>
    intro M1 hk o1 hT hQ
    refine k_CA_putFour_3 o1 il (i32s (by omega) (by omega)) ⟨fun _ => hQ M1 ⟨o1, FI.refl, hT, fun _ _ => rfl⟩, fun u => absurd (by omega) u⟩
  | succ k ih =>
    intro M1 hk o1 hT hQ
    obtain ⟨⟨k1, k2, k3⟩, ⟨a1, a2⟩, -⟩ := id hT
    refine k_CA_putFour_3 o1 il (i32s (by omega) (by omega)) ⟨fun u => absurd u (by omega), fun _ => ?_⟩
    rw [k2, k3]
    refine ⟨k1, i32s (by omega) (by omega), fun M5 e5 => ?_⟩
    have f5 : FI (Sta2 t A) M1 M5 := by rw [e5]; exact FI.ui (Or.inl rfl)
    rw [f5.1, f5.2.1, a2, Int.toNat_natCast]
    refine ⟨a1, ⟨by omega, by omega⟩, i2c_a _, fun M10 e10 => ?_⟩
    have q := pf_put o1 hT ⟨by omega, by omega⟩ (i2c_a _) e5 e10
    rw [show 8 * ((k + 1 : Nat) : Int) + (-8) + (-8) = 8 * (k : Int) + (-8) by omega]
    refine ih M10 (by omega) q.1 ?_ (fun M2 q2 => hQ M2 (q.trans q2))
    rw [show n + (4 - k) = n + (4 - (k + 1)) + 1 by omega]
    exact q.2.2.1
/-- twenty characters -/
theorem s_pf5 {l1 l2 l3 l4 l5 : Int} {Q : Int → mM → Prop} (i1 : i32 l1) (i2 : i32 l2) (i3 : i32 l3) (i4 : i32 l4) (i5 : i32 l5) (h1 : mOk M) (h : Tap M t A K n) (hn : n + 20 ≤ K ∧ n + 20 ≤ 16384) (hQ : ∀ M', pfQ t A K M (n + 20) M' → Q (((n + 20 : Nat) : Int)) M') : Cv G y_CA_putFour d [vr t, vi l1] M (fun M16 => mOk M16 ∧ (mK M16 t = 1 ∧ Cv G y_CA_putFour d [vr t, vi l2] M16 (fun M20 => mOk M20 ∧ (mK M20 t = 1 ∧ Cv G y_CA_putFour d [vr t, vi l3] M20 (fun M24 => mOk M24 ∧ (mK M24 t = 1 ∧ Cv G y_CA_putFour d [vr t, vi l4] M24 (fun M28 => mOk M28 ∧ (mK M28 t = 1 ∧ Cv G y_CA_putFour d [vr t, vi l5] M28 (fun M32 => mOk M32 ∧ (mK M32 t = 1 ∧ Q (mI M32 t 1) M32)))))))))) := by
  refine (s_CA_putFour i1 h1 h (by omega)).mono (fun M16 q1 => ⟨q1.1, q1.2.2.1.1.1, ?_⟩)
  refine (s_CA_putFour i2 q1.1 q1.2.2.1 (by omega)).mono (fun M20 q2 => ⟨q2.1, q2.2.2.1.1.1, ?_⟩)
  refine (s_CA_putFour i3 q2.1 q2.2.2.1 (by omega)).mono (fun M24 q3 => ⟨q3.1, q3.2.2.1.1.1, ?_⟩)
  refine (s_CA_putFour i4 q3.1 q3.2.2.1 (by omega)).mono (fun M28 q4 => ⟨q4.1, q4.2.2.1.1.1, ?_⟩)
  refine (s_CA_putFour i5 q4.1 q4.2.2.1 (by omega)).mono (fun M32 q5 => ⟨q5.1, q5.2.2.1.1.1, ?_⟩)
  have qq := (((q1.trans q2).trans q3).trans q4).trans q5
  rw [q5.2.2.1.1.2.2]
  exact hQ M32 qq
end NCE
