/-! The class's top: the tape is fed. -/
section NCE
variable {G : mG} {d t A K n : Nat} {M M' M1 M2 M3 M4 : mM} {c9 c8 : Nat → Int}
theorem i2c_a (x : Int) : 0 ≤ i2cI x ∧ i2cI x < 65536 := by
  unfold i2cI
  generalize (Int32.ofInt x).toUInt32 = u
  have h : (u % 65536).toNat < 65536 := by rw [UInt32.toNat_mod]; exact Nat.mod_lt _ (by decide)
  have e : (u % 65536).toInt32.toInt = ((u % 65536).toNat : Int) := BitVec.toInt_eq_toNat_of_lt (by show 2 * (u % 65536).toNat < 2 ^ 32; omega)
  rw [e]
  omega
theorem i2c_id {x : Int} (h : 0 ≤ x ∧ x < 65536) : i2cI x = x := by
  unfold i2cI
  have hu : (Int32.ofInt x).toUInt32.toNat = x.toNat := by
    show (BitVec.ofInt 32 x).toNat = x.toNat
    rw [BitVec.toNat_ofInt]
    show (x % 4294967296).toNat = x.toNat
    omega
  generalize (Int32.ofInt x).toUInt32 = u at hu ⊢
  have e9 : (u % 65536).toNat = u.toNat % 65536 := by
    rw [UInt32.toNat_mod]
    rfl
  have e : (u % 65536).toInt32.toInt = ((u % 65536).toNat : Int) := BitVec.toInt_eq_toNat_of_lt (by show 2 * (u % 65536).toNat < 2 ^ 32; omega)
  rw [e, e9, hu]
  omega
theorem u_shr {x : Int} (h : i32 x) (k : Nat) (hk : k = 8 ∨ k = 16 ∨ k = 24) : ushrI x k = x % 4294967296 / 2 ^ k := by
  have hk1 : k < 32 := by omega
  have e : ∀ k, k < 32 → ((Int32.ofInt ((k : Nat) : Int)).toUInt32 &&& Int32.toUInt32 31).toBitVec = BitVec.ofNat 32 k := by decide
  unfold ushrI
  show (BitVec.ofInt 32 x >>> (((Int32.ofInt ((k : Nat) : Int)).toUInt32 &&& Int32.toUInt32 31).toBitVec % 32#32)).toInt = _
  rw [e k hk1]
  have e2 : ∀ k, k < 32 → (BitVec.ofNat 32 k % 32#32).toNat = k := by decide
  have h1 : (BitVec.ofInt 32 x).toNat = (x % 4294967296).toNat := by
    rw [BitVec.toNat_ofInt]
    rfl
  have h2 : (BitVec.ofInt 32 x >>> (BitVec.ofNat 32 k % 32#32)).toNat = (x % 4294967296).toNat / 2 ^ k := by
    rw [BitVec.ushiftRight_eq', e2 k hk1, BitVec.toNat_ushiftRight, h1, Nat.shiftRight_eq_div_pow]
  rw [BitVec.toInt_eq_toNat_cond, h2]
  generalize hy : x % 4294967296 = y
  have y0 : 0 ≤ y ∧ y < 4294967296 := by omega
  obtain ⟨m, hm⟩ : ∃ m : Nat, y = m := ⟨y.toNat, by omega⟩
  subst hm
  rw [Int.toNat_natCast]
  rcases hk with z | z | z <;> subst z
  · rw [if_pos (by show 2 * (m / 256) < 4294967296; omega)]
    rfl
  · rw [if_pos (by show 2 * (m / 65536) < 4294967296; omega)]
    rfl
  · rw [if_pos (by show 2 * (m / 16777216) < 4294967296; omega)]
    rfl
theorem u_sh0 {x : Int} (h : i32 x) : ushrI x 0 = x := by
  unfold ushrI
  show (BitVec.ofInt 32 x >>> (((Int32.ofInt (0 : Int)).toUInt32 &&& Int32.toUInt32 31).toBitVec % 32#32)).toInt = _
  have e : (((Int32.ofInt (0 : Int)).toUInt32 &&& Int32.toUInt32 31).toBitVec % 32#32) = 0#32 := by decide
  rw [e]
  have e2 : BitVec.ofInt 32 x >>> 0#32 = BitVec.ofInt 32 x := by
    rw [BitVec.ushiftRight_eq']
    exact BitVec.ushiftRight_zero _
  rw [e2]
  exact i32_toInt h
/-- a byte of an int, as the class takes it -/
theorem byt_u {x : Int} (h : i32 x) (k : Nat) (hk : k ≤ 3) : i2cI (andI (ushrI x (8 * (k : Int))) 255) = byt x (3 - k) := by
  unfold byt
  rw [i_and 8 (by decide) 255 (by decide) ⟨by decide, by decide⟩]
  have hs : shrI x (24 - 8 * ((3 - k : Nat) : Int)) = x / 2 ^ (8 * k) := by
    rw [show (24 - 8 * ((3 - k : Nat) : Int)) = ((8 * k : Nat) : Int) by omega]
    exact i_shr (8 * k) (by omega) h
  rw [hs, i2c_id (by
    have e : (2 : Int) ^ 8 = 256 := by decide
    rw [e]
    omega)]
  have k4 : k = 0 ∨ k = 1 ∨ k = 2 ∨ k = 3 := by omega
  rcases k4 with z | z | z | z <;> subst z
  · show ushrI x 0 % 2 ^ 8 = x / 2 ^ 0 % 256
    rw [u_sh0 h]
    show x % 256 = x / 1 % 256
    omega
  · show ushrI x ((8 : Nat) : Int) % 2 ^ 8 = x / 2 ^ 8 % 256
    rw [u_shr h 8 (by omega)]
    show x % 4294967296 / 256 % 256 = x / 256 % 256
    omega
  · show ushrI x ((16 : Nat) : Int) % 2 ^ 8 = x / 2 ^ 16 % 256
    rw [u_shr h 16 (by omega)]
    show x % 4294967296 / 65536 % 256 = x / 65536 % 256
    omega
  · show ushrI x ((24 : Nat) : Int) % 2 ^ 8 = x / 2 ^ 24 % 256
    rw [u_shr h 24 (by omega)]
    show x % 4294967296 / 16777216 % 256 = x / 16777216 % 256
    omega
/-- the tape: n characters c9 in an array A of K places -/
def Tap (c9 : Nat → Int) (M : mM) (t A K n : Nat) : Prop := (mK M t = 1 ∧ mR M t 0 = A ∧ mI M t 1 = ((n : Nat) : Int)) ∧ (mK M A = 32 ∧ mN M A = K) ∧ (t ≠ A ∧ t < mZ M ∧ A < mZ M) ∧ (n ≤ K ∧ n ≤ 16384 ∧ 20 ≤ K ∧ K ≤ 32768) ∧ ∀ j, j < n → (0 ≤ mI M A j ∧ mI M A j < 65536) ∧ mI M A j = c9 j
theorem Tap.ch (h : Tap c9 M t A K n) (e : ∀ j, j < n → c9 j = c8 j) : Tap c8 M t A K n := ⟨h.1, h.2.1, h.2.2.1, h.2.2.2.1, fun j hj => ⟨(h.2.2.2.2 j hj).1, by rw [(h.2.2.2.2 j hj).2, e j hj]⟩⟩
def up9 (c : Nat → Int) (n : Nat) (v : Int) : Nat → Int := fun j => if j = n then v else c j
def Sta2 (t A x : Nat) : Prop := x = t ∨ x = A
/-- characters were put, m there are now -/
def pfQ (c9 : Nat → Int) (t A K : Nat) (M : mM) (m : Nat) (M' : mM) : Prop := mOk M' ∧ FI (Sta2 t A) M M' ∧ Tap c9 M' t A K m ∧ ∀ i, i ≠ 1 → mI M' t i = mI M t i
theorem pf_put {v : Int} (h1 : mOk M) (h : Tap c9 M t A K n) (hn : n + 1 ≤ K ∧ n + 1 ≤ 16384) (hv : 0 ≤ v ∧ v < 65536) (e1 : M1 = mUI M t 1 (((n : Nat) : Int) + 1)) (e2 : M2 = mUI M1 A n v) : pfQ (up9 c9 n v) t A K M (n + 1) M2 := by
  obtain ⟨⟨k1, k2, k3⟩, ⟨a1, a2⟩, ⟨n1, n2, n3⟩, ⟨b1, b2, b3, b4⟩, ch⟩ := h
  have f1 : FI (Sta2 t A) M M1 := by rw [e1]; exact FI.ui (Or.inl rfl)
  have f2 : FI (Sta2 t A) M1 M2 := by rw [e2]; exact FI.ui (Or.inr rfl)
  have ff := f1.trans f2
  have o2 : mOk M2 := by rw [e2]; exact mOk_UI (by rw [e1]; exact mOk_UI h1 ⟨by omega, by omega⟩) ⟨by omega, by omega⟩
  have ti : ∀ i, mI M2 t i = if i = 1 then ((n : Nat) : Int) + 1 else mI M t i := fun i => by
    rw [mI_ui t i e2, if_neg (fun u => n1 u.1), mI_ui t i e1]
    by_cases c : i = 1
    · rw [if_pos ⟨rfl, c⟩, if_pos c]
    · rw [if_neg (fun u => c u.2), if_neg c]
  refine ⟨o2, ff, ⟨⟨by rw [ff.1]; exact k1, by rw [ff.2.2.1]; exact k2, by rw [ti, if_pos rfl]; omega⟩, ⟨by rw [ff.1]; exact a1, by rw [ff.2.1]; exact a2⟩, by rw [ff.2.2.2.2.1]; exact ⟨n1, n2, n3⟩, by omega, fun j hj => ?_⟩, fun i hi => by rw [ti, if_neg hi]⟩
  rw [mI_ui A j e2]
  by_cases c : j = n
  · rw [if_pos ⟨rfl, c⟩]; exact ⟨hv, (if_pos c : up9 c9 n v j = v).symm⟩
  · rw [if_neg (fun u => c u.2), mI_ui A j e1, if_neg (fun u => n1 u.1.symm)]
    exact ⟨(ch j (by omega)).1, by rw [(ch j (by omega)).2]; exact (if_neg c : up9 c9 n v j = c9 j).symm⟩
theorem pfQ.trans {m m' : Nat} (h : pfQ c9 t A K M m M1) (k : pfQ c8 t A K M1 m' M2) : pfQ c8 t A K M m' M2 := ⟨k.1, h.2.1.trans k.2.1, k.2.2.1, fun i hi => by rw [k.2.2.2 i hi]; exact h.2.2.2 i hi⟩
theorem s_CA_putFour {l : Int} (il : i32 l) (h1 : mOk M) (h : Tap c9 M t A K n) (hn : n + 4 ≤ K ∧ n + 4 ≤ 16384) : Cv G y_CA_putFour d [vr t, vi l] M (pfQ (f4 c9 n l) t A K M (n + 4)) := by
  refine k_CA_putFour h1 il ?_
  have h := h.ch (c8 := f4 c9 n l) (fun j hj => (if_pos hj : f4 c9 n l j = c9 j).symm)
  have F9 : ∀ k, k ≤ 3 → f4 c9 n l (n + (4 - (k + 1))) = i2cI (andI (ushrI l (8 * (k : Int))) 255) := fun k hk => by
    rw [byt_u il k hk]
    show (if n + (4 - (k + 1)) < n then _ else _) = _
    rw [if_neg (by omega), show n + (4 - (k + 1)) - n = 3 - k by omega]
  generalize f4 c9 n l = c8 at h F9 ⊢
  suffices HH : ∀ (k : Nat) (M1 : mM), k ≤ 4 → mOk M1 → Tap c8 M1 t A K (n + (4 - k)) → (∀ M2, pfQ c8 t A K M1 (n + 4) M2 → pfQ c8 t A K M (n + 4) M2) → h_CA_putFour_3 G d t l (8 * (k : Int) + (-8)) M1 (pfQ c8 t A K M (n + 4)) from HH 4 M (by omega) h1 h (fun M2 q => q)
  intro k
  induction k with
  | zero =>
    intro M1 hk o1 hT hQ
    refine k_CA_putFour_3 o1 il (i32s (by omega) (by omega)) ⟨fun _ => hQ M1 ⟨o1, FI.refl, hT, fun _ _ => rfl⟩, fun u => absurd (by omega) u⟩
  | succ k ih =>
    intro M1 hk o1 hT hQ
    obtain ⟨⟨k1, k2, k3⟩, ⟨a1, a2⟩, -⟩ := id hT
    refine k_CA_putFour_3 o1 il (i32s (by omega) (by omega)) ⟨fun u => absurd u (by omega), fun _ => ?_⟩
    rw [k2, k3]
    refine ⟨k1, i32s (by omega) (by omega), fun M5 e5 => ?_⟩
    have f5 : FI (Sta2 t A) M1 M5 := by rw [e5]; exact FI.ui (Or.inl rfl)
    rw [f5.1, f5.2.1, a2, Int.toNat_natCast]
    refine ⟨a1, ⟨by omega, by omega⟩, i2c_a _, fun M10 e10 => ?_⟩
    have q := pf_put o1 hT ⟨by omega, by omega⟩ (i2c_a _) e5 e10
    have ec : up9 c8 (n + (4 - (k + 1))) (i2cI (andI (ushrI l (8 * ((k + 1 : Nat) : Int) + (-8))) 255)) = c8 := by
      funext j
      unfold up9
      by_cases c : j = n + (4 - (k + 1))
      · rw [if_pos c, c, F9 k (by omega), show 8 * ((k + 1 : Nat) : Int) + (-8) = 8 * (k : Int) by omega]
      · rw [if_neg c]
    rw [ec] at q
    rw [show 8 * ((k + 1 : Nat) : Int) + (-8) + (-8) = 8 * (k : Int) + (-8) by omega]
    refine ih M10 (by omega) q.1 ?_ (fun M2 q2 => hQ M2 (q.trans q2))
    rw [show n + (4 - k) = n + (4 - (k + 1)) + 1 by omega]
    exact q.2.2.1
/-- twenty characters -/
theorem s_pf5 {l1 l2 l3 l4 l5 : Int} {Q : Int → mM → Prop} (i1 : i32 l1) (i2 : i32 l2) (i3 : i32 l3) (i4 : i32 l4) (i5 : i32 l5) (h1 : mOk M) (h : Tap c9 M t A K n) (hn : n + 20 ≤ K ∧ n + 20 ≤ 16384) (hQ : ∀ M', pfQ (fdc c9 n l1 l2 l3 l4 l5) t A K M (n + 20) M' → Q (((n + 20 : Nat) : Int)) M') : Cv G y_CA_putFour d [vr t, vi l1] M (fun M16 => mOk M16 ∧ (mK M16 t = 1 ∧ Cv G y_CA_putFour d [vr t, vi l2] M16 (fun M20 => mOk M20 ∧ (mK M20 t = 1 ∧ Cv G y_CA_putFour d [vr t, vi l3] M20 (fun M24 => mOk M24 ∧ (mK M24 t = 1 ∧ Cv G y_CA_putFour d [vr t, vi l4] M24 (fun M28 => mOk M28 ∧ (mK M28 t = 1 ∧ Cv G y_CA_putFour d [vr t, vi l5] M28 (fun M32 => mOk M32 ∧ (mK M32 t = 1 ∧ Q (mI M32 t 1) M32)))))))))) := by
  refine (s_CA_putFour i1 h1 h (by omega)).mono (fun M16 q1 => ⟨q1.1, q1.2.2.1.1.1, ?_⟩)
  refine (s_CA_putFour i2 q1.1 q1.2.2.1 (by omega)).mono (fun M20 q2 => ⟨q2.1, q2.2.2.1.1.1, ?_⟩)
  refine (s_CA_putFour i3 q2.1 q2.2.2.1 (by omega)).mono (fun M24 q3 => ⟨q3.1, q3.2.2.1.1.1, ?_⟩)
  refine (s_CA_putFour i4 q3.1 q3.2.2.1 (by omega)).mono (fun M28 q4 => ⟨q4.1, q4.2.2.1.1.1, ?_⟩)
  refine (s_CA_putFour i5 q4.1 q4.2.2.1 (by omega)).mono (fun M32 q5 => ⟨q5.1, q5.2.2.1.1.1, ?_⟩)
  have qq := (((q1.trans q2).trans q3).trans q4).trans q5
  rw [q5.2.2.1.1.2.2]
  exact hQ M32 qq
end NCE
