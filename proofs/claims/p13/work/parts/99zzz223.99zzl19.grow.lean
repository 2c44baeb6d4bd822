/-! The class's top: the tape grows; feed. -/
section NCF
variable {G : mG} {d t A K n : Nat} {M M' M1 M2 M3 M4 : mM} {c9 c8 : Nat → Int}
theorem FA.cpy {S R : Nat → Prop} {a0 a sp dp m : Nat} (ha : S a) (e : M' = mCpy M a0 a sp dp m) : FA S R M M' := by
  rw [e]
  refine ⟨⟨Nat.le_refl _, Nat.le_refl _⟩, fun x _ => ⟨rfl, rfl, rfl, fun _ => rfl, fun u => ?_⟩⟩
  funext j
  show (if x = a ∧ dp ≤ j ∧ j < dp + m then mI M a0 (sp + (j - dp)) else mI M x j) = mI M x j
  exact if_neg (fun (w : x = a ∧ dp ≤ j ∧ j < dp + m) => u (by rw [w.1]; exact ha))
theorem mI_cpy {a0 a sp dp m : Nat} (b j : Nat) (e : M' = mCpy M a0 a sp dp m) : mI M' b j = if b = a ∧ dp ≤ j ∧ j < dp + m then mI M a0 (sp + (j - dp)) else mI M b j := by
  rw [e]
  rfl
/-- a tape of twice the places: the array x holds the same characters -/
def gtQ (c9 : Nat → Int) (t A K n : Nat) (M : mM) (x : Nat) (M' : mM) : Prop := mOk M' ∧ x = mZ M ∧ (mZ M' = mZ M + 1 ∧ mS M' = mS M + 2 * K) ∧ FA (fun _ => False) (fun _ => False) M M' ∧ (mK M' x = 32 ∧ mN M' x = 2 * K) ∧ ∀ j, j < n → (0 ≤ mI M' x j ∧ mI M' x j < 65536) ∧ mI M' x j = c9 j
theorem s_CA_growTape (h1 : mOk M) (h : Tap c9 M t A K n) : Cr G y_CA_growTape (d + 1) [vr t] M (gtQ c9 t A K n M) := by
  obtain ⟨⟨k1, k2, k3⟩, ⟨a1, a2⟩, ⟨n1, n2, n3⟩, ⟨b1, b2, b3, b4⟩, ch⟩ := h
  refine k_CA_growTape h1 ?_
  rw [k2, a2]
  have ek : Int.toNat (2 * (K : Int)) = 2 * K := by omega
  rw [ek]
  refine ⟨k1, a1, ⟨by omega, by omega⟩, fun M4 e4 => ?_⟩
  have f4 : FA (fun _ => False) (fun _ => False) M M4 := FA.new e4
  have o4 : mOk M4 := by rw [e4]; exact mOk_New h1
  have ct := f4.2 t n2
  have ca := f4.2 A n3
  have z4 : mZ M4 = mZ M + 1 ∧ mS M4 = mS M + 2 * K := by rw [e4]; exact ⟨rfl, rfl⟩
  have kn : mK M4 (mZ M) = 32 ∧ mN M4 (mZ M) = 2 * K := by
    rw [e4]
    exact ⟨if_pos rfl, if_pos rfl⟩
  rw [ct.1, ct.2.2.2.1 id, k2, ca.1, ca.2.1, ct.2.2.2.2 id, k3, a2, kn.2, Int.toNat_natCast]
  have ch4 : ∀ j, j < n → (0 ≤ mI M4 A j ∧ mI M4 A j < 65536) ∧ mI M4 A j = c9 j := fun j hj => by rw [ca.2.2.2.2 id]; exact ch j hj
  refine ⟨k1, a1, ⟨by omega, by omega, by omega, by omega, by omega⟩, fun i hi => by rw [Nat.zero_add]; exact (ch4 i (by omega)).1, fun M10 e10 => ?_⟩
  have f10 : FA (fun x => x = mZ M) (fun _ => False) M4 M10 := FA.cpy rfl e10
  have z10 : mZ M10 = mZ M4 ∧ mS M10 = mS M4 := by rw [e10]; exact ⟨rfl, rfl⟩
  have c10 := f10.2 (mZ M) (by omega)
  refine ⟨by rw [e10]; exact mOk_Cpy o4, rfl, by rw [z10.1, z10.2]; exact z4, f4.trans2 f10 (fun x hx u => ?_) (fun _ _ u => u), ⟨by rw [c10.1]; exact kn.1, by rw [c10.2.1]; exact kn.2⟩, fun j hj => ?_⟩
  · have u' : x = mZ M := u
    omega
  · rw [mI_cpy (mZ M) j e10, if_pos ⟨rfl, by omega, by omega⟩, Nat.zero_add, Nat.sub_zero]
    exact ch4 j hj
/-- what feed comes to -/
def feQ (c9 c8 : Nat → Int) (t A K n : Nat) (M : mM) (r : Int) (M' : mM) : Prop := (r = -1 ∧ 16384 < n + 20 ∧ M' = M) ∨ (r = ((n + 20 : Nat) : Int) ∧ n + 20 ≤ 16384 ∧ ∃ A' K', mOk M' ∧ Tap c8 M' t A' K' (n + 20) ∧ FA (Sta2 t A) (fun x => x = t) M M' ∧ (∀ i, i ≠ 1 → mI M' t i = mI M t i) ∧ (∀ i, i ≠ 0 → mR M' t i = mR M t i) ∧ ((A' = A ∧ K' = K ∧ mZ M' = mZ M ∧ mS M' = mS M) ∨ (A' = mZ M ∧ K' = 2 * K ∧ mZ M' = mZ M + 1 ∧ mS M' = mS M + 2 * K)))
theorem s_CA_feed {l1 l2 l3 l4 l5 : Int} (i1 : i32 l1) (i2 : i32 l2) (i3 : i32 l3) (i4 : i32 l4) (i5 : i32 l5) (h1 : mOk M) (h : Tap c9 M t A K n) : Ci G y_CA_feed (d + 2) [vr t, vi l1, vi l2, vi l3, vi l4, vi l5] M (feQ c9 (fdc c9 n l1 l2 l3 l4 l5) t A K n M) := by
  obtain ⟨⟨k1, k2, k3⟩, ⟨a1, a2⟩, ⟨n1, n2, n3⟩, ⟨b1, b2, b3, b4⟩, ch⟩ := id h
  refine k_CA_feed h1 i1 i2 i3 i4 i5 ?_
  rw [k3, k2, a2]
  refine ⟨k1, i32s (by omega) (by omega), fun c1 => ⟨a1, i32s (by omega) (by omega), fun c2 => ?_, fun c2 => ?_⟩, fun c1 => Or.inl ⟨rfl, by omega, rfl⟩⟩
  · refine s_pf5 i1 i2 i3 i4 i5 h1 h ⟨by omega, by omega⟩ (fun M' q => Or.inr ⟨rfl, by omega, A, K, q.1, q.2.2.1, q.2.1.fa, q.2.2.2, fun i _ => by rw [q.2.1.2.2.1], Or.inl ⟨rfl, rfl, q.2.1.2.2.2.2.1, q.2.1.2.2.2.2.2.1⟩⟩)
  · refine (s_CA_growTape (d := d) h1 h).mono (fun x M36 q => ?_)
    obtain ⟨o36, ex, ⟨z36, s36⟩, f36, ⟨kx, nx⟩, cx⟩ := q
    have ct := f36.2 t n2
    refine ⟨o36, by rw [ct.1]; exact k1, fun M40 e40 => ?_⟩
    have f40 : FA (fun _ => False) (fun x => x = t) M36 M40 := FA.ur rfl e40
    have o40 : mOk M40 := by rw [e40]; exact mOk_UR o36
    have z40 : mZ M40 = mZ M36 ∧ mS M40 = mS M36 := by rw [e40]; exact ⟨rfl, rfl⟩
    have ct2 := f40.2 t (by omega)
    have cx2 := f40.2 x (by omega)
    have r40 : ∀ i, mR M40 t i = if i = 0 then x else mR M36 t i := fun i => by
      rw [e40]
      show (if t = t ∧ i = 0 then x else mR M36 t i) = _
      by_cases c : i = 0
      · rw [if_pos ⟨rfl, c⟩, if_pos c]
      · rw [if_neg (fun u => c u.2), if_neg c]
    have i40 : mI M40 t = mI M t := by rw [ct2.2.2.2.2 id, ct.2.2.2.2 id]
    have T40 : Tap c9 M40 t x (2 * K) n := by
      refine ⟨⟨by rw [ct2.1, ct.1]; exact k1, by rw [r40, if_pos rfl], by rw [i40]; exact k3⟩, ⟨by rw [cx2.1]; exact kx, by rw [cx2.2.1]; exact nx⟩, ⟨by omega, by omega, by omega⟩, by omega, fun j hj => ?_⟩
      rw [cx2.2.2.2.2 id]
      exact cx j hj
    refine s_pf5 i1 i2 i3 i4 i5 o40 T40 ⟨by omega, by omega⟩ (fun M' q => Or.inr ⟨rfl, by omega, x, 2 * K, q.1, q.2.2.1, ?_, fun i hi => by rw [q.2.2.2 i hi, i40], fun i hi => by rw [q.2.1.2.2.1, r40, if_neg hi, ct.2.2.2.1 id], Or.inr ⟨ex, rfl, by rw [q.2.1.2.2.2.2.1]; omega, by rw [q.2.1.2.2.2.2.2.1]; omega⟩⟩)
    have g1 : FA (Sta2 t A) (fun x => x = t) M M40 := (f36.mono (fun _ _ u => u.elim) (fun _ _ u => u.elim)).trans2 f40 (fun _ _ u => u.elim) (fun _ _ u => u)
    refine g1.trans2 (q.2.1.fa (R := fun _ => False)) (fun y hy u => ?_) (fun _ _ u => u.elim)
    rcases u with u | u
    · exact Or.inl u
    · omega
end NCF
