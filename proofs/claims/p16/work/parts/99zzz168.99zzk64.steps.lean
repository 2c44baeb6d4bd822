section
/-! The class's natural numbers: sums and multiples. -/
section NAC
variable {G : mG} {d a b Y Cy s n X Cx w : Nat} {M M' M1 M2 M3 : mM} {v : Int}
theorem i_ush {x : Int} (k : Nat) (hk : k < 32) (h0 : 0 ≤ x) (h : i32 x) : ushrI x k = x / 2 ^ k := by
  have e : ∀ k, k < 32 → ((Int32.ofInt ((k : Nat) : Int)).toUInt32 &&& Int32.toUInt32 31).toBitVec = BitVec.ofNat 32 k := by decide
  unfold ushrI
  show (BitVec.ofInt 32 x >>> (((Int32.ofInt ((k : Nat) : Int)).toUInt32 &&& Int32.toUInt32 31).toBitVec % 32#32)).toInt = _
  rw [e k hk]
  have e2 : ∀ k, k < 32 → (BitVec.ofNat 32 k % 32#32).toNat = k := by decide
  have h1 : (BitVec.ofInt 32 x).toNat = x.toNat := by
    rw [BitVec.toNat_ofInt]
    show (x % 4294967296).toNat = _
    rw [Int.emod_eq_of_lt h0 (by unfold i32 at h; omega)]
  have h2 : (BitVec.ofInt 32 x >>> (BitVec.ofNat 32 k % 32#32)).toNat = x.toNat / 2 ^ k := by
    rw [BitVec.ushiftRight_eq', e2 k hk, BitVec.toNat_ushiftRight, h1, Nat.shiftRight_eq_div_pow]
  rw [BitVec.toInt_eq_toNat_cond, h2]
  have h3 : ((x.toNat : Nat) : Int) = x := Int.toNat_of_nonneg h0
  have h4 : x.toNat / 2 ^ k ≤ x.toNat := Nat.div_le_self _ _
  have h5 : x.toNat < 2147483648 := by unfold i32 at h; omega
  rw [if_pos (by omega), Int.natCast_ediv, h3]
  norm_cast
theorem s_nlz {x : Int} (h0 : 0 < x) (h : i32 x) (hO : mOk M) : Ci G y_JI_nlz d [vi x] M (fun r M' => M' = M ∧ ∃ k : Nat, r = ((k : Nat) : Int) ∧ k ≤ 31 ∧ 2 ^ (31 - k) ≤ x ∧ x < 2 ^ (32 - k)) := by
  have us : ∀ (y : Int) (k : Nat), k < 32 → 0 ≤ y → i32 y → ushrI y (k : Int) = y / 2 ^ k := fun y k hk h0 h => i_ush k hk h0 h
  unfold i32 at h
  refine k_JI_nlz hO h ⟨fun _ v5 e5 v6 e6 v12 e12 v13 e13 v19 e19 v20 e20 v26 e26 v27 e27 => ⟨rfl, ?_⟩, fun y => absurd h0 y⟩
  have a1 : (x < 65536 ∧ v5 = x ∧ v6 = 31) ∨ (65536 ≤ x ∧ v5 = x / 65536 ∧ v6 = 15) := by
    by_cases c : x < 65536
    · rw [if_pos c] at e5 e6; exact Or.inl ⟨c, e5, e6⟩
    · rw [if_neg c] at e5 e6
      rw [show ushrI x 16 = x / 65536 from us x 16 (by decide) (by omega) h] at e5
      exact Or.inr ⟨by omega, e5, e6⟩
  have b5 : 0 < v5 ∧ v5 < 65536 := by omega
  have a2 : (v5 < 256 ∧ v12 = v5 ∧ v13 = v6) ∨ (256 ≤ v5 ∧ v12 = v5 / 256 ∧ v13 = v6 - 8) := by
    by_cases c : v5 < 256
    · rw [if_pos c] at e12 e13; exact Or.inl ⟨c, e12, e13⟩
    · rw [if_neg c] at e12 e13
      rw [show ushrI v5 8 = v5 / 256 from us v5 8 (by decide) (by omega) ⟨by omega, by omega⟩] at e12
      exact Or.inr ⟨by omega, e12, e13⟩
  have b12 : 0 < v12 ∧ v12 < 256 := by omega
  have a3 : (v12 < 16 ∧ v19 = v12 ∧ v20 = v13) ∨ (16 ≤ v12 ∧ v19 = v12 / 16 ∧ v20 = v13 - 4) := by
    by_cases c : v12 < 16
    · rw [if_pos c] at e19 e20; exact Or.inl ⟨c, e19, e20⟩
    · rw [if_neg c] at e19 e20
      rw [show ushrI v12 4 = v12 / 16 from us v12 4 (by decide) (by omega) ⟨by omega, by omega⟩] at e19
      exact Or.inr ⟨by omega, e19, e20⟩
  have b19 : 0 < v19 ∧ v19 < 16 := by omega
  have a4 : (v19 < 4 ∧ v26 = v19 ∧ v27 = v20) ∨ (4 ≤ v19 ∧ v26 = v19 / 4 ∧ v27 = v20 - 2) := by
    by_cases c : v19 < 4
    · rw [if_pos c] at e26 e27; exact Or.inl ⟨c, e26, e27⟩
    · rw [if_neg c] at e26 e27
      rw [show ushrI v19 2 = v19 / 4 from us v19 2 (by decide) (by omega) ⟨by omega, by omega⟩] at e26
      exact Or.inr ⟨by omega, e26, e27⟩
  have b26 : 0 < v26 ∧ v26 < 4 := by omega
  have e1 : ushrI v26 1 = v26 / 2 := us v26 1 (by decide) (by omega) ⟨by omega, by omega⟩
  rw [e1]
  clear e5 e6 e12 e13 e19 e20 e26 e27 us e1
  have fin : ∀ (k : Nat) (p q : Int), k ≤ 31 → v27 - v26 / 2 = (k : Int) → p = 2 ^ (31 - k) → q = 2 ^ (32 - k) → (p ≤ x ∧ x < q) → ∃ k : Nat, v27 - v26 / 2 = ((k : Nat) : Int) ∧ k ≤ 31 ∧ 2 ^ (31 - k) ≤ x ∧ x < 2 ^ (32 - k) := fun k p q hk e ep eq u => ⟨k, e, hk, by rw [← ep]; exact u.1, by rw [← eq]; exact u.2⟩
  rcases a1 with ⟨c1, q1, r1⟩ | ⟨c1, q1, r1⟩ <;> rcases a2 with ⟨c2, q2, r2⟩ | ⟨c2, q2, r2⟩ <;> rcases a3 with ⟨c3, q3, r3⟩ | ⟨c3, q3, r3⟩ <;> rcases a4 with ⟨c4, q4, r4⟩ | ⟨c4, q4, r4⟩ <;> rcases (show v26 = 1 ∨ 2 ≤ v26 by omega) with c5 | c5
  · exact fin 31 1 2 (by decide) (by omega) (by decide) (by decide) ⟨by omega, by omega⟩
  · exact fin 30 2 4 (by decide) (by omega) (by decide) (by decide) ⟨by omega, by omega⟩
  · exact fin 29 4 8 (by decide) (by omega) (by decide) (by decide) ⟨by omega, by omega⟩
  · exact fin 28 8 16 (by decide) (by omega) (by decide) (by decide) ⟨by omega, by omega⟩
  · exact fin 27 16 32 (by decide) (by omega) (by decide) (by decide) ⟨by omega, by omega⟩
  · exact fin 26 32 64 (by decide) (by omega) (by decide) (by decide) ⟨by omega, by omega⟩
  · exact fin 25 64 128 (by decide) (by omega) (by decide) (by decide) ⟨by omega, by omega⟩
  · exact fin 24 128 256 (by decide) (by omega) (by decide) (by decide) ⟨by omega, by omega⟩
  · exact fin 23 256 512 (by decide) (by omega) (by decide) (by decide) ⟨by omega, by omega⟩
  · exact fin 22 512 1024 (by decide) (by omega) (by decide) (by decide) ⟨by omega, by omega⟩
  · exact fin 21 1024 2048 (by decide) (by omega) (by decide) (by decide) ⟨by omega, by omega⟩
  · exact fin 20 2048 4096 (by decide) (by omega) (by decide) (by decide) ⟨by omega, by omega⟩
  · exact fin 19 4096 8192 (by decide) (by omega) (by decide) (by decide) ⟨by omega, by omega⟩
  · exact fin 18 8192 16384 (by decide) (by omega) (by decide) (by decide) ⟨by omega, by omega⟩
  · exact fin 17 16384 32768 (by decide) (by omega) (by decide) (by decide) ⟨by omega, by omega⟩
  · exact fin 16 32768 65536 (by decide) (by omega) (by decide) (by decide) ⟨by omega, by omega⟩
  · exact fin 15 65536 131072 (by decide) (by omega) (by decide) (by decide) ⟨by omega, by omega⟩
  · exact fin 14 131072 262144 (by decide) (by omega) (by decide) (by decide) ⟨by omega, by omega⟩
  · exact fin 13 262144 524288 (by decide) (by omega) (by decide) (by decide) ⟨by omega, by omega⟩
  · exact fin 12 524288 1048576 (by decide) (by omega) (by decide) (by decide) ⟨by omega, by omega⟩
  · exact fin 11 1048576 2097152 (by decide) (by omega) (by decide) (by decide) ⟨by omega, by omega⟩
  · exact fin 10 2097152 4194304 (by decide) (by omega) (by decide) (by decide) ⟨by omega, by omega⟩
  · exact fin 9 4194304 8388608 (by decide) (by omega) (by decide) (by decide) ⟨by omega, by omega⟩
  · exact fin 8 8388608 16777216 (by decide) (by omega) (by decide) (by decide) ⟨by omega, by omega⟩
  · exact fin 7 16777216 33554432 (by decide) (by omega) (by decide) (by decide) ⟨by omega, by omega⟩
  · exact fin 6 33554432 67108864 (by decide) (by omega) (by decide) (by decide) ⟨by omega, by omega⟩
  · exact fin 5 67108864 134217728 (by decide) (by omega) (by decide) (by decide) ⟨by omega, by omega⟩
  · exact fin 4 134217728 268435456 (by decide) (by omega) (by decide) (by decide) ⟨by omega, by omega⟩
  · exact fin 3 268435456 536870912 (by decide) (by omega) (by decide) (by decide) ⟨by omega, by omega⟩
  · exact fin 2 536870912 1073741824 (by decide) (by omega) (by decide) (by decide) ⟨by omega, by omega⟩
  · exact fin 1 1073741824 2147483648 (by decide) (by omega) (by decide) (by decide) ⟨by omega, by omega⟩
  · exact fin 0 2147483648 4294967296 (by decide) (by omega) (by decide) (by decide) ⟨by omega, by omega⟩
theorem s_JA_fillR {p q : Nat} (hO : mOk M) (hK : mK M a = 30) (hp : p ≤ q) (hq : q ≤ mN M a) (hN : mN M a ≤ 100000) (hv : i32 v) : Cv G y_JA_fillR (d + 2) [vr a, vi p, vi q, vi v] M (fun M' => mOk M' ∧ FI (fun x => x = a) M M' ∧ ∀ i, mI M' a i = if p ≤ i ∧ i < q then v else mI M a i) := by
  refine k_JA_fillR hO ⟨by omega, by omega⟩ ⟨by omega, by omega⟩ hv ⟨hK, ?_⟩
  refine k_JA_rangeCheck hO ⟨by omega, by omega⟩ ⟨by omega, by omega⟩ ⟨by omega, by omega⟩ ⟨fun _ => ⟨fun _ => ⟨fun _ => ⟨hO, ?_⟩, fun y => y (by omega)⟩, fun y => y (by omega)⟩, fun y => y (by omega)⟩
  suffices HH : ∀ (t i : Nat) (M1 : mM), q ≤ i + t → p ≤ i → i ≤ q → mOk M1 → FI (fun x => x = a) M M1 → (∀ j, mI M1 a j = if p ≤ j ∧ j < i then v else mI M a j) → h_JA_fillR_10 G (d + 1) a q v i M1 (fun M' => mOk M' ∧ FI (fun x => x = a) M M' ∧ ∀ i, mI M' a i = if p ≤ i ∧ i < q then v else mI M a i) from HH q p M (by omega) (by omega) hp hO FI.refl (fun j => by rw [if_neg (by omega)])
  intro t
  induction t with
  | zero =>
    intro i M1 h1 h2 h3 o f hj
    have e : i = q := by omega
    subst e
    exact k_JA_fillR_10 o ⟨by omega, by omega⟩ hv ⟨by omega, by omega⟩ ⟨fun _ => ⟨o, f, hj⟩, fun y => absurd y (by omega)⟩
  | succ t ih =>
    intro i M1 h1 h2 h3 o f hj
    refine k_JA_fillR_10 o ⟨by omega, by omega⟩ hv ⟨by omega, by omega⟩ ⟨fun y => ?_, fun y => ?_⟩
    · have e : i = q := by omega
      subst e
      exact ⟨o, f, hj⟩
    · rw [f.1, f.2.1, Int.toNat_natCast]
      refine ⟨hK, by omega, fun M8 e8 => ?_⟩
      rw [show ((i : Int) + 1) = ((i + 1 : Nat) : Int) by omega]
      refine ih (i + 1) M8 (by omega) (by omega) (by omega) (by rw [e8]; exact mOk_UI o hv) (f.trans (by rw [e8]; exact FI.ui rfl)) (fun j => ?_)
      rw [mI_ui a j e8, hj j]
      by_cases y1 : j = i
      · rw [if_pos ⟨rfl, y1⟩, if_pos (by omega)]
      · rw [if_neg (fun u => y1 u.2)]
        by_cases y2 : p ≤ j ∧ j < i
        · rw [if_pos y2, if_pos (by omega)]
        · rw [if_neg y2, if_neg (by omega)]
/-- a number becomes v; it wanted at most w limbs -/
def nst (M : mM) (a Y Cy w : Nat) (v : Int) (M' : mM) : Prop := mOk M' ∧ ∃ Y' Cy' s', Nt M' a Y' Cy' s' ∧ dn (mI M' Y') s' = v ∧ FA (fun x => x = a ∨ x = Y) (fun x => x = a) M M' ∧ ((Y' = Y ∧ Cy' = Cy ∧ mZ M' = mZ M ∧ mS M' = mS M) ∨ (Y' = mZ M ∧ Cy' ≤ 2 * w ∧ 2 * Cy ≤ Cy' ∧ mZ M' = mZ M + 1 ∧ mS M' = mS M + Cy'))
theorem nst_fi {s' : Nat} (h : Nt M' a Y Cy s') (o : mOk M') (f : FI (fun x => x = a ∨ x = Y) M M') (e : dn (mI M' Y) s' = v) : nst M a Y Cy w v M' :=
  ⟨o, Y, Cy, s', h, e, f.fa, Or.inl ⟨rfl, rfl, f.2.2.2.2.1, f.2.2.2.2.2.1⟩⟩
/-- what reserve left -/
def rsv (M : mM) (a Y Cy w Y' Cy' : Nat) (M' : mM) : Prop := (Y' = Y ∧ Cy' = Cy ∧ M' = M) ∨ (Y' = mZ M ∧ mZ M' = mZ M + 1 ∧ mS M' = mS M + Cy' ∧ 2 * Cy ≤ Cy' ∧ Cy' ≤ 2 * w)
theorem nst_rs {Y' Cy' s' : Nat} (F : FA (fun _ => False) (fun x => x = a) M M1) (g : rsv M a Y Cy w Y' Cy' M1) (f : FI (fun x => x = a ∨ x = Y') M1 M') (o : mOk M') (h : Nt M' a Y' Cy' s') (e : dn (mI M' Y') s' = v) : nst M a Y Cy w v M' := by
  refine ⟨o, Y', Cy', s', h, e, (F.mono (fun _ _ y => y.elim) (fun _ _ y => y)).trans2 (f.fa (R := fun _ => False)) ?_ (fun _ _ y => y.elim), ?_⟩
  · intro x hx u
    rcases u with u | u
    · exact Or.inl u
    · rcases g with ⟨g, -⟩ | ⟨g, -⟩
      · exact Or.inr (u.trans g)
      · omega
  · rcases g with ⟨g1, g2, g3⟩ | ⟨g1, g2, g3, g4, g5⟩
    · exact Or.inl ⟨g1, g2, by rw [f.2.2.2.2.1, g3], by rw [f.2.2.2.2.2.1, g3]⟩
    · exact Or.inr ⟨g1, g5, g4, by rw [f.2.2.2.2.1, g2], by rw [f.2.2.2.2.2.1, g3]⟩
theorem dn_ui {i : Nat} {x : Int} (hi : i < n) (e : M' = mUI M Y i x) : dn (mI M' Y) n = dn (mI M Y) n + (x - mI M Y i) * 2 ^ (30 * i) := by
  have h := dn_up (f := mI M Y) (g := mI M' Y) hi (fun j _ hj' => by rw [mI_ui Y j e, if_neg (fun u => hj' u.2)])
  rw [h, mI_ui Y i e, if_pos ⟨rfl, rfl⟩]
theorem lim_ui {i : Nat} {x : Int} (h : lim M Y n) (hx : 0 ≤ x ∧ x < 1073741824) (e : M' = mUI M Y i x) : lim M' Y n := fun j hj => by
  rw [mI_ui Y j e]
  by_cases c : Y = Y ∧ j = i
  · rw [if_pos c]; exact hx
  · rw [if_neg c]; exact h j hj
theorem m30 (x : Int) : 0 ≤ x % 1073741824 ∧ x % 1073741824 < 1073741824 := ⟨Int.emod_nonneg _ (by decide), Int.emod_lt_of_pos _ (by decide)⟩
theorem m30i (x : Int) : i32 (x % 1073741824) := ⟨by have := m30 x; omega, by have := m30 x; omega⟩
theorem l30i {x : Int} (h : 0 ≤ x ∧ x < 1073741824) : i32 x := ⟨by omega, by omega⟩
theorem s_Na_put0v {x : Int} (hx : 0 ≤ x ∧ x < 1073741824) (hO : mOk M) (h : Nl M a Y Cy) : Cv G y_Na_put0 d [vr a, vi x] M (nst M a Y Cy w x) := by
  refine (s_Na_put0 hx hO h).mono (fun M' q => ?_)
  obtain ⟨o, f, s, -, t, e⟩ := q
  exact nst_fi t o f e
theorem s_Na_putLong {x : Int} (hx : 0 ≤ x ∧ x < 1152921504606846976) (hO : mOk M) (h : Nl M a Y Cy) : Cv G y_Na_putLong (d + 1) [vr a, vl x] M (nst M a Y Cy w x) := by
  obtain ⟨k0, r0, kY, nY, ⟨c1, c2⟩, ne, z1, z2⟩ := id h
  refine k_Na_putLong hO ⟨by omega, by omega⟩ ?_
  rw [r0, nY, j_and, j_ushr hx.1 (by omega)]
  refine ⟨k0, kY, ⟨by omega, by omega⟩, m30i _, fun M5 e5 => ?_⟩
  have f5 : FI (fun y => y = Y) M M5 := by rw [e5]; exact FI.ui rfl
  rw [f5.1, f5.2.1, f5.2.2.1, r0, nY]
  refine ⟨kY, ⟨by omega, by omega⟩, ⟨by omega, by omega⟩, fun M10 e10 => ?_⟩
  have f10 : FI (fun y => y = Y) M5 M10 := by rw [e10]; exact FI.ui rfl
  have o10 : mOk M10 := by rw [e10]; exact mOk_UI (by rw [e5]; exact mOk_UI hO (m30i _)) ⟨by omega, by omega⟩
  have y0 : mI M10 Y 0 = x % 1073741824 := by rw [mI_ui Y 0 e10, if_neg (fun u => absurd u.2 (by decide)), mI_ui Y 0 e5, if_pos ⟨rfl, rfl⟩]
  have y1 : mI M10 Y 1 = x / 1073741824 := by rw [mI_ui Y 1 e10, if_pos ⟨rfl, rfl⟩]
  have ff := f5.trans f10
  refine (s_Na_trim (n := 2) o10 (h.fi ff) (by omega) (fun j hj => ?_)).mono (fun M12 q => ?_)
  · rcases (show j = 0 ∨ j = 1 by omega) with u | u
    · rw [u, y0]; exact m30 x
    · rw [u, y1]; omega
  · obtain ⟨o, f, -, s, -, t, e⟩ := q
    refine ⟨o, nst_fi t o ((ff.mono (fun _ u => Or.inr u)).trans (f.mono (fun _ u => Or.inl u))) ?_⟩
    rw [e]
    show 0 + mI M10 Y 0 * 2 ^ (30 * 0) + mI M10 Y 1 * 2 ^ (30 * 1) = x
    rw [y0, y1, show (2 : Int) ^ (30 * 0) = 1 by decide, show (2 : Int) ^ (30 * 1) = 1073741824 by decide]
    omega
end NAC
end
section
/-! The class's natural numbers: copies and multiples. -/
section NAD
variable {G : mG} {d a b Y Cy s n X Cx w : Nat} {M M' M1 M2 M3 : mM} {v : Int}
theorem cpy_fi (hO : mOk M) (e : M' = mCpy M X Y 0 0 n) : mOk M' ∧ FI (fun x => x = Y) M M' ∧ ∀ j, j < n → mI M' Y j = mI M X j := by
  have ii : ∀ q j, mI M' q j = if q = Y ∧ 0 ≤ j ∧ j < 0 + n then mI M X (0 + (j - 0)) else mI M q j := fun q j => by rw [e]; rfl
  refine ⟨by rw [e]; exact mOk_Cpy hO, ⟨by rw [e]; rfl, by rw [e]; rfl, by rw [e]; rfl, by rw [e]; rfl, by rw [e]; rfl, by rw [e]; rfl, fun x hx => ?_⟩, fun j hj => ?_⟩
  · funext j
    rw [ii x j, if_neg (fun u => hx u.1)]
  · rw [ii Y j, if_pos ⟨rfl, by omega, by omega⟩, show 0 + (j - 0) = j by omega]
/-- the copy's end -/
theorem s_p1e {M0 : mM} (hO : mOk M) (h : Nl M a Y Cy) (hn : n ≤ Cy) (g3 : lim M X n) (g4 : 0 < n → mI M X (n - 1) ≠ 0) (b1 : mI M b 1 = (n : Int)) (bY : b ≠ Y) (eM : M1 = mCpy M X Y 0 0 n) (e2 : M2 = mUI M1 a 1 (mI M1 b 1)) : mOk M2 ∧ FI (fun x => x = a ∨ x = Y) M M2 ∧ Nt M2 a Y Cy n ∧ dn (mI M2 Y) n = dn (mI M X) n := by
  obtain ⟨o1, f1, y1⟩ := cpy_fi hO eM
  have ne : a ≠ Y := h.2.2.2.2.2.1
  have cb : Cy ≤ 100000 := h.2.2.2.2.1.2
  rw [show mI M1 b 1 = (n : Int) by rw [f1.2.2.2.2.2.2 b bY]; exact b1] at e2
  have f2 : FI (fun x => x = a) M1 M2 := by rw [e2]; exact FI.ui rfl
  have ff : FI (fun x => x = a ∨ x = Y) M M2 := (f1.mono (fun _ u => Or.inr u)).trans (f2.mono (fun _ u => Or.inl u))
  have yy : ∀ j, j < n → mI M2 Y j = mI M X j := fun j hj => by rw [f2.2.2.2.2.2.2 Y (fun u => ne u.symm), y1 j hj]
  exact ⟨by rw [e2]; exact mOk_UI o1 ⟨by omega, by omega⟩, ff, ⟨h.fi ff, by rw [mI_ui a 1 e2, if_pos ⟨rfl, rfl⟩], hn, fun j hj => by rw [yy j hj]; exact g3 j hj, fun u => by rw [yy _ (by omega)]; exact g4 u⟩, dn_cg n yy⟩
theorem s_p1n {l : Nat} (hO : mOk M) (h : Nl M a Y Cy) (k : Nt M b X Cx n) (ab : a ≠ b) (hl : 4 ≤ l ∧ l ≤ 100000) (hn : n ≤ l) (l1 : 2 * Cy ≤ l) (l3 : l ≤ 2 * n) (e19 : M1 = mNew M 30 l l) : mK M1 a = 10 ∧ ∀ M22, M22 = mUR M1 a 0 (mZ M) → mK M22 b = 10 ∧ mK M22 (mR M22 b 0) = 30 ∧ mK M22 (mR M22 a 0) = 30 ∧ ((0 : Int) ≤ 0 ∧ (0 : Int) ≤ 0 ∧ (0 : Int) ≤ mI M22 b 1 ∧ 0 + (mI M22 b 1) ≤ (mN M22 (mR M22 b 0) : Int) ∧ 0 + (mI M22 b 1) ≤ (mN M22 (mR M22 a 0) : Int)) ∧ ∀ M28, M28 = mCpy M22 (mR M22 b 0) (mR M22 a 0) 0 0 (Int.toNat (mI M22 b 1)) → ∀ M30, M30 = mUI M28 a 1 (mI M28 b 1) → nst M a Y Cy n (dn (mI M X) n) M30 := by
  obtain ⟨k0, r0, kY, nY, ⟨c1, c2⟩, ne, z1, z2⟩ := id h
  obtain ⟨⟨q0, p0, kX, nX, ⟨e1, e2⟩, -, y1, y2⟩, g1, g2, g3, g4⟩ := id k
  have F19 : FA (fun _ => False) (fun x => x = a) M M1 := FA.new e19
  refine ⟨by rw [(F19.2 a z1).1]; exact k0, fun M22 e22 => ?_⟩
  have F22 : FA (fun _ => False) (fun x => x = a) M M22 := F19.trans (FA.ur rfl e22)
  have ra : mR M22 a 0 = mZ M := by rw [e22, mR_UR, if_pos ⟨rfl, rfl⟩]
  have rb : mR M22 b 0 = X := by rw [(F22.2 b y1).2.2.2.1 (fun u => ab u.symm)]; exact p0
  have KZ : mK M22 (mZ M) = 30 := by rw [e22]; show mK M1 (mZ M) = 30; rw [e19, mK_New, if_pos rfl]
  have NZ : mN M22 (mZ M) = l := by rw [e22]; show mN M1 (mZ M) = l; rw [e19, mN_New, if_pos rfl]
  have i1 : mI M22 b 1 = (n : Int) := by rw [(F22.2 b y1).2.2.2.2 (fun u => u)]; exact g1
  have iX : mI M22 X = mI M X := (F22.2 X y2).2.2.2.2 (fun u => u)
  have Z22 : mZ M22 = mZ M + 1 := by rw [e22]; show mZ M1 = _; rw [e19, mZ_New]
  have S22 : mS M22 = mS M + l := by rw [e22]; show mS M1 = _; rw [e19, mS_New]
  have K22a : mK M22 a = 10 := by rw [(F22.2 a z1).1]; exact k0
  have K22b : mK M22 b = 10 := by rw [(F22.2 b y1).1]; exact q0
  have K22X : mK M22 X = 30 := by rw [(F22.2 X y2).1]; exact kX
  have N22X : mN M22 X = Cx := by rw [(F22.2 X y2).2.1]; exact nX
  have o22 : mOk M22 := by rw [e22]; exact mOk_UR (by rw [e19]; exact mOk_New hO)
  have h22 : Nl M22 a (mZ M) l := ⟨K22a, ra, KZ, NZ, hl, Nat.ne_of_lt z1, by omega, by omega⟩
  rw [ra, rb, i1, KZ, NZ, K22X, N22X, Int.toNat_natCast]
  refine ⟨K22b, rfl, rfl, ⟨by omega, by omega, by omega, by omega, by omega⟩, fun M28 e28 M30 e30 => ?_⟩
  obtain ⟨o, ff, t, e⟩ := s_p1e (M0 := M) (b := b) o22 h22 hn (fun j hj => by rw [iX]; exact g3 j hj) (fun u => by rw [iX]; exact g4 u) i1 (Nat.ne_of_lt y1) e28 e30
  rw [iX] at e
  exact nst_rs F22 (Or.inr ⟨rfl, Z22, S22, l1, l3⟩) ff o t e
theorem s_Na_put1 (hO : mOk M) (h : Nl M a Y Cy) (k : Nt M b X Cx n) (ab : a ≠ b) (hC : Cy ≤ 50000) (hn : n ≤ 50000) : Cv G y_Na_put1 (d + 1) [vr a, vr b] M (nst M a Y Cy n (dn (mI M X) n)) := by
  obtain ⟨k0, r0, kY, nY, ⟨c1, c2⟩, ne, z1, z2⟩ := id h
  obtain ⟨⟨l0, p0, kX, nX, ⟨e1, e2⟩, -, y1, y2⟩, g1, g2, g3, g4⟩ := id k
  have bY : b ≠ Y := fun u => by rw [u, kY] at l0; omega
  refine k_Na_put1 hO ?_
  rw [r0, nY, g1]
  refine ⟨l0, k0, kY, ⟨by omega, by omega⟩, fun y => ?_, fun y => ?_⟩
  · rw [p0, nX, Int.toNat_natCast]
    refine ⟨kX, ⟨by omega, by omega, by omega, by omega, by omega⟩, fun M13 e13 M15 e15 => ?_⟩
    obtain ⟨o, ff, t, e⟩ := s_p1e (M0 := M) (b := b) hO h (by omega) g3 g4 g1 bY e13 e15
    exact nst_fi t o ff e
  · obtain ⟨l, el, l1, l2, l3⟩ : ∃ l : Nat, (if ((n : Nat) : Int) < 2 * ((Cy : Nat) : Int) then 2 * ((Cy : Nat) : Int) else ((n : Nat) : Int)) = ((l : Nat) : Int) ∧ 2 * Cy ≤ l ∧ n ≤ l ∧ l ≤ 2 * n := by
      by_cases u : ((n : Nat) : Int) < 2 * ((Cy : Nat) : Int)
      · exact ⟨2 * Cy, by rw [if_pos u]; omega, by omega, by omega, by omega⟩
      · exact ⟨n, by rw [if_neg u], by omega, by omega, by omega⟩
    rw [el, Int.toNat_natCast]
    refine ⟨⟨by omega, by omega⟩, ⟨by omega, by omega⟩, fun M19 e19 => ?_⟩
    exact s_p1n hO h k ab ⟨by omega, by omega⟩ l2 l1 l3 e19
theorem mul_bd {f c l : Int} (hf : 0 ≤ f ∧ f < 1073741824) (hc : 0 ≤ c ∧ c < f ∨ c = 0) (hl : 0 ≤ l ∧ l < 1073741824) : 0 ≤ c + f * l ∧ c + f * l < 1152921504606846976 ∧ (0 < f → c + f * l < f * 1073741824) := by
  have h1 := Int.mul_nonneg hf.1 hl.1
  have h2 : f * l ≤ f * 1073741823 := Int.mul_le_mul_of_nonneg_left (by omega) hf.1
  omega
theorem hm_mul {f c i : Int} {Q Q' : mM → Prop} (h : h_Na_multiply_40 G d a f c i M Q) (hq : ∀ M', Q M' → Q' M') : h_Na_multiply_40 G d a f c i M Q' := by
  unfold h_Na_multiply_40 at h ⊢
  exact mWm.mono h (fun r M' k => ⟨k.1, hq M' k.2⟩)
/-- the loop of multiply -/
theorem s_mul40 {f : Int} (hf : 2 ≤ f ∧ f < 1073741824) (h : Nt M a Y Cy s) (hs : 0 < s) (hC : s < Cy) (hO : mOk M) : h_Na_multiply_40 G d a f 0 0 M (fun M' => mOk M' ∧ FI (fun x => x = a ∨ x = Y) M M' ∧ ∃ s', (s ≤ s' ∧ s' ≤ s + 1) ∧ Nt M' a Y Cy s' ∧ dn (mI M' Y) s' = f * dn (mI M Y) s) := by
  obtain ⟨⟨k0, r0, kY, nY, ⟨c1, c2⟩, ne, z1, z2⟩, h1, h2, h3, h4⟩ := id h
  obtain ⟨t, rfl⟩ : ∃ t, s = t + 1 := ⟨s - 1, by omega⟩
  have dge := dn_ge h3 (h4 hs)
  suffices HH : ∀ (t' i : Nat) (c : Int) (M1 : mM), t + 1 ≤ i + t' → i ≤ t + 1 → (0 ≤ c ∧ c < f) → mOk M1 → FI (fun x => x = Y) M M1 → lim M1 Y (t + 1) → (∀ j, i ≤ j → mI M1 Y j = mI M Y j) → dn (mI M1 Y) (t + 1) + c * 2 ^ (30 * i) = dn (mI M Y) (t + 1) + (f - 1) * dn (mI M Y) i → h_Na_multiply_40 G d a f c i M1 (fun M' => mOk M' ∧ FI (fun x => x = a ∨ x = Y) M M' ∧ ∃ s', (t + 1 ≤ s' ∧ s' ≤ t + 1 + 1) ∧ Nt M' a Y Cy s' ∧ dn (mI M' Y) s' = f * dn (mI M Y) (t + 1)) from by
    have := HH (t + 1) 0 0 M (by omega) (by omega) (by omega) hO FI.refl h3 (fun _ _ => rfl) (by show _ + 0 * _ = _ + _ * 0; omega)
    exact this
  intro t'
  induction t' with
  | zero =>
    intro i c M1 g1 g2 gc o F L E V
    have ei : i = t + 1 := by omega
    subst ei
    have a1 : mI M1 a 1 = ((t + 1 : Nat) : Int) := by rw [F.2.2.2.2.2.2 a ne]; exact h1
    have hN := (Nl.fi ⟨k0, r0, kY, nY, ⟨c1, c2⟩, ne, z1, z2⟩ F : Nl M1 a Y Cy)
    rw [show dn (mI M Y) (t + 1) + (f - 1) * dn (mI M Y) (t + 1) = f * dn (mI M Y) (t + 1) by rw [Int.sub_mul]; omega] at V
    refine k_Na_multiply_40 o ⟨by omega, by omega⟩ ⟨by omega, by omega⟩ ⟨by omega, by omega⟩ ?_
    rw [a1, F.1, F.2.1, F.2.2.1, r0, nY, Int.toNat_natCast]
    refine ⟨k0, fun _ => ⟨fun y => ?_, fun y => ?_⟩, fun y => absurd (Int.le_refl _) y⟩
    · have c0 : c = 0 := j_c0.1 y
      rw [c0, Int.zero_mul, Int.add_zero] at V
      refine ⟨o, F.mono (fun _ u => Or.inr u), t + 1, ⟨by omega, by omega⟩, ⟨hN, a1, h2, L, fun _ => ?_⟩, V⟩
      show mI M1 Y t ≠ 0
      refine dn_top L ?_
      rw [V]
      have := Int.mul_le_mul_of_nonneg_right (show 1 ≤ f by omega) (dn_nn h3)
      omega
    · have c0 : c ≠ 0 := fun u => y (j_c0.2 u)
      refine ⟨kY, ⟨by omega, by omega⟩, ⟨by omega, by omega⟩, fun M39 e39 => ?_⟩
      have f39 : FI (fun x => x = Y) M1 M39 := by rw [e39]; exact FI.ui rfl
      have a39 : mI M39 a 1 = ((t + 1 : Nat) : Int) := by rw [f39.2.2.2.2.2.2 a ne]; exact a1
      rw [a39]
      refine ⟨⟨by omega, by omega⟩, fun M42 e42 => ?_⟩
      have f42 : FI (fun x => x = a) M39 M42 := by rw [e42]; exact FI.ui rfl
      have ff : FI (fun x => x = a ∨ x = Y) M M42 := ((F.trans f39).mono (fun _ u => Or.inr u)).trans (f42.mono (fun _ u => Or.inl u))
      have yy : mI M42 Y = mI M39 Y := f42.2.2.2.2.2.2 Y (fun u => ne u.symm)
      have yt : mI M39 Y (t + 1) = c := by rw [mI_ui Y (t + 1) e39, if_pos ⟨rfl, rfl⟩]
      have yl : ∀ j, j < t + 1 → mI M39 Y j = mI M1 Y j := fun j hj => by rw [mI_ui Y j e39, if_neg (fun u => by omega)]
      refine ⟨by rw [e42]; exact mOk_UI (by rw [e39]; exact mOk_UI o ⟨by omega, by omega⟩) ⟨by omega, by omega⟩, ff, t + 1 + 1, ⟨by omega, by omega⟩, ⟨Nl.fi ⟨k0, r0, kY, nY, ⟨c1, c2⟩, ne, z1, z2⟩ ff, by rw [mI_ui a 1 e42, if_pos ⟨rfl, rfl⟩]; omega, by omega, fun j hj => ?_, fun _ => ?_⟩, ?_⟩
      · rw [yy]
        by_cases u : j < t + 1
        · rw [yl j u]; exact L j u
        · rw [show j = t + 1 by omega, yt]; omega
      · rw [yy, show t + 1 + 1 - 1 = t + 1 by omega, yt]; exact c0
      · rw [yy, dn_s, yt, dn_cg (t + 1) yl]
        exact V
  | succ t' ih =>
    intro i c M1 g1 g2 gc o F L E V
    by_cases ei : i = t + 1
    · exact ih i c M1 (by omega) g2 gc o F L E V
    have li : i < t + 1 := by omega
    have a1 : mI M1 a 1 = ((t + 1 : Nat) : Int) := by rw [F.2.2.2.2.2.2 a ne]; exact h1
    obtain ⟨b1, b2, b3⟩ := mul_bd (f := f) (c := c) (l := mI M1 Y i) ⟨by omega, by omega⟩ (Or.inl gc) (L i li)
    refine k_Na_multiply_40 o ⟨by omega, by omega⟩ ⟨by omega, by omega⟩ ⟨by omega, by omega⟩ ?_
    rw [a1, F.1, F.2.1, F.2.2.1, r0, nY, Int.toNat_natCast, Int.toNat_natCast, j_and, j_ushr b1 (by omega)]
    refine ⟨k0, fun y => absurd y (by omega), fun _ => ⟨kY, by omega, by omega, m30i _, fun M48 e48 => ?_⟩⟩
    rw [show ((i : Int) + 1) = ((i + 1 : Nat) : Int) by omega]
    have b4 := b3 (by omega)
    have V48 := c_st (i := i) (dn_ui (M' := M48) li e48)
    refine ih (i + 1) _ M48 (by omega) (by omega) ⟨by omega, by omega⟩ (by rw [e48]; exact mOk_UI o (m30i _)) (F.trans (by rw [e48]; exact FI.ui rfl)) (lim_ui L (m30 _) e48) (fun j hj => by rw [mI_ui Y j e48, if_neg (fun u => by omega)]; exact E j (by omega)) ?_
    rw [V48, dn_s (mI M Y) i, ← E i (Nat.le_refl _)]
    exact al_mul V
theorem s_Na_multiply {f : Int} (hf : 1 ≤ f ∧ f < 1073741824) (hO : mOk M) (h : Nt M a Y Cy s) (hC : Cy ≤ 50000) : Cv G y_Na_multiply (d + 2) [vr a, vi f] M (nst M a Y Cy (s + 1) (f * dn (mI M Y) s)) := by
  obtain ⟨⟨k0, r0, kY, nY, ⟨c1, c2⟩, ne, z1, z2⟩, h1, h2, h3, h4⟩ := id h
  refine k_Na_multiply hO ⟨by omega, by omega⟩ ⟨fun y => ?_, fun y => ?_⟩
  · rw [y, Int.one_mul]
    exact nst_fi h hO FI.refl rfl
  · rw [r0, nY, h1]
    refine ⟨k0, kY, ⟨by omega, by omega⟩, fun e => ?_, fun e => ?_⟩
    · have es : s = Cy := by omega
      rw [show 2 * ((s : Nat) : Int) = ((2 * s : Nat) : Int) by omega]
      refine (s_JA_copyOf hO kY z2 (by omega) (by omega)).mono (fun x M15 q => ?_)
      obtain ⟨ex, o15, f15, Z15, S15, K15, N15, I15⟩ := q
      subst ex
      rw [nY] at I15
      refine ⟨o15, by rw [(f15.2 a z1).1]; exact k0, fun M19 e19 => ?_⟩
      have F19 : FA (fun _ => False) (fun x => x = a) M M19 := (f15.mono (fun _ _ y => y) (fun _ _ y => y.elim)).trans (FA.ur rfl e19)
      have Z19 : mZ M19 = mZ M + 1 := by rw [e19]; exact Z15
      have o19 : mOk M19 := by rw [e19]; exact mOk_UR o15
      have t19 : Nt M19 a (mZ M) (2 * s) s := ⟨⟨by rw [(F19.2 a z1).1]; exact k0, by rw [e19, mR_UR, if_pos ⟨rfl, rfl⟩], by rw [e19]; exact K15, by rw [e19]; exact N15, ⟨by omega, by omega⟩, by omega, by omega, by omega⟩, by rw [(F19.2 a z1).2.2.2.2 (fun u => u)]; exact h1, by omega, fun j hj => by rw [e19, mI_UR, I15 j (by omega)]; exact h3 j hj, fun u => by rw [e19, mI_UR, I15 _ (by omega)]; exact h4 u⟩
      refine hm_mul (s_mul40 ⟨by omega, hf.2⟩ t19 (by omega) (by omega) o19) (fun M' q => ?_)
      obtain ⟨o, F, s', -, T, V⟩ := q
      refine nst_rs (Y' := mZ M) (Cy' := 2 * s) F19 (Or.inr ⟨rfl, Z19, by rw [e19, mS_UR]; exact S15, by omega, by omega⟩) F o T ?_
      rw [V, e19, mI_UR, dn_cg s (fun j hj => I15 j (by omega))]
    · by_cases s0 : s = 0
      · subst s0
        refine k_Na_multiply_40 hO ⟨by omega, by omega⟩ ⟨by omega, by omega⟩ ⟨by omega, by omega⟩ ?_
        rw [h1]
        refine ⟨k0, fun _ => ⟨fun _ => ?_, fun u => absurd (j_c0.2 rfl) u⟩, fun u => absurd (Int.le_refl _) u⟩
        exact nst_fi h hO FI.refl (by show (0 : Int) = f * 0; omega)
      · refine hm_mul (s_mul40 ⟨by omega, hf.2⟩ h (by omega) (by omega) hO) (fun M' q => ?_)
        obtain ⟨o, F, s', -, T, V⟩ := q
        exact nst_fi T o F V
end NAD
end
section
/-! The class's natural numbers: a sum. -/
section NAE
variable {G : mG} {d a b Y Cy s n m X Cx w : Nat} {M M' M1 M2 M3 : mM} {v : Int}
theorem add_bd {f c l x : Int} (hf : 0 ≤ f ∧ f < 1073741824) (hc : 0 ≤ c ∧ c < 1073741824) (hl : 0 ≤ l ∧ l < 1073741824) (hx : 0 ≤ x ∧ x < 1073741824) : 0 ≤ c + (l + f * x) ∧ c + (l + f * x) < 1152921504606846976 := by
  have h1 := Int.mul_nonneg hf.1 hx.1
  have h2 : f * x ≤ 1073741823 * x := Int.mul_le_mul_of_nonneg_right (by omega) hx.1
  omega
theorem q30 {x : Int} (h : 0 ≤ x ∧ x < 1152921504606846976) : 0 ≤ x / 1073741824 ∧ x / 1073741824 < 1073741824 := by omega
theorem c30 {c : Int} (h : 0 ≤ c ∧ c < 1073741824) : i64 c := ⟨by omega, by omega⟩
theorem t30 {x : Int} (h : 0 ≤ x ∧ x < 1152921504606846976) : x < 9223372036854775808 := by omega
/-- the carry goes on -/
theorem s_add107 {T : Int} (h : Nl M a Y Cy) (hm : m < Cy) (hT : T < 2 ^ (30 * (m + 1))) : ∀ (t i : Nat) (c : Int) (M1 : mM), m + 1 ≤ i + t → i ≤ m + 1 → (0 ≤ c ∧ c < 1073741824) → mOk M1 → FI (fun x => x = Y) M M1 → lim M1 Y (m + 1) → dn (mI M1 Y) (m + 1) + c * 2 ^ (30 * i) = T → h_Na_add_107 G d a m c i M1 (fun M' => mOk M' ∧ FI (fun x => x = a ∨ x = Y) M M' ∧ ∃ s', Nt M' a Y Cy s' ∧ dn (mI M' Y) s' = T) := by
  have cb := h.2.2.2.2.1.2
  have fin : ∀ (M1 : mM), mOk M1 → FI (fun x => x = Y) M M1 → lim M1 Y (m + 1) → dn (mI M1 Y) (m + 1) = T → mK M1 a = 10 ∧ Cv G y_Na_trim d [vr a, vi ((m : Int) + 1)] M1 (fun M39 => mOk M39 ∧ (mOk M39 ∧ FI (fun x => x = a ∨ x = Y) M M39 ∧ ∃ s', Nt M39 a Y Cy s' ∧ dn (mI M39 Y) s' = T)) := by
    intro M1 o F L V
    refine ⟨by rw [F.1]; exact h.1, ?_⟩
    rw [show ((m : Int) + 1) = ((m + 1 : Nat) : Int) by omega]
    refine (s_Na_trim o (h.fi F) (by omega) L).mono (fun M' q => ?_)
    obtain ⟨o', F', -, s', -, t', e'⟩ := q
    exact ⟨o', o', (F.mono (fun _ u => Or.inr u)).trans (F'.mono (fun _ u => Or.inl u)), s', t', by rw [e', V]⟩
  intro t
  induction t with
  | zero =>
    intro i c M1 g1 g2 gc o F L V
    have ei : i = m + 1 := by omega
    subst ei
    have c0 : c = 0 := by
      have a1 := dn_nn L
      refine Classical.byContradiction (fun u => ?_)
      have a2 := Int.mul_le_mul_of_nonneg_right (show 1 ≤ c by omega) (Int.le_of_lt (p30p (m + 1)))
      omega
    rw [c0, Int.zero_mul, Int.add_zero] at V
    exact k_Na_add_107 o ⟨by omega, by omega⟩ (c30 gc) ⟨by omega, by omega⟩ ⟨fun _ => fin M1 o F L V, fun y => absurd (Or.inl (by omega)) y⟩
  | succ t ih =>
    intro i c M1 g1 g2 gc o F L V
    by_cases ei : i = m + 1
    · exact ih i c M1 (by omega) g2 gc o F L V
    have li : i < m + 1 := by omega
    refine k_Na_add_107 o ⟨by omega, by omega⟩ (c30 gc) ⟨by omega, by omega⟩ ⟨fun y => ?_, fun y => ?_⟩
    · have c0 : c = 0 := by
        rcases y with y | y
        · omega
        · exact j_c0.1 y
      rw [c0, Int.zero_mul, Int.add_zero] at V
      exact fin M1 o F L V
    · have Li := L i li
      have bd : 0 ≤ c + mI M1 Y i ∧ c + mI M1 Y i < 1152921504606846976 := by omega
      rw [F.1, F.2.1, F.2.2.1, h.2.1, h.2.2.2.1, Int.toNat_natCast, j_and, j_ushr bd.1 (t30 bd)]
      refine ⟨h.1, h.2.2.1, by omega, by omega, m30i _, fun M48 e48 => ?_⟩
      rw [show ((i : Int) + 1) = ((i + 1 : Nat) : Int) by omega]
      refine ih (i + 1) _ M48 (by omega) (by omega) (q30 bd) (by rw [e48]; exact mOk_UI o (m30i _)) (F.trans (by rw [e48]; exact FI.ui rfl)) (lim_ui L (m30 _) e48) ?_
      rw [c_st (i := i) (dn_ui (M' := M48) li e48)]
      exact al_car V
/-- the sum limb by limb -/
theorem s_add40 {f T : Int} (hf : 0 ≤ f ∧ f < 1073741824) (h : Nl M a Y Cy) (k : Nt M b X Cx n) (hm : m < Cy) (hn : n ≤ m) (bY : b ≠ Y) (XY : X ≠ Y) (hT : T < 2 ^ (30 * (m + 1))) (eT : T = dn (mI M Y) (m + 1) + f * dn (mI M X) n) : ∀ (t i : Nat) (c : Int) (M1 : mM), n ≤ i + t → i ≤ n → (0 ≤ c ∧ c < 1073741824) → mOk M1 → FI (fun x => x = Y) M M1 → lim M1 Y (m + 1) → dn (mI M1 Y) (m + 1) + c * 2 ^ (30 * i) = dn (mI M Y) (m + 1) + f * dn (mI M X) i → h_Na_add_40 G d a b f m c i M1 (fun M' => mOk M' ∧ FI (fun x => x = a ∨ x = Y) M M' ∧ ∃ s', Nt M' a Y Cy s' ∧ dn (mI M' Y) s' = T) := by
  obtain ⟨⟨l0, p0, kX, nX, ⟨e1, e2⟩, -, y1, y2⟩, g1, g2, g3, g4⟩ := id k
  have cb := h.2.2.2.2.1.2
  have fin : ∀ (c : Int) (M1 : mM), (0 ≤ c ∧ c < 1073741824) → mOk M1 → FI (fun x => x = Y) M M1 → lim M1 Y (m + 1) → dn (mI M1 Y) (m + 1) + c * 2 ^ (30 * n) = dn (mI M Y) (m + 1) + f * dn (mI M X) n → h_Na_add_107 G d a m c n M1 (fun M' => mOk M' ∧ FI (fun x => x = a ∨ x = Y) M M' ∧ ∃ s', Nt M' a Y Cy s' ∧ dn (mI M' Y) s' = T) := fun c M1 gc o F L V => s_add107 h hm hT (m + 1) n c M1 (by omega) (by omega) gc o F L (V.trans eT.symm)
  intro t
  induction t with
  | zero =>
    intro i c M1 h1 h2 gc o F L V
    have ei : i = n := by omega
    subst ei
    have b1 : mI M1 b 1 = ((i : Nat) : Int) := by rw [F.2.2.2.2.2.2 b bY]; exact g1
    refine k_Na_add_40 o (l30i hf) ⟨by omega, by omega⟩ (c30 gc) ⟨by omega, by omega⟩ ?_
    rw [b1]
    exact ⟨by rw [F.1]; exact l0, fun _ => fin c M1 gc o F L V, fun y => absurd (Int.le_refl _) y⟩
  | succ t ih =>
    intro i c M1 h1 h2 gc o F L V
    by_cases ei : i = n
    · exact ih i c M1 (by omega) h2 gc o F L V
    have li : i < m + 1 := by omega
    have b1 : mI M1 b 1 = ((n : Nat) : Int) := by rw [F.2.2.2.2.2.2 b bY]; exact g1
    have iX : mI M1 X = mI M X := F.2.2.2.2.2.2 X XY
    have bd := add_bd hf gc (L i li) (g3 i (by omega))
    refine k_Na_add_40 o (l30i hf) ⟨by omega, by omega⟩ (c30 gc) ⟨by omega, by omega⟩ ?_
    rw [b1, F.1, F.2.1, F.2.2.1, h.2.1, h.2.2.2.1, p0, nX, iX, Int.toNat_natCast, j_and, j_ushr bd.1 (t30 bd)]
    refine ⟨l0, fun y => absurd y (by omega), fun y => ⟨h.1, h.2.2.1, by omega, kX, by omega, by omega, m30i _, fun M27 e27 => ?_⟩⟩
    rw [show ((i : Int) + 1) = ((i + 1 : Nat) : Int) by omega]
    refine ih (i + 1) _ M27 (by omega) (by omega) (q30 bd) (by rw [e27]; exact mOk_UI o (m30i _)) (F.trans (by rw [e27]; exact FI.ui rfl)) (lim_ui L (m30 _) e27) ?_
    rw [c_st (i := i) (dn_ui (M' := M27) li e27), dn_s (mI M X) i]
    exact al_add V
theorem hm_add {f l c i : Int} {Q Q' : mM → Prop} (h : h_Na_add_40 G d a b f l c i M Q) (hq : ∀ M', Q M' → Q' M') : h_Na_add_40 G d a b f l c i M Q' := by
  unfold h_Na_add_40 at h ⊢
  exact mWm.mono h (fun r M' k => ⟨k.1, hq M' k.2⟩)
theorem add_T {f x z p : Int} (hf : 0 ≤ f ∧ f < 1073741824) (hx : x < p) (hz : 0 ≤ z ∧ z < p) : x + f * z < p * 1073741824 := by
  have h2 : f * z ≤ 1073741823 * z := Int.mul_le_mul_of_nonneg_right (by omega) hz.1
  omega
theorem s_Na_add {f : Int} (hf : 0 ≤ f ∧ f < 1073741824) (hO : mOk M) (h : Nt M a Y Cy s) (k : Nt M b X Cx n) (ab : a ≠ b) (YX : Y ≠ X) (hC : Cy ≤ 50000) (hs : s ≤ m) (hn : n ≤ m) (em : s = m ∨ n = m) (hm : m < 50000) : Cv G y_Na_add (d + 3) [vr a, vr b, vi f] M (nst M a Y Cy (m + 1) (dn (mI M Y) s + f * dn (mI M X) n)) := by
  obtain ⟨hl, h1, h2, h3, h4⟩ := id h
  obtain ⟨k0, r0, kY, nY, ⟨c1, c2⟩, ne, z1, z2⟩ := id hl
  obtain ⟨⟨l0, p0, kX, nX, ⟨e1, e2⟩, -, y1, y2⟩, g1, g2, g3, g4⟩ := id k
  have bY : b ≠ Y := fun u => by rw [u, kY] at l0; omega
  refine k_Na_add hO (l30i hf) ?_
  rw [h1, g1, show (if ((s : Nat) : Int) < ((n : Nat) : Int) then ((n : Nat) : Int) else ((s : Nat) : Int)) = ((m : Nat) : Int) by split <;> omega, show ((m : Nat) : Int) + 1 = ((m + 1 : Nat) : Int) by omega]
  refine ⟨k0, l0, (s_Na_reserve hO hl (by omega) hC).mono (fun M3 q => ?_)⟩
  obtain ⟨o3, Y', C', h3', hw, hC', F3, R3, I3, G3⟩ := q
  have yn : Y' = Y ∨ Y' = mZ M := by
    rcases G3 with ⟨u, -⟩ | ⟨u, -⟩
    · exact Or.inl u
    · exact Or.inr u
  have XY' : X ≠ Y' := by rcases yn with u | u <;> omega
  have bY' : b ≠ Y' := by rcases yn with u | u <;> omega
  have a3 : mI M3 a 1 = ((s : Nat) : Int) := by rw [(F3.2 a z1).2.2.2.2 (fun u => u)]; exact h1
  have k3 : Nt M3 b X Cx n := by
    refine ⟨⟨by rw [(F3.2 b y1).1]; exact l0, by rw [(F3.2 b y1).2.2.2.1 (fun u => ab u.symm)]; exact p0, by rw [(F3.2 X y2).1]; exact kX, by rw [(F3.2 X y2).2.1]; exact nX, ⟨e1, e2⟩, fun u => by rw [u, kX] at l0; omega, Nat.lt_of_lt_of_le y1 F3.1.1, Nat.lt_of_lt_of_le y2 F3.1.1⟩, by rw [(F3.2 b y1).2.2.2.2 (fun u => u)]; exact g1, g2, fun j hj => by rw [(F3.2 X y2).2.2.2.2 (fun u => u)]; exact g3 j hj, fun u => by rw [(F3.2 X y2).2.2.2.2 (fun u => u)]; exact g4 u⟩
  have iX : mI M3 X = mI M X := (F3.2 X y2).2.2.2.2 (fun u => u)
  obtain ⟨-, r0', kY', nY', ⟨-, c2'⟩, ne', -⟩ := id h3'
  refine ⟨o3, h3'.1, ?_⟩
  rw [r0', a3]
  refine (s_JA_fillR o3 kY' (by omega) (by omega) (by omega) ⟨by decide, by decide⟩).mono (fun M7 q => ?_)
  obtain ⟨o7, f7, i7⟩ := q
  have L7 : lim M7 Y' (m + 1) := fun j hj => by
    rw [i7 j]
    by_cases u : s ≤ j ∧ j < m + 1
    · rw [if_pos u]; omega
    · rw [if_neg u, I3 j (by omega)]; exact h3 j (by omega)
  have D7 : dn (mI M7 Y') (m + 1) = dn (mI M Y) s := by
    rw [dn_z (s := s) (by omega) (fun j u1 u2 => by rw [i7 j, if_pos ⟨u1, u2⟩])]
    exact dn_cg s (fun j hj => by rw [i7 j, if_neg (by omega), I3 j (by omega)])
  have k7 : Nt M7 b X Cx n := by
    obtain ⟨q1, q2, q3, q4, q5⟩ := k3
    exact ⟨q1.fi f7, by rw [f7.2.2.2.2.2.2 b bY']; exact q2, q3, fun j hj => by rw [f7.2.2.2.2.2.2 X XY']; exact q4 j hj, fun u => by rw [f7.2.2.2.2.2.2 X XY']; exact q5 u⟩
  have T7 : dn (mI M7 Y') (m + 1) + f * dn (mI M7 X) n < 2 ^ (30 * (m + 1)) := by
    rw [p30, f7.2.2.2.2.2.2 X XY', iX, D7]
    exact add_T hf (Int.lt_of_lt_of_le (dn_lt h3) (p30m hs)) ⟨dn_nn g3, Int.lt_of_lt_of_le (dn_lt g3) (p30m hn)⟩
  refine ⟨o7, hm_add (s_add40 (T := dn (mI M7 Y') (m + 1) + f * dn (mI M7 X) n) hf (h3'.fi f7) k7 (by omega) hn bY' XY' T7 rfl n 0 0 M7 (by omega) (by omega) ⟨by decide, by decide⟩ o7 FI.refl L7 (by show _ + 0 * _ = _ + _ * 0; rw [Int.zero_mul, Int.mul_zero])) (fun M' q => ?_)⟩
  obtain ⟨o, F, s', T, V⟩ := q
  refine nst_rs F3 G3 ((f7.mono (fun _ u => Or.inr u)).trans F) o T ?_
  rw [V, D7, f7.2.2.2.2.2.2 X XY', iX]
end NAE
end
section
/-! The class's natural numbers: a product. -/
section NAF
variable {G : mG} {d a b c Y Cy s n m X Cx Z Cz w : Nat} {M M' M1 M2 M3 : mM} {v : Int}
/-- a number that is not touched -/
theorem Nt.fi {S : Nat → Prop} (h : Nt M b X Cx n) (f : FI S M M') (hb : ¬ S b) (hX : ¬ S X) : Nt M' b X Cx n := by
  obtain ⟨q1, q2, q3, q4, q5⟩ := h
  exact ⟨q1.fi f, by rw [f.2.2.2.2.2.2 b hb]; exact q2, q3, fun j hj => by rw [f.2.2.2.2.2.2 X hX]; exact q4 j hj, fun u => by rw [f.2.2.2.2.2.2 X hX]; exact q5 u⟩
theorem Nt.fa {S R : Nat → Prop} (h : Nt M b X Cx n) (F : FA S R M M') (hb : ¬ S b) (hX : ¬ S X) (rb : ¬ R b) : Nt M' b X Cx n := by
  obtain ⟨⟨l0, p0, kX, nX, e, ne, y1, y2⟩, g1, g2, g3, g4⟩ := h
  exact ⟨⟨by rw [(F.2 b y1).1]; exact l0, by rw [(F.2 b y1).2.2.2.1 rb]; exact p0, by rw [(F.2 X y2).1]; exact kX, by rw [(F.2 X y2).2.1]; exact nX, e, ne, Nat.lt_of_lt_of_le y1 F.1.1, Nat.lt_of_lt_of_le y2 F.1.1⟩, by rw [(F.2 b y1).2.2.2.2 hb]; exact g1, g2, fun j hj => by rw [(F.2 X y2).2.2.2.2 hX]; exact g3 j hj, fun u => by rw [(F.2 X y2).2.2.2.2 hX]; exact g4 u⟩
/-- one limb times the other number -/
theorem s_pr56 {f : Int} {N i : Nat} {Q : mM → Prop} (hf : 0 ≤ f ∧ f < 1073741824) (h : Nl M a Y Cy) (k : Nt M c Z Cz m) (hN : N ≤ Cy) (hi : i + m < N) (cY : c ≠ Y) (ZY : Z ≠ Y)
    (hQ : ∀ M', mOk M' → FI (fun x => x = Y) M M' → lim M' Y N → (∀ j, i + 1 + m ≤ j → j < N → mI M' Y j = mI M Y j) → dn (mI M' Y) N = dn (mI M Y) N + f * (2 ^ (30 * i) * dn (mI M Z) m) → h_Na_putProduct_33 G d a b c ((i + 1 : Nat) : Int) M' Q)
    (z : mI M Y (i + m) = 0) : ∀ (t j : Nat) (e : Int) (M1 : mM), m ≤ j + t → j ≤ m → (0 ≤ e ∧ e < 1073741824) → mOk M1 → FI (fun x => x = Y) M M1 → lim M1 Y N → (∀ u, i + m ≤ u → u < N → mI M1 Y u = mI M Y u) → dn (mI M1 Y) N + e * (2 ^ (30 * i) * 2 ^ (30 * j)) = dn (mI M Y) N + f * (2 ^ (30 * i) * dn (mI M Z) j) → h_Na_putProduct_56 G d a b c i f e j M1 Q := by
  obtain ⟨⟨l0, p0, kX, nX, ⟨e1, e2⟩, -, y1, y2⟩, g1, g2, g3, g4⟩ := id k
  have cb := h.2.2.2.2.1.2
  intro t
  induction t with
  | zero =>
    intro j e M1 h1 h2 gc o F L U V
    have ej : j = m := by omega
    subst ej
    have b1 : mI M1 c 1 = ((j : Nat) : Int) := by rw [F.2.2.2.2.2.2 c cY]; exact g1
    refine k_Na_putProduct_56 o ⟨by omega, by omega⟩ (c30 hf) (c30 gc) ⟨by omega, by omega⟩ ?_
    rw [b1, F.1, F.2.1, F.2.2.1, h.2.1, h.2.2.2.1, show ((i : Nat) : Int) + ((j : Nat) : Int) = ((i + j : Nat) : Int) by omega, Int.toNat_natCast]
    refine ⟨l0, fun _ => ⟨h.1, h.2.2.1, by omega, l30i gc, fun M43 e43 => ?_⟩, fun y => absurd (Int.le_refl _) y⟩
    rw [show ((i : Int) + 1) = ((i + 1 : Nat) : Int) by omega]
    refine hQ M43 (by rw [e43]; exact mOk_UI o (l30i gc)) (F.trans (by rw [e43]; exact FI.ui rfl)) (lim_ui L gc e43) (fun u u1 u2 => by rw [mI_ui Y u e43, if_neg (fun q => by omega)]; exact U u (by omega) u2) ?_
    rw [dn_ui (M' := M43) hi e43, U (i + j) (Nat.le_refl _) hi, z, Int.sub_zero, p30a]
    exact V
  | succ t ih =>
    intro j e M1 h1 h2 gc o F L U V
    by_cases ej : j = m
    · exact ih j e M1 (by omega) h2 gc o F L U V
    have li : i + j < N := by omega
    have b1 : mI M1 c 1 = ((m : Nat) : Int) := by rw [F.2.2.2.2.2.2 c cY]; exact g1
    have iX : mI M1 Z = mI M Z := F.2.2.2.2.2.2 Z ZY
    have bd := add_bd hf gc (L (i + j) li) (g3 j (by omega))
    refine k_Na_putProduct_56 o ⟨by omega, by omega⟩ (c30 hf) (c30 gc) ⟨by omega, by omega⟩ ?_
    rw [b1, F.1, F.2.1, F.2.2.1, h.2.1, h.2.2.2.1, p0, nX, iX, show ((i : Nat) : Int) + ((j : Nat) : Int) = ((i + j : Nat) : Int) by omega, show ((i : Nat) : Int) + ((m : Nat) : Int) = ((i + m : Nat) : Int) by omega, Int.toNat_natCast, Int.toNat_natCast, Int.toNat_natCast, j_and, j_ushr bd.1 (t30 bd)]
    refine ⟨l0, fun y => absurd y (by omega), fun y => ⟨h.1, h.2.2.1, by omega, kX, by omega, by omega, m30i _, fun M27 e27 => ?_⟩⟩
    rw [show ((j : Int) + 1) = ((j + 1 : Nat) : Int) by omega]
    refine ih (j + 1) _ M27 (by omega) (by omega) (q30 bd) (by rw [e27]; exact mOk_UI o (m30i _)) (F.trans (by rw [e27]; exact FI.ui rfl)) (lim_ui L (m30 _) e27) (fun u u1 u2 => by rw [mI_ui Y u e27, if_neg (fun q => by omega)]; exact U u u1 u2) ?_
    rw [← p30a, show i + (j + 1) = i + j + 1 by omega, c_st (i := i + j) (dn_ui (M' := M27) li e27), dn_s (mI M Z) j, p30a]
    exact al_prod V
theorem al_row {D x z f p : Int} (h : D = x * z) : D + f * (p * z) = (x + f * p) * z := by rw [h, Int.add_mul, Int.mul_assoc]
theorem s_pr33 {N : Nat} (h : Nl M a Y Cy) (k1 : Nt M b X Cx n) (k : Nt M c Z Cz m) (hN : N ≤ Cy) (eN : N = n + m) (bY : b ≠ Y) (XY : X ≠ Y) (cY : c ≠ Y) (ZY : Z ≠ Y) : ∀ (t i : Nat) (M1 : mM), n ≤ i + t → i ≤ n → mOk M1 → FI (fun x => x = Y) M M1 → lim M1 Y N → (∀ u, i + m ≤ u → u < N → mI M1 Y u = 0) → dn (mI M1 Y) N = dn (mI M X) i * dn (mI M Z) m → h_Na_putProduct_33 G d a b c i M1 (fun M' => mOk M' ∧ FI (fun x => x = a ∨ x = Y) M M' ∧ ∃ s', Nt M' a Y Cy s' ∧ dn (mI M' Y) s' = dn (mI M X) n * dn (mI M Z) m) := by
  obtain ⟨⟨l0, p0, kX, nX, ⟨e1, e2⟩, -, y1, y2⟩, g1, g2, g3, g4⟩ := id k1
  have cb := h.2.2.2.2.1.2
  intro t
  induction t with
  | zero =>
    intro i M1 h1 h2 o F L U V
    have ei : i = n := by omega
    subst ei
    have b1 : mI M1 b 1 = ((i : Nat) : Int) := by rw [F.2.2.2.2.2.2 b bY]; exact g1
    have c1 : mI M1 c 1 = ((m : Nat) : Int) := by rw [F.2.2.2.2.2.2 c cY]; exact k.2.1
    refine k_Na_putProduct_33 o ⟨by omega, by omega⟩ ?_
    rw [b1, c1, F.1, show ((i : Nat) : Int) + ((m : Nat) : Int) = ((N : Nat) : Int) by omega]
    refine ⟨l0, fun _ => ⟨k.1.1, h.1, ?_⟩, fun y => absurd (Int.le_refl _) y⟩
    refine (s_Na_trim o (h.fi F) hN L).mono (fun M' q => ?_)
    obtain ⟨o', F', -, s', -, t', e'⟩ := q
    exact ⟨o', o', (F.mono (fun _ u => Or.inr u)).trans (F'.mono (fun _ u => Or.inl u)), s', t', by rw [e', V]⟩
  | succ t ih =>
    intro i M1 h1 h2 o F L U V
    by_cases ei : i = n
    · exact ih i M1 (by omega) h2 o F L U V
    have b1 : mI M1 b 1 = ((n : Nat) : Int) := by rw [F.2.2.2.2.2.2 b bY]; exact g1
    have iX : mI M1 X = mI M X := F.2.2.2.2.2.2 X XY
    have iZ : mI M1 Z = mI M Z := F.2.2.2.2.2.2 Z ZY
    have im : i + m < N := by omega
    refine k_Na_putProduct_33 o ⟨by omega, by omega⟩ ?_
    rw [b1, F.1, F.2.1, F.2.2.1, p0, nX, iX, Int.toNat_natCast]
    refine ⟨l0, fun y => absurd y (by omega), fun y => ⟨kX, by omega, ?_⟩⟩
    have kM1 := k.fi F cY ZY
    refine s_pr56 (M := M1) (N := N) (g3 i (by omega)) (h.fi F) kM1 hN im cY ZY (fun M' o' F' L' U' V' => ?_) (U (i + m) (Nat.le_refl _) im) m 0 0 M1 (by omega) (by omega) ⟨by decide, by decide⟩ o FI.refl L (fun _ _ _ => rfl) (by show _ + 0 * _ = _ + _ * (_ * 0); rw [Int.zero_mul, Int.mul_zero, Int.mul_zero])
    refine ih (i + 1) M' (by omega) (by omega) o' (F.trans F') L' (fun u u1 u2 => by rw [U' u u1 u2]; exact U u (by omega) u2) ?_
    rw [V', iZ, dn_s]
    exact al_row V
theorem hm_pr {i : Int} {Q Q' : mM → Prop} (h : h_Na_putProduct_33 G d a b c i M Q) (hq : ∀ M', Q M' → Q' M') : h_Na_putProduct_33 G d a b c i M Q' := by
  unfold h_Na_putProduct_33 at h ⊢
  exact mWm.mono h (fun r M' k => ⟨k.1, hq M' k.2⟩)
theorem s_Na_putProduct (hO : mOk M) (hl : Nl M a Y Cy) (k1 : Nt M b X Cx n) (k : Nt M c Z Cz m) (ab : a ≠ b) (ac : a ≠ c) (YX : Y ≠ X) (YZ : Y ≠ Z) (hC : Cy ≤ 50000) (hm : n + m ≤ 50000) : Cv G y_Na_putProduct (d + 3) [vr a, vr b, vr c] M (nst M a Y Cy (n + m) (dn (mI M X) n * dn (mI M Z) m)) := by
  obtain ⟨k0, r0, kY, nY, ⟨c1, c2⟩, ne, z1, z2⟩ := id hl
  have yb := k1.1.2.2.2.2.2.2
  have yc := k.1.2.2.2.2.2.2
  refine k_Na_putProduct hO ?_
  rw [k1.2.1, k.2.1, show ((n : Nat) : Int) + ((m : Nat) : Int) = ((n + m : Nat) : Int) by omega]
  refine ⟨k1.1.1, k.1.1, k0, (s_Na_reserve hO hl hm hC).mono (fun M3 q => ?_)⟩
  obtain ⟨o3, Y', C', h3', hw, hC', F3, R3, I3, G3⟩ := q
  have yn : Y' = Y ∨ Y' = mZ M := by
    rcases G3 with ⟨u, -⟩ | ⟨u, -⟩
    · exact Or.inl u
    · exact Or.inr u
  have kb : mK M b ≠ 30 := by rw [k1.1.1]; decide
  have kc : mK M c ≠ 30 := by rw [k.1.1]; decide
  have XY' : X ≠ Y' := by rcases yn with u | u <;> omega
  have ZY' : Z ≠ Y' := by rcases yn with u | u <;> omega
  have bY' : b ≠ Y' := by
    rcases yn with u | u
    · rw [u]; intro q; rw [q] at kb; exact kb kY
    · omega
  have cY' : c ≠ Y' := by
    rcases yn with u | u
    · rw [u]; intro q; rw [q] at kc; exact kc kY
    · omega
  have k13 := k1.fa F3 (fun u => u) (fun u => u) (fun u => ab u.symm)
  have k3 := k.fa F3 (fun u => u) (fun u => u) (fun u => ac u.symm)
  have iX : mI M3 X = mI M X := (F3.2 X yb.2).2.2.2.2 (fun u => u)
  have iZ : mI M3 Z = mI M Z := (F3.2 Z yc.2).2.2.2.2 (fun u => u)
  obtain ⟨-, r0', kY', nY', ⟨-, c2'⟩, ne', -⟩ := id h3'
  rw [r0', k13.2.1, k3.2.1, show ((n : Nat) : Int) + ((m : Nat) : Int) = ((n + m : Nat) : Int) by omega]
  refine ⟨o3, h3'.1, k13.1.1, k3.1.1, ?_⟩
  refine (s_JA_fillR (p := 0) o3 kY' (by omega) (by omega) (by omega) ⟨by decide, by decide⟩).mono (fun M7 q => ?_)
  obtain ⟨o7, f7, i7⟩ := q
  have z7 : ∀ j, j < n + m → mI M7 Y' j = 0 := fun j hj => by rw [i7 j, if_pos ⟨by omega, hj⟩]
  have L7 : lim M7 Y' (n + m) := fun j hj => by rw [z7 j hj]; exact ⟨by decide, by decide⟩
  have D7 : dn (mI M7 Y') (n + m) = 0 := dn_z (s := 0) (by omega) (fun j _ u2 => z7 j u2)
  refine ⟨o7, hm_pr (s_pr33 (h3'.fi f7) (k13.fi f7 bY' XY') (k3.fi f7 cY' ZY') hw rfl bY' XY' cY' ZY' n 0 M7 (by omega) (by omega) o7 FI.refl L7 (fun u _ u2 => z7 u u2) (by rw [D7]; show (0 : Int) = 0 * _; rw [Int.zero_mul])) (fun M' q => ?_)⟩
  obtain ⟨o, F, s', T, V⟩ := q
  refine nst_rs F3 G3 ((f7.mono (fun _ u => Or.inr u)).trans F) o T ?_
  rw [V, f7.2.2.2.2.2.2 X XY', f7.2.2.2.2.2.2 Z ZY', iX, iZ]
end NAF
end
section
/-! The class's natural numbers: division by a limb, bits. -/
section NAG
variable {G : mG} {d a b c Y Cy s n m X Cx w : Nat} {M M' M1 M2 M3 : mM} {v : Int}
theorem dv_bd {r l dv : Int} (hd : 0 < dv ∧ dv < 1073741824) (hr : 0 ≤ r ∧ r < dv) (hl : 0 ≤ l ∧ l < 1073741824) : (0 ≤ r * 1073741824 + l ∧ r * 1073741824 + l < 1152921504606846976) ∧ (0 ≤ (r * 1073741824 + l) / dv ∧ (r * 1073741824 + l) / dv < 1073741824) ∧ (0 ≤ (r * 1073741824 + l) % dv ∧ (r * 1073741824 + l) % dv < dv) := by
  refine ⟨⟨by omega, by omega⟩, ⟨Int.ediv_nonneg (by omega) (by omega), Int.ediv_lt_of_lt_mul hd.1 (by omega)⟩, Int.emod_nonneg _ (by omega), Int.emod_lt_of_pos _ hd.1⟩
theorem s_ds56 {r : Int} {Q : Int → mM → Prop} (h : Nl M a Y Cy) (hr : 0 ≤ r ∧ r < 1073741824) (hQ : ∀ M' t, mOk M' → FI (fun x => x = a) M M' → Nt M' a Y Cy t → dn (mI M' Y) t = v → Q r M') : ∀ (t : Nat) (M1 : mM), t ≤ Cy → mOk M1 → FI (fun x => x = a) M M1 → mI M1 a 1 = ((t : Nat) : Int) → lim M Y t → dn (mI M Y) t = v → h_Na_divideSmall_56 G d a r M1 Q := by
  obtain ⟨k0, r0, kY, nY, ⟨c1, c2⟩, ne, z1, z2⟩ := id h
  intro t
  induction t with
  | zero =>
    intro M1 ht o f h1 hl hd
    have nb := f.2.2.2.2.2.2 Y (fun u => ne u.symm)
    refine k_Na_divideSmall_56 o (c30 hr) ⟨by rw [f.1]; exact k0, fun y => absurd y (by omega), fun _ => hQ M1 0 o f ⟨h.fi f, h1, by omega, fun j hj => absurd hj (by omega), fun u => absurd u (by omega)⟩ (by rw [nb]; exact hd), fun y => absurd (Or.inl (by omega)) y⟩
  | succ t ih =>
    intro M1 ht o f h1 hl hd
    have nb := f.2.2.2.2.2.2 Y (fun u => ne u.symm)
    refine k_Na_divideSmall_56 o (c30 hr) ?_
    rw [f.1, f.2.1, f.2.2.1, r0, nY, h1, show Int.toNat (((t + 1 : Nat) : Int) - 1) = t by omega, nb]
    refine ⟨k0, fun _ => ⟨kY, by omega⟩, fun y => hQ M1 (t + 1) o f ⟨h.fi f, h1, ht, fun j hj => by rw [nb]; exact hl j hj, fun _ => ?_⟩ (by rw [nb]; exact hd), fun y => ⟨⟨by omega, by omega⟩, fun M14 e14 => ?_⟩⟩
    · rw [nb, show t + 1 - 1 = t by omega]
      rcases y with y | y
      · omega
      · exact y
    · have y0 : mI M Y t = 0 := Classical.byContradiction (fun u => y (Or.inr u))
      refine ih M14 (by omega) (by rw [e14]; exact mOk_UI o ⟨by omega, by omega⟩) (f.trans (by rw [e14]; exact FI.ui rfl)) (by rw [mI_ui a 1 e14, if_pos ⟨rfl, rfl⟩]; omega) (fun j hj => hl j (by omega)) ?_
      rw [← hd, dn_s, y0, Int.zero_mul, Int.add_zero]
/-- the quotient by a small number; the rest is answered -/
theorem s_Na_divideSmall {dv : Int} (hd : 0 < dv ∧ dv < 1073741824) (hO : mOk M) (h : Nt M a Y Cy s) : Ci G y_Na_divideSmall d [vr a, vi dv] M (fun x M' => (0 ≤ x ∧ x < dv) ∧ mOk M' ∧ FI (fun y => y = a ∨ y = Y) M M' ∧ ∃ t, Nt M' a Y Cy t ∧ dn (mI M Y) s = dv * dn (mI M' Y) t + x) := by
  obtain ⟨hl, h1, h2, h3, h4⟩ := id h
  obtain ⟨k0, r0, kY, nY, ⟨c1, c2⟩, ne, z1, z2⟩ := id hl
  refine k_Na_divideSmall hO (l30i ⟨by omega, hd.2⟩) ⟨k0, ?_⟩
  rw [h1]
  suffices HH : ∀ (i : Nat) (r : Int) (M1 : mM), i ≤ s → (0 ≤ r ∧ r < dv) → mOk M1 → FI (fun x => x = Y) M M1 → lim M1 Y s → (∀ j, j < i → mI M1 Y j = mI M Y j) → dn (mI M Y) s = dv * (dn (mI M1 Y) s - dn (mI M Y) i) + r * 2 ^ (30 * i) + dn (mI M Y) i → h_Na_divideSmall_10 G d a dv r ((i : Int) - 1) M1 (fun x M' => (0 ≤ x ∧ x < dv) ∧ mOk M' ∧ FI (fun y => y = a ∨ y = Y) M M' ∧ ∃ t, Nt M' a Y Cy t ∧ dn (mI M Y) s = dv * dn (mI M' Y) t + x) from
    HH s 0 M (Nat.le_refl _) ⟨by omega, by omega⟩ hO FI.refl h3 (fun _ _ => rfl) (by rw [Int.sub_self, Int.mul_zero, Int.zero_mul]; omega)
  intro i
  induction i with
  | zero =>
    intro r M1 hi hr o F L E V
    refine k_Na_divideSmall_10 o (l30i ⟨by omega, hd.2⟩) (c30 ⟨hr.1, by omega⟩) ⟨by omega, by omega⟩ ⟨fun _ => ?_, fun y => absurd (Or.inl (by omega)) y⟩
    refine s_ds56 (M := M1) (v := dn (mI M1 Y) s) (hl.fi F) ⟨hr.1, by omega⟩ (fun M' t o' F' T' V' => ⟨hr, o', (F.mono (fun _ u => Or.inr u)).trans (F'.mono (fun _ u => Or.inl u)), t, T', ?_⟩) s M1 h2 o FI.refl (by rw [F.2.2.2.2.2.2 a ne]; exact h1) L rfl
    · rw [V']
      have e0 : (2 : Int) ^ (30 * 0) = 1 := by decide
      have e1 : dn (mI M Y) 0 = 0 := rfl
      rw [e0, e1, Int.sub_zero, Int.mul_one, Int.add_zero] at V
      exact V
  | succ i ih =>
    intro r M1 hi hr o F L E V
    obtain ⟨b1, b2, b3⟩ := dv_bd hd hr (L i (by omega))
    refine k_Na_divideSmall_10 o (l30i ⟨by omega, hd.2⟩) (c30 ⟨hr.1, by omega⟩) ⟨by omega, by omega⟩ ⟨fun y => absurd y (by omega), fun y => ?_⟩
    rw [F.1, F.2.1, F.2.2.1, r0, nY, show Int.toNat (((i + 1 : Nat) : Int) - 1) = i by omega, j_shl ⟨by omega, by omega⟩, Int.tdiv_eq_ediv_of_nonneg b1.1, Int.tmod_eq_emod_of_nonneg b1.1]
    refine ⟨k0, kY, by omega, ⟨by omega, by omega⟩, by omega, by omega, l30i b2, fun M22 e22 => ⟨by omega, ?_⟩⟩
    rw [show ((i + 1 : Nat) : Int) - 1 + (-1) = ((i : Nat) : Int) - 1 by omega]
    refine ih _ M22 (by omega) b3 (by rw [e22]; exact mOk_UI o (l30i b2)) (F.trans (by rw [e22]; exact FI.ui rfl)) (lim_ui L b2 e22) (fun j hj => by rw [mI_ui Y j e22, if_neg (fun q => by omega)]; exact E j (by omega)) ?_
    rw [dn_ui (M' := M22) (n := s) (by omega) e22, Int.emod_def, E i (by omega)]
    rw [dn_s, p30] at V
    exact al_div V
theorem s_Na_modulo {dv : Int} (hd : 0 < dv ∧ dv < 1073741824) (hO : mOk M) (h : Nt M a Y Cy s) : Ci G y_Na_modulo d [vr a, vi dv] M (fun x M' => M' = M ∧ 0 ≤ x ∧ x < dv) := by
  obtain ⟨hl, h1, h2, h3, h4⟩ := id h
  obtain ⟨k0, r0, kY, nY, ⟨c1, c2⟩, ne, z1, z2⟩ := id hl
  refine k_Na_modulo hO (l30i ⟨by omega, hd.2⟩) ⟨k0, ?_⟩
  rw [h1]
  suffices HH : ∀ (i : Nat) (r : Int), i ≤ s → (0 ≤ r ∧ r < dv) → h_Na_modulo_10 G d a dv r ((i : Int) - 1) M (fun x M' => M' = M ∧ 0 ≤ x ∧ x < dv) from
    HH s 0 (Nat.le_refl _) ⟨by omega, by omega⟩
  intro i
  induction i with
  | zero =>
    intro r hi hr
    exact k_Na_modulo_10 hO (l30i ⟨by omega, hd.2⟩) (c30 ⟨hr.1, by omega⟩) ⟨by omega, by omega⟩ ⟨fun _ => ⟨rfl, hr⟩, fun y => absurd (Or.inl (by omega)) y⟩
  | succ i ih =>
    intro r hi hr
    obtain ⟨b1, b2, b3⟩ := dv_bd hd hr (h3 i (by omega))
    refine k_Na_modulo_10 hO (l30i ⟨by omega, hd.2⟩) (c30 ⟨hr.1, by omega⟩) ⟨by omega, by omega⟩ ⟨fun y => absurd y (by omega), fun y => ?_⟩
    rw [r0, nY, show Int.toNat (((i + 1 : Nat) : Int) - 1) = i by omega, j_shl ⟨by omega, by omega⟩, Int.tmod_eq_emod_of_nonneg b1.1]
    refine ⟨k0, kY, by omega, ⟨by omega, by omega⟩, by omega, ?_⟩
    rw [show ((i + 1 : Nat) : Int) - 1 + (-1) = ((i : Nat) : Int) - 1 by omega]
    exact ih _ (by omega) b3
theorem p2m {m k : Nat} (h : m ≤ k) : (2 : Int) ^ m ≤ 2 ^ k := by
  obtain ⟨t, rfl⟩ := Nat.le.dest h
  rw [Int.pow_add]
  have h1 : (1 : Int) ≤ 2 ^ t := Int.pow_pos (by decide)
  have h2 := Int.mul_le_mul_of_nonneg_left h1 (Int.le_of_lt (show (0 : Int) < 2 ^ m from Int.pow_pos (by decide)))
  omega
theorem p2l {m k : Nat} (h : (2 : Int) ^ m < 2 ^ k) : m < k := Classical.byContradiction (fun u => by
  have := p2m (m := k) (k := m) (by omega)
  omega)
/-- how many bits a number has -/
theorem s_Na_bits (hO : mOk M) (h : Nt M a Y Cy s) : Ci G y_Na_bits (d + 1) [vr a] M (fun x M' => M' = M ∧ ∃ n : Nat, x = ((n : Nat) : Int) ∧ n ≤ 30 * s ∧ dn (mI M Y) s < 2 ^ n ∧ (0 < s → 30 * (s - 1) < n ∧ 2 ^ (n - 1) ≤ dn (mI M Y) s) ∧ (s = 0 → n = 0)) := by
  obtain ⟨hl, h1, h2, h3, h4⟩ := id h
  obtain ⟨k0, r0, kY, nY, ⟨c1, c2⟩, ne, z1, z2⟩ := id hl
  refine k_Na_bits hO ?_
  rw [h1, r0, nY]
  refine ⟨k0, fun y => ⟨rfl, 0, rfl, by omega, ?_, fun u => absurd u (by omega), fun _ => rfl⟩, fun y => ⟨kY, by omega, ?_⟩⟩
  · rw [show s = 0 by omega]
    exact (by decide : (0 : Int) < 2 ^ 0)
  · obtain ⟨t, rfl⟩ : ∃ t, s = t + 1 := ⟨s - 1, by omega⟩
    rw [show Int.toNat (((t + 1 : Nat) : Int) - 1) = t by omega]
    have ht := h3 t (by omega)
    have h0 : mI M Y t ≠ 0 := h4 (by omega)
    have hnn := dn_nn (n := t) (fun j hj => h3 j (by omega))
    have hlt := dn_lt (n := t) (fun j hj => h3 j (by omega))
    have hp := p30p t
    refine (s_nlz (by omega) (l30i ht) hO).mono (fun x M' q => ?_)
    obtain ⟨e, k, ek, k31, q1, q2⟩ := q
    rw [e]
    have kk : 31 - k < 30 := p2l (by rw [show (2 : Int) ^ 30 = 1073741824 by decide]; exact Int.lt_of_le_of_lt q1 ht.2)
    refine ⟨⟨by omega, by omega⟩, hO, rfl, 30 * (t + 1) + 2 - k, by omega, by omega, ?_, fun _ => ⟨by omega, ?_⟩, fun u => absurd u (by omega)⟩
    · rw [show 30 * (t + 1) + 2 - k = (32 - k) + 30 * t by omega, Int.pow_add, dn_s]
      have a1 := Int.mul_le_mul_of_nonneg_right (show mI M Y t + 1 ≤ 2 ^ (32 - k) by omega) (Int.le_of_lt hp)
      rw [Int.add_mul] at a1
      omega
    · rw [show 30 * (t + 1) + 2 - k - 1 = (31 - k) + 30 * t by omega, Int.pow_add, dn_s]
      have a1 := Int.mul_le_mul_of_nonneg_right q1 (Int.le_of_lt hp)
      omega
end NAG
end
section
/-! The class's natural numbers: the bits from one on. -/
theorem bf_pure {N E P a0 a1 a2 : Int} {r : Nat} (hr : r < 30) (eN : N = E + P * (a0 + 1073741824 * (a1 + 1073741824 * a2))) (hE : 0 ≤ E ∧ E < P) : N / (P * 2 ^ r) = a0 / 2 ^ r + a1 * 2 ^ (30 - r) + a2 * 2 ^ (60 - r) := by
  have h1 : (2 : Int) ^ r * 2 ^ (30 - r) = 1073741824 := by rw [← Int.pow_add, show r + (30 - r) = 30 by omega]; decide
  have h2 : (2 : Int) ^ r * 2 ^ (60 - r) = 1073741824 * 1073741824 := by rw [← Int.pow_add, show r + (60 - r) = 60 by omega]; decide
  have hp : (0 : Int) < 2 ^ r := Int.pow_pos (by decide)
  rw [← Int.ediv_ediv_of_nonneg (by omega), eN, Int.add_mul_ediv_left _ _ (by omega), Int.ediv_eq_zero_of_lt hE.1 hE.2, Int.zero_add]
  have e : a0 + 1073741824 * (a1 + 1073741824 * a2) = a0 + 2 ^ r * (a1 * 2 ^ (30 - r) + a2 * 2 ^ (60 - r)) := by
    rw [Int.mul_add (2 ^ r), Int.mul_left_comm (2 ^ r) a1, h1, Int.mul_left_comm (2 ^ r) a2, h2]
    omega
  rw [e, Int.add_mul_ediv_left _ _ (by omega), Int.add_assoc]
theorem bf_top {N E P a0 a1 a2 : Int} {r : Nat} (eN : N = E + P * (a0 + 1073741824 * (a1 + 1073741824 * a2))) (hE : 0 ≤ E) (hP : 0 < P) (h0 : 0 ≤ a0) (h1 : 0 ≤ a1) (hN : N < P * (2 ^ r * 1152921504606846976)) : a2 < 2 ^ r := by
  have e1 : P * (a0 + 1073741824 * (a1 + 1073741824 * a2)) < P * (2 ^ r * 1152921504606846976) := by omega
  have e2 := Int.lt_of_mul_lt_mul_left e1 (Int.le_of_lt hP)
  omega
theorem sh_bd {x : Int} {k m : Nat} (h0 : 0 ≤ x) (h : x < 2 ^ m) (hk : m + k ≤ 60) : 0 ≤ x * 2 ^ k ∧ x * 2 ^ k < 1152921504606846976 := by
  have hp : (0 : Int) < 2 ^ k := Int.pow_pos (by decide)
  refine ⟨Int.mul_nonneg h0 (Int.le_of_lt hp), ?_⟩
  have h1 : x * 2 ^ k < 2 ^ m * 2 ^ k := Int.mul_lt_mul_of_pos_right h hp
  rw [← Int.pow_add] at h1
  have h2 : (2 : Int) ^ (m + k) ≤ 2 ^ 60 := by
    obtain ⟨t, ht⟩ := Nat.le.dest hk
    rw [← ht, Int.pow_add _ (m + k)]
    have h3 : (1 : Int) ≤ 2 ^ t := Int.pow_pos (by decide)
    have h4 := Int.mul_le_mul_of_nonneg_left h3 (Int.le_of_lt (show (0 : Int) < 2 ^ (m + k) from Int.pow_pos (by decide)))
    omega
  have h5 : (2 : Int) ^ 60 = 1152921504606846976 := by decide
  omega
theorem j_shlk {x : Int} (k : Nat) (hk : k < 64) (h : i64 (x * 2 ^ k)) : shlL x (k : Int) = x * 2 ^ k := by
  have e1 : ∀ k : Nat, k < 64 → ((((Int32.ofInt (k : Int)).toInt64 &&& 63).toBitVec.smod 64)) = BitVec.ofNat 64 k := by decide
  unfold shlL
  show ((BitVec.ofInt 64 x) <<< ((((Int32.ofInt (k : Int)).toInt64 &&& 63).toBitVec.smod 64))).toInt = _
  rw [e1 k hk]
  have e : (BitVec.ofInt 64 x) <<< (BitVec.ofNat 64 k) = BitVec.ofInt 64 (x * 2 ^ k) := by
    rw [BitVec.shiftLeft_eq', BitVec.toNat_ofNat, Nat.mod_eq_of_lt (by omega), BitVec.ofInt_mul, BitVec.shiftLeft_eq_mul_twoPow]
    congr 1
    apply BitVec.eq_of_toNat_eq
    rw [BitVec.toNat_twoPow, BitVec.toNat_ofInt]
    norm_cast
  rw [e]
  exact i64_toInt h
section NAH
variable {G : mG} {d a Y Cy s : Nat} {M : mM}
/-- a limb, 0 where there is none -/
def lb (f : Nat → Int) (s j : Nat) : Int := if j < s then f j else 0
theorem lb_dn {f : Nat → Int} {s n : Nat} (h : s ≤ n) : dn (lb f s) n = dn f s := by
  rw [dn_z (s := s) h (fun j h1 _ => by unfold lb; rw [if_neg (by omega)])]
  exact dn_cg s (fun j hj => by unfold lb; rw [if_pos hj])
theorem lb_l {f : Nat → Int} {s j : Nat} (h : lms f s) : 0 ≤ lb f s j ∧ lb f s j < 1073741824 := by
  unfold lb
  by_cases u : j < s
  · rw [if_pos u]; exact h j u
  · rw [if_neg u]; omega
theorem lb_3 {f : Nat → Int} {q : Nat} : dn f (q + 3) = dn f q + 2 ^ (30 * q) * (f q + 1073741824 * (f (q + 1) + 1073741824 * f (q + 2))) := by
  show dn f q + f q * 2 ^ (30 * q) + f (q + 1) * 2 ^ (30 * (q + 1)) + f (q + 2) * 2 ^ (30 * (q + 1 + 1)) = _
  rw [p30 (q + 1), p30 q]
  generalize (2 : Int) ^ (30 * q) = p
  grind
theorem s_Na_bitsFrom {bit : Nat} (hO : mOk M) (h : Nt M a Y Cy s) (hb : bit ≤ 1000000000) (hv : dn (mI M Y) s < 2 ^ (bit + 60)) : Cj G y_Na_bitsFrom d [vr a, vi bit] M (fun x M' => M' = M ∧ x = dn (mI M Y) s / 2 ^ bit) := by
  obtain ⟨hl, h1, h2, h3, h4⟩ := id h
  obtain ⟨k0, r0, kY, nY, ⟨c1, c2⟩, ne, z1, z2⟩ := id hl
  obtain ⟨q, r, eb, hr⟩ : ∃ q r, bit = 30 * q + r ∧ r < 30 := ⟨bit / 30, bit % 30, by omega, by omega⟩
  have sq : s ≤ q + 3 := by
    refine Classical.byContradiction (fun u => ?_)
    obtain ⟨t, rfl⟩ : ∃ t, s = t + 1 := ⟨s - 1, by omega⟩
    have a1 := dn_ge h3 (h4 (by omega))
    have a2 := p2m (m := bit + 60) (k := 30 * t) (by omega)
    omega
  have l0 := lb_l (j := q) h3
  have l1 := lb_l (j := q + 1) h3
  have l2 := lb_l (j := q + 2) h3
  have eN : dn (mI M Y) s = dn (lb (mI M Y) s) q + 2 ^ (30 * q) * (lb (mI M Y) s q + 1073741824 * (lb (mI M Y) s (q + 1) + 1073741824 * lb (mI M Y) s (q + 2))) := by rw [← lb_3, lb_dn sq]
  have hE : 0 ≤ dn (lb (mI M Y) s) q ∧ dn (lb (mI M Y) s) q < 2 ^ (30 * q) := ⟨dn_nn (fun j _ => lb_l h3), dn_lt (fun j _ => lb_l h3)⟩
  have t2 : lb (mI M Y) s (q + 2) < 2 ^ r := by
    refine bf_top eN hE.1 (p30p q) l0.1 l1.1 ?_
    rw [eb, show 30 * q + r + 60 = 30 * q + (r + 60) by omega, Int.pow_add, Int.pow_add] at hv
    exact hv
  have ans := bf_pure hr eN hE
  rw [← Int.pow_add, ← eb] at ans
  have ir : (r : Int) < 30 := by omega
  refine k_Na_bitsFrom hO ⟨by omega, by omega⟩ ?_
  rw [show Int.tdiv ((bit : Nat) : Int) 30 = ((q : Nat) : Int) by rw [Int.tdiv_eq_ediv_of_nonneg (by omega)]; omega, show Int.tmod ((bit : Nat) : Int) 30 = ((r : Nat) : Int) by rw [Int.tmod_eq_emod_of_nonneg (by omega)]; omega, h1, r0, nY, show ((q : Nat) : Int) + 1 = ((q + 1 : Nat) : Int) by omega, show ((q : Nat) : Int) + 2 = ((q + 2 : Nat) : Int) by omega, Int.toNat_natCast, Int.toNat_natCast, Int.toNat_natCast, show (30 : Int) - ((r : Nat) : Int) = ((30 - r : Nat) : Int) by omega, show (60 : Int) - ((r : Nat) : Int) = ((60 - r : Nat) : Int) by omega, j_sh1 r (by omega)]
  refine ⟨k0, fun y => ⟨kY, by omega⟩, fun v5 e5 => ⟨⟨by omega, by omega⟩, fun y => ⟨kY, by omega⟩, fun v12 e12 => ⟨⟨by omega, by omega⟩, fun y => ⟨kY, by omega⟩, fun v19 e19 => ⟨rfl, ?_⟩⟩⟩⟩
  rw [ans]
  have f5 : v5 = lb (mI M Y) s q / 2 ^ r := by
    rw [e5]
    unfold lb at l0 ⊢
    by_cases u : q < s
    · rw [if_neg (by omega), if_pos u]
      rw [if_pos u] at l0
      exact i_ush r (by omega) l0.1 (l30i l0)
    · rw [if_pos (by omega), if_neg u, Int.zero_ediv]
  have f12 : v12 = lb (mI M Y) s (q + 1) * 2 ^ (30 - r) := by
    rw [e12]
    unfold lb at l1 ⊢
    by_cases u : q + 1 < s
    · rw [if_neg (by omega), if_pos u]
      rw [if_pos u] at l1
      have bd := sh_bd (k := 30 - r) (m := 30) l1.1 (by rw [show (2 : Int) ^ 30 = 1073741824 by decide]; exact l1.2) (by omega)
      exact j_shlk (30 - r) (by omega) ⟨by omega, by omega⟩
    · rw [if_pos (by omega), if_neg u, Int.zero_mul]
  have f19 : v19 = lb (mI M Y) s (q + 2) * 2 ^ (60 - r) := by
    rw [e19]
    unfold lb at l2 t2 ⊢
    by_cases u : q + 2 < s
    · rw [if_neg (by omega), if_pos u]
      rw [if_pos u] at l2 t2
      have m1 : (2 : Int) ^ r ≤ 2 ^ 29 := p2m (by omega)
      have m2 : (2 : Int) ^ 29 = 536870912 := by decide
      have m3 : (0 : Int) < 2 ^ r := Int.pow_pos (by decide)
      rw [i_and r (by omega) (2 ^ r - 1) rfl ⟨by omega, by omega⟩, Int.emod_eq_of_lt l2.1 t2]
      have bd := sh_bd (k := 60 - r) (m := r) l2.1 t2 (by omega)
      exact j_shlk (60 - r) (by omega) ⟨by omega, by omega⟩
    · rw [if_pos (by omega), if_neg u, Int.zero_mul]
  rw [f5, f12, f19]
end NAH
end
section
/-! The class's natural numbers: a multiple of the divisor is taken off (Knuth's step). -/
section NAI
variable {G : mG} {d a b c Y Cy s n m X Cx w K e : Nat} {M M' M1 M2 M3 : mM} {v U V g : Int}
/-- the window's value -/
def wn (M : mM) (Y e n : Nat) : Int := dn (fun j => mI M Y (e + j)) n
theorem wn_ui {i : Nat} {x : Int} (hi : i < n) (q : M' = mUI M Y (e + i) x) : wn M' Y e n = wn M Y e n + (x - mI M Y (e + i)) * 2 ^ (30 * i) := by
  unfold wn
  have h := dn_up (f := fun j => mI M Y (e + j)) (g := fun j => mI M' Y (e + j)) hi (fun j _ hj' => by show mI M' Y (e + j) = mI M Y (e + j); rw [mI_ui Y (e + j) q, if_neg (fun u => hj' (by omega))])
  rw [h]
  show _ + (mI M' Y (e + i) - mI M Y (e + i)) * _ = _
  rw [mI_ui Y (e + i) q, if_pos ⟨rfl, rfl⟩]
theorem wn_cg (h : ∀ j, j < n → mI M' Y (e + j) = mI M Y (e + j)) : wn M' Y e n = wn M Y e n := dn_cg n h
theorem wn_nn (L : lim M Y K) (h : e + n ≤ K) : 0 ≤ wn M Y e n := dn_nn (fun j hj => L (e + j) (by omega))
theorem wn_lt (L : lim M Y K) (h : e + n ≤ K) : wn M Y e n < 2 ^ (30 * n) := dn_lt (fun j hj => L (e + j) (by omega))
/-- what a step leaves behind -/
def tmQ (M : mM) (Y K e n : Nat) (U V : Int) (x : Int) (M' : mM) : Prop := mOk M' ∧ FI (fun y => y = Y) M M' ∧ (0 ≤ x ∧ x < 1073741824) ∧ (∀ j, (j < e ∨ e + n < j) → mI M' Y j = mI M Y j) ∧ mI M' Y (e + n) = 0 ∧ lim M' Y K ∧ wn M' Y e n = U - x * V ∧ wn M' Y e n < V
theorem tm_hi {W p k R V : Int} (hW : 0 ≤ W ∧ W < p) (e : R = W + k * p) (hR : 0 ≤ R ∧ R < p) : k = 0 := by
  refine Classical.byContradiction (fun u => ?_)
  rcases (show 1 ≤ k ∨ k ≤ -1 by omega) with q | q
  · have := Int.mul_le_mul_of_nonneg_right (c := p) q (by omega)
    omega
  · have := Int.mul_le_mul_of_nonneg_right (c := p) q (by omega)
    omega
/-- the divisor comes back once -/
theorem s_tm234 {q0 W1 : Int} (h : Nl M a Y Cy) (k : Nt M b X Cx n) (hK : e + n < K) (hC : K ≤ Cy) (bY : b ≠ Y) (XY : X ≠ Y) (hg : 1 ≤ g ∧ g < 1073741824)
    (eR : U - (g - 1) * V = W1 + q0 * 2 ^ (30 * n) + V) (eV : V = dn (mI M X) n) (hR : 0 ≤ U - (g - 1) * V ∧ U - (g - 1) * V < V) : ∀ (t i : Nat) (c : Int) (M1 : mM), n ≤ i + t → i ≤ n → (0 ≤ c ∧ c ≤ 1) → mOk M1 → FI (fun x => x = Y) M M1 → lim M1 Y K → (∀ j, (j < e ∨ e + n < j) → mI M1 Y j = mI M Y j) → mI M1 Y (e + n) = 0 → wn M1 Y e n + c * 2 ^ (30 * i) = W1 + dn (mI M X) i → h_Na_takeMultiple_234 G d a b e n g c i M1 (tmQ M Y K e n U V) := by
  obtain ⟨⟨l0, p0, kX, nX, ⟨e1, e2⟩, -, y1, y2⟩, g1, g2, g3, g4⟩ := id k
  have cb := h.2.2.2.2.1.2
  have fin : ∀ (c : Int) (M1 : mM), (0 ≤ c ∧ c ≤ 1) → mOk M1 → FI (fun x => x = Y) M M1 → lim M1 Y K → (∀ j, (j < e ∨ e + n < j) → mI M1 Y j = mI M Y j) → mI M1 Y (e + n) = 0 → wn M1 Y e n + c * 2 ^ (30 * n) = W1 + dn (mI M X) n → tmQ M Y K e n U V (g - 1) M1 := by
    intro c M1 gc o F L E Z W
    have wl := wn_nn L (show e + n ≤ K by omega)
    have wh := wn_lt L (show e + n ≤ K by omega)
    have Vl := dn_lt g3
    have eR2 : U - (g - 1) * V = wn M1 Y e n + (c + q0) * 2 ^ (30 * n) := by
      rw [eR, eV, Int.add_mul]
      omega
    have z0 := tm_hi (V := V) ⟨wl, wh⟩ eR2 ⟨hR.1, by omega⟩
    rw [z0, Int.zero_mul, Int.add_zero] at eR2
    exact ⟨o, F, ⟨by omega, by omega⟩, E, Z, L, eR2.symm, by omega⟩
  intro t
  induction t with
  | zero =>
    intro i c M1 h1 h2 gc o F L E Z W
    have ei : i = n := by omega
    subst ei
    exact k_Na_takeMultiple_234 o ⟨by omega, by omega⟩ ⟨by omega, by omega⟩ ⟨by omega, by omega⟩ ⟨by omega, by omega⟩ ⟨by omega, by omega⟩ ⟨fun _ => fin c M1 gc o F L E Z W, fun y => absurd (Int.le_refl _) y⟩
  | succ t ih =>
    intro i c M1 h1 h2 gc o F L E Z W
    by_cases ei : i = n
    · exact ih i c M1 (by omega) h2 gc o F L E Z W
    have iX : mI M1 X = mI M X := F.2.2.2.2.2.2 X XY
    have Li := L (e + i) (by omega)
    have Xi := g3 i (by omega)
    have bd : i64 (c + (mI M1 Y (e + i) + mI M X i)) := ⟨by omega, by omega⟩
    refine k_Na_takeMultiple_234 o ⟨by omega, by omega⟩ ⟨by omega, by omega⟩ ⟨by omega, by omega⟩ ⟨by omega, by omega⟩ ⟨by omega, by omega⟩ ⟨fun y => absurd y (by omega), fun y => ?_⟩
    rw [F.1, F.2.1, F.2.2.1, h.2.1, h.2.2.2.1, p0, nX, iX, show ((e : Nat) : Int) + ((i : Nat) : Int) = ((e + i : Nat) : Int) by omega, Int.toNat_natCast, Int.toNat_natCast, j_and, j_shr bd]
    refine ⟨h.1, h.2.2.1, by omega, l0, kX, by omega, ⟨by omega, by omega⟩, by omega, m30i _, fun M27 e27 => ?_⟩
    rw [show ((i : Int) + 1) = ((i + 1 : Nat) : Int) by omega]
    refine ih (i + 1) _ M27 (by omega) (by omega) ⟨by omega, by omega⟩ (by rw [e27]; exact mOk_UI o (m30i _)) (F.trans (by rw [e27]; exact FI.ui rfl)) (lim_ui L (m30 _) e27) (fun j hj => by rw [mI_ui Y j e27, if_neg (fun q => by omega)]; exact E j hj) (by rw [mI_ui Y (e + n) e27, if_neg (fun q => by omega)]; exact Z) ?_
    rw [c_st (i := i) (wn_ui (M' := M27) (show i < n by omega) e27), dn_s (mI M X) i]
    have := al_add (D1 := wn M1 Y e n) (D0 := W1) (c := c) (f := 1) (l := mI M1 Y (e + i)) (p := 2 ^ (30 * i)) (e := dn (mI M X) i) (x := mI M X i) (by rw [Int.one_mul]; exact W)
    rw [Int.one_mul, Int.one_mul] at this
    exact this
theorem sb_bd {f c l x : Int} (hf : 0 ≤ f ∧ f < 1073741824) (hc : -1073741824 ≤ c ∧ c ≤ 0) (hl : 0 ≤ l ∧ l < 1073741824) (hx : 0 ≤ x ∧ x < 1073741824) : i64 (c + (l - f * x)) ∧ -1073741824 ≤ (c + (l - f * x)) / 1073741824 ∧ (c + (l - f * x)) / 1073741824 ≤ 0 := by
  have h1 := Int.mul_nonneg hf.1 hx.1
  have h2 : f * x ≤ 1073741823 * x := Int.mul_le_mul_of_nonneg_right (by omega) hx.1
  unfold i64
  omega
/-- the multiple is taken off -/
theorem s_tm132 (h : Nl M a Y Cy) (k : Nt M b X Cx n) (hK : e + n < K) (hC : K ≤ Cy) (bY : b ≠ Y) (XY : X ≠ Y) (hg : 0 ≤ g ∧ g < 1073741824) (hL : lim M Y K) (eU : U = wn M Y e (n + 1)) (eV : V = dn (mI M X) n) (hV : 0 < V) (q1 : U < (g + 1) * V) (q0 : (g - 1) * V ≤ U) : ∀ (t i : Nat) (c : Int) (M1 : mM), n ≤ i + t → i ≤ n → (-1073741824 ≤ c ∧ c ≤ 0) → mOk M1 → FI (fun x => x = Y) M M1 → lim M1 Y K → (∀ j, (j < e ∨ e + n ≤ j) → mI M1 Y j = mI M Y j) → wn M1 Y e n + c * 2 ^ (30 * i) = wn M Y e n - g * dn (mI M X) i → h_Na_takeMultiple_132 G d a b e n g c i M1 (tmQ M Y K e n U V) := by
  obtain ⟨⟨l0, p0, kX, nX, ⟨e1, e2⟩, -, y1, y2⟩, g1, g2, g3, g4⟩ := id k
  have cb := h.2.2.2.2.1.2
  intro t
  induction t with
  | zero =>
    intro i c M1 h1 h2 gc o F L E W
    have ei : i = n := by omega
    subst ei
    have En : mI M1 Y (e + i) = mI M Y (e + i) := E (e + i) (Or.inr (Nat.le_refl _))
    have Ln := hL (e + i) (by omega)
    have eU2 : U = wn M Y e i + mI M Y (e + i) * 2 ^ (30 * i) := eU
    have R : U - g * V = wn M1 Y e i + (c + mI M Y (e + i)) * 2 ^ (30 * i) := by
      rw [eU2, eV, Int.add_mul]
      omega
    have wl := wn_nn L (show e + i ≤ K by omega)
    have wh := wn_lt L (show e + i ≤ K by omega)
    have Vl := dn_lt g3
    have kq := kn_q q1 q0 R
    have hp := p30p i
    refine k_Na_takeMultiple_132 o ⟨by omega, by omega⟩ ⟨by omega, by omega⟩ ⟨by omega, by omega⟩ ⟨by omega, by omega⟩ ⟨by omega, by omega⟩ ⟨fun _ => ?_, fun y => absurd (Int.le_refl _) y⟩
    rw [F.1, F.2.1, F.2.2.1, h.2.1, h.2.2.2.1, show ((e : Nat) : Int) + ((i : Nat) : Int) = ((e + i : Nat) : Int) by omega, Int.toNat_natCast, En]
    refine ⟨h.1, h.2.2.1, by omega, by omega, fun M46 e46 => ⟨⟨by omega, by omega⟩, fun y => ?_, fun y => ?_⟩⟩
    · have neg := j_cn.1 y
      have o46 : mOk M46 := by rw [e46]; exact mOk_UI o ⟨by decide, by decide⟩
      have F46 : FI (fun x => x = Y) M M46 := F.trans (by rw [e46]; exact FI.ui rfl)
      have W46 : wn M46 Y e i = wn M1 Y e i := wn_cg (fun j hj => by rw [mI_ui Y (e + j) e46, if_neg (fun q => by omega)])
      have Rn : wn M1 Y e i + (c + mI M Y (e + i)) * 2 ^ (30 * i) < 0 := by
        have := Int.mul_le_mul_of_nonneg_right (show c + mI M Y (e + i) ≤ -1 by omega) (Int.le_of_lt hp)
        omega
      have hg1 : 1 ≤ g := by
        refine Classical.byContradiction (fun u => ?_)
        have : g = 0 := by omega
        rw [this, Int.zero_mul, Int.sub_zero] at R
        have := wn_nn hL (show e + (i + 1) ≤ K by omega)
        omega
      have r1 := kq.2 Rn
      refine s_tm234 (q0 := c + mI M Y (e + i)) (W1 := wn M1 Y e i) h k hK hC bY XY ⟨hg1, hg.2⟩ (by rw [Int.sub_mul, Int.one_mul]; omega) eV (by rw [Int.sub_mul, Int.one_mul]; omega) i 0 0 M46 (by omega) (by omega) ⟨by decide, by decide⟩ o46 F46 (lim_ui L ⟨by decide, by decide⟩ e46) (fun j hj => by rw [mI_ui Y j e46, if_neg (fun q => by omega)]; exact E j (by omega)) (by rw [mI_ui Y (e + i) e46, if_pos ⟨rfl, rfl⟩]) (by rw [W46]; show _ + 0 * _ = _ + (0 : Int); rw [Int.zero_mul])
    · have pos : 0 ≤ c + mI M Y (e + i) := by
        refine Classical.byContradiction (fun u => y (j_cn.2 (by omega)))
      have Rp : 0 ≤ wn M1 Y e i + (c + mI M Y (e + i)) * 2 ^ (30 * i) := by
        have := Int.mul_nonneg pos (Int.le_of_lt hp)
        omega
      have r1 := kq.1 Rp
      have z0 := tm_hi (V := V) ⟨wl, wh⟩ R ⟨by omega, by omega⟩
      have W46 : wn M46 Y e i = wn M1 Y e i := wn_cg (fun j hj => by rw [mI_ui Y (e + j) e46, if_neg (fun q => by omega)])
      rw [z0, Int.zero_mul, Int.add_zero] at R r1
      refine ⟨by rw [e46]; exact mOk_UI o ⟨by decide, by decide⟩, F.trans (by rw [e46]; exact FI.ui rfl), hg, fun j hj => by rw [mI_ui Y j e46, if_neg (fun q => by omega)]; exact E j (by omega), by rw [mI_ui Y (e + i) e46, if_pos ⟨rfl, rfl⟩], lim_ui L ⟨by decide, by decide⟩ e46, by rw [W46]; exact R.symm, by rw [W46]; exact r1⟩
  | succ t ih =>
    intro i c M1 h1 h2 gc o F L E W
    by_cases ei : i = n
    · exact ih i c M1 (by omega) h2 gc o F L E W
    have iX : mI M1 X = mI M X := F.2.2.2.2.2.2 X XY
    obtain ⟨b0, b1, b2⟩ := sb_bd hg gc (L (e + i) (by omega)) (g3 i (by omega))
    refine k_Na_takeMultiple_132 o ⟨by omega, by omega⟩ ⟨by omega, by omega⟩ ⟨by omega, by omega⟩ ⟨by omega, by omega⟩ ⟨by omega, by omega⟩ ⟨fun y => absurd y (by omega), fun y => ?_⟩
    rw [F.1, F.2.1, F.2.2.1, h.2.1, h.2.2.2.1, p0, nX, iX, show ((e : Nat) : Int) + ((i : Nat) : Int) = ((e + i : Nat) : Int) by omega, Int.toNat_natCast, Int.toNat_natCast, j_and, j_shr b0]
    refine ⟨h.1, h.2.2.1, by omega, l0, kX, by omega, by omega, m30i _, fun M27 e27 => ?_⟩
    rw [show ((i : Int) + 1) = ((i + 1 : Nat) : Int) by omega]
    refine ih (i + 1) _ M27 (by omega) (by omega) ⟨b1, b2⟩ (by rw [e27]; exact mOk_UI o (m30i _)) (F.trans (by rw [e27]; exact FI.ui rfl)) (lim_ui L (m30 _) e27) (fun j hj => by rw [mI_ui Y j e27, if_neg (fun q => by omega)]; exact E j hj) ?_
    rw [c_st (i := i) (wn_ui (M' := M27) (show i < n by omega) e27), dn_s (mI M X) i]
    exact al_sub W
end NAI
end
section
/-! The class's natural numbers: the guess, and the step as a whole. -/
section NAJ
variable {G : mG} {d a b c Y Cy s n m X Cx w K e : Nat} {M M' M1 M2 M3 : mM} {v U V g : Int}
theorem g_bd {g v2 : Int} (hg : 0 ≤ g ∧ g < 1073741824) (h : 0 ≤ v2 ∧ v2 < 1073741824) : i64 (g * v2) := by
  have h1 := Int.mul_nonneg hg.1 h.1
  have h2 : g * v2 ≤ 1073741823 * v2 := Int.mul_le_mul_of_nonneg_right (by omega) h.1
  unfold i64
  omega
/-- what the guess stands on -/
def gsS (P U V two u2 Ul v1 v2 Vl : Int) : Prop := 0 < P ∧ U = (two * 1073741824 + u2) * P + Ul ∧ V = (v1 * 1073741824 + v2) * P + Vl ∧ (0 ≤ Ul ∧ Ul < P) ∧ (0 ≤ u2 ∧ u2 < 1073741824) ∧ (0 ≤ v2 ∧ v2 < 1073741824) ∧ (0 ≤ Vl ∧ Vl < P) ∧ (1073741824 ≤ 2 * v1 ∧ v1 < 1073741824) ∧ U < V * 1073741824
theorem s_tm68 {P two u2 Ul v1 v2 Vl : Int} {Q : Int → mM → Prop} (S : gsS P U V two u2 Ul v1 v2 Vl) (hO : mOk M) (h : Nl M a Y Cy) (k : Nt M b X Cx n) (hn : 2 ≤ n) (hK : e + n < Cy) (e2 : mI M X (n - 2) = v2) (eu : mI M Y (e + n - 2) = u2) (hQ : ∀ g : Int, (0 ≤ g ∧ g < 1073741824) → U < (g + 1) * V → (g - 1) * V ≤ U → h_Na_takeMultiple_132 G d a b e n g 0 0 M Q) : ∀ (t i : Nat) (g : Int), 2 ≤ i + t → i ≤ 2 → (0 ≤ g ∧ g < 1073741824) → U < (g + 1) * V → (g - 2 + i) * V ≤ U → (0 ≤ two - g * v1 ∧ two - g * v1 < 2147483648 + i * 1073741824) → h_Na_takeMultiple_68 G d a b e n v1 g (two - g * v1) i M Q := by
  obtain ⟨hP, eU, eV, ⟨ul0, ul1⟩, ⟨u20, u21⟩, hv2, hVl, hv1, hUV⟩ := S
  obtain ⟨⟨l0, p0, kX, nX, ⟨e1, e2'⟩, -, y1, y2⟩, g1, g2, g3, g4⟩ := id k
  have cb := h.2.2.2.2.1.2
  intro t
  induction t with
  | zero =>
    intro i g h1 h2 hg q1 q0 hr
    have ei : i = 2 := by omega
    subst ei
    refine k_Na_takeMultiple_68 hO ⟨by omega, by omega⟩ ⟨by omega, by omega⟩ ⟨by omega, by omega⟩ ⟨by omega, by omega⟩ ⟨by omega, by omega⟩ ⟨by omega, by omega⟩ ⟨fun y => absurd (by omega) y, fun _ => hQ g hg q1 ?_, fun y => absurd (Or.inl (by omega)) y⟩
    have V0 : 0 ≤ V := by
      rw [eV]
      have := Int.mul_nonneg (show 0 ≤ v1 * 1073741824 + v2 by omega) (Int.le_of_lt hP)
      omega
    rw [show g - 2 + ((2 : Nat) : Int) = g by omega] at q0
    rw [Int.sub_mul, Int.one_mul]
    omega
  | succ t ih =>
    intro i g h1 h2 hg q1 q0 hr
    by_cases ei : i = 2
    · exact ih i g (by omega) h2 hg q1 q0 hr
    refine k_Na_takeMultiple_68 hO ⟨by omega, by omega⟩ ⟨by omega, by omega⟩ ⟨by omega, by omega⟩ ⟨by omega, by omega⟩ ⟨by omega, by omega⟩ ⟨by omega, by omega⟩ ?_
    rw [p0, nX, h.2.1, h.2.2.2.1, show Int.toNat (((n : Nat) : Int) - 2) = n - 2 by omega, show Int.toNat ((((e : Nat) : Int) + ((n : Nat) : Int)) - 2) = e + n - 2 by omega, e2, eu, j_shl ⟨by omega, by omega⟩]
    refine ⟨fun _ => ⟨l0, kX, by omega, h.1, h.2.2.1, by omega, g_bd hg hv2, ⟨by omega, by omega⟩⟩, fun y => ?_, fun y => ?_⟩
    · have y2 : g * v2 ≤ (two - g * v1) * 1073741824 + u2 := by
        rcases y with y | y
        · omega
        · exact j_cle.1 y
      exact hQ g hg q1 (kn_one hP eU eV ul0 hv2.1 hVl (by omega) hg y2)
    · have y2 : (two - g * v1) * 1073741824 + u2 < g * v2 := by
        refine Classical.byContradiction (fun u => y (Or.inr (j_cle.2 (by omega))))
      have gp : 1 ≤ g := by
        refine Classical.byContradiction (fun u => ?_)
        have g0 : g = 0 := by omega
        rw [g0, Int.zero_mul, Int.zero_mul] at y2
        rw [g0, Int.zero_mul] at hr
        omega
      have er : two - g * v1 + v1 = two - (g - 1) * v1 := by rw [Int.sub_mul, Int.one_mul]; omega
      rw [er, show ((i : Int) + 1) = ((i + 1 : Nat) : Int) by omega]
      refine ih (i + 1) (g - 1) (by omega) (by omega) ⟨by omega, by omega⟩ (kn_dec hP eU eV ul1 hVl.1 hg.1 y2) ?_ ⟨by omega, by omega⟩
      rw [show g - 1 - 2 + ((i + 1 : Nat) : Int) = g - 2 + (i : Int) by omega]
      exact q0
theorem two_bd {x y : Int} (hx : 0 ≤ x ∧ x < 1073741824) (hy : 0 ≤ y ∧ y < 1073741824) : 0 ≤ x * 1073741824 + y ∧ x * 1073741824 + y < 1152921504606846976 := by omega
/-- the first guess -/
theorem g_first {two v1 g : Int} (ht : 0 ≤ two) (hv : 0 < v1) (eg : g = if 1073741823 < two / v1 then 1073741823 else two / v1) : (0 ≤ g ∧ g < 1073741824) ∧ g * v1 ≤ two ∧ (g = 1073741823 ∨ two < (g + 1) * v1) := by
  have h0 := Int.ediv_nonneg ht (Int.le_of_lt hv)
  have h1 := Int.ediv_mul_le two (show v1 ≠ 0 by omega)
  have h2 := Int.lt_ediv_add_one_mul_self two hv
  by_cases c : 1073741823 < two / v1
  · rw [if_pos c] at eg
    have h3 : g * v1 ≤ two / v1 * v1 := Int.mul_le_mul_of_nonneg_right (by omega) (Int.le_of_lt hv)
    exact ⟨⟨by omega, by omega⟩, by omega, Or.inl eg⟩
  · rw [if_neg c] at eg
    rw [eg]
    exact ⟨⟨h0, by omega⟩, h1, Or.inr h2⟩
theorem s_Na_takeMultiple (hO : mOk M) (h : Nl M a Y Cy) (k : Nt M b X Cx n) (hn : 2 ≤ n) (hK : e + n < K) (hC : K ≤ Cy) (bY : b ≠ Y) (XY : X ≠ Y) (hL : lim M Y K) (top : 1073741824 ≤ 2 * mI M X (n - 1)) (hU : wn M Y e (n + 1) < dn (mI M X) n * 1073741824) : Ci G y_Na_takeMultiple (d + 1) [vr a, vr b, vi e] M (tmQ M Y K e n (wn M Y e (n + 1)) (dn (mI M X) n)) := by
  obtain ⟨⟨l0, p0, kX, nX, ⟨e1, e2⟩, -, y1, y2⟩, g1, g2, g3, g4⟩ := id k
  have cb := h.2.2.2.2.1.2
  obtain ⟨t, rfl⟩ : ∃ t, n = t + 2 := ⟨n - 2, by omega⟩
  have X1 := g3 (t + 1) (by omega)
  have X2 := g3 t (by omega)
  have Y1 := hL (e + (t + 2)) (by omega)
  have Y2 := hL (e + (t + 1)) (by omega)
  have Y3 := hL (e + t) (by omega)
  have b2 := two_bd Y1 Y2
  have eU : wn M Y e (t + 2 + 1) = ((mI M Y (e + (t + 2)) * 1073741824 + mI M Y (e + (t + 1))) * 1073741824 + mI M Y (e + t)) * 2 ^ (30 * t) + wn M Y e t := by
    show dn (fun j => mI M Y (e + j)) (t + 3) = _
    rw [lb_3]
    show wn M Y e t + 2 ^ (30 * t) * (mI M Y (e + t) + 1073741824 * (mI M Y (e + (t + 1)) + 1073741824 * mI M Y (e + (t + 2)))) = _
    generalize (2 : Int) ^ (30 * t) = p
    rw [Int.mul_comm p, show mI M Y (e + t) + 1073741824 * (mI M Y (e + (t + 1)) + 1073741824 * mI M Y (e + (t + 2))) = (mI M Y (e + (t + 2)) * 1073741824 + mI M Y (e + (t + 1))) * 1073741824 + mI M Y (e + t) by omega]
    omega
  have eV : dn (mI M X) (t + 2) = (mI M X (t + 1) * 1073741824 + mI M X t) * 2 ^ (30 * t) + dn (mI M X) t := by
    show dn (mI M X) t + mI M X t * 2 ^ (30 * t) + mI M X (t + 1) * 2 ^ (30 * (t + 1)) = _
    rw [p30, Int.add_mul, Int.mul_assoc, Int.mul_comm 1073741824]
    omega
  have S : gsS (2 ^ (30 * t)) (wn M Y e (t + 2 + 1)) (dn (mI M X) (t + 2)) (mI M Y (e + (t + 2)) * 1073741824 + mI M Y (e + (t + 1))) (mI M Y (e + t)) (wn M Y e t) (mI M X (t + 1)) (mI M X t) (dn (mI M X) t) := ⟨p30p t, eU, eV, ⟨wn_nn hL (by omega), wn_lt hL (by omega)⟩, Y3, X2, ⟨dn_nn (fun j hj => g3 j (by omega)), dn_lt (fun j hj => g3 j (by omega))⟩, ⟨top, X1.2⟩, hU⟩
  have v1 : 0 < mI M X (t + 1) := by
    have : 1073741824 ≤ 2 * mI M X (t + 1) := top
    omega
  refine k_Na_takeMultiple hO ⟨by omega, by omega⟩ ?_
  rw [g1, p0, nX, h.2.1, h.2.2.2.1, show Int.toNat (((t + 2 : Nat) : Int) - 1) = t + 1 by omega, show ((e : Nat) : Int) + ((t + 2 : Nat) : Int) = ((e + (t + 2) : Nat) : Int) by omega, show Int.toNat (((e + (t + 2) : Nat) : Int) - 1) = e + (t + 1) by omega, Int.toNat_natCast, j_shl ⟨by omega, by omega⟩, Int.tdiv_eq_ediv_of_nonneg b2.1]
  generalize eg : (if 1073741823 < (mI M Y (e + (t + 2)) * 1073741824 + mI M Y (e + (t + 1))) / mI M X (t + 1) then 1073741823 else (mI M Y (e + (t + 2)) * 1073741824 + mI M Y (e + (t + 1))) / mI M X (t + 1)) = g
  obtain ⟨f1, f2, f3⟩ := g_first b2.1 v1 eg.symm
  have dl : (mI M Y (e + (t + 2)) * 1073741824 + mI M Y (e + (t + 1))) / mI M X (t + 1) ≤ mI M Y (e + (t + 2)) * 1073741824 + mI M Y (e + (t + 1)) := Int.ediv_le_self _ b2.1
  have dp := Int.ediv_nonneg b2.1 (Int.le_of_lt v1)
  refine ⟨l0, kX, by omega, h.1, h.2.2.1, by omega, by omega, ⟨by omega, by omega⟩, by omega, ⟨by omega, by omega⟩, ?_⟩
  obtain ⟨hP, -, -, ⟨ul0, ul1⟩, ⟨u20, u21⟩, hv2, hVl, hv1, hUV⟩ := id S
  have V0 : 0 < dn (mI M X) (t + 2) := by
    have h1 : 2 ^ (30 * (t + 1)) ≤ dn (mI M X) (t + 2) := dn_ge g3 (g4 (by omega))
    exact Int.lt_of_lt_of_le (p30p (t + 1)) h1
  refine s_tm68 S hO h k hn (by omega) rfl (by rw [show e + (t + 2) - 2 = e + t by omega]) (fun g' hg' q1 q0 => ?_) 2 0 g (by omega) (by omega) f1 (kn_up hP eU eV ul1 u21 hv2.1 hVl.1 hUV f1.1 f3) ?_ ?_
  · exact s_tm132 h k hK hC bY XY hg' hL rfl rfl V0 q1 q0 (t + 2) 0 0 M (by omega) (by omega) ⟨by decide, by decide⟩ hO FI.refl hL (fun _ _ => rfl) (by show _ + 0 * _ = _ - _ * (0 : Int); rw [Int.zero_mul, Int.mul_zero, Int.add_zero, Int.sub_zero])
  · rw [show g - 2 + ((0 : Nat) : Int) = g - 2 by omega]
    exact kn_dn hP eU eV ul0 u20 hv2 hVl hv1.1 f1 f2
  · have := kn_rest hP eU eV ul0 u20 hv2.2 hVl.2 hv1.2 hUV f2 f3
    exact ⟨this.1, by omega⟩
end NAJ
end
