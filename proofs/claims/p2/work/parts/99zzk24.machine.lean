section
section
/-! The class's machine: places, push. -/
section MAA
variable {G : mG} {d z m U Ab Be C Ab0 Be0 C0 t c p O P K : Nat} {M0 M M' M1 M2 : mM} {S R : Nat → Prop}
theorem s_JA_copyOf {a l : Nat} (hO : mOk M) (hK : mK M a = 30) (ha : a < mZ M) (hl : mN M a < l) (hl2 : l ≤ 16777216) : Cr G y_JA_copyOf (d + 1) [vr a, vi l] M (fun x M' => x = mZ M ∧ mOk M' ∧ FA (fun _ => False) (fun _ => False) M M' ∧ mZ M' = mZ M + 1 ∧ mS M' = mS M + l ∧ mK M' (mZ M) = 30 ∧ mN M' (mZ M) = l ∧ ∀ j, j < mN M a → mI M' (mZ M) j = mI M a j) := by
  refine k_JA_copyOf hO ⟨by omega, by omega⟩ ⟨hK, ⟨by omega, by omega⟩, fun y => absurd y (by omega), fun _ => ⟨⟨by omega, by omega⟩, fun M7 e7 => ?_⟩⟩
  rw [Int.toNat_natCast] at e7
  have f7 : FA (fun _ => False) (fun _ => False) M M7 := FA.new e7
  have n7 : mN M7 a = mN M a := (f7.2 a ha).2.1
  have k7 : mK M7 a = mK M a := (f7.2 a ha).1
  have l7 : mN M7 (mZ M) = l := by rw [e7, mN_New, if_pos rfl]
  have o7 : mOk M7 := by rw [e7]; exact mOk_New hO
  have i7 : mI M7 a = mI M a := (f7.2 a ha).2.2.2.2 (fun q => q)
  rw [n7, k7, l7, if_neg (by omega), Int.toNat_natCast]
  refine ⟨hK, ⟨by omega, by omega⟩, ⟨by omega, by omega, by omega, by omega, by omega⟩, fun M12 e12 => ?_⟩
  have g12 : FA (fun _ => False) (fun _ => False) M M12 := by
    refine ⟨by rw [e12]; exact f7.1, fun x hx => ?_⟩
    obtain ⟨b1, b2, b3, b4, b5⟩ := f7.2 x hx
    refine ⟨by rw [e12]; exact b1, by rw [e12]; exact b2, by rw [e12]; exact b3, fun q => by rw [e12]; exact b4 q, fun q => ?_⟩
    rw [← b5 q, e12]
    funext j
    exact if_neg (fun u => by have := u.1; omega)
  refine ⟨rfl, by rw [e12]; exact mOk_Cpy o7, g12, by rw [e12]; show mZ M7 = mZ M + 1; rw [e7]; rfl, by rw [e12]; show mS M7 = mS M + l; rw [e7]; rfl, by rw [e12]; show mK M7 (mZ M) = 30; rw [e7, mK_New, if_pos rfl], by rw [e12]; exact l7, fun j hj => ?_⟩
  rw [e12]
  show (if mZ M = mZ M ∧ 0 ≤ j ∧ j < 0 + mN M a then mI M7 a (0 + (j - 0)) else mI M7 (mZ M) j) = mI M a j
  rw [if_pos ⟨rfl, by omega, by omega⟩, i7]
  simp
/-- the machine's places: m the machine, U its numbers, Ab and Be its pile -/
def MK (M : mM) (z m U Ab Be C : Nat) : Prop := mK M m = 5 ∧ (mR M m 3 = U ∧ mR M m 5 = m + 2 ∧ mR M m 6 = Ab ∧ mR M m 7 = Be ∧ mR M m 10 = m + 5 ∧ mR M m 11 = m + 6 ∧ mR M m 12 = m + 7 ∧ mR M m 13 = m + 8 ∧ mR M m 14 = m + 9) ∧ (mK M U = 30 ∧ mK M (m + 2) = 30 ∧ mK M Ab = 30 ∧ mK M Be = 30 ∧ mK M (m + 5) = 30 ∧ mK M (m + 6) = 30 ∧ mK M (m + 7) = 30 ∧ mK M (m + 8) = 30 ∧ mK M (m + 9) = 30) ∧ (mN M (m + 2) = 12 ∧ mN M Ab = C ∧ mN M Be = C ∧ mN M (m + 5) = 60 ∧ mN M (m + 6) = 60 ∧ mN M (m + 7) = 60 ∧ mN M (m + 8) = 61 ∧ mN M (m + 9) = 61) ∧ (0 ≤ mI M m 4 ∧ mI M m 4 + 12 ≤ mN M U) ∧ ((Ab = m + 3 ∨ z ≤ Ab) ∧ (Be = m + 4 ∨ z ≤ Be) ∧ Ab ≠ Be ∧ m + 10 ≤ z) ∧ (z ≤ mZ M ∧ Ab < mZ M ∧ Be < mZ M ∧ U < mZ M) ∧ (64 ≤ C ∧ C ≤ 32768)
/-- the cells that a run may change -/
def mcS (m Ab Be : Nat) : Nat → Prop := fun x => x = m ∨ x = m + 2 ∨ (m + 5 ≤ x ∧ x ≤ m + 9) ∨ x = Ab ∨ x = Be
/-- the machine on its way: t values on the pile, c calls -/
def MS (M0 : mM) (z m U Ab0 Be0 C0 : Nat) (M : mM) (t c : Nat) : Prop := ∃ Ab Be C, mOk M ∧ MK M z m U Ab Be C ∧ FA (mcS m Ab0 Be0) (fun x => x = m) M0 M ∧ ((Ab = Ab0 ∨ mZ M0 ≤ Ab) ∧ (Be = Be0 ∨ mZ M0 ≤ Be)) ∧ (mS M + 4 * C0 = mS M0 + 4 * C ∧ 32 * mZ M + C0 ≤ 32 * mZ M0 + C) ∧ (mI M m 8 = t ∧ t ≤ C ∧ ∀ j, j < t → 1 ≤ mI M Be j ∧ mI M Be j < 1000000000) ∧ mI M m 15 = c ∧ (mI M m 9 = mI M0 m 9 ∧ mI M m 4 = mI M0 m 4 ∧ mR M m 0 = mR M0 m 0)
/-- only ints of the machine's cells change -/
theorem MK.fi (h : MK M z m U Ab Be C) (f : FI S M M') (h4 : mI M' m 4 = mI M m 4) : MK M' z m U Ab Be C := by
  obtain ⟨f1, f2, f3, f4, f5, -⟩ := f
  unfold MK at h ⊢
  rw [f1, f2, f3, f5, h4]
  exact h
/-- a step that keeps the places -/
theorem ms_step {t' c' : Nat} (ok : mOk M') (hk : MK M z m U Ab Be C) (hf : FA (mcS m Ab0 Be0) (fun x => x = m) M0 M) (hab : (Ab = Ab0 ∨ mZ M0 ≤ Ab) ∧ (Be = Be0 ∨ mZ M0 ≤ Be)) (hr : mS M + 4 * C0 = mS M0 + 4 * C ∧ 32 * mZ M + C0 ≤ 32 * mZ M0 + C) (hm : mI M m 9 = mI M0 m 9 ∧ mI M m 4 = mI M0 m 4 ∧ mR M m 0 = mR M0 m 0) (f : FI (mcS m Ab Be) M M') (h4 : mI M' m 4 = mI M m 4) (h9 : mI M' m 9 = mI M m 9) (ht : mI M' m 8 = t') (htC : t' ≤ C) (hb : ∀ j, j < t' → 1 ≤ mI M' Be j ∧ mI M' Be j < 1000000000) (hc : mI M' m 15 = c') : MS M0 z m U Ab0 Be0 C0 M' t' c' := by
  refine ⟨Ab, Be, C, ok, hk.fi f h4, hf.trans2 (FI.fa f) (fun x hx q => ?_) (fun x _ q => q), hab, by rw [f.2.2.2.2.1, f.2.2.2.2.2.1]; exact hr, ⟨ht, htC, hb⟩, hc, by rw [h9]; exact hm.1, by rw [h4]; exact hm.2.1, by rw [f.2.2.1]; exact hm.2.2⟩
  rcases q with q | q | q | q | q
  · exact Or.inl q
  · exact Or.inr (Or.inl q)
  · exact Or.inr (Or.inr (Or.inl q))
  · rcases hab.1 with e | e
    · exact Or.inr (Or.inr (Or.inr (Or.inl (by omega))))
    · omega
  · rcases hab.2 with e | e
    · exact Or.inr (Or.inr (Or.inr (Or.inr (by omega))))
    · omega
theorem mI_ui {a j : Nat} {x : Int} (b i : Nat) (e : M' = mUI M a j x) : mI M' b i = if b = a ∧ i = j then x else mI M b i := by rw [e, mI_UI]
/-- the tables of the machine that a push leaves alone -/
def mtb (m : Nat) (M M' : mM) : Prop := ∀ b, m + 5 ≤ b → b ≤ m + 9 → mI M' b = mI M b
end MAA
end
section
/-! The class's machine: stop, settle, relate, store, compute. -/
section MAB
variable {G : mG} {d z m U Ab Be C Ab0 Be0 C0 t c p O P K : Nat} {M0 M M' M1 M2 : mM} {S R : Nat → Prop}
theorem mtb.refl : mtb m M M := fun _ _ _ => rfl
theorem mtb.trans (h : mtb m M M1) (k : mtb m M1 M2) : mtb m M M2 := fun b h1 h2 => by rw [k b h1 h2, h b h1 h2]
theorem PK.fa (h : PK M z p O P K) (f : FA S R M M') (hp : ¬ R p) : PK M' z p O P K := by
  obtain ⟨h1, ⟨r0, r1⟩, ⟨k0, k1, n0, n1⟩, sp, ⟨z0, z1, z2⟩, hc, hl⟩ := id h
  have hpz : p < mZ M := by omega
  have zz := f.1.1
  obtain ⟨fp1, -, -, fp4, -⟩ := f.2 p hpz
  have fp := fp4 hp
  obtain ⟨fO1, fO2, -⟩ := f.2 O z1
  obtain ⟨fP1, fP2, -⟩ := f.2 P z2
  refine ⟨by rw [fp1]; exact h1, by rw [fp]; exact ⟨r0, r1⟩, by rw [fO1, fO2, fP1, fP2]; exact ⟨k0, k1, n0, n1⟩, sp, ⟨by omega, by omega, by omega⟩, hc, ?_⟩
  have kk : ∀ i, i ≤ 15 → mK M' (p + i) = mK M (p + i) := fun i hi => (f.2 (p + i) (by omega)).1
  have nn : ∀ i, i ≤ 15 → mN M' (p + i) = mN M (p + i) := fun i hi => (f.2 (p + i) (by omega)).2.1
  unfold PL at hl ⊢
  rw [fp, kk 3 (by omega), kk 4 (by omega), kk 5 (by omega), kk 6 (by omega), kk 7 (by omega), kk 8 (by omega), kk 9 (by omega), kk 10 (by omega), kk 11 (by omega), kk 12 (by omega), kk 13 (by omega), kk 14 (by omega), kk 15 (by omega), nn 3 (by omega), nn 4 (by omega), nn 5 (by omega), nn 6 (by omega), nn 7 (by omega), nn 8 (by omega), nn 9 (by omega), nn 10 (by omega), nn 11 (by omega), nn 12 (by omega), nn 13 (by omega), nn 14 (by omega), nn 15 (by omega)]
  exact hl
/-- a field of the machine is written -/
theorem ms_fld {j : Nat} {v : Int} (h : MS M0 z m U Ab0 Be0 C0 M t c) (hv : i32 v) (e : M' = mUI M m j v) (j4 : j ≠ 4) (j8 : j ≠ 8) (j9 : j ≠ 9) (j15 : j ≠ 15) : MS M0 z m U Ab0 Be0 C0 M' t c ∧ mtb m M M' := by
  obtain ⟨Ab, Be, C, ok, hk, hf, hab, hr, ⟨h8, htC, hb⟩, hc, hm⟩ := h
  have f : FI (fun b => b = m) M M' := by rw [e]; exact FI.ui rfl
  have g : ∀ i, i ≠ j → mI M' m i = mI M m i := fun i hi => by rw [mI_ui m i e, if_neg (fun q => hi q.2)]
  have mB : Be ≠ m := by have := hk.2.2.2.2.2.1; omega
  refine ⟨ms_step (t' := t) (c' := c) (by rw [e]; exact mOk_UI ok hv) hk hf hab hr hm (f.mono (fun _ q => Or.inl q)) (g 4 (fun q => j4 q.symm)) (g 9 (fun q => j9 q.symm)) (by rw [g 8 (fun q => j8 q.symm)]; exact h8) htC (fun i hi => by rw [f.2.2.2.2.2.2 Be mB]; exact hb i hi) (by rw [g 15 (fun q => j15 q.symm)]; exact hc), fun b h1 h2 => f.2.2.2.2.2.2 b (by omega)⟩
/-- the pile gets lower -/
theorem ms_top {t' : Nat} {v : Int} (h : MS M0 z m U Ab0 Be0 C0 M t c) (hv : v = t') (htt : t' ≤ t) (e : M' = mUI M m 8 v) : MS M0 z m U Ab0 Be0 C0 M' t' c ∧ mtb m M M' ∧ FI (fun b => b = m) M M' := by
  obtain ⟨Ab, Be, C, ok, hk, hf, hab, hr, ⟨h8, htC, hb⟩, hc, hm⟩ := h
  have f : FI (fun b => b = m) M M' := by rw [e]; exact FI.ui rfl
  have g : ∀ i, i ≠ 8 → mI M' m i = mI M m i := fun i hi => by rw [mI_ui m i e, if_neg (fun q => hi q.2)]
  have mB : Be ≠ m := by have := hk.2.2.2.2.2.1; omega
  have c32 := hk.2.2.2.2.2.2.2.2
  refine ⟨ms_step (t' := t') (c' := c) (by rw [e]; exact mOk_UI ok (by rw [hv]; exact ⟨by omega, by omega⟩)) hk hf hab hr hm (f.mono (fun _ q => Or.inl q)) (g 4 (by decide)) (g 9 (by decide)) (by rw [mI_ui m 8 e, if_pos ⟨rfl, rfl⟩]; exact hv) (by omega) (fun i hi => by rw [f.2.2.2.2.2.2 Be mB]; exact hb i (by omega)) (by rw [g 15 (by decide)]; exact hc), fun b h1 h2 => f.2.2.2.2.2.2 b (by omega), f⟩
/-- a value of the pile is written -/
theorem ms_val {j : Nat} {x y : Int} (h : MS M0 z m U Ab0 Be0 C0 M t c) (hj : j < t) (hx : i32 x) (hy : 1 ≤ y ∧ y < 1000000000) (e1 : M1 = mUI M (mR M m 6) j x) (e2 : M2 = mUI M1 (mR M1 m 7) j y) : MS M0 z m U Ab0 Be0 C0 M2 t c ∧ mtb m M M2 := by
  obtain ⟨Ab, Be, C, ok, hk, hf, hab, hr, ⟨h8, htC, hb⟩, hc, hm⟩ := h
  have r6 := hk.2.1.2.2.1
  have r7 := hk.2.1.2.2.2.1
  obtain ⟨sA, sB, sne, sz⟩ := hk.2.2.2.2.2.1
  rw [r6] at e1
  have f1 : FI (fun b => b = Ab) M M1 := by rw [e1]; exact FI.ui rfl
  rw [f1.2.2.1, r7] at e2
  have f2 : FI (fun b => b = Be) M1 M2 := by rw [e2]; exact FI.ui rfl
  have g : mI M2 m = mI M m := by rw [f2.2.2.2.2.2.2 m (by omega), f1.2.2.2.2.2.2 m (by omega)]
  refine ⟨ms_step (t' := t) (c' := c) (by rw [e2]; exact mOk_UI (by rw [e1]; exact mOk_UI ok hx) ⟨by omega, by omega⟩) hk hf hab hr hm ((f1.mono (fun _ q => Or.inr (Or.inr (Or.inr (Or.inl q))))).trans (f2.mono (fun _ q => Or.inr (Or.inr (Or.inr (Or.inr q)))))) (by rw [g]) (by rw [g]) (by rw [g]; exact h8) htC (fun i hi => ?_) (by rw [g]; exact hc), fun b h1 h2 => by rw [f2.2.2.2.2.2.2 b (by omega), f1.2.2.2.2.2.2 b (by omega)]⟩
  rw [mI_ui Be i e2]
  by_cases y0 : i = j
  · rw [if_pos ⟨rfl, y0⟩]; exact hy
  · rw [if_neg (fun q => y0 q.2), f1.2.2.2.2.2.2 Be (fun q => sne q.symm)]; exact hb i hi
/-- only the value above is written -/
theorem ms_abv {j : Nat} {x : Int} (h : MS M0 z m U Ab0 Be0 C0 M t c) (hx : i32 x) (e1 : M1 = mUI M (mR M m 6) j x) : MS M0 z m U Ab0 Be0 C0 M1 t c ∧ mtb m M M1 := by
  obtain ⟨Ab, Be, C, ok, hk, hf, hab, hr, ⟨h8, htC, hb⟩, hc, hm⟩ := h
  have r6 := hk.2.1.2.2.1
  obtain ⟨sA, sB, sne, sz⟩ := hk.2.2.2.2.2.1
  rw [r6] at e1
  have f1 : FI (fun b => b = Ab) M M1 := by rw [e1]; exact FI.ui rfl
  have g : mI M1 m = mI M m := f1.2.2.2.2.2.2 m (by omega)
  exact ⟨ms_step (t' := t) (c' := c) (by rw [e1]; exact mOk_UI ok hx) hk hf hab hr hm (f1.mono (fun _ q => Or.inr (Or.inr (Or.inr (Or.inl q))))) (by rw [g]) (by rw [g]) (by rw [g]; exact h8) htC (fun i hi => by rw [f1.2.2.2.2.2.2 Be (fun q => sne q.symm)]; exact hb i hi) (by rw [g]; exact hc), fun b h1 h2 => f1.2.2.2.2.2.2 b (by omega)⟩
/-- the pile's places and what is on top -/
theorem MS.pile (h : MS M0 z m U Ab0 Be0 C0 M t c) : mOk M ∧ mK M m = 5 ∧ mI M m 8 = t ∧ mK M (mR M m 6) = 30 ∧ mK M (mR M m 7) = 30 ∧ (t : Int) ≤ mN M (mR M m 6) ∧ (t : Int) ≤ mN M (mR M m 7) ∧ mN M (mR M m 6) ≤ 32768 ∧ mN M (mR M m 7) ≤ 32768 ∧ (∀ j, j < t → 1 ≤ mI M (mR M m 7) j ∧ mI M (mR M m 7) j < 1000000000) ∧ (m ≠ mR M m 6 ∧ m ≠ mR M m 7) ∧ mR M m 6 ≠ mR M m 7 := by
  obtain ⟨Ab, Be, C, ok, hk, hf, hab, hr, ⟨h8, htC, hb⟩, hc, hm⟩ := h
  obtain ⟨k0, ⟨r3, r5, r6, r7, -⟩, ⟨kU, k2, kA, kB, -⟩, ⟨n2, nA, nB, -⟩, hbs, ⟨sA, sB, sne, sz⟩, -, ⟨c64, c32⟩⟩ := hk
  rw [r6, r7, nA, nB]
  exact ⟨ok, k0, h8, kA, kB, by omega, by omega, by omega, by omega, hb, ⟨by omega, by omega⟩, sne⟩
end MAB
end
section
/-! The class's machine: relate, store, compute. -/
section MAC
variable {G : mG} {d z m U Ab Be C Ab0 Be0 C0 t s c p O P K : Nat} {M0 M M' M1 M2 : mM} {S R : Nat → Prop}
/-- what Math.floorMod answers -/
def FMs (G : mG) : Prop := ∀ (d : Nat) (M : mM) (x y : Int), mOk M → i64 x → 0 < y → i64 y → Cj G y_JM_floorMod d [vl x, vl y] M (fun v M' => M' = M ∧ 0 ≤ v ∧ v < y)
/-- a number that is set -/
theorem ms_nxt {j : Nat} {x : Int} (h : MS M0 z m U Ab0 Be0 C0 M t c) (hx : i32 x) (e1 : M1 = mUI M (m + 2) j x) : MS M0 z m U Ab0 Be0 C0 M1 t c ∧ mtb m M M1 := by
  obtain ⟨Ab, Be, C, ok, hk, hf, hab, hr, ⟨h8, htC, hb⟩, hc, hm⟩ := h
  obtain ⟨sA, sB, sne, sz⟩ := hk.2.2.2.2.2.1
  have f1 : FI (fun b => b = m + 2) M M1 := by rw [e1]; exact FI.ui rfl
  have g : mI M1 m = mI M m := f1.2.2.2.2.2.2 m (by omega)
  exact ⟨ms_step (t' := t) (c' := c) (by rw [e1]; exact mOk_UI ok hx) hk hf hab hr hm (f1.mono (fun _ q => Or.inr (Or.inl q))) (by rw [g]) (by rw [g]) (by rw [g]; exact h8) htC (fun i hi => by rw [f1.2.2.2.2.2.2 Be (by omega)]; exact hb i hi) (by rw [g]; exact hc), fun b h1 h2 => f1.2.2.2.2.2.2 b (by omega)⟩
theorem mulab {x y : Int} {A B : Nat} (hx : x.natAbs ≤ A) (hy : y.natAbs ≤ B) : (x * y).natAbs ≤ A * B := by
  rw [Int.natAbs_mul]
  exact Nat.mul_le_mul hx hy
end MAC
end
section
/-! The class's machine: meet, comeBack. -/
section MAD
variable {G : mG} {d z m U Ab Be C Ab0 Be0 C0 t s c p O P K : Nat} {M0 M M' M1 M2 : mM} {S R : Nat → Prop}
end MAD
end
section
/-! The class's machine: run. -/
theorem t6p {O p z m A B : Nat} (a1 : p + 15 < m ∨ m + 9 < p) (s : O = p + 1 ∨ z ≤ O) (a6 : m + 9 < z) (n1 : O ≠ A) (n2 : O ≠ B) (q : O = m ∨ O = m + 2 ∨ (m + 5 ≤ O ∧ O ≤ m + 9) ∨ O = A ∨ O = B) : False := by
  rcases q with q | q | q | q | q
  · omega
  · omega
  · omega
  · exact n1 q
  · exact n2 q
theorem t6q {O p z m A B : Nat} (a1 : p + 15 < m ∨ m + 9 < p) (s : O = p + 2 ∨ z ≤ O) (a6 : m + 9 < z) (n1 : O ≠ A) (n2 : O ≠ B) (q : O = m ∨ O = m + 2 ∨ (m + 5 ≤ O ∧ O ≤ m + 9) ∨ O = A ∨ O = B) : False := by
  rcases q with q | q | q | q | q
  · omega
  · omega
  · omega
  · exact n1 q
  · exact n2 q
theorem t6r {p z m A B i : Nat} (a1 : p + 15 < m ∨ m + 9 < p) (a7 : p + 16 ≤ z) (a8 : A = m + 3 ∨ z ≤ A) (a9 : B = m + 4 ∨ z ≤ B) (hi : i ≤ 15) (q : p + i = m ∨ p + i = m + 2 ∨ (m + 5 ≤ p + i ∧ p + i ≤ m + 9) ∨ p + i = A ∨ p + i = B) : False := by
  rcases q with q | q | q | q | q
  · omega
  · omega
  · omega
  · clear a9; omega
  · clear a8; omega
section MAE
variable {G : mG} {d z m U Ab Be C Ab0 Be0 C0 t s c p O P K L V F E F0 : Nat} {M0 M M' M1 M2 : mM} {S R X : Nat → Prop} {ns : Nat → Int} {sf ef : Nat → Nat} {H : Nat → Nat}
/-- a piece of code from s to e, where its END stands; heights H, at its end h -/
def Cod (M : mM) (O P V F : Nat) (ns : Nat → Int) (s e : Nat) (H : Nat → Nat) (h : Nat) : Prop := CO M O P V F ns H s e (fun _ => False) ∧ H s = 0 ∧ H e = h ∧ h + s ≤ e ∧ mI M O e = 0 ∧ s ≤ e
/-- the names below F: consts have values, formulas have code; each formula's code stands before its users' -/
def FO (M : mM) (p O P V : Nat) (ns : Nat → Int) (sf ef : Nat → Nat) (L F : Nat) : Prop := ∀ x, x < F → (ns x = 4 → 1 ≤ mI M (p + 7) x ∧ mI M (p + 7) x < 1000000000) ∧ (ns x = 7 → mI M (p + 8) x = sf x ∧ (∃ H, Cod M O P V x ns (sf x) (ef x) H 1) ∧ ef x < L ∧ ∀ y, y < x → ns y = 7 → ef y < sf x)
/-- c calls are open: T values lie below the piece of code that runs -/
def Cs (M0 : mM) (m O P V : Nat) (ns : Nat → Int) (sf ef : Nat → Nat) (E F0 s0 e0 h0 : Nat) (M : mM) : Nat → Nat → Nat → Nat → Nat → (Nat → Nat) → Nat → Prop
  | 0, T, F, s, e, _, h => T = 0 ∧ F = F0 ∧ s = s0 ∧ e = e0 ∧ h = h0
  | c + 1, T, F, s, e, _, h => ∃ (T1 F1 s1 e1 : Nat) (H1 : Nat → Nat) (h1 pc1 : Nat), Cs M0 m O P V ns sf ef E F0 s0 e0 h0 M c T1 F1 s1 e1 H1 h1 ∧ Cod M0 O P V F1 ns s1 e1 H1 h1 ∧ (∀ y, y < F1 → ns y = 7 → ef y < s1) ∧ T1 + e1 ≤ E ∧ F1 + c ≤ F0 ∧ mI M (m + 8) c = (F : Int) ∧ F < F1 ∧ ns F = 7 ∧ (s = sf F ∧ e = ef F ∧ h = 1) ∧ mI M (m + 9) c = (pc1 : Int) ∧ s1 < pc1 ∧ pc1 ≤ e1 ∧ T + 1 = T1 + H1 pc1
theorem Cs.cg {s0 e0 h0 : Nat} : ∀ {c T F s e : Nat} {H : Nat → Nat} {h : Nat}, Cs M0 m O P V ns sf ef E F0 s0 e0 h0 M c T F s e H h → (∀ i, i < c → mI M' (m + 8) i = mI M (m + 8) i ∧ mI M' (m + 9) i = mI M (m + 9) i) → Cs M0 m O P V ns sf ef E F0 s0 e0 h0 M' c T F s e H h
  | 0, _, _, _, _, _, _, q, _ => q
  | c + 1, _, _, _, _, _, _, q, hh => by
    obtain ⟨T1, F1, s1, e1, H1, h1, pc1, q1, q2, q3, q4, q5, q6, q7, q8, q9, q10, q11⟩ := q
    exact ⟨T1, F1, s1, e1, H1, h1, pc1, q1.cg (fun i hi => hh i (by omega)), q2, q3, q4, q5, by rw [(hh c (by omega)).1]; exact q6, q7, q8, q9, by rw [(hh c (by omega)).2]; exact q10, q11⟩
/-- formulas that were met have values -/
def MT (M : mM) (m : Nat) (X : Nat → Prop) : Prop := ∀ x, X x → mI M (m + 5) x ≤ mI M m 9 ∧ (mI M (m + 5) x = mI M m 9 → 1 ≤ mI M (m + 7) x ∧ mI M (m + 7) x < 1000000000)
theorem MT.mtb (h : MT M m X) (b : mtb m M M') (h9 : mI M' m 9 = mI M m 9) : MT M' m X := fun x hx => by
  rw [b (m + 5) (by omega) (by omega), b (m + 7) (by omega) (by omega), h9]
  exact h x hx
/-- what a run comes to -/
def rnQ (M0 : mM) (z m U Ab0 Be0 C0 : Nat) (X : Nat → Prop) (h0 : Nat) (r : Int) (M' : mM) : Prop := MT M' m X ∧ ((r = 0 ∧ mI M' m 1 ≠ 0 ∧ ∃ t c, MS M0 z m U Ab0 Be0 C0 M' t c) ∨ (r = 1 ∧ MS M0 z m U Ab0 Be0 C0 M' h0 0))
theorem MS.nine (h : MS M0 z m U Ab0 Be0 C0 M t c) : mI M m 9 = mI M0 m 9 := by
  obtain ⟨_, _, _, -, -, -, -, -, -, -, h9, -⟩ := h
  exact h9
/-- the program and the machine lie apart -/
def Mpr (M0 : mM) (z m p O P Ab0 Be0 : Nat) : Prop := (p + 15 < m ∨ m + 9 < p) ∧ (O ≠ Ab0 ∧ O ≠ Be0 ∧ P ≠ Ab0 ∧ P ≠ Be0) ∧ m + 9 < z ∧ p + 16 ≤ z ∧ (Ab0 = m + 3 ∨ z ≤ Ab0) ∧ (Be0 = m + 4 ∨ z ≤ Be0)
/-- at any time: the program is as it was -/
theorem MS.prog (h : MS M0 z m U Ab0 Be0 C0 M t c) (hp : PK M0 z p O P K) (h0 : mR M0 m 0 = p) (ha : Mpr M0 z m p O P Ab0 Be0) : PK M z p O P K ∧ mR M m 0 = p ∧ mI M O = mI M0 O ∧ mI M P = mI M0 P ∧ ∀ i, i ≤ 15 → mI M (p + i) = mI M0 (p + i) := by
  obtain ⟨Ab, Be, C, ok, hk, hf, hab, hr, -, -, hm⟩ := h
  obtain ⟨a1, ⟨a2, a3, a4, a5⟩, a6, a7, a8, a9⟩ := ha
  obtain ⟨-, -, -, sp, ⟨z0, z1, z2⟩, -, -⟩ := id hp
  refine ⟨hp.fa hf (show ¬ p = m by omega), by rw [hm.2.2]; exact h0, (hf.2 O z1).2.2.2.2 ?_, (hf.2 P z2).2.2.2.2 ?_, fun i hi => (hf.2 (p + i) (by omega)).2.2.2.2 ?_⟩
  · exact fun q => t6p a1 sp.1 a6 a2 a3 q
  · exact fun q => t6q a1 sp.2.1 a6 a4 a5 q
  · exact fun q => t6r a1 a7 a8 a9 hi q
end MAE
end
section
/-! The class's machine: run, the loop. -/
section MAF
variable {G : mG} {d z m U Ab Be C Ab0 Be0 C0 t s c p O P K L V F E F0 s0 e0 h0 : Nat} {M0 M M' M1 M2 : mM} {S R X : Nat → Prop} {ns : Nat → Int} {sf ef : Nat → Nat} {H : Nat → Nat}
theorem stO.all {pc : Nat} {o x : Int} (h : stO V F ns H pc o x) : o ≠ 0 ∧ (o = 3 → H (pc + 1) = H pc + 1) ∧ ((o = 4 ∨ o = 7) → 0 ≤ x ∧ x < F ∧ ns x.toNat = o ∧ H (pc + 1) = H pc + 1) ∧ (o = 5 → 0 ≤ x ∧ x < V ∧ H (pc + 1) = H pc + 1) ∧ ((o = 30 ∨ o = 31 ∨ o = 33) → H (pc + 1) + 1 = H pc) ∧ (o = 42 → 1 ≤ H pc) ∧ ((o = 40 ∨ o = 41) → 1 ≤ H pc ∧ H (pc + 1) = H pc) ∧ ((o = 15 ∨ o = 16 ∨ (19 ≤ o ∧ o ≤ 29)) → 2 ≤ H pc ∧ H (pc + 1) + 1 = H pc) ∧ (o = 43 → 0 ≤ x ∧ x ≤ 1000000 ∧ x % 16 < V ∧ H (pc + 1) + 1 = H pc) ∧ ((o = 3 ∨ o = 4 ∨ o = 5 ∨ o = 7 ∨ o = 30 ∨ o = 31 ∨ o = 33 ∨ o = 42) ∨ (o = 40 ∨ o = 41) ∨ (o = 15 ∨ o = 16 ∨ (19 ≤ o ∧ o ≤ 29)) ∨ o = 43) := by
  unfold stO at h
  rcases h with q | q | q | q | q | q | q | q
  all_goals refine ⟨by omega, by omega, by omega, by omega, by omega, by omega, by omega, by omega, by omega, by omega⟩
end MAF
end
section
/-! The class's reader of texts: places, tables, frames. -/
theorem t6a {q p O P x : Nat} (u : ¬ (q ≤ x ∧ x ≤ q + 22)) (v : ¬ ((q + 1 ≤ x ∧ x ≤ q + 1 + 9) ∨ (p ≤ x ∧ x ≤ p + 15) ∨ x = O ∨ x = P)) (y : (q ≤ x ∧ x ≤ q + 10) ∨ x = q + 21 ∨ x = q + 22 ∨ x = p ∨ (p + 3 ≤ x ∧ x ≤ p + 15) ∨ x = O ∨ x = P) : False := by
  rcases y with y | y | y | y | y | y | y
  · exact u ⟨y.1, Nat.le_trans y.2 (by omega)⟩
  · exact u (by rw [y]; exact ⟨by omega, by omega⟩)
  · exact u (by rw [y]; exact ⟨by omega, by omega⟩)
  · exact v (Or.inr (Or.inl (by rw [y]; exact ⟨by omega, by omega⟩)))
  · exact v (Or.inr (Or.inl ⟨Nat.le_trans (by omega) y.1, y.2⟩))
  · exact v (Or.inr (Or.inr (Or.inl y)))
  · exact v (Or.inr (Or.inr (Or.inr y)))
theorem t6b {q p O P : Nat} (s : q + 22 < p ∨ p + 15 < q) (o : O < q ∨ q + 22 < O) (o' : P < q ∨ q + 22 < P) (y : (q ≤ q + 11 ∧ q + 11 ≤ q + 10) ∨ q + 11 = q + 21 ∨ q + 11 = q + 22 ∨ q + 11 = p ∨ (p + 3 ≤ q + 11 ∧ q + 11 ≤ p + 15) ∨ q + 11 = O ∨ q + 11 = P) : False := by
  rcases y with y | y | y | y | y | y | y
  · omega
  · omega
  · omega
  · clear o o'; omega
  · clear o o'; omega
  · clear s o'; omega
  · clear s o; omega
theorem t6c {q p O P b j : Nat} (hb : (b = q ∨ b = q + 21 ∨ b = q + 22 ∨ (b = q + 1 ∧ (j = 2 ∨ j = 5 ∨ j = 6)) ∨ (b = p ∧ j = 2))) : (q ≤ b ∧ b ≤ q + 10) ∨ b = q + 21 ∨ b = q + 22 ∨ b = p ∨ (p + 3 ≤ b ∧ b ≤ p + 15) ∨ b = O ∨ b = P := by
  rcases hb with u | u | u | u | u
  · exact Or.inl ⟨by omega, by omega⟩
  · exact Or.inr (Or.inl u)
  · exact Or.inr (Or.inr (Or.inl u))
  · exact Or.inl ⟨by omega, by omega⟩
  · exact Or.inr (Or.inr (Or.inr (Or.inl u.1)))
theorem t6d {q p b i j : Nat} (hb : (b = q ∨ b = q + 21 ∨ b = q + 22 ∨ (b = q + 1 ∧ (j = 2 ∨ j = 5 ∨ j = 6)) ∨ (b = p ∧ j = 2))) (s : q + 22 < p ∨ p + 15 < q) (i2 : i ≠ 2) (i5 : i ≠ 5) (i6 : i ≠ 6) : ¬ (q + 1 = b ∧ i = j) := fun e => by
  obtain ⟨e, e'⟩ := e
  subst e'
  rcases hb with u | u | u | u | u
  · omega
  · omega
  · omega
  · rcases u.2 with v | v | v
    · exact i2 v
    · exact i5 v
    · exact i6 v
  · exact i2 u.2
theorem t6e {q p b i j x : Nat} (hb : (b = q ∨ b = q + 21 ∨ b = q + 22 ∨ (b = q + 1 ∧ (j = 2 ∨ j = 5 ∨ j = 6)) ∨ (b = p ∧ j = 2))) (s : q + 22 < p ∨ p + 15 < q) (i6 : 6 ≤ i) (i9 : i ≤ 9) : ¬ (q + 1 + i = b ∧ x = j) := fun e => by
  obtain ⟨e, -⟩ := e
  rcases hb with u | u | u | u | u
  · omega
  · omega
  · omega
  · have := u.1; omega
  · have := u.1; omega
theorem t6f {q p b i j : Nat} (hb : (b = q ∨ b = q + 21 ∨ b = q + 22 ∨ (b = q + 1 ∧ (j = 2 ∨ j = 5 ∨ j = 6)) ∨ (b = p ∧ j = 2))) (s : q + 22 < p ∨ p + 15 < q) (i2 : i ≠ 2) : ¬ (p = b ∧ i = j) := fun e => by
  obtain ⟨e, e'⟩ := e
  subst e'
  rcases hb with u | u | u | u | u
  · omega
  · omega
  · omega
  · have := u.1; omega
  · exact i2 u.2
theorem t6g {q p b i j x : Nat} (hb : (b = q ∨ b = q + 21 ∨ b = q + 22 ∨ (b = q + 1 ∧ (j = 2 ∨ j = 5 ∨ j = 6)) ∨ (b = p ∧ j = 2))) (s : q + 22 < p ∨ p + 15 < q) (i3 : 3 ≤ i) (i15 : i ≤ 15) : ¬ (p + i = b ∧ x = j) := fun e => by
  obtain ⟨e, -⟩ := e
  rcases hb with u | u | u | u | u
  · omega
  · omega
  · omega
  · have := u.1; omega
  · have := u.1; omega
theorem t6h {q p O b i j : Nat} (hb : (b = q ∨ b = q + 21 ∨ b = q + 22 ∨ (b = q + 1 ∧ (j = 2 ∨ j = 5 ∨ j = 6)) ∨ (b = p ∧ j = 2))) (o : O < q ∨ q + 22 < O) (o2 : O ≠ p) : ¬ (O = b ∧ i = j) := fun e => by
  obtain ⟨e, -⟩ := e
  rcases hb with u | u | u | u | u
  · omega
  · omega
  · omega
  · have := u.1; omega
  · exact o2 (e.trans u.1)
theorem t6i {O p k : Nat} (h : O < p ∨ O = p + k ∨ p + 15 < O) (hk : 0 < k) : O ≠ p := by omega
theorem t6j {q p b i j : Nat} (hb : (b = q ∨ b = q + 21 ∨ b = q + 22 ∨ (b = q + 1 ∧ (j = 2 ∨ j = 5 ∨ j = 6)) ∨ (b = p ∧ j = 2))) (s : q + 22 < p ∨ p + 15 < q) : ¬ (q + 6 = b ∧ i = j) := fun e => by
  obtain ⟨e, -⟩ := e
  rcases hb with u | u | u | u | u
  · omega
  · omega
  · omega
  · have := u.1; omega
  · have := u.1; omega
theorem t6k {q p O P b : Nat} (y : (q + 1 ≤ b ∧ b ≤ q + 1 + 9) ∨ b = p ∨ b = O ∨ b = P) : (q ≤ b ∧ b ≤ q + 10) ∨ b = q + 21 ∨ b = q + 22 ∨ b = p ∨ (p + 3 ≤ b ∧ b ≤ p + 15) ∨ b = O ∨ b = P := by
  rcases y with y | y | y | y
  · exact Or.inl ⟨by omega, by omega⟩
  · exact Or.inr (Or.inr (Or.inr (Or.inl y)))
  · exact Or.inr (Or.inr (Or.inr (Or.inr (Or.inr (Or.inl y)))))
  · exact Or.inr (Or.inr (Or.inr (Or.inr (Or.inr (Or.inr y)))))
theorem t6l {q p O P i : Nat} (s : q + 22 < p ∨ p + 15 < q) (o : O < p ∨ O = p + 1 ∨ p + 15 < O) (o' : P < p ∨ P = p + 2 ∨ p + 15 < P) (i3 : 3 ≤ i) (i15 : i ≤ 15) (y : (q + 1 ≤ p + i ∧ p + i ≤ q + 1 + 9) ∨ p + i = p ∨ p + i = O ∨ p + i = P) : False := by
  rcases y with y | y | y | y
  · clear o o'; omega
  · omega
  · clear s o'; omega
  · clear s o; omega
theorem t6n {q p O P x : Nat} (s : q + 22 < p ∨ p + 15 < q) (o : O < q ∨ q + 22 < O) (o' : P < q ∨ q + 22 < P) (h1 : q ≤ x) (h2 : x ≤ q + 22) : x ≠ p ∧ x ≠ O ∧ x ≠ P := by
  refine ⟨?_, ?_, ?_⟩
  · clear o o'; omega
  · clear s o'; omega
  · clear s o; omega
theorem t6o {p O P i : Nat} (o : O < p ∨ O = p + 1 ∨ p + 15 < O) (o' : P < p ∨ P = p + 2 ∨ p + 15 < P) (i3 : 3 ≤ i) (i15 : i ≤ 15) : p + i ≠ p ∧ p + i ≠ O ∧ p + i ≠ P := by
  refine ⟨?_, ?_, ?_⟩
  · omega
  · clear o'; omega
  · clear o; omega
section TRA
variable {G : mG} {d z q w T A B D N C n p O P K Ab Be Cm V F c s L L' cnt Bn a : Nat} {M0 M M' M1 M2 : mM} {ns ns' : Nat → Int} {sf ef sf' ef' : Nat → Nat} {H : Nat → Nat} {S R : Nat → Prop}
theorem CO.wide {V' F' : Nat} {pd : Nat → Prop} {e : Nat} (h : CO M O P V F ns H s e pd) (hV : V ≤ V') (hF : F ≤ F') (hn : ∀ x, x < F → ns' x = ns x) : CO M O P V' F' ns' H s e pd := fun pc h0 h1 => by
  obtain ⟨a1, a2, a3⟩ := h pc h0 h1
  refine ⟨?_, a2, a3⟩
  clear a2 h
  unfold stO at a1 ⊢
  rcases a1 with u | u | u | u | u | u | u | u
  · exact Or.inl u
  · obtain ⟨u1, u2, u3, u4, u5⟩ := u
    exact Or.inr (Or.inl ⟨u1, u2, by omega, by rw [hn _ (by omega)]; exact u4, u5⟩)
  · obtain ⟨u1, u2, u3, u4⟩ := u
    exact Or.inr (Or.inr (Or.inl ⟨u1, u2, by omega, u4⟩))
  · exact Or.inr (Or.inr (Or.inr (Or.inl u)))
  · exact Or.inr (Or.inr (Or.inr (Or.inr (Or.inl u))))
  · exact Or.inr (Or.inr (Or.inr (Or.inr (Or.inr (Or.inl u)))))
  · exact Or.inr (Or.inr (Or.inr (Or.inr (Or.inr (Or.inr (Or.inl u))))))
  · obtain ⟨u1, u2, u3, u4, u5⟩ := u
    exact Or.inr (Or.inr (Or.inr (Or.inr (Or.inr (Or.inr (Or.inr ⟨u1, u2, u3, by omega, u5⟩))))))
theorem Cod.wide {V' F' e h : Nat} (hc : Cod M O P V F ns s e H h) (hV : V ≤ V') (hF : F ≤ F') (hn : ∀ x, x < F → ns' x = ns x) : Cod M O P V' F' ns' s e H h := ⟨hc.1.wide hV hF hn, hc.2⟩
/-- the code is the same -/
theorem Cod.cg {e h : Nat} (hc : Cod M O P V F ns s e H h) (hO : ∀ i, i ≤ e → mI M' O i = mI M O i) (hP : ∀ i, i ≤ e → mI M' P i = mI M P i) : Cod M' O P V F ns s e H h := by
  obtain ⟨c1, c2, c3, c4, c5, c6⟩ := hc
  refine ⟨fun pc h0 h1 => ?_, c2, c3, c4, by rw [hO e (Nat.le_refl _)]; exact c5, c6⟩
  rw [hO pc (by omega), hP pc (by omega)]
  exact c1 pc h0 h1
/-- a piece of code at s -/
def PC (M : mM) (O P V F : Nat) (ns : Nat → Int) (ef : Nat → Nat) (L s h : Nat) : Prop := ∃ e H Ft, Cod M O P V Ft ns s e H h ∧ e < L ∧ Ft ≤ F ∧ ∀ y, y < Ft → ns y = 7 → ef y < s
theorem PC.wide {V' F' h : Nat} (hc : PC M O P V F ns ef L s h) (hV : V ≤ V') (hF : F ≤ F') (hL : L ≤ L') (hn : ∀ x, x < F → ns' x = ns x ∧ ef' x = ef x) : PC M O P V' F' ns' ef' L' s h := by
  obtain ⟨e, H, Ft, c1, c2, c3, c4⟩ := hc
  refine ⟨e, H, Ft, c1.wide hV (Nat.le_refl _) (fun x hx => (hn x (by omega)).1), by omega, by omega, fun y hy h7 => ?_⟩
  rw [(hn y (by omega)).2]
  exact c4 y hy (by rw [← (hn y (by omega)).1]; exact h7)
theorem PC.cg {h : Nat} (hc : PC M O P V F ns ef L s h) (hO : ∀ i, i < L → mI M' O i = mI M O i) (hP : ∀ i, i < L → mI M' P i = mI M P i) : PC M' O P V F ns ef L s h := by
  obtain ⟨e, H, Ft, c1, c2, c3, c4⟩ := hc
  exact ⟨e, H, Ft, c1.cg (fun i hi => hO i (by omega)) (fun i hi => hP i (by omega)), c2, c3, c4⟩
theorem FO.cg (h : FO M p O P V ns sf ef L F) (hO : ∀ i, i < L → mI M' O i = mI M O i) (hP : ∀ i, i < L → mI M' P i = mI M P i) (h7 : ∀ i, i < F → mI M' (p + 7) i = mI M (p + 7) i) (h8 : ∀ i, i < F → mI M' (p + 8) i = mI M (p + 8) i) : FO M' p O P V ns sf ef L F := fun x hx => by
  obtain ⟨a1, a2⟩ := h x hx
  rw [h7 x hx, h8 x hx]
  refine ⟨a1, fun y => ?_⟩
  obtain ⟨b1, ⟨Hx, b2⟩, b3, b4⟩ := a2 y
  exact ⟨b1, ⟨Hx, b2.cg (fun i hi => hO i (by omega)) (fun i hi => hP i (by omega))⟩, b3, b4⟩
theorem FO.wide {V' : Nat} (h : FO M p O P V ns sf ef L F) (hV : V ≤ V') (hL : L ≤ L') : FO M p O P V' ns sf ef L' F := fun x hx => by
  obtain ⟨a1, a2⟩ := h x hx
  refine ⟨a1, fun y => ?_⟩
  obtain ⟨b1, ⟨Hx, b2⟩, b3, b4⟩ := a2 y
  exact ⟨b1, ⟨Hx, b2.wide hV (Nat.le_refl _) (fun _ _ => rfl)⟩, by omega, b4⟩
/-- the program's tables: cnt commands, Bn branches -/
def PG (M : mM) (p O P V F : Nat) (ns : Nat → Int) (sf ef : Nat → Nat) (L cnt Bn : Nat) : Prop := FO M p O P V ns sf ef L F ∧ (mI M p 11 = -1 ∨ ∃ s : Nat, mI M p 11 = s ∧ PC M O P V F ns ef L s 1) ∧ (∀ j, j < cnt → ∃ s : Nat, mI M (p + 11) j = s ∧ PC M O P V F ns ef L s 1) ∧ mI M (p + 12) 0 = 0 ∧ (∀ j, j < cnt → ∃ u v : Nat, mI M (p + 12) j = u ∧ mI M (p + 12) (j + 1) = v ∧ u ≤ v ∧ v ≤ u + 8) ∧ (∃ u : Nat, mI M (p + 12) cnt = u ∧ u ≤ Bn ∧ u ≤ 8 * cnt) ∧ (∀ b, b < Bn → ∃ s1 s2 : Nat, mI M (p + 14) b = s1 ∧ PC M O P V F ns ef L s1 1 ∧ mI M (p + 15) b = s2 ∧ PC M O P V F ns ef L s2 0)
/-- the cells that reading an item may change -/
def txS (q p O P : Nat) : Nat → Prop := fun x => (q ≤ x ∧ x ≤ q + 10) ∨ x = q + 21 ∨ x = q + 22 ∨ x = p ∨ (p + 3 ≤ x ∧ x ≤ p + 15) ∨ x = O ∨ x = P
/-- the reader of texts: places; it lies apart from the words and the program -/
def TP (M : mM) (z q w T A B D N C n p O P K Ab Be Cm : Nat) : Prop := RB M z (q + 1) w T A B D N C n p O P K ∧ (mK M q = 3 ∧ mR M q 0 = q + 1 ∧ mR M q 1 = q + 11 ∧ mR M q 2 = p ∧ mR M q 5 = q + 21 ∧ mR M q 6 = q + 22) ∧ (mK M (q + 21) = 30 ∧ mK M (q + 22) = 30 ∧ mN M (q + 21) = 3 ∧ mN M (q + 22) = 3) ∧ MK M z (q + 11) (q + 12) Ab Be Cm ∧ mR M (q + 11) 0 = p ∧ (q + 23 ≤ z ∧ (q + 22 < p ∨ p + 15 < q) ∧ (∀ x, (x = w ∨ x = T ∨ x = A ∨ x = B ∨ x = D) → ¬ (q ≤ x ∧ x ≤ q + 22) ∧ x ≠ Ab ∧ x ≠ Be ∧ x < mZ M)) ∧ (O ≠ Ab ∧ O ≠ Be ∧ P ≠ Ab ∧ P ≠ Be)
theorem TP.apart (h : TP M z q w T A B D N C n p O P K Ab Be Cm) : Mpr M z (q + 11) p O P Ab Be ∧ (O < q ∨ q + 22 < O) ∧ (P < q ∨ q + 22 < P) ∧ (O < p ∨ O = p + 1 ∨ p + 15 < O) ∧ (P < p ∨ P = p + 2 ∨ p + 15 < P) ∧ O ≠ P := by
  obtain ⟨⟨-, -, -, -, ⟨-, -, -, ⟨a1, a2, a3, a4⟩, -⟩, -⟩, -, -, hk, -, ⟨b1, b2, -⟩, b3⟩ := h
  obtain ⟨sA, sB, sne, sz⟩ := hk.2.2.2.2.2.1
  exact ⟨⟨by omega, b3, by omega, by omega, sA, sB⟩, by omega, by omega, by omega, by omega, a3⟩
theorem TP.fi (h : TP M z q w T A B D N C n p O P K Ab Be Cm) (ok : mOk M') (f : FI (txS q p O P) M M') : TP M' z q w T A B D N C n p O P K Ab Be Cm := by
  have ap := h.apart
  obtain ⟨hb, h2, h3, hk, h4, ⟨s1, s2, s3⟩, h5⟩ := h
  obtain ⟨b1, b2, b3, b4, b5, b6, b7⟩ := hb
  obtain ⟨f1, f2, f3, f4, f5, f6, f7⟩ := id f
  refine ⟨⟨ok, b2.fi f, by rw [f3]; exact b3, b4.fi f (fun x hx y => ?_), b5.fi f, b6, b7⟩, by rw [f1, f3]; exact h2, by rw [f1, f2]; exact h3, hk.fi f ?_, by rw [f3]; exact h4, ⟨s1, s2, by rw [f5]; exact s3⟩, h5⟩
  · exact t6a (s3 x hx).1 (b6.2.2 x hx) y
  · rw [f7 (q + 11) (fun y => t6b s2 ap.2.1 ap.2.2.1 y)]
theorem TP.words (h : TP M z q w T A B D N C n p O P K Ab Be Cm) (f : FI (txS q p O P) M M') : mI M' A = mI M A ∧ mI M' B = mI M B ∧ mI M' D = mI M D ∧ mI M' w = mI M w := by
  have ap := h.apart
  obtain ⟨⟨-, -, -, -, -, b6, -⟩, -, -, -, -, ⟨-, -, s3⟩, -⟩ := h
  have no : ∀ x, (x = w ∨ x = T ∨ x = A ∨ x = B ∨ x = D) → ¬ txS q p O P x := fun x hx y => t6a (s3 x hx).1 (b6.2.2 x hx) y
  exact ⟨f.2.2.2.2.2.2 A (no A (Or.inr (Or.inr (Or.inl rfl)))), f.2.2.2.2.2.2 B (no B (Or.inr (Or.inr (Or.inr (Or.inl rfl))))), f.2.2.2.2.2.2 D (no D (Or.inr (Or.inr (Or.inr (Or.inr rfl))))), f.2.2.2.2.2.2 w (no w (Or.inl rfl))⟩
/-- names, vars, kinds -/
def TC (M : mM) (q A n p V F : Nat) (ns : Nat → Int) (c : Nat) : Prop := (mI M p 3 = V ∧ V ≤ 12) ∧ (mI M p 7 = F ∧ F ≤ 60) ∧ TN M (q + 1) A n V F ns c ∧ (∀ j, mI M (q + 6) j = 0 ∨ mI M (q + 6) j = 1)
/-- the tables, while no fault is noted -/
def PX (M : mM) (q p O P V F : Nat) (ns : Nat → Int) (sf ef : Nat → Nat) (L cnt : Nat) : Prop := (mI M p 12 = cnt ∧ cnt ≤ 60) ∧ (mI M (q + 1) 3 = 0 → ∃ u : Nat, mI M (p + 12) cnt = u ∧ PG M p O P V F ns sf ef L cnt u)
/-- what reading may change, but for the commands -/
def txE (M : mM) (q p O P s : Nat) (M' : mM) : Prop := (∀ i, i ≠ 2 → i ≠ 3 → i ≠ 4 → i ≠ 5 → i ≠ 6 → i ≠ 7 → i ≠ 12 → i ≠ 14 → mI M' (q + 1) i = mI M (q + 1) i) ∧ (mI M (q + 1) 3 ≠ 0 → mI M' (q + 1) 3 ≠ 0) ∧ (∀ i, 6 ≤ i → i ≤ 9 → mI M' (q + 1 + i) = mI M (q + 1 + i)) ∧ (∀ i, i ≠ 2 → mI M' p i = mI M p i) ∧ (∀ i, 3 ≤ i → i ≤ 15 → mI M' (p + i) = mI M (p + i)) ∧ (∀ i, i < s → mI M' O i = mI M O i ∧ mI M' P i = mI M P i)
def txF (M : mM) (q p O P s : Nat) (M' : mM) : Prop := FI (txS q p O P) M M' ∧ txE M q p O P s M'
theorem txF.refl : txF M q p O P s M := ⟨FI.refl, fun _ _ _ _ _ _ _ _ _ => rfl, fun h => h, fun _ _ _ => rfl, fun _ _ => rfl, fun _ _ _ => rfl, fun _ _ => ⟨rfl, rfl⟩⟩
theorem txF.trans (f : txF M q p O P s M1) (g : txF M1 q p O P s M2) : txF M q p O P s M2 := by
  obtain ⟨a1, a2, a3, a4, a5, a6, a7⟩ := f
  obtain ⟨b1, b2, b3, b4, b5, b6, b7⟩ := g
  exact ⟨a1.trans b1, fun i i2 i3 i4 i5 i6 i7 i12 i14 => by rw [b2 i i2 i3 i4 i5 i6 i7 i12 i14, a2 i i2 i3 i4 i5 i6 i7 i12 i14], fun h => b3 (a3 h), fun i i6 i9 => by rw [b4 i i6 i9, a4 i i6 i9], fun i i2 => by rw [b5 i i2, a5 i i2], fun i i9 i15 => by rw [b6 i i9 i15, a6 i i9 i15], fun i hi => ⟨by rw [(b7 i hi).1, (a7 i hi).1], by rw [(b7 i hi).2, (a7 i hi).2]⟩⟩
theorem txF.less {s' : Nat} (f : txF M q p O P s M1) (h : s' ≤ s) : txF M q p O P s' M1 := ⟨f.1, f.2.1, f.2.2.1, f.2.2.2.1, f.2.2.2.2.1, f.2.2.2.2.2.1, fun i hi => f.2.2.2.2.2.2 i (by omega)⟩
theorem TC.tx (h : TC M q A n p V F ns c) (hA : mI M' A = mI M A) (f : txE M q p O P s M') (ht : ∀ j, mI M' (q + 6) j = 0 ∨ mI M' (q + 6) j = 1) : TC M' q A n p V F ns c := by
  obtain ⟨a1, a2, a3, -⟩ := h
  obtain ⟨f2, -, f4, f5, -⟩ := f
  refine ⟨by rw [f5 3 (by decide)]; exact a1, by rw [f5 7 (by decide)]; exact a2, ?_, ht⟩
  unfold TN at a3 ⊢
  rw [hA, f2 19 (by decide) (by decide) (by decide) (by decide) (by decide) (by decide) (by decide) (by decide), f4 6 (by omega) (by omega), f4 7 (by omega) (by omega), f4 8 (by omega) (by omega), f4 9 (by omega) (by omega)]
  exact a3
theorem PX.tx (h : PX M q p O P V F ns sf ef L cnt) (f : txE M q p O P L M') : PX M' q p O P V F ns sf ef L cnt := by
  obtain ⟨a1, a2⟩ := h
  obtain ⟨f2, f3, f4, f5, f6, f7⟩ := f
  refine ⟨by rw [f5 12 (by decide)]; exact a1, fun h0 => ?_⟩
  obtain ⟨u, e, g1, g2, g3, g4, g5, g6, g7⟩ := a2 (Classical.byContradiction (fun y => f3 y h0))
  have cg : ∀ {s h : Nat}, PC M O P V F ns ef L s h → PC M' O P V F ns ef L s h := fun hc => hc.cg (fun i hi => (f7 i hi).1) (fun i hi => (f7 i hi).2)
  refine ⟨u, by rw [f6 12 (by omega) (by omega)]; exact e, g1.cg (fun i hi => (f7 i hi).1) (fun i hi => (f7 i hi).2) (fun i _ => by rw [f6 7 (by omega) (by omega)]) (fun i _ => by rw [f6 8 (by omega) (by omega)]), ?_, fun j hj => ?_, by rw [f6 12 (by omega) (by omega)]; exact g4, by rw [f6 12 (by omega) (by omega)]; exact g5, by rw [f6 12 (by omega) (by omega)]; exact g6, fun b hb => ?_⟩
  · rw [f5 11 (by decide)]
    exact g2.imp (fun y => y) (fun ⟨s, y1, y2⟩ => ⟨s, y1, cg y2⟩)
  · obtain ⟨s, y1, y2⟩ := g3 j hj
    exact ⟨s, by rw [f6 11 (by omega) (by omega)]; exact y1, cg y2⟩
  · obtain ⟨s1, s2, y1, y2, y3, y4⟩ := g7 b hb
    exact ⟨s1, s2, by rw [f6 14 (by omega) (by omega)]; exact y1, cg y2, by rw [f6 15 (by omega) (by omega)]; exact y3, cg y4⟩
/-- the reader of texts between two steps -/
def TX (M : mM) (z q w T A B D N C n p O P K Ab Be Cm V F : Nat) (ns : Nat → Int) (sf ef : Nat → Nat) (c cnt L : Nat) : Prop := TP M z q w T A B D N C n p O P K Ab Be Cm ∧ TC M q A n p V F ns c ∧ PX M q p O P V F ns sf ef L cnt
theorem TX.tx (h : TX M z q w T A B D N C n p O P K Ab Be Cm V F ns sf ef c cnt L) (ok : mOk M') (f : txF M q p O P L M') (ht : ∀ j, mI M' (q + 6) j = 0 ∨ mI M' (q + 6) j = 1) : TX M' z q w T A B D N C n p O P K Ab Be Cm V F ns sf ef c cnt L := by
  obtain ⟨h1, h2, h3⟩ := h
  exact ⟨h1.fi ok f.1, h2.tx (h1.words f.1).1 f.2 ht, h3.tx f.2⟩
end TRA
end
section
/-! The class's reader of texts: steps; names, rules of items. -/
section TRB
variable {G : mG} {d z q w T A B D N C n p O P K Ab Be Cm V F c s L L' cnt Bn a d0 V1 F1 : Nat} {M0 M M' M1 M2 : mM} {ns ns' ns1 : Nat → Int} {sf ef sf' ef' : Nat → Nat} {H : Nat → Nat} {S R : Nat → Prop}
theorem tx_ui {b j : Nat} {v : Int} (h : TX M z q w T A B D N C n p O P K Ab Be Cm V F ns sf ef c cnt L) (hv : i32 v) (e : M' = mUI M b j v) (hb : b = q ∨ b = q + 21 ∨ b = q + 22 ∨ (b = q + 1 ∧ (j = 2 ∨ j = 5 ∨ j = 6)) ∨ (b = p ∧ j = 2)) : TX M' z q w T A B D N C n p O P K Ab Be Cm V F ns sf ef c cnt L ∧ txF M q p O P L M' ∧ (∀ x i, mI M' x i = if x = b ∧ i = j then v else mI M x i) := by
  have ap := h.1.apart
  have qp := h.1.2.2.2.2.2.1.2.1
  have ok := h.1.1.1
  have g : ∀ x i, mI M' x i = if x = b ∧ i = j then v else mI M x i := fun x i => mI_ui x i e
  have f : FI (txS q p O P) M M' := by
    rw [e]
    refine FI.ui ?_
    exact t6c hb
  have o : mOk M' := by rw [e]; exact mOk_UI ok hv
  have ff : txF M q p O P L M' := by
    refine ⟨f, fun i i2 i3 i4 i5 i6 i7 i12 i14 => by rw [g, if_neg (t6d hb qp i2 i5 i6)], fun y => by rw [g, if_neg (t6d hb qp (by decide) (by decide) (by decide))]; exact y, fun i i6 i9 => ?_, fun i i2 => by rw [g, if_neg (t6f hb qp i2)], fun i i9 i15 => ?_, fun i hi => ⟨by rw [g, if_neg (t6h hb ap.2.1 (t6i ap.2.2.2.1 (by decide)))], by rw [g, if_neg (t6h hb ap.2.2.1 (t6i ap.2.2.2.2.1 (by decide)))]⟩⟩
    · funext x
      rw [g, if_neg (t6e hb qp i6 i9)]
    · funext x
      rw [g, if_neg (t6g hb qp i9 i15)]
  refine ⟨h.tx o ff (fun x => ?_), ff, g⟩
  rw [g, if_neg (t6j hb qp)]
  exact h.2.1.2.2.2 x
theorem rr_tx (h : TP M z q w T A B D N C n p O P K Ab Be Cm) (f : rrF M (q + 1) p O P s M') : txF M q p O P s M' := by
  have ap := h.apart
  have qp := h.2.2.2.2.2.1.2.1
  obtain ⟨f1, f2, f3, f4, f5, f6⟩ := f
  refine ⟨f1.mono (fun b y => ?_), fun i i2 i3 i4 i5 _ i7 i12 i14 => f2 i i2 i3 i4 i5 i7 i12 i14, fun y => by rw [f3 y]; exact y, f4, f5, fun i i9 i15 => f1.2.2.2.2.2.2 _ (fun y => ?_), f6⟩
  · exact t6k y
  · exact t6l qp ap.2.2.2.1 ap.2.2.2.2.1 i9 i15 y
/-- an order is added -/
theorem s_tx_add {o x : Int} (io : i32 o) (ix : i32 x) (h : TX M z q w T A B D N C n p O P K Ab Be Cm V F ns sf ef c cnt L) (hs : mI M p 2 = s) (hL : L ≤ s) (hn : s ≤ n) : Ci G y_Pr_add d [vr p, vi o, vi x] M (fun v M' => i32 v ∧ mOk M' ∧ TX M' z q w T A B D N C n p O P K Ab Be Cm V F ns sf ef c cnt L ∧ txF M q p O P s M' ∧ mI M' p 2 = ((s + 1 : Nat) : Int) ∧ (∀ i, mI M' O i = if i = s then o else mI M O i) ∧ (∀ i, mI M' P i = if i = s then x else mI M P i) ∧ (∀ b, b ≠ p → b ≠ O → b ≠ P → mI M' b = mI M b)) := by
  have ap := h.1.apart
  have qp := h.1.2.2.2.2.2.1.2.1
  have hK := h.1.1.2.2.2.2.2.2
  have hN : n ≤ 16384 := by have := h.1.1.2.2.2.1.2.2.1; have := h.1.1.2.2.2.1.1.2.2.2.2.2.2.1; omega
  refine (s_Pr_add (n := s) io ix h.1.1.1 h.1.1.2.2.2.2.1 hs (by omega)).mono (fun v M' k => ?_)
  obtain ⟨k1, k2, k3, k4, k5, k6⟩ := k
  have nb : ∀ b, b ≠ p → b ≠ O → b ≠ P → mI M' b = mI M b := fun b b1 b2 b3 => k3.2.2.2.2.2.2 b (fun y => by
    rcases (show b = p ∨ b = O ∨ b = P from y) with y | y | y
    · exact b1 y
    · exact b2 y
    · exact b3 y)
  have nq : ∀ x, q ≤ x → x ≤ q + 22 → mI M' x = mI M x := fun x h1 h2 => by
    obtain ⟨u1, u2, u3⟩ := t6n qp ap.2.1 ap.2.2.1 h1 h2
    exact nb x u1 u2 u3
  have ff : txF M q p O P s M' := by
    refine ⟨k3.mono (fun b y => ?_), fun i _ _ _ _ _ _ _ _ => by rw [nq (q + 1) (by omega) (by omega)], fun y => by rw [nq (q + 1) (by omega) (by omega)]; exact y, fun i i6 i9 => nq _ (by omega) (by omega), fun i i2 => by rw [k4, if_neg i2], fun i i3 i15 => nb _ (t6o ap.2.2.2.1 ap.2.2.2.2.1 i3 i15).1 (t6o ap.2.2.2.1 ap.2.2.2.2.1 i3 i15).2.1 (t6o ap.2.2.2.1 ap.2.2.2.2.1 i3 i15).2.2, fun i hi => ⟨by rw [k5, if_neg (by omega)], by rw [k6, if_neg (by omega)]⟩⟩
    exact t6k (Or.inr y)
  exact ⟨by rw [k1]; exact ⟨by omega, by omega⟩, k2, h.tx k2 (ff.less hL) (fun j => by rw [nq _ (by omega) (by omega)]; exact h.2.1.2.2.2 j), ff, by rw [k4, if_pos rfl]; omega, k5, k6, nb⟩
/-- a rule is read: its code from s on -/
def ruQ (M : mM) (z q w T A B D N C n p O P K Ab Be Cm V F : Nat) (ns : Nat → Int) (sf ef : Nat → Nat) (c cnt L s V1 F1 : Nat) (ns1 : Nat → Int) (a : Nat) (x : Int) (M' : mM) : Prop := TX M' z q w T A B D N C n p O P K Ab Be Cm V F ns sf ef c cnt L ∧ txF M q p O P s M' ∧ (mI M' (q + 1) 6 = mI M (q + 1) 6 ∧ mI M' q = mI M q ∧ mI M' (q + 21) = mI M (q + 21) ∧ mI M' (q + 22) = mI M (q + 22)) ∧ ((x = 0 ∧ ∃ a' : Nat, mI M' (q + 1) 2 = a' ∧ a' ≤ n) ∨ (x = 1 ∧ ∃ e H a', CO M' O P V1 F1 ns1 H s e (fun _ => False) ∧ H s = 0 ∧ H e = 1 ∧ 1 + s ≤ e ∧ mI M' p 2 = ((e : Nat) : Int) ∧ mI M' (q + 1) 2 = ((a' : Nat) : Int) ∧ a ≤ a' ∧ a' ≤ n ∧ e ≤ a' ∧ mI M' (q + 1) 5 = mI M (q + 1) 5))
end TRB
end
end
section
section
/-! The class's reader of texts: names, and the rules of items. -/
section TRC
variable {G : mG} {d z q w T A B D N C n p O P K Ab Be Cm V F c s L L' cnt Bn a d0 V1 F1 : Nat} {M0 M M' M1 M2 : mM} {ns ns' ns1 : Nat → Int} {sf ef sf' ef' : Nat → Nat} {H : Nat → Nat} {S R : Nat → Prop}
def nmF (M0 : mM) (q : Nat) (M : mM) : Prop := (∀ i, i ≠ 2 → i ≠ 3 → i ≠ 4 → mI M (q + 1) i = mI M0 (q + 1) i) ∧ (∀ i, i ≠ 3 → mI M q i = mI M0 q i) ∧ (∀ b, b ≠ q → b ≠ q + 1 → mI M b = mI M0 b)
theorem nmF.refl : nmF M q M := ⟨fun _ _ _ _ => rfl, fun _ _ => rfl, fun _ _ _ => rfl⟩
theorem nmF.trans (f : nmF M0 q M1) (g : nmF M1 q M2) : nmF M0 q M2 := ⟨fun i i2 i3 i4 => by rw [g.1 i i2 i3 i4, f.1 i i2 i3 i4], fun i i3 => by rw [g.2.1 i i3, f.2.1 i i3], fun b b1 b2 => by rw [g.2.2 b b1 b2, f.2.2 b b1 b2]⟩
/-- what readName comes to -/
def rnmQ (M0 : mM) (z q w T A B D N C n p O P K Ab Be Cm V F : Nat) (ns : Nat → Int) (sf ef : Nat → Nat) (c cnt L a : Nat) (l1 : Int) (x : Int) (M' : mM) : Prop := TX M' z q w T A B D N C n p O P K Ab Be Cm V F ns sf ef c cnt L ∧ txF M0 q p O P L M' ∧ nmF M0 q M' ∧ (l1 ≠ 0 → mI M' (q + 1) 3 ≠ 0) ∧ ((x = 0 ∧ ∃ a' : Nat, mI M' (q + 1) 2 = a' ∧ a' ≤ n) ∨ (x = 1 ∧ mI M' (q + 1) 2 = ((a + 2 : Nat) : Int) ∧ a + 2 ≤ n ∧ mI M' q 3 = ((a + 1 : Nat) : Int) ∧ mI M' A (a + 1) = 2))
/-- a rule of an item -/
def irQ (M : mM) (z q w T A B D N C n p O P K Ab Be Cm V F : Nat) (ns : Nat → Int) (sf ef : Nat → Nat) (c cnt L s V1 F1 : Nat) (ns1 : Nat → Int) (a k : Nat) (x : Int) (M' : mM) : Prop := TX M' z q w T A B D N C n p O P K Ab Be Cm V F ns sf ef c cnt L ∧ txF M q p O P s M' ∧ (mI M' (q + 1) 6 = mI M (q + 1) 6 ∧ mI M' q = mI M q ∧ (∀ i, mI M' (q + 21) i = if i = k then (s : Int) else mI M (q + 21) i)) ∧ ((x = 0 ∧ ∃ a' : Nat, mI M' (q + 1) 2 = a' ∧ a' ≤ n) ∨ (x = 1 ∧ ∃ e H a', Cod M' O P V1 F1 ns1 s e H 1 ∧ mI M' p 2 = ((e + 1 : Nat) : Int) ∧ mI M' (q + 1) 2 = ((a' : Nat) : Int) ∧ a ≤ a' ∧ a' ≤ n ∧ e ≤ a' ∧ mI M' (q + 1) 5 = mI M (q + 1) 5))
end TRC
end
section
/-! The class's reader of texts: const, formula, target. -/
section TRD
variable {G : mG} {d z q w T A B D N C n p O P K Ab Be Cm V F c s L L' cnt Bn a d0 V1 F1 nw : Nat} {M0 M M' M1 M2 : mM} {ns ns' ns1 : Nat → Int} {sf ef sf' ef' : Nat → Nat} {H : Nat → Nat} {S R : Nat → Prop}
/-- it does not stand: the reader stays sound -/
def nstQ (z q w T A B D N C n p O P K Ab Be Cm V F : Nat) (ns : Nat → Int) (sf ef : Nat → Nat) (c cnt L : Nat) (M' : mM) : Prop := TX M' z q w T A B D N C n p O P K Ab Be Cm V F ns sf ef c cnt L ∧ ∃ a' : Nat, mI M' (q + 1) 2 = a' ∧ a' ≤ n
def vco (l1 : Int) (V : Nat) : Nat := if l1 = 4 then 0 else V
def nco (l1 : Int) (ns : Nat → Int) : Nat → Int := if l1 = 4 then nsc ns else ns
/-- a const or formula stands: its code from L to e -/
def ndQ (M0 : mM) (z q w T A B D N C n p O P K Ab Be Cm V F : Nat) (ns : Nat → Int) (sf ef : Nat → Nat) (c cnt L : Nat) (l1 : Int) (x : Int) (M' : mM) : Prop := FI (txS q p O P) M0 M' ∧ ((x = 0 ∧ nstQ z q w T A B D N C n p O P K Ab Be Cm V F ns sf ef c cnt L M') ∨ (x = 1 ∧ TX M' z q w T A B D N C n p O P K Ab Be Cm V F ns sf ef c cnt L ∧ (60 ≤ F → mI M' (q + 1) 3 ≠ 0) ∧ ∃ e a' nw : Nat, ∃ H : Nat → Nat, Cod M' O P (vco l1 V) F (nco l1 ns) L e H 1 ∧ mI M' p 2 = ((e + 1 : Nat) : Int) ∧ mI M' (q + 1) 2 = (a' : Int) ∧ a' ≤ n ∧ e + 1 ≤ a' ∧ mI M' (q + 1) 5 = 0 ∧ mI M' q 3 = (nw : Int) ∧ nw < n ∧ mI M' A nw = 2 ∧ (mI M' q 8 = 0 ∨ mI M' q 8 = 1) ∧ mI M' (q + 21) 0 = (L : Int)))
/-- what lies apart -/
theorem TP.ne (h : TP M z q w T A B D N C n p O P K Ab Be Cm) : (p ≠ q ∧ p ≠ q + 1 ∧ p ≠ q + 21 ∧ p ≠ q + 22) ∧ (O ≠ q ∧ O ≠ q + 1 ∧ O ≠ q + 21 ∧ O ≠ q + 22 ∧ O ≠ p) ∧ (P ≠ q ∧ P ≠ q + 1 ∧ P ≠ q + 21 ∧ P ≠ q + 22 ∧ P ≠ p) := by
  have ap := h.apart
  have qp := h.2.2.2.2.2.1.2.1
  clear h
  omega
theorem q_ne (q : Nat) : q ≠ q + 1 ∧ q + 1 ≠ q ∧ q + 21 ≠ q ∧ q + 21 ≠ q + 1 ∧ q ≠ q + 21 ∧ q + 1 ≠ q + 21 ∧ q + 22 ≠ q ∧ q + 22 ≠ q + 1 ∧ q + 6 ≠ q + 1 ∧ q + 6 ≠ q := by omega
theorem PG.longer (h : PG M p O P V F ns sf ef L cnt Bn) (hL : L ≤ L') : PG M p O P V F ns sf ef L' cnt Bn := by
  obtain ⟨g1, g2, g3, g4, g5, g6, g7⟩ := h
  have up : ∀ {s h : Nat}, PC M O P V F ns ef L s h → PC M O P V F ns ef L' s h := fun hc => hc.wide (Nat.le_refl _) (Nat.le_refl _) hL (fun _ _ => ⟨rfl, rfl⟩)
  refine ⟨g1.wide (Nat.le_refl _) hL, g2.imp (fun y => y) (fun ⟨s, y1, y2⟩ => ⟨s, y1, up y2⟩), fun j hj => ?_, g4, g5, g6, fun b hb => ?_⟩
  · obtain ⟨s, y1, y2⟩ := g3 j hj
    exact ⟨s, y1, up y2⟩
  · obtain ⟨s1, s2, y1, y2, y3, y4⟩ := g7 b hb
    exact ⟨s1, s2, y1, up y2, y3, up y4⟩
/-- a target stands -/
def tgQ (M0 : mM) (z q w T A B D N C n p O P K Ab Be Cm V F : Nat) (ns : Nat → Int) (sf ef : Nat → Nat) (c cnt L : Nat) (x : Int) (M' : mM) : Prop := FI (txS q p O P) M0 M' ∧ ((x = 0 ∧ ∃ L', nstQ z q w T A B D N C n p O P K Ab Be Cm V F ns sf ef c cnt L' M') ∨ (x = 1 ∧ ∃ L' a' : Nat, TX M' z q w T A B D N C n p O P K Ab Be Cm V F ns sf ef c cnt L' ∧ mI M' p 2 = (L' : Int) ∧ mI M' (q + 1) 2 = (a' : Int) ∧ a' ≤ n ∧ L' ≤ a' ∧ mI M' (q + 1) 5 = 0))
theorem s_rt8 (h : TX M z q w T A B D N C n p O P K Ab Be Cm V F ns sf ef c cnt L) (han : a < n) (e8 : M1 = mUI M (q + 1) 2 ((a : Int) + 1)) : mK M1 (mR M1 q 0) = 4 ∧ mR M1 q 0 = q + 1 := by
  have hN : n ≤ 16384 := by have := h.1.1.2.2.2.1.2.2.1; have := h.1.1.2.2.2.1.1.2.2.2.2.2.2.1; omega
  obtain ⟨h1, x1, g1⟩ := tx_ui h ⟨by omega, by omega⟩ e8 (Or.inr (Or.inr (Or.inr (Or.inl ⟨rfl, Or.inl rfl⟩))))
  exact ⟨by rw [h1.1.2.1.2.1]; exact h1.1.1.2.1.1, h1.1.2.1.2.1⟩
end TRD
end
section
/-! The class's reader of texts: var. -/
section TRE
variable {G : mG} {d z q w T A B D N C n p O P K Ab Be Cm V F c s s' L L' cnt Bn a d0 V1 F1 nw k : Nat} {M0 M M' M1 M2 : mM} {ns ns' ns1 : Nat → Int} {sf ef sf' ef' : Nat → Nat} {H : Nat → Nat} {S R : Nat → Prop}
/-- the item's rule k, below s' -/
def rvR (M : mM) (q O P F : Nat) (ns : Nat → Int) (L s' k : Nat) : Prop := ∃ s e H, mI M (q + 21) k = ((s : Nat) : Int) ∧ Cod M O P 0 F (nsc ns) s e H 1 ∧ L ≤ s ∧ e < s'
theorem rvR.cg {s1 s2 : Nat} (h : rvR M q O P F ns L s1 k) (h1 : mI M' (q + 21) k = mI M (q + 21) k) (hO : ∀ i, i < s1 → mI M' O i = mI M O i ∧ mI M' P i = mI M P i) (hs : s1 ≤ s2) : rvR M' q O P F ns L s2 k := by
  obtain ⟨s, e, H, a1, a2, a3, a4⟩ := h
  exact ⟨s, e, H, by rw [h1]; exact a1, a2.cg (fun i hi => (hO i (by omega)).1) (fun i hi => (hO i (by omega)).2), a3, by omega⟩
/-- what the item has so far -/
def vrS (M : mM) (q A n p L s a nw V : Nat) : Prop := mI M p 2 = ((s : Nat) : Int) ∧ L ≤ s ∧ s ≤ a ∧ mI M (q + 1) 2 = ((a : Nat) : Int) ∧ a ≤ n ∧ mI M (q + 1) 5 = 0 ∧ mI M q 3 = ((nw : Nat) : Int) ∧ nw < n ∧ mI M A nw = 2 ∧ mI M q 4 = ((L : Nat) : Int) ∧ (mI M q 8 = 0 ∨ mI M q 8 = 1) ∧ (12 ≤ V → mI M (q + 1) 3 ≠ 0)
def vaQ (M0 : mM) (z q w T A B D N C n p O P K Ab Be Cm V F : Nat) (ns : Nat → Int) (sf ef : Nat → Nat) (c cnt L : Nat) (x : Int) (M' : mM) : Prop := FI (txS q p O P) M0 M' ∧ ((x = 0 ∧ nstQ z q w T A B D N C n p O P K Ab Be Cm V F ns sf ef c cnt L M') ∨ (x = 1 ∧ TX M' z q w T A B D N C n p O P K Ab Be Cm V F ns sf ef c cnt L ∧ ∃ s a nw : Nat, vrS M' q A n p L s a nw V ∧ (mI M' q 8 = 0 → rvR M' q O P F ns L s 0 ∧ rvR M' q O P F ns L s 1) ∧ (mI M' q 7 ≠ 0 → rvR M' q O P F ns L s 2)))
end TRE
end
end
section
section
/-! The class's reader of texts: var, the whole. -/
section TRF
variable {G : mG} {d z q w T A B D N C n p O P K Ab Be Cm V F c s s' L L' cnt Bn a d0 V1 F1 nw k : Nat} {M0 M M' M1 M2 : mM} {ns ns' ns1 : Nat → Int} {sf ef sf' ef' : Nat → Nat} {H : Nat → Nat} {S R : Nat → Prop}
end TRF
end
section
/-! The class's reader of texts: worksOut. -/
section TRG
variable {G : mG} {d z q w T A B D N C n p O P K Ab Be Cm V F c s s' L L' cnt Bn a d0 V1 F1 nw k e s9 : Nat} {M0 M M' M1 M2 : mM} {ns ns' ns1 : Nat → Int} {sf ef sf' ef' : Nat → Nat} {H : Nat → Nat} {S R : Nat → Prop}
/-- a run of the machine: what stays -/
def maF (M : mM) (q Ab Be Cm : Nat) (M' : mM) (Ab' Be' Cm' : Nat) : Prop := FA (mcS (q + 11) Ab Be) (fun x => x = q + 11) M M' ∧ ((Ab' = Ab ∨ mZ M ≤ Ab') ∧ (Be' = Be ∨ mZ M ≤ Be')) ∧ (mS M' + 4 * Cm = mS M + 4 * Cm' ∧ 32 * mZ M' + Cm ≤ 32 * mZ M + Cm')
def sm4 (M M' : mM) (x : Nat) : Prop := mK M' x = mK M x ∧ mN M' x = mN M x ∧ mR M' x = mR M x ∧ mI M' x = mI M x
theorem RK.eq {r : Nat} (h : RK M r) (v : ∀ i, i ≤ 9 → sm4 M M' (r + i)) : RK M' r := by
  unfold RK at h ⊢
  have v0 := v 0 (by omega)
  rw [Nat.add_zero] at v0
  rw [v0.1, v0.2.2.1, (v 1 (by omega)).1, (v 2 (by omega)).1, (v 3 (by omega)).1, (v 4 (by omega)).1, (v 5 (by omega)).1, (v 6 (by omega)).1, (v 7 (by omega)).1, (v 8 (by omega)).1, (v 9 (by omega)).1, (v 1 (by omega)).2.1, (v 2 (by omega)).2.1, (v 3 (by omega)).2.1, (v 4 (by omega)).2.1, (v 5 (by omega)).2.1, (v 6 (by omega)).2.1, (v 7 (by omega)).2.1, (v 8 (by omega)).2.1, (v 9 (by omega)).2.1]
  exact h
theorem Wf.eq (h : Wf M w T A B D N C n) (sw : ∀ x, (x = w ∨ x = T ∨ x = A ∨ x = B ∨ x = D) → sm4 M M' x) : Wf M' w T A B D N C n := by
  unfold Wf WA at h ⊢
  obtain ⟨w1, w2, w3, w4⟩ := sw w (Or.inl rfl)
  obtain ⟨x1, x2, x3, x4⟩ := sw T (Or.inr (Or.inl rfl))
  obtain ⟨y1, y2, y3, y4⟩ := sw A (Or.inr (Or.inr (Or.inl rfl)))
  obtain ⟨z1, z2, z3, z4⟩ := sw B (Or.inr (Or.inr (Or.inr (Or.inl rfl))))
  obtain ⟨v1, v2, v3, v4⟩ := sw D (Or.inr (Or.inr (Or.inr (Or.inr rfl))))
  rw [w1, w3, w4, x1, x2, y1, y2, y4, z1, z2, z4, v1, v2, v4]
  exact h
theorem TP.st (h : TP M z q w T A B D N C n p O P K Ab Be Cm) (hf : FA (mcS (q + 11) Ab Be) (fun x => x = q + 11) M M') : ∀ x, x < mZ M → ¬ (q + 11 ≤ x ∧ x ≤ q + 20) → x ≠ Ab → x ≠ Be → sm4 M M' x := fun x hx h1 h2 h3 => by
  obtain ⟨u1, u2, u3, u4, u5⟩ := hf.2 x hx
  refine ⟨u1, u2, u4 (show ¬ x = q + 11 by omega), u5 (fun y => ?_)⟩
  have y' : x = q + 11 ∨ x = q + 11 + 2 ∨ (q + 11 + 5 ≤ x ∧ x ≤ q + 11 + 9) ∨ x = Ab ∨ x = Be := y
  omega
theorem ms9a {q z A x k : Nat} (a5 : A = q + 11 + k ∨ z ≤ A) (hk : k ≤ 9) (hz : q + 23 ≤ z) (h : x ≤ q + 22) (h2 : ¬ (q + 11 ≤ x ∧ x ≤ q + 20)) : x ≠ A := by omega
theorem ms9b {q p z A i k : Nat} (a1 : p + 15 < q + 11 ∨ q + 11 + 9 < p) (a4 : p + 16 ≤ z) (a5 : A = q + 11 + k ∨ z ≤ A) (hk : k ≤ 9) (hi : i ≤ 15) : p + i ≠ A := by omega
theorem ms9c {q p i : Nat} (a1 : p + 15 < q + 11 ∨ q + 11 + 9 < p) (hi : i ≤ 15) : ¬ (q + 11 ≤ p + i ∧ p + i ≤ q + 20) := by omega
theorem ms9d {q O : Nat} (a : O < q ∨ q + 22 < O) : ¬ (q + 11 ≤ O ∧ O ≤ q + 20) := by omega
theorem nab9 {x A A' Z : Nat} (o : A' = A ∨ Z ≤ A') (h : x ≠ A) (hz : x < Z) : x ≠ A' := by
  rcases o with o | o
  · rw [o]; exact h
  · omega
theorem TP.mst (h : TP M z q w T A B D N C n p O P K Ab Be Cm) (hf : FA (mcS (q + 11) Ab Be) (fun x => x = q + 11) M M') : (∀ i, i ≤ 10 → sm4 M M' (q + i)) ∧ sm4 M M' (q + 21) ∧ sm4 M M' (q + 22) ∧ (∀ i, i ≤ 15 → sm4 M M' (p + i)) ∧ sm4 M M' O ∧ sm4 M M' P ∧ (∀ x, (x = w ∨ x = T ∨ x = A ∨ x = B ∨ x = D) → sm4 M M' x) := by
  have st := h.st hf
  obtain ⟨⟨aA1, aA2, aA3, aA4, aA5, aA6⟩, aO, aP, aO2, aP2, aOP⟩ := h.apart
  have zz : z ≤ mZ M := h.2.2.2.1.2.2.2.2.2.2.1.1
  obtain ⟨pz0, pz1, pz2⟩ := h.1.2.2.2.2.1.2.2.2.2.1
  obtain ⟨s1, s2, s3⟩ := h.2.2.2.2.2.1
  clear h hf
  refine ⟨fun i hi => st _ (by omega) (by omega) (ms9a aA5 (by decide) s1 (by omega) (by omega)) (ms9a aA6 (by decide) s1 (by omega) (by omega)), st _ (by omega) (by omega) (ms9a aA5 (by decide) s1 (by omega) (by omega)) (ms9a aA6 (by decide) s1 (by omega) (by omega)), st _ (by omega) (by omega) (ms9a aA5 (by decide) s1 (by omega) (by omega)) (ms9a aA6 (by decide) s1 (by omega) (by omega)), fun i hi => st _ (by omega) (ms9c aA1 hi) (ms9b aA1 aA4 aA5 (by decide) hi) (ms9b aA1 aA4 aA6 (by decide) hi), st O pz1 (ms9d aO) aA2.1 aA2.2.1, st P pz2 (ms9d aP) aA2.2.2.1 aA2.2.2.2, fun x hx => ?_⟩
  obtain ⟨u1, u2, u3, u4⟩ := s3 x hx
  exact st x u4 (fun v => u1 ⟨Nat.le_trans (Nat.le_add_right _ _) v.1, Nat.le_trans v.2 (by omega)⟩) u2 u3
theorem TP.ma {Ab' Be' Cm' : Nat} (h : TP M z q w T A B D N C n p O P K Ab Be Cm) (ok : mOk M') (hk : MK M' z (q + 11) (q + 12) Ab' Be' Cm') (hf : FA (mcS (q + 11) Ab Be) (fun x => x = q + 11) M M') (hab : (Ab' = Ab ∨ mZ M ≤ Ab') ∧ (Be' = Be ∨ mZ M ≤ Be')) (h0 : mR M' (q + 11) 0 = mR M (q + 11) 0) : TP M' z q w T A B D N C n p O P K Ab' Be' Cm' := by
  obtain ⟨m1, m2, m3, m4, m5, m6, m7⟩ := h.mst hf
  have np : ¬ p = q + 11 := by have := h.apart.1.1; omega
  obtain ⟨⟨b1, b2, b3, b4, b5, b6, b7⟩, t1, t2, t3, t4, ⟨s1, s2, s3⟩, s4⟩ := h
  obtain ⟨pz0, pz1, pz2⟩ := b5.2.2.2.2.1
  have s0 := m1 0 (by omega)
  have r0 := m1 1 (by omega)
  rw [Nat.add_zero] at s0
  have zz := hf.1.1
  refine ⟨⟨ok, b2.eq (fun i hi => by rw [show q + 1 + i = q + (1 + i) by omega]; exact m1 _ (by omega)), by rw [r0.2.2.1]; exact b3, b4.eq m7, b5.fa hf np, b6, b7⟩, by rw [s0.1, s0.2.2.1]; exact t1, by rw [m2.1, m3.1, m2.2.1, m3.2.1]; exact t2, hk, by rw [h0]; exact t4, ⟨s1, s2, fun x hx => ?_⟩, ?_⟩
  · obtain ⟨u1, u2, u3, u4⟩ := s3 x hx
    exact ⟨u1, nab9 hab.1 u2 u4, nab9 hab.2 u3 u4, Nat.lt_of_lt_of_le u4 zz⟩
  · exact ⟨nab9 hab.1 s4.1 pz1, nab9 hab.2 s4.2.1 pz1, nab9 hab.1 s4.2.2.1 pz2, nab9 hab.2 s4.2.2.2 pz2⟩
theorem TX.ma {t cc : Nat} (h : TX M z q w T A B D N C n p O P K Ab Be Cm V F ns sf ef c cnt L) (hM : MS M z (q + 11) (q + 12) Ab Be Cm M' t cc) : ∃ Ab' Be' Cm', TX M' z q w T A B D N C n p O P K Ab' Be' Cm' V F ns sf ef c cnt L ∧ maF M q Ab Be Cm M' Ab' Be' Cm' ∧ (∀ j, j < t → 1 ≤ mI M' Be' j ∧ mI M' Be' j < 1000000000) ∧ (mI M' q = mI M q ∧ mI M' (q + 1) = mI M (q + 1) ∧ mI M' (q + 21) = mI M (q + 21) ∧ mI M' (q + 22) = mI M (q + 22) ∧ mI M' p = mI M p ∧ mI M' O = mI M O ∧ mI M' P = mI M P ∧ mI M' A = mI M A) := by
  obtain ⟨Ab', Be', Cm', ok, hk, hf, hab, hr, ⟨h8, htC, hb⟩, h15, hm⟩ := hM
  obtain ⟨hP, hC, hX⟩ := h
  obtain ⟨m1, m2, m3, m4, m5, m6, m7⟩ := hP.mst hf
  have s0 := m1 0 (by omega)
  have r0 := m1 1 (by omega)
  rw [Nat.add_zero] at s0
  have p0 := m4 0 (by omega)
  rw [Nat.add_zero] at p0
  have eE : txE M q p O P L M' := ⟨fun i _ _ _ _ _ _ _ _ => by rw [r0.2.2.2], fun y => by rw [r0.2.2.2]; exact y, fun i i6 i9 => by rw [show q + 1 + i = q + (1 + i) by omega]; exact (m1 (1 + i) (by omega)).2.2.2, fun i _ => by rw [p0.2.2.2], fun i _ i15 => (m4 i i15).2.2.2, fun i _ => ⟨by rw [m5.2.2.2], by rw [m6.2.2.2]⟩⟩
  have mA := (m7 A (Or.inr (Or.inr (Or.inl rfl)))).2.2.2
  exact ⟨Ab', Be', Cm', ⟨hP.ma ok hk hf hab hm.2.2, hC.tx mA eE (fun j => by rw [(m1 6 (by omega)).2.2.2]; exact hC.2.2.2 j), hX.tx eE⟩, ⟨hf, hab, hr⟩, hb, s0.2.2.2, r0.2.2.2, m2.2.2.2, m3.2.2.2, p0.2.2.2, m5.2.2.2, m6.2.2.2, mA⟩
/-- what working out a rule comes to -/
def wuQ (M : mM) (z q w T A B D N C n p O P K Ab Be Cm V F : Nat) (ns : Nat → Int) (sf ef : Nat → Nat) (c cnt L : Nat) (x : Int) (M' : mM) : Prop := ∃ Ab' Be' Cm', TX M' z q w T A B D N C n p O P K Ab' Be' Cm' V F ns sf ef c cnt L ∧ FA (fun x => x = q + 1 ∨ mcS (q + 11) Ab Be x) (fun x => x = q + 11) M M' ∧ ((Ab' = Ab ∨ mZ M ≤ Ab') ∧ (Be' = Be ∨ mZ M ≤ Be')) ∧ (mS M' + 4 * Cm = mS M + 4 * Cm' ∧ 32 * mZ M' + Cm ≤ 32 * mZ M + Cm') ∧ (mI M' q = mI M q ∧ (∀ i, i ≠ 3 → i ≠ 4 → mI M' (q + 1) i = mI M (q + 1) i) ∧ mI M' (q + 21) = mI M (q + 21) ∧ mI M' p = mI M p ∧ mI M' O = mI M O ∧ mI M' P = mI M P ∧ mI M' A = mI M A) ∧ ((x = 0) ∨ (x = 1 ∧ mI M' (q + 1) 3 = 0 ∧ 1 ≤ mI M' Be' 0 ∧ mI M' Be' 0 < 1000000000))
end TRG
end
section
/-! The class's reader of texts: a name is settled. -/
section TRH
variable {G : mG} {d z q w T A B D N C n p O P K Ab Be Cm V F c s s' L L' cnt Bn a d0 V1 F1 nw k e s9 Ab0 Be0 Cm0 Ab1 Be1 Cm1 : Nat} {M0 M M' M1 M2 : mM} {ns ns' ns1 : Nat → Int} {sf ef sf' ef' : Nat → Nat} {H : Nat → Nat} {S R : Nat → Prop}
/-- what reading a text may change, with the room that it takes -/
def trS (q p O P Ab Be : Nat) : Nat → Prop := fun x => txS q p O P x ∨ mcS (q + 11) Ab Be x
def trF (M0 : mM) (q p O P Ab0 Be0 Cm0 : Nat) (M : mM) (Ab Be Cm : Nat) : Prop := FA (trS q p O P Ab0 Be0) (fun x => x = q + 11) M0 M ∧ ((Ab = Ab0 ∨ mZ M0 ≤ Ab) ∧ (Be = Be0 ∨ mZ M0 ≤ Be)) ∧ (mS M + 4 * Cm0 = mS M0 + 4 * Cm ∧ 32 * mZ M + Cm0 ≤ 32 * mZ M0 + Cm)
theorem trF.refl : trF M q p O P Ab Be Cm M Ab Be Cm := ⟨FA.refl, ⟨Or.inl rfl, Or.inl rfl⟩, rfl, Nat.le_refl _⟩
theorem trF.trans (f : trF M0 q p O P Ab0 Be0 Cm0 M Ab Be Cm) (g : trF M q p O P Ab Be Cm M1 Ab1 Be1 Cm1) : trF M0 q p O P Ab0 Be0 Cm0 M1 Ab1 Be1 Cm1 := by
  obtain ⟨f1, ⟨f2, f3⟩, f4, f5⟩ := f
  obtain ⟨g1, ⟨g2, g3⟩, g4, g5⟩ := g
  have zz := f1.1.1
  refine ⟨f1.trans2 g1 (fun x hx y => ?_) (fun _ _ y => y), ⟨by omega, by omega⟩, by omega, by omega⟩
  rcases y with y | y
  · exact Or.inl y
  · refine Or.inr ?_
    have y' : x = q + 11 ∨ x = q + 11 + 2 ∨ (q + 11 + 5 ≤ x ∧ x ≤ q + 11 + 9) ∨ x = Ab ∨ x = Be := y
    show x = q + 11 ∨ x = q + 11 + 2 ∨ (q + 11 + 5 ≤ x ∧ x ≤ q + 11 + 9) ∨ x = Ab0 ∨ x = Be0
    omega
theorem trF.fi (f : FI (txS q p O P) M M1) : trF M q p O P Ab Be Cm M1 Ab Be Cm := ⟨(FI.fa f).mono (fun _ _ y => Or.inl y) (fun _ _ y => y), ⟨Or.inl rfl, Or.inl rfl⟩, by rw [f.2.2.2.2.2.1], by rw [f.2.2.2.2.1]; omega⟩
/-- an item has been read and settled -/
def itE (M0 : mM) (z q w T A B D N C n p O P K Ab0 Be0 Cm0 : Nat) (M' : mM) : Prop := ∃ (Ab Be Cm V F : Nat) (ns : Nat → Int) (sf ef : Nat → Nat) (c cnt L a : Nat), TX M' z q w T A B D N C n p O P K Ab Be Cm V F ns sf ef c cnt L ∧ mI M' p 2 = ((L : Nat) : Int) ∧ mI M' (q + 1) 2 = ((a : Nat) : Int) ∧ a ≤ n ∧ L ≤ a ∧ mI M' (q + 1) 5 = 0 ∧ trF M0 q p O P Ab0 Be0 Cm0 M' Ab Be Cm
def un (ns : Nat → Int) (F : Nat) (l : Int) : Nat → Int := fun x => if x = F then l else ns x
def uf (sf : Nat → Nat) (F v : Nat) : Nat → Nat := fun x => if x = F then v else sf x
theorem PX.cg (h : PX M q p O P V F ns sf ef L cnt) (f3 : mI M (q + 1) 3 ≠ 0 → mI M' (q + 1) 3 ≠ 0) (f5 : ∀ i, i ≠ 2 → mI M' p i = mI M p i) (f6 : ∀ i, 3 ≤ i → i ≤ 15 → mI M' (p + i) = mI M (p + i)) (f7 : ∀ i, i < L → mI M' O i = mI M O i ∧ mI M' P i = mI M P i) : PX M' q p O P V F ns sf ef L cnt := by
  obtain ⟨a1, a2⟩ := h
  refine ⟨by rw [f5 12 (by decide)]; exact a1, fun h0 => ?_⟩
  obtain ⟨u, e, g1, g2, g3, g4, g5, g6, g7⟩ := a2 (Classical.byContradiction (fun y => f3 y h0))
  have cg : ∀ {s h : Nat}, PC M O P V F ns ef L s h → PC M' O P V F ns ef L s h := fun hc => hc.cg (fun i hi => (f7 i hi).1) (fun i hi => (f7 i hi).2)
  refine ⟨u, by rw [f6 12 (by omega) (by omega)]; exact e, g1.cg (fun i hi => (f7 i hi).1) (fun i hi => (f7 i hi).2) (fun i _ => by rw [f6 7 (by omega) (by omega)]) (fun i _ => by rw [f6 8 (by omega) (by omega)]), ?_, fun j hj => ?_, by rw [f6 12 (by omega) (by omega)]; exact g4, by rw [f6 12 (by omega) (by omega)]; exact g5, by rw [f6 12 (by omega) (by omega)]; exact g6, fun b hb => ?_⟩
  · rw [f5 11 (by decide)]
    exact g2.imp (fun y => y) (fun ⟨s, y1, y2⟩ => ⟨s, y1, cg y2⟩)
  · obtain ⟨s, y1, y2⟩ := g3 j hj
    exact ⟨s, by rw [f6 11 (by omega) (by omega)]; exact y1, cg y2⟩
  · obtain ⟨s1, s2, y1, y2, y3, y4⟩ := g7 b hb
    exact ⟨s1, s2, by rw [f6 14 (by omega) (by omega)]; exact y1, cg y2, by rw [f6 15 (by omega) (by omega)]; exact y3, cg y4⟩
/-- one name more: a const with its value, or a formula with its code -/
theorem PG.name {l1 : Int} (h : PG M p O P V F ns sf ef L cnt Bn) (hLL : L ≤ L') (f7 : ∀ i, i < L → mI M' O i = mI M O i ∧ mI M' P i = mI M P i) (h11 : mI M' p 11 = mI M p 11) (f6 : ∀ i, 9 ≤ i → i ≤ 15 → mI M' (p + i) = mI M (p + i)) (h7 : ∀ i, i < F → mI M' (p + 7) i = mI M (p + 7) i) (h8 : ∀ i, i < F → mI M' (p + 8) i = mI M (p + 8) i) (new : (l1 = 4 ∧ 1 ≤ mI M' (p + 7) F ∧ mI M' (p + 7) F < 1000000000) ∨ (l1 = 7 ∧ mI M' (p + 8) F = ((L : Nat) : Int) ∧ Cod M' O P V F ns L e H 1 ∧ e < L')) : PG M' p O P V (F + 1) (un ns F l1) (uf sf F L) (uf ef F e) L' cnt Bn := by
  obtain ⟨g1, g2, g3, g4, g5, g6, g7⟩ := h
  have un0 : ∀ x, x < F → un ns F l1 x = ns x := fun x hx => by unfold un; rw [if_neg (by omega)]
  have ue0 : ∀ x, x < F → uf ef F e x = ef x := fun x hx => by unfold uf; rw [if_neg (by omega)]
  have us0 : ∀ x, x < F → uf sf F L x = sf x := fun x hx => by unfold uf; rw [if_neg (by omega)]
  have unF : un ns F l1 F = l1 := by unfold un; rw [if_pos rfl]
  have ueF : uf ef F e F = e := by unfold uf; rw [if_pos rfl]
  have usF : uf sf F L F = L := by unfold uf; rw [if_pos rfl]
  have cg : ∀ {s h : Nat}, PC M O P V F ns ef L s h → PC M' O P V (F + 1) (un ns F l1) (uf ef F e) L' s h := fun hc => (hc.cg (M' := M') (fun i hi => (f7 i hi).1) (fun i hi => (f7 i hi).2)).wide (Nat.le_refl _) (Nat.le_succ _) hLL (fun x hx => ⟨un0 x hx, ue0 x hx⟩)
  refine ⟨fun x hx => ?_, ?_, fun j hj => ?_, by rw [f6 12 (by omega) (by omega)]; exact g4, by rw [f6 12 (by omega) (by omega)]; exact g5, by rw [f6 12 (by omega) (by omega)]; exact g6, fun b hb => ?_⟩
  · by_cases y : x = F
    · subst y
      rw [unF, usF, ueF]
      rcases new with ⟨u1, u2, u3⟩ | ⟨u1, u2, u3, u4⟩
      · exact ⟨fun _ => ⟨u2, u3⟩, fun v => absurd (u1.symm.trans v) (by decide)⟩
      · refine ⟨fun v => absurd (u1.symm.trans v) (by decide), fun _ => ⟨u2, ⟨H, u3.wide (Nat.le_refl _) (Nat.le_refl _) (fun y hy => un0 y hy)⟩, u4, fun y hy v => ?_⟩⟩
        rw [ue0 y hy]
        rw [un0 y hy] at v
        exact ((g1 y hy).2 v).2.2.1
    · have hxF : x < F := by omega
      obtain ⟨a1, a2⟩ := g1 x hxF
      rw [un0 x hxF, us0 x hxF, ue0 x hxF, h7 x hxF, h8 x hxF]
      refine ⟨a1, fun v => ?_⟩
      obtain ⟨b1, ⟨Hx, b2⟩, b3, b4⟩ := a2 v
      refine ⟨b1, ⟨Hx, (b2.cg (M' := M') (fun i hi => (f7 i (by omega)).1) (fun i hi => (f7 i (by omega)).2)).wide (Nat.le_refl _) (Nat.le_refl _) (fun y hy => un0 y (by omega))⟩, by omega, fun y hy v => ?_⟩
      rw [ue0 y (by omega)]
      rw [un0 y (by omega)] at v
      exact b4 y hy v
  · rw [h11]
    exact g2.imp (fun y => y) (fun ⟨s, y1, y2⟩ => ⟨s, y1, cg y2⟩)
  · obtain ⟨s, y1, y2⟩ := g3 j hj
    exact ⟨s, by rw [f6 11 (by omega) (by omega)]; exact y1, cg y2⟩
  · obtain ⟨s1, s2, y1, y2, y3, y4⟩ := g7 b hb
    exact ⟨s1, s2, by rw [f6 14 (by omega) (by omega)]; exact y1, cg y2, by rw [f6 15 (by omega) (by omega)]; exact y3, cg y4⟩
theorem tx_name {l1 : Int} (h : TX M z q w T A B D N C n p O P K Ab Be Cm V F ns sf ef c cnt L) (h0 : mI M (q + 1) 3 = 0) (h60 : F < 60) (ok : mOk M') (f : FI (txS q p O P) M M') (hr : ∀ i, i ≤ 9 → mI M' (q + 1 + i) = mI M (q + 1 + i)) (ep : ∀ i, i ≠ 2 → i ≠ 7 → mI M' p i = mI M p i) (e7 : mI M' p 7 = ((F + 1 : Nat) : Int)) (f6 : ∀ i, 9 ≤ i → i ≤ 15 → mI M' (p + i) = mI M (p + i)) (h7 : ∀ i, i < F → mI M' (p + 7) i = mI M (p + 7) i) (h8 : ∀ i, i < F → mI M' (p + 8) i = mI M (p + 8) i) (f7 : ∀ i, i < L → mI M' O i = mI M O i ∧ mI M' P i = mI M P i) (hLL : L ≤ L') (new : (l1 = 4 ∧ 1 ≤ mI M' (p + 7) F ∧ mI M' (p + 7) F < 1000000000) ∨ (l1 = 7 ∧ mI M' (p + 8) F = ((L : Nat) : Int) ∧ Cod M' O P V F ns L e H 1 ∧ e < L')) : TX M' z q w T A B D N C n p O P K Ab Be Cm V (F + 1) (un ns F l1) (uf sf F L) (uf ef F e) c cnt L' := by
  obtain ⟨hP, ⟨c1, c2, c3, c4⟩, x1, x2⟩ := h
  have hA := (hP.words f).1
  have r0 := hr 0 (by omega)
  rw [Nat.add_zero] at r0
  refine ⟨hP.fi ok f, ⟨by rw [ep 3 (by decide) (by decide)]; exact c1, ⟨e7, by omega⟩, ?_, fun j => by rw [show q + 6 = q + 1 + 5 by omega, hr 5 (by omega)]; exact c4 j⟩, by rw [ep 12 (by decide) (by decide)]; exact x1, fun _ => ?_⟩
  · obtain ⟨n1, n2, n3⟩ := c3
    refine ⟨by rw [r0]; exact n1, n2, fun i hi => ?_⟩
    obtain ⟨m1, m2, m3⟩ := n3 i hi
    rw [hA, hr 6 (by omega), hr 7 (by omega), hr 8 (by omega), hr 9 (by omega)]
    refine ⟨m1, ?_, m3⟩
    rcases m2 with u | ⟨u1, u2, u3, u4⟩
    · exact Or.inl u
    · refine Or.inr ⟨u1, u2, by omega, ?_⟩
      unfold un
      rw [if_neg (by omega)]
      exact u4
  · obtain ⟨u, eu, gu⟩ := x2 h0
    exact ⟨u, by rw [f6 12 (by omega) (by omega)]; exact eu, gu.name hLL f7 (ep 11 (by decide) (by decide)) f6 h7 h8 new⟩
/-- where a fault is noted, the tables don't matter -/
theorem TX.any (h : TX M z q w T A B D N C n p O P K Ab Be Cm V F ns sf ef c cnt L) (hL : mI M (q + 1) 3 = 0 → L ≤ L') : TX M z q w T A B D N C n p O P K Ab Be Cm V F ns sf ef c cnt L' := by
  obtain ⟨hP, hC, x1, x2⟩ := h
  refine ⟨hP, hC, x1, fun h0 => ?_⟩
  obtain ⟨u, eu, gu⟩ := x2 h0
  exact ⟨u, eu, gu.longer (hL h0)⟩
end TRH
end
end
section
section
/-! The class's reader of texts: settleNamed. -/
section TRI
variable {G : mG} {d z q w T A B D N C n p O P K Ab Be Cm V F c s s' L L' cnt Bn a d0 V1 F1 nw k e s9 Ab0 Be0 Cm0 Ab1 Be1 Cm1 : Nat} {M0 M M' M1 M2 : mM} {ns ns' ns1 : Nat → Int} {sf ef sf' ef' : Nat → Nat} {H : Nat → Nat} {S R : Nat → Prop}
theorem wu_tr (f : FA (fun x => x = q + 1 ∨ mcS (q + 11) Ab Be x) (fun x => x = q + 11) M M') (g : (Ab1 = Ab ∨ mZ M ≤ Ab1) ∧ (Be1 = Be ∨ mZ M ≤ Be1)) (r : mS M' + 4 * Cm = mS M + 4 * Cm1 ∧ 32 * mZ M' + Cm ≤ 32 * mZ M + Cm1) : trF M q p O P Ab Be Cm M' Ab1 Be1 Cm1 :=
  ⟨f.mono (fun x _ y => y.elim (fun u => Or.inl (Or.inl ⟨by omega, by omega⟩)) (fun u => Or.inr u)) (fun _ _ y => y), g, r⟩
/-- the places of the program's tables -/
theorem TX.tab (h : TX M z q w T A B D N C n p O P K Ab Be Cm V F ns sf ef c cnt L) : mK M p = 6 ∧ (mR M p 4 = p + 3 ∧ mR M p 5 = p + 4 ∧ mR M p 6 = p + 5 ∧ mR M p 8 = p + 6 ∧ mR M p 9 = p + 7 ∧ mR M p 10 = p + 8 ∧ mR M p 13 = p + 9 ∧ mR M p 14 = p + 10 ∧ mR M p 15 = p + 11 ∧ mR M p 16 = p + 12 ∧ mR M p 17 = p + 13 ∧ mR M p 18 = p + 14 ∧ mR M p 19 = p + 15) ∧ (mK M (p + 3) = 30 ∧ mK M (p + 4) = 30 ∧ mK M (p + 5) = 30 ∧ mK M (p + 6) = 30 ∧ mK M (p + 7) = 30 ∧ mK M (p + 8) = 30 ∧ mK M (p + 9) = 30 ∧ mK M (p + 10) = 30 ∧ mK M (p + 11) = 30 ∧ mK M (p + 12) = 30 ∧ mK M (p + 13) = 30 ∧ mK M (p + 14) = 30 ∧ mK M (p + 15) = 30) ∧ (mN M (p + 3) = 12 ∧ mN M (p + 4) = 12 ∧ mN M (p + 5) = 12 ∧ mN M (p + 6) = 60 ∧ mN M (p + 7) = 60 ∧ mN M (p + 8) = 60 ∧ mN M (p + 9) = 60 ∧ mN M (p + 10) = 60 ∧ mN M (p + 11) = 60 ∧ mN M (p + 12) = 61 ∧ mN M (p + 13) = 480 ∧ mN M (p + 14) = 480 ∧ mN M (p + 15) = 480) := ⟨h.1.1.2.2.2.2.1.1, h.1.1.2.2.2.2.1.2.2.2.2.2.2⟩
end TRI
end
section
/-! The class's reader of texts: settleNamed, the whole; settleVar. -/
section TRJ
variable {G : mG} {d z q w T A B D N C n p O P K Ab Be Cm V F c s s' L L' cnt Bn a d0 V1 F1 nw k e s9 Ab0 Be0 Cm0 Ab1 Be1 Cm1 : Nat} {M0 M M' M1 M2 : mM} {ns ns' ns1 : Nat → Int} {sf ef sf' ef' : Nat → Nat} {H : Nat → Nat} {S R : Nat → Prop}
/-- a var that is being settled -/
def svS (M0 : mM) (z q w T A B D N C n p O P K Ab0 Be0 Cm0 V F : Nat) (ns : Nat → Int) (sf ef : Nat → Nat) (c cnt L s a nw : Nat) (M : mM) : Prop := ∃ Ab Be Cm, TX M z q w T A B D N C n p O P K Ab Be Cm V F ns sf ef c cnt L ∧ trF M0 q p O P Ab0 Be0 Cm0 M Ab Be Cm ∧ vrS M q A n p L s a nw V ∧ (mI M q 8 = 0 → rvR M q O P F ns L s 0 ∧ rvR M q O P F ns L s 1) ∧ (mI M q 7 ≠ 0 → rvR M q O P F ns L s 2)
theorem svS.pl (h : svS M0 z q w T A B D N C n p O P K Ab0 Be0 Cm0 V F ns sf ef c cnt L s a nw M) : mOk M ∧ mK M q = 3 ∧ mR M q 0 = q + 1 ∧ mK M (q + 1) = 4 ∧ mR M q 1 = q + 11 ∧ mK M (q + 11) = 5 ∧ mK M (mR M (q + 11) 6) = 30 ∧ (0 : Int) < mN M (mR M (q + 11) 6) ∧ mR M q 6 = q + 22 ∧ mK M (q + 22) = 30 ∧ mN M (q + 22) = 3 := by
  obtain ⟨Ab, Be, Cm, h1, -⟩ := h
  obtain ⟨t0, t1, t2, t3, t4, t5⟩ := h1.1.2.1
  obtain ⟨s1, s2, s3, s4⟩ := h1.1.2.2.1
  have hk := h1.1.2.2.2.1
  have m6 := hk.2.1.2.2.1
  have n6 := hk.2.2.2.1.2.1
  have c6 := hk.2.2.2.2.2.2.2.1
  exact ⟨h1.1.1.1, t0, t1, h1.1.1.2.1.1, t2, hk.1, by rw [m6]; exact hk.2.2.1.2.2.1, by rw [m6, n6]; omega, t5, s2, s4⟩
end TRJ
end
section
/-! The class's reader of texts: settleVar. -/
section TRK
variable {G : mG} {d z q w T A B D N C n p O P K Ab Be Cm V F c s s' L L' cnt Bn a d0 V1 F1 nw k e s9 Ab0 Be0 Cm0 Ab1 Be1 Cm1 : Nat} {M0 M M' M1 M2 : mM} {ns ns' ns1 : Nat → Int} {sf ef sf' ef' : Nat → Nat} {H : Nat → Nat} {S R : Nat → Prop}
theorem TN.more {r : Nat} (h : TN M r A n V F ns c) (hA : mI M' A = mI M A) (hr : mI M' r = mI M r) (ht : ∀ i, 6 ≤ i → i ≤ 9 → mI M' (r + i) = mI M (r + i)) : TN M' r A n (V + 1) F ns c := by
  obtain ⟨n1, n2, n3⟩ := h
  refine ⟨by rw [hr]; exact n1, n2, fun i hi => ?_⟩
  obtain ⟨m1, m2, m3⟩ := n3 i hi
  rw [hA, ht 6 (by omega) (by omega), ht 7 (by omega) (by omega), ht 8 (by omega) (by omega), ht 9 (by omega) (by omega)]
  refine ⟨m1, ?_, m3⟩
  rcases m2 with ⟨u1, u2, u3⟩ | u
  · exact Or.inl ⟨u1, u2, by omega⟩
  · exact Or.inr u
theorem PX.var (h : PX M q p O P V F ns sf ef L cnt) (f3 : mI M (q + 1) 3 ≠ 0 → mI M' (q + 1) 3 ≠ 0) (f5 : ∀ i, i ≠ 2 → i ≠ 3 → mI M' p i = mI M p i) (f6 : ∀ i, 6 ≤ i → i ≤ 15 → mI M' (p + i) = mI M (p + i)) (f7 : ∀ i, i < L → mI M' O i = mI M O i ∧ mI M' P i = mI M P i) : PX M' q p O P (V + 1) F ns sf ef L cnt := by
  obtain ⟨a1, a2⟩ := h
  refine ⟨by rw [f5 12 (by decide) (by decide)]; exact a1, fun h0 => ?_⟩
  obtain ⟨u, e, g1, g2, g3, g4, g5, g6, g7⟩ := a2 (Classical.byContradiction (fun y => f3 y h0))
  have cg : ∀ {s h : Nat}, PC M O P V F ns ef L s h → PC M' O P (V + 1) F ns ef L s h := fun hc => (hc.cg (M' := M') (fun i hi => (f7 i hi).1) (fun i hi => (f7 i hi).2)).wide (Nat.le_succ _) (Nat.le_refl _) (Nat.le_refl _) (fun _ _ => ⟨rfl, rfl⟩)
  refine ⟨u, by rw [f6 12 (by omega) (by omega)]; exact e, (g1.cg (M' := M') (fun i hi => (f7 i hi).1) (fun i hi => (f7 i hi).2) (fun i _ => by rw [f6 7 (by omega) (by omega)]) (fun i _ => by rw [f6 8 (by omega) (by omega)])).wide (Nat.le_succ _) (Nat.le_refl _), ?_, fun j hj => ?_, by rw [f6 12 (by omega) (by omega)]; exact g4, by rw [f6 12 (by omega) (by omega)]; exact g5, by rw [f6 12 (by omega) (by omega)]; exact g6, fun b hb => ?_⟩
  · rw [f5 11 (by decide) (by decide)]
    exact g2.imp (fun y => y) (fun ⟨s, y1, y2⟩ => ⟨s, y1, cg y2⟩)
  · obtain ⟨s, y1, y2⟩ := g3 j hj
    exact ⟨s, by rw [f6 11 (by omega) (by omega)]; exact y1, cg y2⟩
  · obtain ⟨s1, s2, y1, y2, y3, y4⟩ := g7 b hb
    exact ⟨s1, s2, by rw [f6 14 (by omega) (by omega)]; exact y1, cg y2, by rw [f6 15 (by omega) (by omega)]; exact y3, cg y4⟩
end TRK
end
end
section
theorem u7a {q p O P b : Nat} (s : q + 22 < p ∨ p + 15 < q) (o : O < q ∨ q + 22 < O) (o' : P < q ∨ q + 22 < P) (hb : b = q ∨ b = q + 21 ∨ b = q + 22) (y : (q + 1 ≤ b ∧ b ≤ q + 1 + 9) ∨ b = p ∨ b = O ∨ b = P) : False := by
  have h : q ≤ b ∧ b ≤ q + 22 ∧ ¬ (q + 1 ≤ b ∧ b ≤ q + 1 + 9) := by
    rcases hb with e | e | e <;> subst e <;> exact ⟨by omega, by omega, by omega⟩
  clear hb
  rcases y with y | y | y | y
  · exact h.2.2 y
  · clear o o'; omega
  · clear s o'; omega
  · clear s o; omega
theorem u7b {p O i k : Nat} (o : O < p ∨ O = p + k ∨ p + 15 < O) (hk : k ≤ 2) (hi : 3 ≤ i) (h15 : i ≤ 15) : O ≠ p + i := by omega
theorem u7c {q O i : Nat} (o : O < q ∨ q + 22 < O) (hi : i ≤ 22) : O ≠ q + i := by omega
theorem u7d {q p x i : Nat} (qp : q + 22 < p ∨ p + 15 < q) (h1 : q ≤ x) (h2 : x ≤ q + 22) (h15 : i ≤ 15) : x ≠ p + i := by omega
theorem u7e {q x A B : Nat} (u1 : ¬ (q ≤ x ∧ x ≤ q + 22)) (u2 : x ≠ A) (u3 : x ≠ B) (y : x = q + 11 ∨ x = q + 11 + 2 ∨ (q + 11 + 5 ≤ x ∧ x ≤ q + 11 + 9) ∨ x = A ∨ x = B) : False := by
  rcases y with y | y | y | y | y
  · exact u1 ⟨by omega, by omega⟩
  · exact u1 ⟨by omega, by omega⟩
  · exact u1 ⟨by omega, by omega⟩
  · exact u2 y
  · exact u3 y
theorem u7f {q p O P b i : Nat} (y : b = p + i) (h3 : 3 ≤ i) (h15 : i ≤ 15) : (q ≤ b ∧ b ≤ q + 10) ∨ b = q + 21 ∨ b = q + 22 ∨ b = p ∨ (p + 3 ≤ b ∧ b ≤ p + 15) ∨ b = O ∨ b = P := Or.inr (Or.inr (Or.inr (Or.inr (Or.inl ⟨by omega, by omega⟩))))
section
/-! The class's reader of texts: sets. -/
section TRL
variable {G : mG} {d z q w T A B D N C n p O P K Ab Be Cm V F c s s' L L' cnt Bn a d0 V1 F1 nw k e s9 S0 wd Ab0 Be0 Cm0 Ab1 Be1 Cm1 : Nat} {M0 M M' M1 M2 : mM} {ns ns' ns1 : Nat → Int} {sf ef sf' ef' : Nat → Nat} {H H1 : Nat → Nat} {S R : Nat → Prop}
theorem CO.join {s1 : Nat} (h : CO M O P V F ns H S0 s1 (fun _ => False)) (h0 : H s1 = 0) (g : CO M O P V F ns H1 s1 e (fun _ => False)) (g0 : H1 s1 = 0) (hs : S0 ≤ s1) (he : s1 ≤ e) : ∃ H', CO M O P V F ns H' S0 e (fun _ => False) ∧ H' S0 = H S0 ∧ H' e = H1 e := by
  obtain ⟨H', hH⟩ : ∃ H' : Nat → Nat, ∀ i, H' i = if i ≤ s1 then H i else H1 i := ⟨fun i => if i ≤ s1 then H i else H1 i, fun _ => rfl⟩
  have lo : ∀ i, i ≤ s1 → H' i = H i := fun i hi => by rw [hH, if_pos hi]
  have hi' : ∀ i, s1 ≤ i → H' i = H1 i := fun i hi => by
    by_cases y : i = s1
    · rw [y, lo s1 (Nat.le_refl _), h0, g0]
    · rw [hH, if_neg (by omega)]
  refine ⟨H', fun pc p0 p1 => ?_, lo S0 hs, hi' e he⟩
  by_cases y : pc < s1
  · obtain ⟨a1, a2, a3⟩ := h pc p0 y
    refine ⟨a1.cg (lo pc (by omega)) (lo (pc + 1) (by omega)), fun u => ?_, by rw [lo pc (by omega)]; exact a3⟩
    rcases a2 u with v | v
    · exact v.elim
    · exact Or.inr (v.cg (by omega) y (fun i hi => lo i hi))
  · obtain ⟨a1, a2, a3⟩ := g pc (by omega) p1
    refine ⟨a1.cg (hi' pc (by omega)) (hi' (pc + 1) (by omega)), fun u => ?_, by rw [hi' pc (by omega)]; omega⟩
    rcases a2 u with v | ⟨t, e1, t1, t2, t3, t4⟩
    · exact v.elim
    · refine Or.inr ⟨t, e1, t1, t2, ?_, ?_⟩
      · rw [hi' t (by omega), hi' pc (by omega)]; exact t3
      · rw [hi' t (by omega), hi' pc (by omega)]; exact t4
/-- the code of sets from S0 to s -/
def scI (M : mM) (O P V F : Nat) (ns : Nat → Int) (S0 s : Nat) : Prop := ∃ H, CO M O P V F ns H S0 s (fun _ => False) ∧ H S0 = 0 ∧ H s = 0 ∧ S0 ≤ s
theorem scI.cg (h : scI M O P V F ns S0 s) (hO : ∀ i, i < s → mI M' O i = mI M O i ∧ mI M' P i = mI M P i) : scI M' O P V F ns S0 s := by
  obtain ⟨H, h1, h2⟩ := h
  refine ⟨H, fun pc p0 p1 => ?_, h2⟩
  rw [(hO pc p1).1, (hO pc p1).2]
  exact h1 pc p0 p1
/-- one set more: a rule from s to e, and its SET -/
theorem scI.set {x : Int} (h : scI M O P V F ns S0 s) (g : CO M O P V F ns H1 s e (fun _ => False)) (g0 : H1 s = 0) (g1 : H1 e = 1) (hse : 1 + s ≤ e) (hO : ∀ i, mI M' O i = if i = e then 43 else mI M O i) (hP : ∀ i, mI M' P i = if i = e then x else mI M P i) (hx : 0 ≤ x ∧ x ≤ 1000000 ∧ x % 16 < V) : scI M' O P V F ns S0 (e + 1) := by
  obtain ⟨H, h1, h2, h3, h4⟩ := h
  obtain ⟨H', j1, j2, j3⟩ := h1.join h3 g g0 h4 (by omega)
  obtain ⟨H2, hH⟩ : ∃ H2 : Nat → Nat, ∀ i, H2 i = if i ≤ e then H' i else 0 := ⟨fun i => if i ≤ e then H' i else 0, fun _ => rfl⟩
  have lo : ∀ i, i ≤ e → H2 i = H' i := fun i hi => by rw [hH, if_pos hi]
  have l1 : H2 (e + 1) = 0 := by rw [hH, if_neg (by omega)]
  have l0 := lo e (Nat.le_refl _)
  refine ⟨H2, j1.add (by omega) lo (by omega) hO hP (fun i _ u => u) ?_ (fun u => ?_), by rw [lo S0 (by omega), j2, h2], l1, by omega⟩
  · exact Or.inr (Or.inr (Or.inr (Or.inr (Or.inr (Or.inr (Or.inr ⟨rfl, hx.1, hx.2.1, hx.2.2, by omega⟩))))))
  · exact absurd u (by unfold jm; omega)
def rsI (M0 : mM) (z q w T A B D N C n p O P K Ab Be Cm V F : Nat) (ns : Nat → Int) (sf ef : Nat → Nat) (c cnt L S0 a s9 : Nat) (M : mM) : Prop := TX M z q w T A B D N C n p O P K Ab Be Cm V F ns sf ef c cnt L ∧ txF M0 q p O P S0 M ∧ mI M (q + 1) 2 = ((a : Nat) : Int) ∧ a ≤ n ∧ mI M p 2 = ((s9 : Nat) : Int) ∧ S0 ≤ s9 ∧ s9 ≤ a ∧ mI M (q + 1) 5 = 0 ∧ mI M (q + 1) 6 = 0 ∧ (mI M (q + 1) 3 = 0 → scI M O P V F ns S0 s9) ∧ L ≤ S0
def rsQ9 (M0 : mM) (z q w T A B D N C n p O P K Ab Be Cm V F : Nat) (ns : Nat → Int) (sf ef : Nat → Nat) (c cnt L S0 : Nat) (x : Int) (M : mM) : Prop := txF M0 q p O P S0 M ∧ ((x = 0 ∧ nstQ z q w T A B D N C n p O P K Ab Be Cm V F ns sf ef c cnt L M) ∨ (x = 1 ∧ TX M z q w T A B D N C n p O P K Ab Be Cm V F ns sf ef c cnt L ∧ ∃ a s9 : Nat, mI M (q + 1) 2 = ((a : Nat) : Int) ∧ a ≤ n ∧ mI M p 2 = ((s9 + 1 : Nat) : Int) ∧ S0 ≤ s9 ∧ s9 ≤ a ∧ mI M (q + 1) 5 = 0 ∧ mI M (q + 1) 6 = 0 ∧ (mI M (q + 1) 3 = 0 → ∃ H, Cod M O P V F ns S0 s9 H 0)))
end TRL
end
section
/-! The class's reader of texts: sets, the whole; chances. -/
section TRM
variable {G : mG} {d z q w T A B D N C n p O P K Ab Be Cm V F c s s' L L' cnt Bn a d0 V1 F1 nw k e s9 S0 wd ix nbr Ab0 Be0 Cm0 Ab1 Be1 Cm1 : Nat} {M0 M M' M1 M2 : mM} {ns ns' ns1 : Nat → Int} {sf ef sf' ef' : Nat → Nat} {H H1 : Nat → Nat} {S R : Nat → Prop}
theorem rsI.note (h : rsI M0 z q w T A B D N C n p O P K Ab Be Cm V F ns sf ef c cnt L S0 a s9 M) (h2 : TX M' z q w T A B D N C n p O P K Ab Be Cm V F ns sf ef c cnt L) (x2 : txF M q p O P L M') (r2 : ∀ i, i ≠ 3 → i ≠ 4 → mI M' (q + 1) i = mI M (q + 1) i) (b2 : ∀ b, b ≠ q + 1 → mI M' b = mI M b) : rsI M0 z q w T A B D N C n p O P K Ab Be Cm V F ns sf ef c cnt L S0 a s9 M' := by
  obtain ⟨h1, f1, a1, a2, p1, p2, p3, d1, c1, sc, hL⟩ := h
  obtain ⟨⟨np0, np1, -, -⟩, ⟨nO0, nO1, -, -, -⟩, nP0, nP1, -, -, -⟩ := h1.1.ne
  refine ⟨h2, f1.trans ⟨x2.1, x2.2.1, x2.2.2.1, x2.2.2.2.1, x2.2.2.2.2.1, x2.2.2.2.2.2.1, fun i _ => ⟨by rw [b2 O nO1], by rw [b2 P nP1]⟩⟩, by rw [r2 2 (by decide) (by decide)]; exact a1, a2, by rw [b2 p np1]; exact p1, p2, p3, by rw [r2 5 (by decide) (by decide)]; exact d1, by rw [r2 6 (by decide) (by decide)]; exact c1, fun y => ?_, hL⟩
  exact (sc (Classical.byContradiction (fun u => x2.2.2.1 u y))).cg (fun i _ => ⟨by rw [b2 O nO1], by rw [b2 P nP1]⟩)
/-- a word more -/
theorem rsI.acc (h : rsI M0 z q w T A B D N C n p O P K Ab Be Cm V F ns sf ef c cnt L S0 a s9 M) (h2 : TX M' z q w T A B D N C n p O P K Ab Be Cm V F ns sf ef c cnt L) (x2 : txF M q p O P L M') (ha : mI M' (q + 1) 2 = ((a + 1 : Nat) : Int)) (han : a < n) (r2 : ∀ i, i ≠ 2 → mI M' (q + 1) i = mI M (q + 1) i) (b2 : ∀ b, b ≠ q + 1 → mI M' b = mI M b) : rsI M0 z q w T A B D N C n p O P K Ab Be Cm V F ns sf ef c cnt L S0 (a + 1) s9 M' := by
  obtain ⟨h1, f1, a1, a2, p1, p2, p3, d1, c1, sc, hL⟩ := h
  obtain ⟨⟨np0, np1, -, -⟩, ⟨nO0, nO1, -, -, -⟩, nP0, nP1, -, -, -⟩ := h1.1.ne
  refine ⟨h2, f1.trans ⟨x2.1, x2.2.1, x2.2.2.1, x2.2.2.2.1, x2.2.2.2.2.1, x2.2.2.2.2.2.1, fun i _ => ⟨by rw [b2 O nO1], by rw [b2 P nP1]⟩⟩, ha, han, by rw [b2 p np1]; exact p1, p2, Nat.le_succ_of_le p3, by rw [r2 5 (by decide)]; exact d1, by rw [r2 6 (by decide)]; exact c1, fun y => ?_, hL⟩
  exact (sc (Classical.byContradiction (fun u => x2.2.2.1 u y))).cg (fun i _ => ⟨by rw [b2 O nO1], by rw [b2 P nP1]⟩)
end TRM
end
section
/-! The class's reader of texts: a command's chances. -/
section TRN
variable {G : mG} {d z q w T A B D N C n p O P K Ab Be Cm V F c s s' L L' cnt Bn a d0 V1 F1 nw k e s9 S0 wd ix nbr u v Ab0 Be0 Cm0 Ab1 Be1 Cm1 : Nat} {M0 M M' M1 M2 : mM} {ns ns' ns1 : Nat → Int} {sf ef sf' ef' : Nat → Nat} {H H1 : Nat → Nat} {S R : Nat → Prop}
theorem PG.cg (h : PG M p O P V F ns sf ef L cnt Bn) (h11 : mI M' p 11 = mI M p 11) (f6 : ∀ i, 7 ≤ i → i ≤ 12 → mI M' (p + i) = mI M (p + i)) (fb : ∀ b, b < Bn → mI M' (p + 14) b = mI M (p + 14) b ∧ mI M' (p + 15) b = mI M (p + 15) b) (f7 : ∀ i, i < L → mI M' O i = mI M O i ∧ mI M' P i = mI M P i) : PG M' p O P V F ns sf ef L cnt Bn := by
  obtain ⟨g1, g2, g3, g4, g5, g6, g7⟩ := h
  have cg : ∀ {s h : Nat}, PC M O P V F ns ef L s h → PC M' O P V F ns ef L s h := fun hc => hc.cg (fun i hi => (f7 i hi).1) (fun i hi => (f7 i hi).2)
  refine ⟨g1.cg (fun i hi => (f7 i hi).1) (fun i hi => (f7 i hi).2) (fun i _ => by rw [f6 7 (by omega) (by omega)]) (fun i _ => by rw [f6 8 (by omega) (by omega)]), ?_, fun j hj => ?_, by rw [f6 12 (by omega) (by omega)]; exact g4, by rw [f6 12 (by omega) (by omega)]; exact g5, by rw [f6 12 (by omega) (by omega)]; exact g6, fun b hb => ?_⟩
  · rw [h11]
    exact g2.imp (fun y => y) (fun ⟨s, y1, y2⟩ => ⟨s, y1, cg y2⟩)
  · obtain ⟨s, y1, y2⟩ := g3 j hj
    exact ⟨s, by rw [f6 11 (by omega) (by omega)]; exact y1, cg y2⟩
  · obtain ⟨s1, s2, y1, y2, y3, y4⟩ := g7 b hb
    exact ⟨s1, s2, by rw [(fb b hb).1]; exact y1, cg y2, by rw [(fb b hb).2]; exact y3, cg y4⟩
/-- a command that is being read: its guard, and nbr branches -/
def CY (M : mM) (q p O P V F : Nat) (ns : Nat → Int) (sf ef : Nat → Nat) (L cnt ix nbr : Nat) : Prop := mI M (q + 1) 3 = 0 → ix = cnt ∧ cnt < 60 ∧ ∃ u v : Nat, mI M (p + 12) cnt = ((u : Nat) : Int) ∧ mI M (p + 12) (cnt + 1) = ((v : Nat) : Int) ∧ v = u + nbr ∧ nbr ≤ 8 ∧ PG M p O P V F ns sf ef L cnt v ∧ ∃ s : Nat, mI M (p + 11) cnt = ((s : Nat) : Int) ∧ PC M O P V F ns ef L s 1
theorem CY.cg (h : CY M q p O P V F ns sf ef L cnt ix nbr) (f3 : mI M (q + 1) 3 ≠ 0 → mI M' (q + 1) 3 ≠ 0) (h11 : mI M' p 11 = mI M p 11) (f6 : ∀ i, 7 ≤ i → i ≤ 12 → mI M' (p + i) = mI M (p + i)) (fb : ∀ v, mI M (p + 12) (cnt + 1) = ((v : Nat) : Int) → ∀ b, b < v → mI M' (p + 14) b = mI M (p + 14) b ∧ mI M' (p + 15) b = mI M (p + 15) b) (f7 : ∀ i, i < L → mI M' O i = mI M O i ∧ mI M' P i = mI M P i) : CY M' q p O P V F ns sf ef L cnt ix nbr := fun h0 => by
  obtain ⟨a1, a2, u, v, b1, b2, b3, b4, b5, s, b6, b7⟩ := h (Classical.byContradiction (fun y => f3 y h0))
  exact ⟨a1, a2, u, v, by rw [f6 12 (by omega) (by omega)]; exact b1, by rw [f6 12 (by omega) (by omega)]; exact b2, b3, b4, b5.cg h11 f6 (fb v b2) f7, s, by rw [f6 11 (by omega) (by omega)]; exact b6, b7.cg (fun i hi => (f7 i hi).1) (fun i hi => (f7 i hi).2)⟩
theorem CY.tx (h : CY M q p O P V F ns sf ef L cnt ix nbr) (f : txE M q p O P L M') : CY M' q p O P V F ns sf ef L cnt ix nbr := by
  obtain ⟨f2, f3, f4, f5, f6, f7⟩ := f
  exact h.cg f3 (f5 11 (by decide)) (fun i _ _ => f6 i (by omega) (by omega)) (fun v _ b _ => ⟨by rw [f6 14 (by omega) (by omega)], by rw [f6 15 (by omega) (by omega)]⟩) f7
theorem CY.longer (h : CY M q p O P V F ns sf ef L cnt ix nbr) (hL : L ≤ L') : CY M q p O P V F ns sf ef L' cnt ix nbr := fun h0 => by
  obtain ⟨a1, a2, u, v, b1, b2, b3, b4, b5, s, b6, b7⟩ := h h0
  exact ⟨a1, a2, u, v, b1, b2, b3, b4, b5.longer hL, s, b6, b7.wide (Nat.le_refl _) (Nat.le_refl _) hL (fun _ _ => ⟨rfl, rfl⟩)⟩
/-- what readChance comes to -/
def chQ9 (M0 : mM) (z q w T A B D N C n p O P K Ab Be Cm V F : Nat) (ns : Nat → Int) (sf ef : Nat → Nat) (c cnt L ix nbr : Nat) (x : Int) (M : mM) : Prop := FI (txS q p O P) M0 M ∧ ((x = 0 ∧ nstQ z q w T A B D N C n p O P K Ab Be Cm V F ns sf ef c cnt L M) ∨ (x = 1 ∧ TX M z q w T A B D N C n p O P K Ab Be Cm V F ns sf ef c cnt L ∧ (mI M0 (q + 1) 3 ≠ 0 → mI M (q + 1) 3 ≠ 0) ∧ ∃ a e : Nat, mI M (q + 1) 2 = ((a : Nat) : Int) ∧ a ≤ n ∧ mI M p 2 = ((e + 1 : Nat) : Int) ∧ L ≤ e ∧ e + 1 ≤ a ∧ mI M (q + 1) 5 = 0 ∧ mI M (q + 1) 6 = 0 ∧ CY M q p O P V F ns sf ef L cnt ix nbr ∧ (mI M (q + 1) 3 = 0 → ∃ v H, mI M (p + 12) (cnt + 1) = ((v : Nat) : Int) ∧ mI M (p + 14) v = ((L : Nat) : Int) ∧ mI M (p + 15) v = ((e + 1 : Nat) : Int) ∧ Cod M O P V F ns L e H 1)))
/-- the tables of branches are written at v -/
theorem tx_br {x : Int} (h : TX M z q w T A B D N C n p O P K Ab Be Cm V F ns sf ef c cnt L) (cy : CY M q p O P V F ns sf ef L cnt ix nbr) (h0 : mI M (q + 1) 3 = 0) (hv : mI M (p + 12) (cnt + 1) = ((v : Nat) : Int)) (ok : mOk M') (f : FI (fun b => b = p + 13 ∨ b = p + 14 ∨ b = p + 15) M M') (e14 : ∀ i, mI M' (p + 14) i = if i = v then ((L : Nat) : Int) else mI M (p + 14) i) (e15 : ∀ i, mI M' (p + 15) i = if i = v then x else mI M (p + 15) i) : TX M' z q w T A B D N C n p O P K Ab Be Cm V F ns sf ef c cnt L ∧ CY M' q p O P V F ns sf ef L cnt ix nbr ∧ FI (txS q p O P) M M' ∧ (∀ b, b ≠ p + 13 → b ≠ p + 14 → b ≠ p + 15 → mI M' b = mI M b) := by
  have ap := h.1.apart
  have qp := h.1.2.2.2.2.2.1.2.1
  have nb : ∀ b, b ≠ p + 13 → b ≠ p + 14 → b ≠ p + 15 → mI M' b = mI M b := fun b b1 b2 b3 => f.2.2.2.2.2.2 b (fun y => by
    have y' : b = p + 13 ∨ b = p + 14 ∨ b = p + 15 := y
    exact y'.elim b1 (fun y => y.elim b2 b3))
  have fx : FI (txS q p O P) M M' := f.mono (fun b y => by
    have y' : b = p + 13 ∨ b = p + 14 ∨ b = p + 15 := y
    rcases y' with y | y | y
    · exact u7f y (by decide) (by decide)
    · exact u7f y (by decide) (by decide)
    · exact u7f y (by decide) (by decide))
  have nO := nb O (by first | (have h1 := ap.2.2.2.1; have h2 := ap.2.1; omega) | omega) (by first | (have h1 := ap.2.2.2.1; have h2 := ap.2.1; omega) | omega) (by first | (have h1 := ap.2.2.2.1; have h2 := ap.2.1; omega) | omega)
  have nP := nb P (by first | (have h1 := ap.2.2.2.2.1; have h2 := ap.2.2.1; omega) | omega) (by first | (have h1 := ap.2.2.2.2.1; have h2 := ap.2.2.1; omega) | omega) (by first | (have h1 := ap.2.2.2.2.1; have h2 := ap.2.2.1; omega) | omega)
  have np := nb p (by first | (have h1 := qp; omega) | omega) (by first | (have h1 := qp; omega) | omega) (by first | (have h1 := qp; omega) | omega)
  have nr : ∀ i, i ≤ 10 → mI M' (q + i) = mI M (q + i) := fun i hi => nb _ (u7d qp (by omega) (by omega) (by decide)) (u7d qp (by omega) (by omega) (by decide)) (u7d qp (by omega) (by omega) (by decide))
  have n6 : ∀ i, 7 ≤ i → i ≤ 12 → mI M' (p + i) = mI M (p + i) := fun i h7 h12 => nb _ (by omega) (by omega) (by omega)
  have fb : ∀ b, b < v → mI M' (p + 14) b = mI M (p + 14) b ∧ mI M' (p + 15) b = mI M (p + 15) b := fun b hb => ⟨by rw [e14, if_neg (by omega)], by rw [e15, if_neg (by omega)]⟩
  clear ap qp
  obtain ⟨hP, ⟨c1, c2, c3, c4⟩, x1, x2⟩ := h
  refine ⟨⟨hP.fi ok fx, ⟨by rw [np]; exact c1, by rw [np]; exact c2, ?_, fun j => by rw [nr 6 (by omega)]; exact c4 j⟩, by rw [np]; exact x1, fun _ => ?_⟩, cy.cg (fun y => by rw [nr 1 (by omega)]; exact y) (by rw [np]) n6 (fun v' hv' b hb => ?_) (fun i _ => ⟨by rw [nO], by rw [nP]⟩), fx, nb⟩
  · unfold TN at c3 ⊢
    rw [(hP.words fx).1, nr 1 (by omega), show q + 1 + 6 = q + 7 by omega, show q + 1 + 7 = q + 8 by omega, show q + 1 + 8 = q + 9 by omega, show q + 1 + 9 = q + 10 by omega, nr 7 (by omega), nr 8 (by omega), nr 9 (by omega), nr 10 (by omega)]
    exact c3
  · obtain ⟨u, eu, gu⟩ := x2 h0
    obtain ⟨-, -, u', v', b1, b2, b3, -⟩ := cy h0
    have uv : u ≤ v := by
      rw [eu] at b1
      rw [hv] at b2
      omega
    exact ⟨u, by rw [n6 12 (by omega) (by omega)]; exact eu, gu.cg (by rw [np]) n6 (fun b hb => fb b (by omega)) (fun i _ => ⟨by rw [nO], by rw [nP]⟩)⟩
  · rw [hv] at hv'
    exact fb b (by omega)
end TRN
end
end
section
section
/-! The class's reader of texts: a command's branches. -/
section TRO
variable {G : mG} {d z q w T A B D N C n p O P K Ab Be Cm V F c s s' L L' cnt Bn a d0 V1 F1 nw k e s9 S0 wd ix nbr u v Ab0 Be0 Cm0 Ab1 Be1 Cm1 : Nat} {M0 M M' M1 M2 : mM} {ns ns' ns1 : Nat → Int} {sf ef sf' ef' : Nat → Nat} {H H1 : Nat → Nat} {S R : Nat → Prop}
theorem PG.up (h : PG M p O P V F ns sf ef L cnt Bn) (h11 : mI M' p 11 = mI M p 11) (t7 : mI M' (p + 7) = mI M (p + 7)) (t8 : mI M' (p + 8) = mI M (p + 8)) (t11 : ∀ j, j < cnt → mI M' (p + 11) j = mI M (p + 11) j) (t12 : ∀ j, j ≤ cnt → mI M' (p + 12) j = mI M (p + 12) j) (fb : ∀ b, b < Bn → mI M' (p + 14) b = mI M (p + 14) b ∧ mI M' (p + 15) b = mI M (p + 15) b) (f7 : ∀ i, i < L → mI M' O i = mI M O i ∧ mI M' P i = mI M P i) : PG M' p O P V F ns sf ef L cnt Bn := by
  obtain ⟨g1, g2, g3, g4, g5, g6, g7⟩ := h
  have cg : ∀ {s h : Nat}, PC M O P V F ns ef L s h → PC M' O P V F ns ef L s h := fun hc => hc.cg (fun i hi => (f7 i hi).1) (fun i hi => (f7 i hi).2)
  refine ⟨g1.cg (fun i hi => (f7 i hi).1) (fun i hi => (f7 i hi).2) (fun i _ => by rw [t7]) (fun i _ => by rw [t8]), ?_, fun j hj => ?_, by rw [t12 0 (by omega)]; exact g4, fun j hj => by rw [t12 j (by omega), t12 (j + 1) (by omega)]; exact g5 j hj, by rw [t12 cnt (Nat.le_refl _)]; exact g6, fun b hb => ?_⟩
  · rw [h11]
    exact g2.imp (fun y => y) (fun ⟨s, y1, y2⟩ => ⟨s, y1, cg y2⟩)
  · obtain ⟨s, y1, y2⟩ := g3 j hj
    exact ⟨s, by rw [t11 j hj]; exact y1, cg y2⟩
  · obtain ⟨s1, s2, y1, y2, y3, y4⟩ := g7 b hb
    exact ⟨s1, s2, by rw [(fb b hb).1]; exact y1, cg y2, by rw [(fb b hb).2]; exact y3, cg y4⟩
/-- a table of commands is written, where no command is yet -/
theorem TX.up {b j : Nat} {x : Int} (h : TX M z q w T A B D N C n p O P K Ab Be Cm V F ns sf ef c cnt L) (hx : i32 x) (e1 : M' = mUI M (p + b) j x) (hb : 9 ≤ b ∧ b ≤ 12) (h11 : b = 11 → mI M (q + 1) 3 = 0 → cnt ≤ j) (h12 : b = 12 → mI M (q + 1) 3 = 0 → cnt < j) : TX M' z q w T A B D N C n p O P K Ab Be Cm V F ns sf ef c cnt L ∧ FI (txS q p O P) M M' ∧ (∀ y, y ≠ p + b → mI M' y = mI M y) ∧ (∀ i, mI M' (p + b) i = if i = j then x else mI M (p + b) i) := by
  have ap := h.1.apart
  have qp := h.1.2.2.2.2.2.1.2.1
  have ok : mOk M' := by rw [e1]; exact mOk_UI h.1.1.1 hx
  have f : FI (fun y => y = p + b) M M' := by rw [e1]; exact FI.ui rfl
  have nb : ∀ y, y ≠ p + b → mI M' y = mI M y := fun y hy => f.2.2.2.2.2.2 y hy
  have ib : ∀ i, mI M' (p + b) i = if i = j then x else mI M (p + b) i := fun i => by
    rw [mI_ui _ i e1]
    by_cases y : i = j
    · rw [if_pos ⟨rfl, y⟩, if_pos y]
    · rw [if_neg (fun t => y t.2), if_neg y]
  have fx : FI (txS q p O P) M M' := f.mono (fun y hy => by
    have hy' : y = p + b := hy
    exact u7f hy' (by omega) (by omega))
  have nO := nb O (by first | (have h1 := ap.2.2.2.1; have h2 := ap.2.1; omega) | omega)
  have nP := nb P (by first | (have h1 := ap.2.2.2.2.1; have h2 := ap.2.2.1; omega) | omega)
  have np := nb p (by first | (have h1 := qp; omega) | omega)
  have nr : ∀ i, i ≤ 10 → mI M' (q + i) = mI M (q + i) := fun i hi => nb _ (by omega)
  obtain ⟨hP, ⟨c1, c2, c3, c4⟩, x1, x2⟩ := h
  refine ⟨⟨hP.fi ok fx, ⟨by rw [np]; exact c1, by rw [np]; exact c2, ?_, fun j => by rw [nr 6 (by omega)]; exact c4 j⟩, by rw [np]; exact x1, fun y0 => ?_⟩, fx, nb, ib⟩
  · unfold TN at c3 ⊢
    rw [(hP.words fx).1, nr 1 (by omega), show q + 1 + 6 = q + 7 by omega, show q + 1 + 7 = q + 8 by omega, show q + 1 + 8 = q + 9 by omega, show q + 1 + 9 = q + 10 by omega, nr 7 (by omega), nr 8 (by omega), nr 9 (by omega), nr 10 (by omega)]
    exact c3
  · rw [nr 1 (by omega)] at y0
    obtain ⟨u, eu, gu⟩ := x2 y0
    have t11 : ∀ i, i < cnt → mI M' (p + 11) i = mI M (p + 11) i := fun i hi => by
      by_cases yb : b = 11
      · have := h11 yb y0
        rw [← yb, ib, if_neg (by omega)]
      · rw [nb _ (by omega)]
    have t12 : ∀ i, i ≤ cnt → mI M' (p + 12) i = mI M (p + 12) i := fun i hi => by
      by_cases yb : b = 12
      · have := h12 yb y0
        rw [← yb, ib, if_neg (by omega)]
      · rw [nb _ (by omega)]
    exact ⟨u, by rw [t12 cnt (Nat.le_refl _)]; exact eu, gu.up (by rw [np]) (nb _ (by omega)) (nb _ (by omega)) t11 t12 (fun b' _ => ⟨by rw [nb _ (by omega)], by rw [nb _ (by omega)]⟩) (fun i _ => ⟨by rw [nO], by rw [nP]⟩)⟩
/-- a branch is counted -/
theorem tx_nb (h : TX M z q w T A B D N C n p O P K Ab Be Cm V F ns sf ef c cnt L) (cy : CY M q p O P V F ns sf ef L cnt ix nbr) (h0 : mI M (q + 1) 3 = 0) (n8 : nbr < 8) (hv : mI M (p + 12) (cnt + 1) = ((v : Nat) : Int)) (b14 : mI M (p + 14) v = ((s : Nat) : Int)) (p14 : PC M O P V F ns ef L' s 1) (b15 : mI M (p + 15) v = ((s' : Nat) : Int)) (p15 : PC M O P V F ns ef L' s' 0) (hLL : L ≤ L') (e1 : M' = mUI M (p + 12) (cnt + 1) ((v : Int) + 1)) : TX M' z q w T A B D N C n p O P K Ab Be Cm V F ns sf ef c cnt L' ∧ CY M' q p O P V F ns sf ef L' cnt ix (nbr + 1) ∧ FI (txS q p O P) M M' ∧ (∀ y, y ≠ p + 12 → mI M' y = mI M y) := by
  obtain ⟨g1, g2, u, v', g3, g4, g5, g6, g7, sg, g8, g9⟩ := cy h0
  have vv : v' = v := by rw [hv] at g4; omega
  subst vv
  obtain ⟨u', g10, -, g11⟩ := g7.2.2.2.2.2.1
  have vb : v' < 480 := by
    rw [g3] at g10
    omega
  obtain ⟨h', fx, nb, ib⟩ := h.up (b := 12) ⟨by omega, by omega⟩ e1 ⟨by omega, by omega⟩ (fun y => absurd y (by omega)) (fun _ _ => by omega)
  have ap := h.1.apart
  have qp := h.1.2.2.2.2.2.1.2.1
  have nO := nb O (by first | (have h1 := ap.2.2.2.1; have h2 := ap.2.1; omega) | omega)
  have nP := nb P (by first | (have h1 := ap.2.2.2.2.1; have h2 := ap.2.2.1; omega) | omega)
  have nr := nb (q + 1) (by omega)
  have np := nb p (by first | (have h1 := qp; omega) | omega)
  refine ⟨h'.any (fun _ => hLL), fun _ => ?_, fx, nb⟩
  have cg : ∀ {s h : Nat}, PC M O P V F ns ef L' s h → PC M' O P V F ns ef L' s h := fun hc => hc.cg (fun i _ => by rw [nO]) (fun i _ => by rw [nP])
  have gg := (g7.longer hLL).up (M' := M') (by rw [np]) (nb _ (by omega)) (nb _ (by omega)) (fun i _ => by rw [nb _ (by omega)]) (fun i hi => by rw [ib, if_neg (by omega)]) (fun b' _ => ⟨by rw [nb _ (by omega)], by rw [nb _ (by omega)]⟩) (fun i _ => ⟨by rw [nO], by rw [nP]⟩)
  refine ⟨g1, g2, u, v' + 1, by rw [ib, if_neg (by omega)]; exact g3, by rw [ib, if_pos rfl]; omega, by omega, by omega, ?_, sg, by rw [nb _ (by omega)]; exact g8, cg (g9.wide (Nat.le_refl _) (Nat.le_refl _) hLL (fun _ _ => ⟨rfl, rfl⟩))⟩
  obtain ⟨k1, k2, k3, k4, k5, ⟨uu, k6, k7, k8⟩, k9⟩ := gg
  refine ⟨k1, k2, k3, k4, k5, ⟨uu, k6, by omega, k8⟩, fun b hb => ?_⟩
  by_cases y : b = v'
  · subst y
    exact ⟨s, s', by rw [nb _ (by omega)]; exact b14, cg p14, by rw [nb _ (by omega)]; exact b15, cg p15⟩
  · exact k9 b (by omega)
/-- a command that has been read -/
def cmQ9 (M0 : mM) (z q w T A B D N C n p O P K Ab Be Cm V F : Nat) (ns : Nat → Int) (sf ef : Nat → Nat) (c : Nat) (x : Int) (M' : mM) : Prop := FI (txS q p O P) M0 M' ∧ ((x = 0 ∧ ∃ L' cnt', nstQ z q w T A B D N C n p O P K Ab Be Cm V F ns sf ef c cnt' L' M') ∨ (x = 1 ∧ ∃ L' cnt' a' : Nat, TX M' z q w T A B D N C n p O P K Ab Be Cm V F ns sf ef c cnt' L' ∧ mI M' p 2 = ((L' : Nat) : Int) ∧ mI M' (q + 1) 2 = ((a' : Nat) : Int) ∧ a' ≤ n ∧ L' ≤ a' ∧ mI M' (q + 1) 5 = 0))
/-- between two branches -/
def cmI (M0 : mM) (z q w T A B D N C n p O P K Ab Be Cm V F : Nat) (ns : Nat → Int) (sf ef : Nat → Nat) (c cnt L ix nbr a : Nat) (M : mM) : Prop := FI (txS q p O P) M0 M ∧ TX M z q w T A B D N C n p O P K Ab Be Cm V F ns sf ef c cnt L ∧ CY M q p O P V F ns sf ef L cnt ix nbr ∧ mI M (q + 1) 2 = ((a : Nat) : Int) ∧ a ≤ n ∧ mI M p 2 = ((L : Nat) : Int) ∧ mI M (q + 1) 5 = 0 ∧ mI M (q + 1) 6 = 0 ∧ ix ≤ 59
end TRO
end
section
/-! The class's reader of texts: commands, the whole. -/
section TRP
variable {G : mG} {d z q w T A B D N C n p O P K Ab Be Cm V F c s s' L L' cnt Bn a d0 V1 F1 nw k e s9 S0 wd ix nbr u v i Ab0 Be0 Cm0 Ab1 Be1 Cm1 : Nat} {M0 M M' M1 M2 : mM} {ns ns' ns1 : Nat → Int} {sf ef sf' ef' : Nat → Nat} {H H1 : Nat → Nat} {S R : Nat → Prop}
/-- behind a branch: it is counted, if no fault is noted -/
theorem s_rc_cnt (f1 : FI (txS q p O P) M0 M) (h : TX M z q w T A B D N C n p O P K Ab Be Cm V F ns sf ef c cnt L) (cy : CY M q p O P V F ns sf ef L cnt ix nbr) (n8 : mI M (q + 1) 3 = 0 → nbr < 8) (a1 : mI M (q + 1) 2 = ((a : Nat) : Int)) (a2 : a ≤ n) (p1 : mI M p 2 = ((L' : Nat) : Int)) (hLL : L ≤ L') (d1 : mI M (q + 1) 5 = 0) (c1 : mI M (q + 1) 6 = 0) (hix : ix ≤ 59) (br : mI M (q + 1) 3 = 0 → ∃ v s s' : Nat, mI M (p + 12) (cnt + 1) = ((v : Nat) : Int) ∧ mI M (p + 14) v = ((s : Nat) : Int) ∧ PC M O P V F ns ef L' s 1 ∧ mI M (p + 15) v = ((s' : Nat) : Int) ∧ PC M O P V F ns ef L' s' 0) : ((mI M (q + 1) 3 = 0) → (mK M p = 6 ∧ mK M (p + 12) = 30 ∧ ((0 : Int) ≤ (ix : Int) + 1 ∧ (ix : Int) + 1 < (mN M (p + 12) : Int)) ∧ ((0 : Int) ≤ (ix : Int) + 1 ∧ (ix : Int) + 1 < (mN M (p + 12) : Int)) ∧ i32 ((mI M (p + 12) (Int.toNat ((ix : Int) + 1))) + 1))) ∧ ∀ M120 : mM, M120 = (if (mI M (q + 1) 3 = 0) then (mUI M (p + 12) (Int.toNat ((ix : Int) + 1)) ((mI M (p + 12) (Int.toNat ((ix : Int) + 1))) + 1)) else M) → ∃ nbr', cmI M0 z q w T A B D N C n p O P K Ab Be Cm V F ns sf ef c cnt L' ix nbr' a M120 ∧ (mI M120 (q + 1) 3 = 0 → nbr' = nbr + 1) := by
  have ap := h.1.apart
  have qp := h.1.2.2.2.2.2.1.2.1
  have q12 : q + 1 ≠ p + 12 := by omega
  have p12 : p ≠ p + 12 := by omega
  clear ap qp
  obtain ⟨k6, -, ⟨-, -, -, -, -, -, -, -, -, kp12, -⟩, ⟨-, -, -, -, -, -, -, -, -, np12, -⟩⟩ := h.tab
  have e12 : Int.toNat ((ix : Int) + 1) = ix + 1 := by omega
  rw [np12, e12]
  refine ⟨fun y => ⟨k6, kp12, by omega, by omega, ?_⟩, fun M120 e120 => ?_⟩
  · obtain ⟨g1, g2, u, v, g3, g4, g5, g6, g7, -⟩ := cy y
    obtain ⟨u', g10, -, g11⟩ := g7.2.2.2.2.2.1
    have vb : v ≤ 480 := by
      rw [g3] at g10
      omega
    rw [g1, g4]
    exact ⟨by omega, by omega⟩
  · by_cases y : mI M (q + 1) 3 = 0
    · rw [if_pos y] at e120
      obtain ⟨v, s, s', b1, b2, b3, b4, b5⟩ := br y
      have g1 := (cy y).1
      rw [g1, b1] at e120
      obtain ⟨h2, cy2, fx, nb⟩ := tx_nb h cy y (n8 y) b1 b2 b3 b4 b5 hLL e120
      have nr := nb (q + 1) q12
      exact ⟨nbr + 1, ⟨f1.trans fx, h2, cy2, by rw [nr]; exact a1, a2, by rw [nb p p12]; exact p1, by rw [nr]; exact d1, by rw [nr]; exact c1, hix⟩, fun _ => rfl⟩
    · rw [if_neg y] at e120
      subst e120
      exact ⟨nbr, ⟨f1, h.any (fun u => absurd u y), fun u => absurd u y, a1, a2, p1, d1, c1, hix⟩, fun u => absurd u y⟩
end TRP
end
section
/-! The class's reader of texts: readCommand. -/
section TRQ
variable {G : mG} {d z q w T A B D N C n p O P K Ab Be Cm V F c s s' L L' cnt Bn a d0 V1 F1 nw k e s9 S0 wd ix nbr u v i Ab0 Be0 Cm0 Ab1 Be1 Cm1 : Nat} {M0 M M' M1 M2 : mM} {ns ns' ns1 : Nat → Int} {sf ef sf' ef' : Nat → Nat} {H H1 : Nat → Nat} {S R : Nat → Prop}
end TRQ
end
end
