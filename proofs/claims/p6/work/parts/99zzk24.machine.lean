section
section
/-! The class's machine: places, push. -/
section MAA
variable {G : mG} {d z m U Ab Be C Ab0 Be0 C0 t c p O P K : Nat} {M0 M M' M1 M2 : mM} {S R : Nat → Prop}
theorem s_JA_copyOf {a l : Nat} (hO : mOk M) (hK : mK M a = 30) (ha : a < mZ M) (hl : mN M a < l) (hl2 : l ≤ 16777216) : Cr G y_JA_copyOf (d + 1) [vr a, vi l] M (fun x M' => x = mZ M ∧ mOk M' ∧ FA (fun _ => False) (fun _ => False) M M' ∧ mZ M' = mZ M + 1 ∧ mS M' = mS M + l ∧ mK M' (mZ M) = 30 ∧ mN M' (mZ M) = l ∧ ∀ j, j < mN M a → mI M' (mZ M) j = mI M a j) := by
  refine k_JA_copyOf hO ⟨by omega, by omega⟩ ⟨hK, ⟨by omega, by omega⟩, fun y => absurd y (by omega), fun _ => ⟨⟨by omega, by omega⟩, fun M7 e7 => ?_⟩⟩
  rw [Int.toNat_natCast] at e7
  have f7 : FA (fun _ => False) (fun _ => False) M M7 := FA.new e7
  have n7 : mN M7 a = mN M a := (f7.2 a ha).2.1
  have k7 : mK M7 a = mK M a := (f7.2 a ha).1
  have l7 : mN M7 (mZ M) = l := by rw [e7, mN_New, if_pos rfl]
  have o7 : mOk M7 := by rw [e7]; exact mOk_New hO
  have i7 : mI M7 a = mI M a := (f7.2 a ha).2.2.2.2 (fun q => q)
  rw [n7, k7, l7, if_neg (by omega), Int.toNat_natCast]
  refine ⟨hK, ⟨by omega, by omega⟩, ⟨by omega, by omega, by omega, by omega, by omega⟩, fun M12 e12 => ?_⟩
  have g12 : FA (fun _ => False) (fun _ => False) M M12 := by
    refine ⟨by rw [e12]; exact f7.1, fun x hx => ?_⟩
    obtain ⟨b1, b2, b3, b4, b5⟩ := f7.2 x hx
    refine ⟨by rw [e12]; exact b1, by rw [e12]; exact b2, by rw [e12]; exact b3, fun q => by rw [e12]; exact b4 q, fun q => ?_⟩
    rw [← b5 q, e12]
    funext j
    exact if_neg (fun u => by have := u.1; omega)
  refine ⟨rfl, by rw [e12]; exact mOk_Cpy o7, g12, by rw [e12]; show mZ M7 = mZ M + 1; rw [e7]; rfl, by rw [e12]; show mS M7 = mS M + l; rw [e7]; rfl, by rw [e12]; show mK M7 (mZ M) = 30; rw [e7, mK_New, if_pos rfl], by rw [e12]; exact l7, fun j hj => ?_⟩
  rw [e12]
  show (if mZ M = mZ M ∧ 0 ≤ j ∧ j < 0 + mN M a then mI M7 a (0 + (j - 0)) else mI M7 (mZ M) j) = mI M a j
  rw [if_pos ⟨rfl, by omega, by omega⟩, i7]
  simp
/-- the machine's places: m the machine, U its numbers, Ab and Be its pile -/
def MK (M : mM) (z m U Ab Be C : Nat) : Prop := mK M m = 5 ∧ (mR M m 3 = U ∧ mR M m 5 = m + 2 ∧ mR M m 6 = Ab ∧ mR M m 7 = Be ∧ mR M m 10 = m + 5 ∧ mR M m 11 = m + 6 ∧ mR M m 12 = m + 7 ∧ mR M m 13 = m + 8 ∧ mR M m 14 = m + 9) ∧ (mK M U = 30 ∧ mK M (m + 2) = 30 ∧ mK M Ab = 30 ∧ mK M Be = 30 ∧ mK M (m + 5) = 30 ∧ mK M (m + 6) = 30 ∧ mK M (m + 7) = 30 ∧ mK M (m + 8) = 30 ∧ mK M (m + 9) = 30) ∧ (mN M (m + 2) = 12 ∧ mN M Ab = C ∧ mN M Be = C ∧ mN M (m + 5) = 60 ∧ mN M (m + 6) = 60 ∧ mN M (m + 7) = 60 ∧ mN M (m + 8) = 61 ∧ mN M (m + 9) = 61) ∧ (0 ≤ mI M m 4 ∧ mI M m 4 + 12 ≤ mN M U) ∧ ((Ab = m + 3 ∨ z ≤ Ab) ∧ (Be = m + 4 ∨ z ≤ Be) ∧ Ab ≠ Be ∧ m + 10 ≤ z) ∧ (z ≤ mZ M ∧ Ab < mZ M ∧ Be < mZ M ∧ U < mZ M) ∧ (64 ≤ C ∧ C ≤ 32768)
/-- the cells that a run may change -/
def mcS (m Ab Be : Nat) : Nat → Prop := fun x => x = m ∨ x = m + 2 ∨ (m + 5 ≤ x ∧ x ≤ m + 9) ∨ x = Ab ∨ x = Be
/-- the machine on its way: t values on the pile, c calls -/
def MS (M0 : mM) (z m U Ab0 Be0 C0 : Nat) (M : mM) (t c : Nat) : Prop := ∃ Ab Be C, mOk M ∧ MK M z m U Ab Be C ∧ FA (mcS m Ab0 Be0) (fun x => x = m) M0 M ∧ ((Ab = Ab0 ∨ mZ M0 ≤ Ab) ∧ (Be = Be0 ∨ mZ M0 ≤ Be)) ∧ (mS M + 4 * C0 = mS M0 + 4 * C ∧ 32 * mZ M + C0 ≤ 32 * mZ M0 + C) ∧ (mI M m 8 = t ∧ t ≤ C ∧ ∀ j, j < t → 1 ≤ mI M Be j ∧ mI M Be j < 1000000000) ∧ mI M m 15 = c ∧ (mI M m 9 = mI M0 m 9 ∧ mI M m 4 = mI M0 m 4 ∧ mR M m 0 = mR M0 m 0)
/-- only ints of the machine's cells change -/
theorem MK.fi (h : MK M z m U Ab Be C) (f : FI S M M') (h4 : mI M' m 4 = mI M m 4) : MK M' z m U Ab Be C := by
  obtain ⟨f1, f2, f3, f4, f5, -⟩ := f
  unfold MK at h ⊢
  rw [f1, f2, f3, f5, h4]
  exact h
/-- a step that keeps the places -/
theorem ms_step {t' c' : Nat} (ok : mOk M') (hk : MK M z m U Ab Be C) (hf : FA (mcS m Ab0 Be0) (fun x => x = m) M0 M) (hab : (Ab = Ab0 ∨ mZ M0 ≤ Ab) ∧ (Be = Be0 ∨ mZ M0 ≤ Be)) (hr : mS M + 4 * C0 = mS M0 + 4 * C ∧ 32 * mZ M + C0 ≤ 32 * mZ M0 + C) (hm : mI M m 9 = mI M0 m 9 ∧ mI M m 4 = mI M0 m 4 ∧ mR M m 0 = mR M0 m 0) (f : FI (mcS m Ab Be) M M') (h4 : mI M' m 4 = mI M m 4) (h9 : mI M' m 9 = mI M m 9) (ht : mI M' m 8 = t') (htC : t' ≤ C) (hb : ∀ j, j < t' → 1 ≤ mI M' Be j ∧ mI M' Be j < 1000000000) (hc : mI M' m 15 = c') : MS M0 z m U Ab0 Be0 C0 M' t' c' := by
  refine ⟨Ab, Be, C, ok, hk.fi f h4, hf.trans2 (FI.fa f) (fun x hx q => ?_) (fun x _ q => q), hab, by rw [f.2.2.2.2.1, f.2.2.2.2.2.1]; exact hr, ⟨ht, htC, hb⟩, hc, by rw [h9]; exact hm.1, by rw [h4]; exact hm.2.1, by rw [f.2.2.1]; exact hm.2.2⟩
  rcases q with q | q | q | q | q
  · exact Or.inl q
  · exact Or.inr (Or.inl q)
  · exact Or.inr (Or.inr (Or.inl q))
  · rcases hab.1 with e | e
    · exact Or.inr (Or.inr (Or.inr (Or.inl (by omega))))
    · omega
  · rcases hab.2 with e | e
    · exact Or.inr (Or.inr (Or.inr (Or.inr (by omega))))
    · omega
theorem mI_ui {a j : Nat} {x : Int} (b i : Nat) (e : M' = mUI M a j x) : mI M' b i = if b = a ∧ i = j then x else mI M b i := by rw [e, mI_UI]
/-- the tables of the machine that a push leaves alone -/
def mtb (m : Nat) (M M' : mM) : Prop := ∀ b, m + 5 ≤ b → b ≤ m + 9 → mI M' b = mI M b
end MAA
end
section
/-! The class's machine: stop, settle, relate, store, compute. -/
section MAB
variable {G : mG} {d z m U Ab Be C Ab0 Be0 C0 t c p O P K : Nat} {M0 M M' M1 M2 : mM} {S R : Nat → Prop}
theorem mtb.refl : mtb m M M := fun _ _ _ => rfl
theorem mtb.trans (h : mtb m M M1) (k : mtb m M1 M2) : mtb m M M2 := fun b h1 h2 => by rw [k b h1 h2, h b h1 h2]
theorem PK.fa (h : PK M z p O P K) (f : FA S R M M') (hp : ¬ R p) : PK M' z p O P K := by
  obtain ⟨h1, ⟨r0, r1⟩, ⟨k0, k1, n0, n1⟩, sp, ⟨z0, z1, z2⟩, hc, hl⟩ := id h
  have hpz : p < mZ M := by omega
  have zz := f.1.1
  obtain ⟨fp1, -, -, fp4, -⟩ := f.2 p hpz
  have fp := fp4 hp
  obtain ⟨fO1, fO2, -⟩ := f.2 O z1
  obtain ⟨fP1, fP2, -⟩ := f.2 P z2
  refine ⟨by rw [fp1]; exact h1, by rw [fp]; exact ⟨r0, r1⟩, by rw [fO1, fO2, fP1, fP2]; exact ⟨k0, k1, n0, n1⟩, sp, ⟨by omega, by omega, by omega⟩, hc, ?_⟩
  have kk : ∀ i, i ≤ 15 → mK M' (p + i) = mK M (p + i) := fun i hi => (f.2 (p + i) (by omega)).1
  have nn : ∀ i, i ≤ 15 → mN M' (p + i) = mN M (p + i) := fun i hi => (f.2 (p + i) (by omega)).2.1
  unfold PL at hl ⊢
  rw [fp, kk 3 (by omega), kk 4 (by omega), kk 5 (by omega), kk 6 (by omega), kk 7 (by omega), kk 8 (by omega), kk 9 (by omega), kk 10 (by omega), kk 11 (by omega), kk 12 (by omega), kk 13 (by omega), kk 14 (by omega), kk 15 (by omega), nn 3 (by omega), nn 4 (by omega), nn 5 (by omega), nn 6 (by omega), nn 7 (by omega), nn 8 (by omega), nn 9 (by omega), nn 10 (by omega), nn 11 (by omega), nn 12 (by omega), nn 13 (by omega), nn 14 (by omega), nn 15 (by omega)]
  exact hl
/-- a field of the machine is written -/
theorem ms_fld {j : Nat} {v : Int} (h : MS M0 z m U Ab0 Be0 C0 M t c) (hv : i32 v) (e : M' = mUI M m j v) (j4 : j ≠ 4) (j8 : j ≠ 8) (j9 : j ≠ 9) (j15 : j ≠ 15) : MS M0 z m U Ab0 Be0 C0 M' t c ∧ mtb m M M' := by
  obtain ⟨Ab, Be, C, ok, hk, hf, hab, hr, ⟨h8, htC, hb⟩, hc, hm⟩ := h
  have f : FI (fun b => b = m) M M' := by rw [e]; exact FI.ui rfl
  have g : ∀ i, i ≠ j → mI M' m i = mI M m i := fun i hi => by rw [mI_ui m i e, if_neg (fun q => hi q.2)]
  have mB : Be ≠ m := by have := hk.2.2.2.2.2.1; omega
  refine ⟨ms_step (t' := t) (c' := c) (by rw [e]; exact mOk_UI ok hv) hk hf hab hr hm (f.mono (fun _ q => Or.inl q)) (g 4 (fun q => j4 q.symm)) (g 9 (fun q => j9 q.symm)) (by rw [g 8 (fun q => j8 q.symm)]; exact h8) htC (fun i hi => by rw [f.2.2.2.2.2.2 Be mB]; exact hb i hi) (by rw [g 15 (fun q => j15 q.symm)]; exact hc), fun b h1 h2 => f.2.2.2.2.2.2 b (by omega)⟩
/-- the pile gets lower -/
theorem ms_top {t' : Nat} {v : Int} (h : MS M0 z m U Ab0 Be0 C0 M t c) (hv : v = t') (htt : t' ≤ t) (e : M' = mUI M m 8 v) : MS M0 z m U Ab0 Be0 C0 M' t' c ∧ mtb m M M' ∧ FI (fun b => b = m) M M' := by
  obtain ⟨Ab, Be, C, ok, hk, hf, hab, hr, ⟨h8, htC, hb⟩, hc, hm⟩ := h
  have f : FI (fun b => b = m) M M' := by rw [e]; exact FI.ui rfl
  have g : ∀ i, i ≠ 8 → mI M' m i = mI M m i := fun i hi => by rw [mI_ui m i e, if_neg (fun q => hi q.2)]
  have mB : Be ≠ m := by have := hk.2.2.2.2.2.1; omega
  have c32 := hk.2.2.2.2.2.2.2.2
  refine ⟨ms_step (t' := t') (c' := c) (by rw [e]; exact mOk_UI ok (by rw [hv]; exact ⟨by omega, by omega⟩)) hk hf hab hr hm (f.mono (fun _ q => Or.inl q)) (g 4 (by decide)) (g 9 (by decide)) (by rw [mI_ui m 8 e, if_pos ⟨rfl, rfl⟩]; exact hv) (by omega) (fun i hi => by rw [f.2.2.2.2.2.2 Be mB]; exact hb i (by omega)) (by rw [g 15 (by decide)]; exact hc), fun b h1 h2 => f.2.2.2.2.2.2 b (by omega), f⟩
/-- a value of the pile is written -/
theorem ms_val {j : Nat} {x y : Int} (h : MS M0 z m U Ab0 Be0 C0 M t c) (hj : j < t) (hx : i32 x) (hy : 1 ≤ y ∧ y < 1000000000) (e1 : M1 = mUI M (mR M m 6) j x) (e2 : M2 = mUI M1 (mR M1 m 7) j y) : MS M0 z m U Ab0 Be0 C0 M2 t c ∧ mtb m M M2 := by
  obtain ⟨Ab, Be, C, ok, hk, hf, hab, hr, ⟨h8, htC, hb⟩, hc, hm⟩ := h
  have r6 := hk.2.1.2.2.1
  have r7 := hk.2.1.2.2.2.1
  obtain ⟨sA, sB, sne, sz⟩ := hk.2.2.2.2.2.1
  rw [r6] at e1
  have f1 : FI (fun b => b = Ab) M M1 := by rw [e1]; exact FI.ui rfl
  rw [f1.2.2.1, r7] at e2
  have f2 : FI (fun b => b = Be) M1 M2 := by rw [e2]; exact FI.ui rfl
  have g : mI M2 m = mI M m := by rw [f2.2.2.2.2.2.2 m (by omega), f1.2.2.2.2.2.2 m (by omega)]
  refine ⟨ms_step (t' := t) (c' := c) (by rw [e2]; exact mOk_UI (by rw [e1]; exact mOk_UI ok hx) ⟨by omega, by omega⟩) hk hf hab hr hm ((f1.mono (fun _ q => Or.inr (Or.inr (Or.inr (Or.inl q))))).trans (f2.mono (fun _ q => Or.inr (Or.inr (Or.inr (Or.inr q)))))) (by rw [g]) (by rw [g]) (by rw [g]; exact h8) htC (fun i hi => ?_) (by rw [g]; exact hc), fun b h1 h2 => by rw [f2.2.2.2.2.2.2 b (by omega), f1.2.2.2.2.2.2 b (by omega)]⟩
  rw [mI_ui Be i e2]
  by_cases y0 : i = j
  · rw [if_pos ⟨rfl, y0⟩]; exact hy
  · rw [if_neg (fun q => y0 q.2), f1.2.2.2.2.2.2 Be (fun q => sne q.symm)]; exact hb i hi
/-- only the value above is written -/
theorem ms_abv {j : Nat} {x : Int} (h : MS M0 z m U Ab0 Be0 C0 M t c) (hx : i32 x) (e1 : M1 = mUI M (mR M m 6) j x) : MS M0 z m U Ab0 Be0 C0 M1 t c ∧ mtb m M M1 := by
  obtain ⟨Ab, Be, C, ok, hk, hf, hab, hr, ⟨h8, htC, hb⟩, hc, hm⟩ := h
  have r6 := hk.2.1.2.2.1
  obtain ⟨sA, sB, sne, sz⟩ := hk.2.2.2.2.2.1
  rw [r6] at e1
  have f1 : FI (fun b => b = Ab) M M1 := by rw [e1]; exact FI.ui rfl
  have g : mI M1 m = mI M m := f1.2.2.2.2.2.2 m (by omega)
  exact ⟨ms_step (t' := t) (c' := c) (by rw [e1]; exact mOk_UI ok hx) hk hf hab hr hm (f1.mono (fun _ q => Or.inr (Or.inr (Or.inr (Or.inl q))))) (by rw [g]) (by rw [g]) (by rw [g]; exact h8) htC (fun i hi => by rw [f1.2.2.2.2.2.2 Be (fun q => sne q.symm)]; exact hb i hi) (by rw [g]; exact hc), fun b h1 h2 => f1.2.2.2.2.2.2 b (by omega)⟩
/-- the pile's places and what is on top -/
theorem MS.pile (h : MS M0 z m U Ab0 Be0 C0 M t c) : mOk M ∧ mK M m = 5 ∧ mI M m 8 = t ∧ mK M (mR M m 6) = 30 ∧ mK M (mR M m 7) = 30 ∧ (t : Int) ≤ mN M (mR M m 6) ∧ (t : Int) ≤ mN M (mR M m 7) ∧ mN M (mR M m 6) ≤ 32768 ∧ mN M (mR M m 7) ≤ 32768 ∧ (∀ j, j < t → 1 ≤ mI M (mR M m 7) j ∧ mI M (mR M m 7) j < 1000000000) ∧ (m ≠ mR M m 6 ∧ m ≠ mR M m 7) ∧ mR M m 6 ≠ mR M m 7 := by
  obtain ⟨Ab, Be, C, ok, hk, hf, hab, hr, ⟨h8, htC, hb⟩, hc, hm⟩ := h
  obtain ⟨k0, ⟨r3, r5, r6, r7, -⟩, ⟨kU, k2, kA, kB, -⟩, ⟨n2, nA, nB, -⟩, hbs, ⟨sA, sB, sne, sz⟩, -, ⟨c64, c32⟩⟩ := hk
  rw [r6, r7, nA, nB]
  exact ⟨ok, k0, h8, kA, kB, by omega, by omega, by omega, by omega, hb, ⟨by omega, by omega⟩, sne⟩
end MAB
end
section
/-! The class's machine: relate, store, compute. -/
section MAC
variable {G : mG} {d z m U Ab Be C Ab0 Be0 C0 t s c p O P K : Nat} {M0 M M' M1 M2 : mM} {S R : Nat → Prop}
/-- what Math.floorMod answers -/
def FMs (G : mG) : Prop := ∀ (d : Nat) (M : mM) (x y : Int), mOk M → i64 x → 0 < y → i64 y → Cj G y_JM_floorMod d [vl x, vl y] M (fun v M' => M' = M ∧ 0 ≤ v ∧ v < y)
/-- a number that is set -/
theorem ms_nxt {j : Nat} {x : Int} (h : MS M0 z m U Ab0 Be0 C0 M t c) (hx : i32 x) (e1 : M1 = mUI M (m + 2) j x) : MS M0 z m U Ab0 Be0 C0 M1 t c ∧ mtb m M M1 := by
  obtain ⟨Ab, Be, C, ok, hk, hf, hab, hr, ⟨h8, htC, hb⟩, hc, hm⟩ := h
  obtain ⟨sA, sB, sne, sz⟩ := hk.2.2.2.2.2.1
  have f1 : FI (fun b => b = m + 2) M M1 := by rw [e1]; exact FI.ui rfl
  have g : mI M1 m = mI M m := f1.2.2.2.2.2.2 m (by omega)
  exact ⟨ms_step (t' := t) (c' := c) (by rw [e1]; exact mOk_UI ok hx) hk hf hab hr hm (f1.mono (fun _ q => Or.inr (Or.inl q))) (by rw [g]) (by rw [g]) (by rw [g]; exact h8) htC (fun i hi => by rw [f1.2.2.2.2.2.2 Be (by omega)]; exact hb i hi) (by rw [g]; exact hc), fun b h1 h2 => f1.2.2.2.2.2.2 b (by omega)⟩
theorem mulab {x y : Int} {A B : Nat} (hx : x.natAbs ≤ A) (hy : y.natAbs ≤ B) : (x * y).natAbs ≤ A * B := by
  rw [Int.natAbs_mul]
  exact Nat.mul_le_mul hx hy
end MAC
end
section
/-! The class's machine: meet, comeBack. -/
section MAD
variable {G : mG} {d z m U Ab Be C Ab0 Be0 C0 t s c p O P K : Nat} {M0 M M' M1 M2 : mM} {S R : Nat → Prop}
end MAD
end
section
/-! The class's machine: run. -/
theorem t6p {O p z m A B : Nat} (a1 : p + 15 < m ∨ m + 9 < p) (s : O = p + 1 ∨ z ≤ O) (a6 : m + 9 < z) (n1 : O ≠ A) (n2 : O ≠ B) (q : O = m ∨ O = m + 2 ∨ (m + 5 ≤ O ∧ O ≤ m + 9) ∨ O = A ∨ O = B) : False := by
  rcases q with q | q | q | q | q
  · omega
  · omega
  · omega
  · exact n1 q
  · exact n2 q
theorem t6q {O p z m A B : Nat} (a1 : p + 15 < m ∨ m + 9 < p) (s : O = p + 2 ∨ z ≤ O) (a6 : m + 9 < z) (n1 : O ≠ A) (n2 : O ≠ B) (q : O = m ∨ O = m + 2 ∨ (m + 5 ≤ O ∧ O ≤ m + 9) ∨ O = A ∨ O = B) : False := by
  rcases q with q | q | q | q | q
  · omega
  · omega
  · omega
  · exact n1 q
  · exact n2 q
theorem t6r {p z m A B i : Nat} (a1 : p + 15 < m ∨ m + 9 < p) (a7 : p + 16 ≤ z) (a8 : A = m + 3 ∨ z ≤ A) (a9 : B = m + 4 ∨ z ≤ B) (hi : i ≤ 15) (q : p + i = m ∨ p + i = m + 2 ∨ (m + 5 ≤ p + i ∧ p + i ≤ m + 9) ∨ p + i = A ∨ p + i = B) : False := by
  rcases q with q | q | q | q | q
  · omega
  · omega
  · omega
  · clear a9; omega
  · clear a8; omega
section MAE
variable {G : mG} {d z m U Ab Be C Ab0 Be0 C0 t s c p O P K L V F E F0 : Nat} {M0 M M' M1 M2 : mM} {S R X : Nat → Prop} {ns : Nat → Int} {sf ef : Nat → Nat} {H : Nat → Nat}
/-- a piece of code from s to e, where its END stands; heights H, at its end h -/
def Cod (M : mM) (O P V F : Nat) (ns : Nat → Int) (s e : Nat) (H : Nat → Nat) (h : Nat) : Prop := CO M O P V F ns H s e (fun _ => False) ∧ H s = 0 ∧ H e = h ∧ h + s ≤ e ∧ mI M O e = 0 ∧ s ≤ e
/-- the names below F: consts have values, formulas have code; each formula's code stands before its users' -/
def FO (M : mM) (p O P V : Nat) (ns : Nat → Int) (sf ef : Nat → Nat) (L F : Nat) : Prop := ∀ x, x < F → (ns x = 4 → 1 ≤ mI M (p + 7) x ∧ mI M (p + 7) x < 1000000000) ∧ (ns x = 7 → mI M (p + 8) x = sf x ∧ (∃ H, Cod M O P V x ns (sf x) (ef x) H 1) ∧ ef x < L ∧ ∀ y, y < x → ns y = 7 → ef y < sf x)
/-- c calls are open: T values lie below the piece of code that runs -/
def Cs (M0 : mM) (m O P V : Nat) (ns : Nat → Int) (sf ef : Nat → Nat) (E F0 s0 e0 h0 : Nat) (M : mM) : Nat → Nat → Nat → Nat → Nat → (Nat → Nat) → Nat → Prop
  | 0, T, F, s, e, _, h => T = 0 ∧ F = F0 ∧ s = s0 ∧ e = e0 ∧ h = h0
  | c + 1, T, F, s, e, _, h => ∃ (T1 F1 s1 e1 : Nat) (H1 : Nat → Nat) (h1 pc1 : Nat), Cs M0 m O P V ns sf ef E F0 s0 e0 h0 M c T1 F1 s1 e1 H1 h1 ∧ Cod M0 O P V F1 ns s1 e1 H1 h1 ∧ (∀ y, y < F1 → ns y = 7 → ef y < s1) ∧ T1 + e1 ≤ E ∧ F1 + c ≤ F0 ∧ mI M (m + 8) c = (F : Int) ∧ F < F1 ∧ ns F = 7 ∧ (s = sf F ∧ e = ef F ∧ h = 1) ∧ mI M (m + 9) c = (pc1 : Int) ∧ s1 < pc1 ∧ pc1 ≤ e1 ∧ T + 1 = T1 + H1 pc1
theorem Cs.cg {s0 e0 h0 : Nat} : ∀ {c T F s e : Nat} {H : Nat → Nat} {h : Nat}, Cs M0 m O P V ns sf ef E F0 s0 e0 h0 M c T F s e H h → (∀ i, i < c → mI M' (m + 8) i = mI M (m + 8) i ∧ mI M' (m + 9) i = mI M (m + 9) i) → Cs M0 m O P V ns sf ef E F0 s0 e0 h0 M' c T F s e H h
  | 0, _, _, _, _, _, _, q, _ => q
  | c + 1, _, _, _, _, _, _, q, hh => by
    obtain ⟨T1, F1, s1, e1, H1, h1, pc1, q1, q2, q3, q4, q5, q6, q7, q8, q9, q10, q11⟩ := q
    exact ⟨T1, F1, s1, e1, H1, h1, pc1, q1.cg (fun i hi => hh i (by omega)), q2, q3, q4, q5, by rw [(hh c (by omega)).1]; exact q6, q7, q8, q9, by rw [(hh c (by omega)).2]; exact q10, q11⟩
/-- formulas that were met have values -/
def MT (M : mM) (m : Nat) (X : Nat → Prop) : Prop := ∀ x, X x → mI M (m + 5) x ≤ mI M m 9 ∧ (mI M (m + 5) x = mI M m 9 → 1 ≤ mI M (m + 7) x ∧ mI M (m + 7) x < 1000000000)
theorem MT.mtb (h : MT M m X) (b : mtb m M M') (h9 : mI M' m 9 = mI M m 9) : MT M' m X := fun x hx => by
  rw [b (m + 5) (by omega) (by omega), b (m + 7) (by omega) (by omega), h9]
  exact h x hx
/-- what a run comes to -/
def rnQ (M0 : mM) (z m U Ab0 Be0 C0 : Nat) (X : Nat → Prop) (h0 : Nat) (r : Int) (M' : mM) : Prop := MT M' m X ∧ ((r = 0 ∧ mI M' m 1 ≠ 0 ∧ ∃ t c, MS M0 z m U Ab0 Be0 C0 M' t c) ∨ (r = 1 ∧ MS M0 z m U Ab0 Be0 C0 M' h0 0))
theorem MS.nine (h : MS M0 z m U Ab0 Be0 C0 M t c) : mI M m 9 = mI M0 m 9 := by
  obtain ⟨_, _, _, -, -, -, -, -, -, -, h9, -⟩ := h
  exact h9
/-- the program and the machine lie apart -/
def Mpr (M0 : mM) (z m p O P Ab0 Be0 : Nat) : Prop := (p + 15 < m ∨ m + 9 < p) ∧ (O ≠ Ab0 ∧ O ≠ Be0 ∧ P ≠ Ab0 ∧ P ≠ Be0) ∧ m + 9 < z ∧ p + 16 ≤ z ∧ (Ab0 = m + 3 ∨ z ≤ Ab0) ∧ (Be0 = m + 4 ∨ z ≤ Be0)
/-- at any time: the program is as it was -/
theorem MS.prog (h : MS M0 z m U Ab0 Be0 C0 M t c) (hp : PK M0 z p O P K) (h0 : mR M0 m 0 = p) (ha : Mpr M0 z m p O P Ab0 Be0) : PK M z p O P K ∧ mR M m 0 = p ∧ mI M O = mI M0 O ∧ mI M P = mI M0 P ∧ ∀ i, i ≤ 15 → mI M (p + i) = mI M0 (p + i) := by
  obtain ⟨Ab, Be, C, ok, hk, hf, hab, hr, -, -, hm⟩ := h
  obtain ⟨a1, ⟨a2, a3, a4, a5⟩, a6, a7, a8, a9⟩ := ha
  obtain ⟨-, -, -, sp, ⟨z0, z1, z2⟩, -, -⟩ := id hp
  refine ⟨hp.fa hf (show ¬ p = m by omega), by rw [hm.2.2]; exact h0, (hf.2 O z1).2.2.2.2 ?_, (hf.2 P z2).2.2.2.2 ?_, fun i hi => (hf.2 (p + i) (by omega)).2.2.2.2 ?_⟩
  · exact fun q => t6p a1 sp.1 a6 a2 a3 q
  · exact fun q => t6q a1 sp.2.1 a6 a4 a5 q
  · exact fun q => t6r a1 a7 a8 a9 hi q
end MAE
end
section
/-! The class's machine: run, the loop. -/
section MAF
variable {G : mG} {d z m U Ab Be C Ab0 Be0 C0 t s c p O P K L V F E F0 s0 e0 h0 : Nat} {M0 M M' M1 M2 : mM} {S R X : Nat → Prop} {ns : Nat → Int} {sf ef : Nat → Nat} {H : Nat → Nat}
theorem stO.all {pc : Nat} {o x : Int} (h : stO V F ns H pc o x) : o ≠ 0 ∧ (o = 3 → H (pc + 1) = H pc + 1) ∧ ((o = 4 ∨ o = 7) → 0 ≤ x ∧ x < F ∧ ns x.toNat = o ∧ H (pc + 1) = H pc + 1) ∧ (o = 5 → 0 ≤ x ∧ x < V ∧ H (pc + 1) = H pc + 1) ∧ ((o = 30 ∨ o = 31 ∨ o = 33) → H (pc + 1) + 1 = H pc) ∧ (o = 42 → 1 ≤ H pc) ∧ ((o = 40 ∨ o = 41) → 1 ≤ H pc ∧ H (pc + 1) = H pc) ∧ ((o = 15 ∨ o = 16 ∨ (19 ≤ o ∧ o ≤ 29)) → 2 ≤ H pc ∧ H (pc + 1) + 1 = H pc) ∧ (o = 43 → 0 ≤ x ∧ x ≤ 1000000 ∧ x % 16 < V ∧ H (pc + 1) + 1 = H pc) ∧ ((o = 3 ∨ o = 4 ∨ o = 5 ∨ o = 7 ∨ o = 30 ∨ o = 31 ∨ o = 33 ∨ o = 42) ∨ (o = 40 ∨ o = 41) ∨ (o = 15 ∨ o = 16 ∨ (19 ≤ o ∧ o ≤ 29)) ∨ o = 43) := by
  unfold stO at h
  rcases h with q | q | q | q | q | q | q | q
  all_goals refine ⟨by omega, by omega, by omega, by omega, by omega, by omega, by omega, by omega, by omega, by omega⟩
end MAF
end
section
/-! The class's reader of texts: places, tables, frames. -/
theorem t6a {q p O P x : Nat} (u : ¬ (q ≤ x ∧ x ≤ q + 22)) (v : ¬ ((q + 1 ≤ x ∧ x ≤ q + 1 + 9) ∨ (p ≤ x ∧ x ≤ p + 15) ∨ x = O ∨ x = P)) (y : (q ≤ x ∧ x ≤ q + 10) ∨ x = q + 21 ∨ x = q + 22 ∨ x = p ∨ (p + 3 ≤ x ∧ x ≤ p + 15) ∨ x = O ∨ x = P) : False := by
  rcases y with y | y | y | y | y | y | y
  · exact u ⟨y.1, Nat.le_trans y.2 (by omega)⟩
  · exact u (by rw [y]; exact ⟨by omega, by omega⟩)
  · exact u (by rw [y]; exact ⟨by omega, by omega⟩)
  · exact v (Or.inr (Or.inl (by rw [y]; exact ⟨by omega, by omega⟩)))
  · exact v (Or.inr (Or.inl ⟨Nat.le_trans (by omega) y.1, y.2⟩))
  · exact v (Or.inr (Or.inr (Or.inl y)))
  · exact v (Or.inr (Or.inr (Or.inr y)))
theorem t6b {q p O P : Nat} (s : q + 22 < p ∨ p + 15 < q) (o : O < q ∨ q + 22 < O) (o' : P < q ∨ q + 22 < P) (y : (q ≤ q + 11 ∧ q + 11 ≤ q + 10) ∨ q + 11 = q + 21 ∨ q + 11 = q + 22 ∨ q + 11 = p ∨ (p + 3 ≤ q + 11 ∧ q + 11 ≤ p + 15) ∨ q + 11 = O ∨ q + 11 = P) : False := by
  rcases y with y | y | y | y | y | y | y
  · omega
  · omega
  · omega
  · clear o o'; omega
  · clear o o'; omega
  · clear s o'; omega
  · clear s o; omega
theorem t6c {q p O P b j : Nat} (hb : (b = q ∨ b = q + 21 ∨ b = q + 22 ∨ (b = q + 1 ∧ (j = 2 ∨ j = 5 ∨ j = 6)) ∨ (b = p ∧ j = 2))) : (q ≤ b ∧ b ≤ q + 10) ∨ b = q + 21 ∨ b = q + 22 ∨ b = p ∨ (p + 3 ≤ b ∧ b ≤ p + 15) ∨ b = O ∨ b = P := by
  rcases hb with u | u | u | u | u
  · exact Or.inl ⟨by omega, by omega⟩
  · exact Or.inr (Or.inl u)
  · exact Or.inr (Or.inr (Or.inl u))
  · exact Or.inl ⟨by omega, by omega⟩
  · exact Or.inr (Or.inr (Or.inr (Or.inl u.1)))
theorem t6d {q p b i j : Nat} (hb : (b = q ∨ b = q + 21 ∨ b = q + 22 ∨ (b = q + 1 ∧ (j = 2 ∨ j = 5 ∨ j = 6)) ∨ (b = p ∧ j = 2))) (s : q + 22 < p ∨ p + 15 < q) (i2 : i ≠ 2) (i5 : i ≠ 5) (i6 : i ≠ 6) : ¬ (q + 1 = b ∧ i = j) := fun e => by
  obtain ⟨e, e'⟩ := e
  subst e'
  rcases hb with u | u | u | u | u
  · omega
  · omega
  · omega
  · rcases u.2 with v | v | v
    · exact i2 v
    · exact i5 v
    · exact i6 v
  · exact i2 u.2
theorem t6e {q p b i j x : Nat} (hb : (b = q ∨ b = q + 21 ∨ b = q + 22 ∨ (b = q + 1 ∧ (j = 2 ∨ j = 5 ∨ j = 6)) ∨ (b = p ∧ j = 2))) (s : q + 22 < p ∨ p + 15 < q) (i6 : 6 ≤ i) (i9 : i ≤ 9) : ¬ (q + 1 + i = b ∧ x = j) := fun e => by
  obtain ⟨e, -⟩ := e
  rcases hb with u | u | u | u | u
  · omega
  · omega
  · omega
  · have := u.1; omega
  · have := u.1; omega
theorem t6f {q p b i j : Nat} (hb : (b = q ∨ b = q + 21 ∨ b = q + 22 ∨ (b = q + 1 ∧ (j = 2 ∨ j = 5 ∨ j = 6)) ∨ (b = p ∧ j = 2))) (s : q + 22 < p ∨ p + 15 < q) (i2 : i ≠ 2) : ¬ (p = b ∧ i = j) := fun e => by
  obtain ⟨e, e'⟩ := e
  subst e'
  rcases hb with u | u | u | u | u
  · omega
  · omega
  · omega
  · have := u.1; omega
  · exact i2 u.2
theorem t6g {q p b i j x : Nat} (hb : (b = q ∨ b = q + 21 ∨ b = q + 22 ∨ (b = q + 1 ∧ (j = 2 ∨ j = 5 ∨ j = 6)) ∨ (b = p ∧ j = 2))) (s : q + 22 < p ∨ p + 15 < q) (i3 : 3 ≤ i) (i15 : i ≤ 15) : ¬ (p + i = b ∧ x = j) := fun e => by
  obtain ⟨e, -⟩ := e
  rcases hb with u | u | u | u | u
  · omega
  · omega
  · omega
  · have := u.1; omega
  · have := u.1; omega
theorem t6h {q p O b i j : Nat} (hb : (b = q ∨ b = q + 21 ∨ b = q + 22 ∨ (b = q + 1 ∧ (j = 2 ∨ j = 5 ∨ j = 6)) ∨ (b = p ∧ j = 2))) (o : O < q ∨ q + 22 < O) (o2 : O ≠ p) : ¬ (O = b ∧ i = j) := fun e => by
  obtain ⟨e, -⟩ := e
  rcases hb with u | u | u | u | u
  · omega
  · omega
  · omega
  · have := u.1; omega
  · exact o2 (e.trans u.1)
theorem t6i {O p k : Nat} (h : O < p ∨ O = p + k ∨ p + 15 < O) (hk : 0 < k) : O ≠ p := by omega
theorem t6j {q p b i j : Nat} (hb : (b = q ∨ b = q + 21 ∨ b = q + 22 ∨ (b = q + 1 ∧ (j = 2 ∨ j = 5 ∨ j = 6)) ∨ (b = p ∧ j = 2))) (s : q + 22 < p ∨ p + 15 < q) : ¬ (q + 6 = b ∧ i = j) := fun e => by
  obtain ⟨e, -⟩ := e
  rcases hb with u | u | u | u | u
  · omega
  · omega
  · omega
  · have := u.1; omega
  · have := u.1; omega
theorem t6k {q p O P b : Nat} (y : (q + 1 ≤ b ∧ b ≤ q + 1 + 9) ∨ b = p ∨ b = O ∨ b = P) : (q ≤ b ∧ b ≤ q + 10) ∨ b = q + 21 ∨ b = q + 22 ∨ b = p ∨ (p + 3 ≤ b ∧ b ≤ p + 15) ∨ b = O ∨ b = P := by
  rcases y with y | y | y | y
  · exact Or.inl ⟨by omega, by omega⟩
  · exact Or.inr (Or.inr (Or.inr (Or.inl y)))
  · exact Or.inr (Or.inr (Or.inr (Or.inr (Or.inr (Or.inl y)))))
  · exact Or.inr (Or.inr (Or.inr (Or.inr (Or.inr (Or.inr y)))))
theorem t6l {q p O P i : Nat} (s : q + 22 < p ∨ p + 15 < q) (o : O < p ∨ O = p + 1 ∨ p + 15 < O) (o' : P < p ∨ P = p + 2 ∨ p + 15 < P) (i3 : 3 ≤ i) (i15 : i ≤ 15) (y : (q + 1 ≤ p + i ∧ p + i ≤ q + 1 + 9) ∨ p + i = p ∨ p + i = O ∨ p + i = P) : False := by
  rcases y with y | y | y | y
  · clear o o'; omega
  · omega
  · clear s o'; omega
  · clear s o; omega
theorem t6n {q p O P x : Nat} (s : q + 22 < p ∨ p + 15 < q) (o : O < q ∨ q + 22 < O) (o' : P < q ∨ q + 22 < P) (h1 : q ≤ x) (h2 : x ≤ q + 22) : x ≠ p ∧ x ≠ O ∧ x ≠ P := by
  refine ⟨?_, ?_, ?_⟩
  · clear o o'; omega
  · clear s o'; omega
  · clear s o; omega
theorem t6o {p O P i : Nat} (o : O < p ∨ O = p + 1 ∨ p + 15 < O) (o' : P < p ∨ P = p + 2 ∨ p + 15 < P) (i3 : 3 ≤ i) (i15 : i ≤ 15) : p + i ≠ p ∧ p + i ≠ O ∧ p + i ≠ P := by
  refine ⟨?_, ?_, ?_⟩
  · omega
  · clear o'; omega
  · clear o; omega
section TRA
variable {G : mG} {d z q w T A B D N C n p O P K Ab Be Cm V F c s L L' cnt Bn a : Nat} {M0 M M' M1 M2 : mM} {ns ns' : Nat → Int} {sf ef sf' ef' : Nat → Nat} {H : Nat → Nat} {S R : Nat → Prop}
theorem CO.wide {V' F' : Nat} {pd : Nat → Prop} {e : Nat} (h : CO M O P V F ns H s e pd) (hV : V ≤ V') (hF : F ≤ F') (hn : ∀ x, x < F → ns' x = ns x) : CO M O P V' F' ns' H s e pd := fun pc h0 h1 => by
  obtain ⟨a1, a2, a3⟩ := h pc h0 h1
  refine ⟨?_, a2, a3⟩
  clear a2 h
  unfold stO at a1 ⊢
  rcases a1 with u | u | u | u | u | u | u | u
  · exact Or.inl u
  · obtain ⟨u1, u2, u3, u4, u5⟩ := u
    exact Or.inr (Or.inl ⟨u1, u2, by omega, by rw [hn _ (by omega)]; exact u4, u5⟩)
  · obtain ⟨u1, u2, u3, u4⟩ := u
    exact Or.inr (Or.inr (Or.inl ⟨u1, u2, by omega, u4⟩))
  · exact Or.inr (Or.inr (Or.inr (Or.inl u)))
  · exact Or.inr (Or.inr (Or.inr (Or.inr (Or.inl u))))
  · exact Or.inr (Or.inr (Or.inr (Or.inr (Or.inr (Or.inl u)))))
  · exact Or.inr (Or.inr (Or.inr (Or.inr (Or.inr (Or.inr (Or.inl u))))))
  · obtain ⟨u1, u2, u3, u4, u5⟩ := u
    exact Or.inr (Or.inr (Or.inr (Or.inr (Or.inr (Or.inr (Or.inr ⟨u1, u2, u3, by omega, u5⟩))))))
theorem Cod.wide {V' F' e h : Nat} (hc : Cod M O P V F ns s e H h) (hV : V ≤ V') (hF : F ≤ F') (hn : ∀ x, x < F → ns' x = ns x) : Cod M O P V' F' ns' s e H h := ⟨hc.1.wide hV hF hn, hc.2⟩
/-- the code is the same -/
theorem Cod.cg {e h : Nat} (hc : Cod M O P V F ns s e H h) (hO : ∀ i, i ≤ e → mI M' O i = mI M O i) (hP : ∀ i, i ≤ e → mI M' P i = mI M P i) : Cod M' O P V F ns s e H h := by
  obtain ⟨c1, c2, c3, c4, c5, c6⟩ := hc
  refine ⟨fun pc h0 h1 => ?_, c2, c3, c4, by rw [hO e (Nat.le_refl _)]; exact c5, c6⟩
  rw [hO pc (by omega), hP pc (by omega)]
  exact c1 pc h0 h1
/-- a piece of code at s -/
def PC (M : mM) (O P V F : Nat) (ns : Nat → Int) (ef : Nat → Nat) (L s h : Nat) : Prop := ∃ e H Ft, Cod M O P V Ft ns s e H h ∧ e < L ∧ Ft ≤ F ∧ ∀ y, y < Ft → ns y = 7 → ef y < s
theorem PC.wide {V' F' h : Nat} (hc : PC M O P V F ns ef L s h) (hV : V ≤ V') (hF : F ≤ F') (hL : L ≤ L') (hn : ∀ x, x < F → ns' x = ns x ∧ ef' x = ef x) : PC M O P V' F' ns' ef' L' s h := by
  obtain ⟨e, H, Ft, c1, c2, c3, c4⟩ := hc
  refine ⟨e, H, Ft, c1.wide hV (Nat.le_refl _) (fun x hx => (hn x (by omega)).1), by omega, by omega, fun y hy h7 => ?_⟩
  rw [(hn y (by omega)).2]
  exact c4 y hy (by rw [← (hn y (by omega)).1]; exact h7)
theorem PC.cg {h : Nat} (hc : PC M O P V F ns ef L s h) (hO : ∀ i, i < L → mI M' O i = mI M O i) (hP : ∀ i, i < L → mI M' P i = mI M P i) : PC M' O P V F ns ef L s h := by
  obtain ⟨e, H, Ft, c1, c2, c3, c4⟩ := hc
  exact ⟨e, H, Ft, c1.cg (fun i hi => hO i (by omega)) (fun i hi => hP i (by omega)), c2, c3, c4⟩
theorem FO.cg (h : FO M p O P V ns sf ef L F) (hO : ∀ i, i < L → mI M' O i = mI M O i) (hP : ∀ i, i < L → mI M' P i = mI M P i) (h7 : ∀ i, i < F → mI M' (p + 7) i = mI M (p + 7) i) (h8 : ∀ i, i < F → mI M' (p + 8) i = mI M (p + 8) i) : FO M' p O P V ns sf ef L F := fun x hx => by
  obtain ⟨a1, a2⟩ := h x hx
  rw [h7 x hx, h8 x hx]
  refine ⟨a1, fun y => ?_⟩
  obtain ⟨b1, ⟨Hx, b2⟩, b3, b4⟩ := a2 y
  exact ⟨b1, ⟨Hx, b2.cg (fun i hi => hO i (by omega)) (fun i hi => hP i (by omega))⟩, b3, b4⟩
theorem FO.wide {V' : Nat} (h : FO M p O P V ns sf ef L F) (hV : V ≤ V') (hL : L ≤ L') : FO M p O P V' ns sf ef L' F := fun x hx => by
  obtain ⟨a1, a2⟩ := h x hx
  refine ⟨a1, fun y => ?_⟩
  obtain ⟨b1, ⟨Hx, b2⟩, b3, b4⟩ := a2 y
  exact ⟨b1, ⟨Hx, b2.wide hV (Nat.le_refl _) (fun _ _ => rfl)⟩, by omega, b4⟩
/-- the program's tables: cnt commands, Bn branches -/
def PG (M : mM) (p O P V F : Nat) (ns : Nat → Int) (sf ef : Nat → Nat) (L cnt Bn : Nat) : Prop := FO M p O P V ns sf ef L F ∧ (mI M p 11 = -1 ∨ ∃ s : Nat, mI M p 11 = s ∧ PC M O P V F ns ef L s 1) ∧ (∀ j, j < cnt → ∃ s : Nat, mI M (p + 11) j = s ∧ PC M O P V F ns ef L s 1) ∧ mI M (p + 12) 0 = 0 ∧ (∀ j, j < cnt → ∃ u v : Nat, mI M (p + 12) j = u ∧ mI M (p + 12) (j + 1) = v ∧ u ≤ v ∧ v ≤ u + 8) ∧ (∃ u : Nat, mI M (p + 12) cnt = u ∧ u ≤ Bn ∧ u ≤ 8 * cnt) ∧ (∀ b, b < Bn → ∃ s1 s2 : Nat, mI M (p + 14) b = s1 ∧ PC M O P V F ns ef L s1 1 ∧ mI M (p + 15) b = s2 ∧ PC M O P V F ns ef L s2 0)
/-- the cells that reading an item may change -/
def txS (q p O P : Nat) : Nat → Prop := fun x => (q ≤ x ∧ x ≤ q + 10) ∨ x = q + 21 ∨ x = q + 22 ∨ x = p ∨ (p + 3 ≤ x ∧ x ≤ p + 15) ∨ x = O ∨ x = P
/-- the reader of texts: places; it lies apart from the words and the program -/
def TP (M : mM) (z q w T A B D N C n p O P K Ab Be Cm : Nat) : Prop := RB M z (q + 1) w T A B D N C n p O P K ∧ (mK M q = 3 ∧ mR M q 0 = q + 1 ∧ mR M q 1 = q + 11 ∧ mR M q 2 = p ∧ mR M q 5 = q + 21 ∧ mR M q 6 = q + 22) ∧ (mK M (q + 21) = 30 ∧ mK M (q + 22) = 30 ∧ mN M (q + 21) = 3 ∧ mN M (q + 22) = 3) ∧ MK M z (q + 11) (q + 12) Ab Be Cm ∧ mR M (q + 11) 0 = p ∧ (q + 23 ≤ z ∧ (q + 22 < p ∨ p + 15 < q) ∧ (∀ x, (x = w ∨ x = T ∨ x = A ∨ x = B ∨ x = D) → ¬ (q ≤ x ∧ x ≤ q + 22) ∧ x ≠ Ab ∧ x ≠ Be ∧ x < mZ M)) ∧ (O ≠ Ab ∧ O ≠ Be ∧ P ≠ Ab ∧ P ≠ Be)
theorem TP.apart (h : TP M z q w T A B D N C n p O P K Ab Be Cm) : Mpr M z (q + 11) p O P Ab Be ∧ (O < q ∨ q + 22 < O) ∧ (P < q ∨ q + 22 < P) ∧ (O < p ∨ O = p + 1 ∨ p + 15 < O) ∧ (P < p ∨ P = p + 2 ∨ p + 15 < P) ∧ O ≠ P := by
  obtain ⟨⟨-, -, -, -, ⟨-, -, -, ⟨a1, a2, a3, a4⟩, -⟩, -⟩, -, -, hk, -, ⟨b1, b2, -⟩, b3⟩ := h
  obtain ⟨sA, sB, sne, sz⟩ := hk.2.2.2.2.2.1
  exact ⟨⟨by omega, b3, by omega, by omega, sA, sB⟩, by omega, by omega, by omega, by omega, a3⟩
theorem TP.fi (h : TP M z q w T A B D N C n p O P K Ab Be Cm) (ok : mOk M') (f : FI (txS q p O P) M M') : TP M' z q w T A B D N C n p O P K Ab Be Cm := by
  have ap := h.apart
  obtain ⟨hb, h2, h3, hk, h4, ⟨s1, s2, s3⟩, h5⟩ := h
  obtain ⟨b1, b2, b3, b4, b5, b6, b7⟩ := hb
  obtain ⟨f1, f2, f3, f4, f5, f6, f7⟩ := id f
  refine ⟨⟨ok, b2.fi f, by rw [f3]; exact b3, b4.fi f (fun x hx y => ?_), b5.fi f, b6, b7⟩, by rw [f1, f3]; exact h2, by rw [f1, f2]; exact h3, hk.fi f ?_, by rw [f3]; exact h4, ⟨s1, s2, by rw [f5]; exact s3⟩, h5⟩
  · exact t6a (s3 x hx).1 (b6.2.2 x hx) y
  · rw [f7 (q + 11) (fun y => t6b s2 ap.2.1 ap.2.2.1 y)]
theorem TP.words (h : TP M z q w T A B D N C n p O P K Ab Be Cm) (f : FI (txS q p O P) M M') : mI M' A = mI M A ∧ mI M' B = mI M B ∧ mI M' D = mI M D ∧ mI M' w = mI M w := by
  have ap := h.apart
  obtain ⟨⟨-, -, -, -, -, b6, -⟩, -, -, -, -, ⟨-, -, s3⟩, -⟩ := h
  have no : ∀ x, (x = w ∨ x = T ∨ x = A ∨ x = B ∨ x = D) → ¬ txS q p O P x := fun x hx y => t6a (s3 x hx).1 (b6.2.2 x hx) y
  exact ⟨f.2.2.2.2.2.2 A (no A (Or.inr (Or.inr (Or.inl rfl)))), f.2.2.2.2.2.2 B (no B (Or.inr (Or.inr (Or.inr (Or.inl rfl))))), f.2.2.2.2.2.2 D (no D (Or.inr (Or.inr (Or.inr (Or.inr rfl))))), f.2.2.2.2.2.2 w (no w (Or.inl rfl))⟩
/-- names, vars, kinds -/
def TC (M : mM) (q A n p V F : Nat) (ns : Nat → Int) (c : Nat) : Prop := (mI M p 3 = V ∧ V ≤ 12) ∧ (mI M p 7 = F ∧ F ≤ 60) ∧ TN M (q + 1) A n V F ns c ∧ (∀ j, mI M (q + 6) j = 0 ∨ mI M (q + 6) j = 1)
/-- the tables, while no fault is noted -/
def PX (M : mM) (q p O P V F : Nat) (ns : Nat → Int) (sf ef : Nat → Nat) (L cnt : Nat) : Prop := (mI M p 12 = cnt ∧ cnt ≤ 60) ∧ (mI M (q + 1) 3 = 0 → ∃ u : Nat, mI M (p + 12) cnt = u ∧ PG M p O P V F ns sf ef L cnt u)
/-- what reading may change, but for the commands -/
def txE (M : mM) (q p O P s : Nat) (M' : mM) : Prop := (∀ i, i ≠ 2 → i ≠ 3 → i ≠ 4 → i ≠ 5 → i ≠ 6 → i ≠ 7 → i ≠ 12 → i ≠ 14 → mI M' (q + 1) i = mI M (q + 1) i) ∧ (mI M (q + 1) 3 ≠ 0 → mI M' (q + 1) 3 ≠ 0) ∧ (∀ i, 6 ≤ i → i ≤ 9 → mI M' (q + 1 + i) = mI M (q + 1 + i)) ∧ (∀ i, i ≠ 2 → mI M' p i = mI M p i) ∧ (∀ i, 3 ≤ i → i ≤ 15 → mI M' (p + i) = mI M (p + i)) ∧ (∀ i, i < s → mI M' O i = mI M O i ∧ mI M' P i = mI M P i)
def txF (M : mM) (q p O P s : Nat) (M' : mM) : Prop := FI (txS q p O P) M M' ∧ txE M q p O P s M'
theorem txF.refl : txF M q p O P s M := ⟨FI.refl, fun _ _ _ _ _ _ _ _ _ => rfl, fun h => h, fun _ _ _ => rfl, fun _ _ => rfl, fun _ _ _ => rfl, fun _ _ => ⟨rfl, rfl⟩⟩
theorem txF.trans (f : txF M q p O P s M1) (g : txF M1 q p O P s M2) : txF M q p O P s M2 := by
  obtain ⟨a1, a2, a3, a4, a5, a6, a7⟩ := f
  obtain ⟨b1, b2, b3, b4, b5, b6, b7⟩ := g
  exact ⟨a1.trans b1, fun i i2 i3 i4 i5 i6 i7 i12 i14 => by rw [b2 i i2 i3 i4 i5 i6 i7 i12 i14, a2 i i2 i3 i4 i5 i6 i7 i12 i14], fun h => b3 (a3 h), fun i i6 i9 => by rw [b4 i i6 i9, a4 i i6 i9], fun i i2 => by rw [b5 i i2, a5 i i2], fun i i9 i15 => by rw [b6 i i9 i15, a6 i i9 i15], fun i hi => ⟨by rw [(b7 i hi).1, (a7 i hi).1], by rw [(b7 i hi).2, (a7 i hi).2]⟩⟩
theorem txF.less {s' : Nat} (f : txF M q p O P s M1) (h : s' ≤ s) : txF M q p O P s' M1 := ⟨f.1, f.2.1, f.2.2.1, f.2.2.2.1, f.2.2.2.2.1, f.2.2.2.2.2.1, fun i hi => f.2.2.2.2.2.2 i (by omega)⟩
theorem TC.tx (h : TC M q A n p V F ns c) (hA : mI M' A = mI M A) (f : txE M q p O P s M') (ht : ∀ j, mI M' (q + 6) j = 0 ∨ mI M' (q + 6) j = 1) : TC M' q A n p V F ns c := by
  obtain ⟨a1, a2, a3, -⟩ := h
  obtain ⟨f2, -, f4, f5, -⟩ := f
  refine ⟨by rw [f5 3 (by decide)]; exact a1, by rw [f5 7 (by decide)]; exact a2, ?_, ht⟩
  unfold TN at a3 ⊢
  rw [hA, f2 19 (by decide) (by decide) (by decide) (by decide) (by decide) (by decide) (by decide) (by decide), f4 6 (by omega) (by omega), f4 7 (by omega) (by omega), f4 8 (by omega) (by omega), f4 9 (by omega) (by omega)]
  exact a3
theorem PX.tx (h : PX M q p O P V F ns sf ef L cnt) (f : txE M q p O P L M') : PX M' q p O P V F ns sf ef L cnt := by
  obtain ⟨a1, a2⟩ := h
  obtain ⟨f2, f3, f4, f5, f6, f7⟩ := f
  refine ⟨by rw [f5 12 (by decide)]; exact a1, fun h0 => ?_⟩
  obtain ⟨u, e, g1, g2, g3, g4, g5, g6, g7⟩ := a2 (Classical.byContradiction (fun y => f3 y h0))
  have cg : ∀ {s h : Nat}, PC M O P V F ns ef L s h → PC M' O P V F ns ef L s h := fun hc => hc.cg (fun i hi => (f7 i hi).1) (fun i hi => (f7 i hi).2)
  refine ⟨u, by rw [f6 12 (by omega) (by omega)]; exact e, g1.cg (fun i hi => (f7 i hi).1) (fun i hi => (f7 i hi).2) (fun i _ => by rw [f6 7 (by omega) (by omega)]) (fun i _ => by rw [f6 8 (by omega) (by omega)]), ?_, fun j hj => ?_, by rw [f6 12 (by omega) (by omega)]; exact g4, by rw [f6 12 (by omega) (by omega)]; exact g5, by rw [f6 12 (by omega) (by omega)]; exact g6, fun b hb => ?_⟩
  · rw [f5 11 (by decide)]
    exact g2.imp (fun y => y) (fun ⟨s, y1, y2⟩ => ⟨s, y1, cg y2⟩)
  · obtain ⟨s, y1, y2⟩ := g3 j hj
    exact ⟨s, by rw [f6 11 (by omega) (by omega)]; exact y1, cg y2⟩
  · obtain ⟨s1, s2, y1, y2, y3, y4⟩ := g7 b hb
    exact ⟨s1, s2, by rw [f6 14 (by omega) (by omega)]; exact y1, cg y2, by rw [f6 15 (by omega) (by omega)]; exact y3, cg y4⟩
/-- the reader of texts between two steps -/
def TX (M : mM) (z q w T A B D N C n p O P K Ab Be Cm V F : Nat) (ns : Nat → Int) (sf ef : Nat → Nat) (c cnt L : Nat) : Prop := TP M z q w T A B D N C n p O P K Ab Be Cm ∧ TC M q A n p V F ns c ∧ PX M q p O P V F ns sf ef L cnt
theorem TX.tx (h : TX M z q w T A B D N C n p O P K Ab Be Cm V F ns sf ef c cnt L) (ok : mOk M') (f : txF M q p O P L M') (ht : ∀ j, mI M' (q + 6) j = 0 ∨ mI M' (q + 6) j = 1) : TX M' z q w T A B D N C n p O P K Ab Be Cm V F ns sf ef c cnt L := by
  obtain ⟨h1, h2, h3⟩ := h
  exact ⟨h1.fi ok f.1, h2.tx (h1.words f.1).1 f.2 ht, h3.tx f.2⟩
end TRA
end
section
/-! The class's reader of texts: steps; names, rules of items. -/
section TRB
variable {G : mG} {d z q w T A B D N C n p O P K Ab Be Cm V F c s L L' cnt Bn a d0 V1 F1 : Nat} {M0 M M' M1 M2 : mM} {ns ns' ns1 : Nat → Int} {sf ef sf' ef' : Nat → Nat} {H : Nat → Nat} {S R : Nat → Prop}
theorem tx_ui {b j : Nat} {v : Int} (h : TX M z q w T A B D N C n p O P K Ab Be Cm V F ns sf ef c cnt L) (hv : i32 v) (e : M' = mUI M b j v) (hb : b = q ∨ b = q + 21 ∨ b = q + 22 ∨ (b = q + 1 ∧ (j = 2 ∨ j = 5 ∨ j = 6)) ∨ (b = p ∧ j = 2)) : TX M' z q w T A B D N C n p O P K Ab Be Cm V F ns sf ef c cnt L ∧ txF M q p O P L M' ∧ (∀ x i, mI M' x i = if x = b ∧ i = j then v else mI M x i) := by
  have ap := h.1.apart
  have qp := h.1.2.2.2.2.2.1.2.1
  have ok := h.1.1.1
  have g : ∀ x i, mI M' x i = if x = b ∧ i = j then v else mI M x i := fun x i => mI_ui x i e
  have f : FI (txS q p O P) M M' := by
    rw [e]
    refine FI.ui ?_
    exact t6c hb
  have o : mOk M' := by rw [e]; exact mOk_UI ok hv
  have ff : txF M q p O P L M' := by
    refine ⟨f, fun i i2 i3 i4 i5 i6 i7 i12 i14 => by rw [g, if_neg (t6d hb qp i2 i5 i6)], fun y => by rw [g, if_neg (t6d hb qp (by decide) (by decide) (by decide))]; exact y, fun i i6 i9 => ?_, fun i i2 => by rw [g, if_neg (t6f hb qp i2)], fun i i9 i15 => ?_, fun i hi => ⟨by rw [g, if_neg (t6h hb ap.2.1 (t6i ap.2.2.2.1 (by decide)))], by rw [g, if_neg (t6h hb ap.2.2.1 (t6i ap.2.2.2.2.1 (by decide)))]⟩⟩
    · funext x
      rw [g, if_neg (t6e hb qp i6 i9)]
    · funext x
      rw [g, if_neg (t6g hb qp i9 i15)]
  refine ⟨h.tx o ff (fun x => ?_), ff, g⟩
  rw [g, if_neg (t6j hb qp)]
  exact h.2.1.2.2.2 x
theorem rr_tx (h : TP M z q w T A B D N C n p O P K Ab Be Cm) (f : rrF M (q + 1) p O P s M') : txF M q p O P s M' := by
  have ap := h.apart
  have qp := h.2.2.2.2.2.1.2.1
  obtain ⟨f1, f2, f3, f4, f5, f6⟩ := f
  refine ⟨f1.mono (fun b y => ?_), fun i i2 i3 i4 i5 _ i7 i12 i14 => f2 i i2 i3 i4 i5 i7 i12 i14, fun y => by rw [f3 y]; exact y, f4, f5, fun i i9 i15 => f1.2.2.2.2.2.2 _ (fun y => ?_), f6⟩
  · exact t6k y
  · exact t6l qp ap.2.2.2.1 ap.2.2.2.2.1 i9 i15 y
/-- an order is added -/
theorem s_tx_add {o x : Int} (io : i32 o) (ix : i32 x) (h : TX M z q w T A B D N C n p O P K Ab Be Cm V F ns sf ef c cnt L) (hs : mI M p 2 = s) (hL : L ≤ s) (hn : s ≤ n) : Ci G y_Pr_add d [vr p, vi o, vi x] M (fun v M' => i32 v ∧ mOk M' ∧ TX M' z q w T A B D N C n p O P K Ab Be Cm V F ns sf ef c cnt L ∧ txF M q p O P s M' ∧ mI M' p 2 = ((s + 1 : Nat) : Int) ∧ (∀ i, mI M' O i = if i = s then o else mI M O i) ∧ (∀ i, mI M' P i = if i = s then x else mI M P i) ∧ (∀ b, b ≠ p → b ≠ O → b ≠ P → mI M' b = mI M b)) := by
  have ap := h.1.apart
  have qp := h.1.2.2.2.2.2.1.2.1
  have hK := h.1.1.2.2.2.2.2.2
  have hN : n ≤ 16384 := by have := h.1.1.2.2.2.1.2.2.1; have := h.1.1.2.2.2.1.1.2.2.2.2.2.2.1; omega
  refine (s_Pr_add (n := s) io ix h.1.1.1 h.1.1.2.2.2.2.1 hs (by omega)).mono (fun v M' k => ?_)
  obtain ⟨k1, k2, k3, k4, k5, k6⟩ := k
  have nb : ∀ b, b ≠ p → b ≠ O → b ≠ P → mI M' b = mI M b := fun b b1 b2 b3 => k3.2.2.2.2.2.2 b (fun y => by
    rcases (show b = p ∨ b = O ∨ b = P from y) with y | y | y
    · exact b1 y
    · exact b2 y
    · exact b3 y)
  have nq : ∀ x, q ≤ x → x ≤ q + 22 → mI M' x = mI M x := fun x h1 h2 => by
    obtain ⟨u1, u2, u3⟩ := t6n qp ap.2.1 ap.2.2.1 h1 h2
    exact nb x u1 u2 u3
  have ff : txF M q p O P s M' := by
    refine ⟨k3.mono (fun b y => ?_), fun i _ _ _ _ _ _ _ _ => by rw [nq (q + 1) (by omega) (by omega)], fun y => by rw [nq (q + 1) (by omega) (by omega)]; exact y, fun i i6 i9 => nq _ (by omega) (by omega), fun i i2 => by rw [k4, if_neg i2], fun i i3 i15 => nb _ (t6o ap.2.2.2.1 ap.2.2.2.2.1 i3 i15).1 (t6o ap.2.2.2.1 ap.2.2.2.2.1 i3 i15).2.1 (t6o ap.2.2.2.1 ap.2.2.2.2.1 i3 i15).2.2, fun i hi => ⟨by rw [k5, if_neg (by omega)], by rw [k6, if_neg (by omega)]⟩⟩
    exact t6k (Or.inr y)
  exact ⟨by rw [k1]; exact ⟨by omega, by omega⟩, k2, h.tx k2 (ff.less hL) (fun j => by rw [nq _ (by omega) (by omega)]; exact h.2.1.2.2.2 j), ff, by rw [k4, if_pos rfl]; omega, k5, k6, nb⟩
/-- a rule is read: its code from s on -/
def ruQ (M : mM) (z q w T A B D N C n p O P K Ab Be Cm V F : Nat) (ns : Nat → Int) (sf ef : Nat → Nat) (c cnt L s V1 F1 : Nat) (ns1 : Nat → Int) (a : Nat) (x : Int) (M' : mM) : Prop := TX M' z q w T A B D N C n p O P K Ab Be Cm V F ns sf ef c cnt L ∧ txF M q p O P s M' ∧ (mI M' (q + 1) 6 = mI M (q + 1) 6 ∧ mI M' q = mI M q ∧ mI M' (q + 21) = mI M (q + 21) ∧ mI M' (q + 22) = mI M (q + 22)) ∧ ((x = 0 ∧ ∃ a' : Nat, mI M' (q + 1) 2 = a' ∧ a' ≤ n) ∨ (x = 1 ∧ ∃ e H a', CO M' O P V1 F1 ns1 H s e (fun _ => False) ∧ H s = 0 ∧ H e = 1 ∧ 1 + s ≤ e ∧ mI M' p 2 = ((e : Nat) : Int) ∧ mI M' (q + 1) 2 = ((a' : Nat) : Int) ∧ a ≤ a' ∧ a' ≤ n ∧ e ≤ a' ∧ mI M' (q + 1) 5 = mI M (q + 1) 5))
end TRB
end
end
section
section
/-! The class's reader of texts: names, and the rules of items. -/
section TRC
variable {G : mG} {d z q w T A B D N C n p O P K Ab Be Cm V F c s L L' cnt Bn a d0 V1 F1 : Nat} {M0 M M' M1 M2 : mM} {ns ns' ns1 : Nat → Int} {sf ef sf' ef' : Nat → Nat} {H : Nat → Nat} {S R : Nat → Prop}
def nmF (M0 : mM) (q : Nat) (M : mM) : Prop := (∀ i, i ≠ 2 → i ≠ 3 → i ≠ 4 → mI M (q + 1) i = mI M0 (q + 1) i) ∧ (∀ i, i ≠ 3 → mI M q i = mI M0 q i) ∧ (∀ b, b ≠ q → b ≠ q + 1 → mI M b = mI M0 b)
theorem nmF.refl : nmF M q M := ⟨fun _ _ _ _ => rfl, fun _ _ => rfl, fun _ _ _ => rfl⟩
theorem nmF.trans (f : nmF M0 q M1) (g : nmF M1 q M2) : nmF M0 q M2 := ⟨fun i i2 i3 i4 => by rw [g.1 i i2 i3 i4, f.1 i i2 i3 i4], fun i i3 => by rw [g.2.1 i i3, f.2.1 i i3], fun b b1 b2 => by rw [g.2.2 b b1 b2, f.2.2 b b1 b2]⟩
/-- what readName comes to -/
def rnmQ (M0 : mM) (z q w T A B D N C n p O P K Ab Be Cm V F : Nat) (ns : Nat → Int) (sf ef : Nat → Nat) (c cnt L a : Nat) (l1 : Int) (x : Int) (M' : mM) : Prop := TX M' z q w T A B D N C n p O P K Ab Be Cm V F ns sf ef c cnt L ∧ txF M0 q p O P L M' ∧ nmF M0 q M' ∧ (l1 ≠ 0 → mI M' (q + 1) 3 ≠ 0) ∧ ((x = 0 ∧ ∃ a' : Nat, mI M' (q + 1) 2 = a' ∧ a' ≤ n) ∨ (x = 1 ∧ mI M' (q + 1) 2 = ((a + 2 : Nat) : Int) ∧ a + 2 ≤ n ∧ mI M' q 3 = ((a + 1 : Nat) : Int) ∧ mI M' A (a + 1) = 2))
/-- a rule of an item -/
def irQ (M : mM) (z q w T A B D N C n p O P K Ab Be Cm V F : Nat) (ns : Nat → Int) (sf ef : Nat → Nat) (c cnt L s V1 F1 : Nat) (ns1 : Nat → Int) (a k : Nat) (x : Int) (M' : mM) : Prop := TX M' z q w T A B D N C n p O P K Ab Be Cm V F ns sf ef c cnt L ∧ txF M q p O P s M' ∧ (mI M' (q + 1) 6 = mI M (q + 1) 6 ∧ mI M' q = mI M q ∧ (∀ i, mI M' (q + 21) i = if i = k then (s : Int) else mI M (q + 21) i)) ∧ ((x = 0 ∧ ∃ a' : Nat, mI M' (q + 1) 2 = a' ∧ a' ≤ n) ∨ (x = 1 ∧ ∃ e H a', Cod M' O P V1 F1 ns1 s e H 1 ∧ mI M' p 2 = ((e + 1 : Nat) : Int) ∧ mI M' (q + 1) 2 = ((a' : Nat) : Int) ∧ a ≤ a' ∧ a' ≤ n ∧ e ≤ a' ∧ mI M' (q + 1) 5 = mI M (q + 1) 5))
end TRC
end
section
/-! The class's reader of texts: const, formula, target. -/
section TRD
variable {G : mG} {d z q w T A B D N C n p O P K Ab Be Cm V F c s L L' cnt Bn a d0 V1 F1 nw : Nat} {M0 M M' M1 M2 : mM} {ns ns' ns1 : Nat → Int} {sf ef sf' ef' : Nat → Nat} {H : Nat → Nat} {S R : Nat → Prop}
/-- it does not stand: the reader stays sound -/
def nstQ (z q w T A B D N C n p O P K Ab Be Cm V F : Nat) (ns : Nat → Int) (sf ef : Nat → Nat) (c cnt L : Nat) (M' : mM) : Prop := TX M' z q w T A B D N C n p O P K Ab Be Cm V F ns sf ef c cnt L ∧ ∃ a' : Nat, mI M' (q + 1) 2 = a' ∧ a' ≤ n
def vco (l1 : Int) (V : Nat) : Nat := if l1 = 4 then 0 else V
def nco (l1 : Int) (ns : Nat → Int) : Nat → Int := if l1 = 4 then nsc ns else ns
/-- a const or formula stands: its code from L to e -/
def ndQ (M0 : mM) (z q w T A B D N C n p O P K Ab Be Cm V F : Nat) (ns : Nat → Int) (sf ef : Nat → Nat) (c cnt L : Nat) (l1 : Int) (x : Int) (M' : mM) : Prop := FI (txS q p O P) M0 M' ∧ ((x = 0 ∧ nstQ z q w T A B D N C n p O P K Ab Be Cm V F ns sf ef c cnt L M') ∨ (x = 1 ∧ TX M' z q w T A B D N C n p O P K Ab Be Cm V F ns sf ef c cnt L ∧ (60 ≤ F → mI M' (q + 1) 3 ≠ 0) ∧ ∃ e a' nw : Nat, ∃ H : Nat → Nat, Cod M' O P (vco l1 V) F (nco l1 ns) L e H 1 ∧ mI M' p 2 = ((e + 1 : Nat) : Int) ∧ mI M' (q + 1) 2 = (a' : Int) ∧ a' ≤ n ∧ e + 1 ≤ a' ∧ mI M' (q + 1) 5 = 0 ∧ mI M' q 3 = (nw : Int) ∧ nw < n ∧ mI M' A nw = 2 ∧ (mI M' q 8 = 0 ∨ mI M' q 8 = 1) ∧ mI M' (q + 21) 0 = (L : Int)))
/-- what lies apart -/
theorem TP.ne (h : TP M z q w T A B D N C n p O P K Ab Be Cm) : (p ≠ q ∧ p ≠ q + 1 ∧ p ≠ q + 21 ∧ p ≠ q + 22) ∧ (O ≠ q ∧ O ≠ q + 1 ∧ O ≠ q + 21 ∧ O ≠ q + 22 ∧ O ≠ p) ∧ (P ≠ q ∧ P ≠ q + 1 ∧ P ≠ q + 21 ∧ P ≠ q + 22 ∧ P ≠ p) := by
  have ap := h.apart
  have qp := h.2.2.2.2.2.1.2.1
  clear h
  omega
theorem q_ne (q : Nat) : q ≠ q + 1 ∧ q + 1 ≠ q ∧ q + 21 ≠ q ∧ q + 21 ≠ q + 1 ∧ q ≠ q + 21 ∧ q + 1 ≠ q + 21 ∧ q + 22 ≠ q ∧ q + 22 ≠ q + 1 ∧ q + 6 ≠ q + 1 ∧ q + 6 ≠ q := by omega
theorem PG.longer (h : PG M p O P V F ns sf ef L cnt Bn) (hL : L ≤ L') : PG M p O P V F ns sf ef L' cnt Bn := by
  obtain ⟨g1, g2, g3, g4, g5, g6, g7⟩ := h
  have up : ∀ {s h : Nat}, PC M O P V F ns ef L s h → PC M O P V F ns ef L' s h := fun hc => hc.wide (Nat.le_refl _) (Nat.le_refl _) hL (fun _ _ => ⟨rfl, rfl⟩)
  refine ⟨g1.wide (Nat.le_refl _) hL, g2.imp (fun y => y) (fun ⟨s, y1, y2⟩ => ⟨s, y1, up y2⟩), fun j hj => ?_, g4, g5, g6, fun b hb => ?_⟩
  · obtain ⟨s, y1, y2⟩ := g3 j hj
    exact ⟨s, y1, up y2⟩
  · obtain ⟨s1, s2, y1, y2, y3, y4⟩ := g7 b hb
    exact ⟨s1, s2, y1, up y2, y3, up y4⟩
/-- a target stands -/
def tgQ (M0 : mM) (z q w T A B D N C n p O P K Ab Be Cm V F : Nat) (ns : Nat → Int) (sf ef : Nat → Nat) (c cnt L : Nat) (x : Int) (M' : mM) : Prop := FI (txS q p O P) M0 M' ∧ ((x = 0 ∧ ∃ L', nstQ z q w T A B D N C n p O P K Ab Be Cm V F ns sf ef c cnt L' M') ∨ (x = 1 ∧ ∃ L' a' : Nat, TX M' z q w T A B D N C n p O P K Ab Be Cm V F ns sf ef c cnt L' ∧ mI M' p 2 = (L' : Int) ∧ mI M' (q + 1) 2 = (a' : Int) ∧ a' ≤ n ∧ L' ≤ a' ∧ mI M' (q + 1) 5 = 0))
theorem s_rt8 (h : TX M z q w T A B D N C n p O P K Ab Be Cm V F ns sf ef c cnt L) (han : a < n) (e8 : M1 = mUI M (q + 1) 2 ((a : Int) + 1)) : mK M1 (mR M1 q 0) = 4 ∧ mR M1 q 0 = q + 1 := by
  have hN : n ≤ 16384 := by have := h.1.1.2.2.2.1.2.2.1; have := h.1.1.2.2.2.1.1.2.2.2.2.2.2.1; omega
  obtain ⟨h1, x1, g1⟩ := tx_ui h ⟨by omega, by omega⟩ e8 (Or.inr (Or.inr (Or.inr (Or.inl ⟨rfl, Or.inl rfl⟩))))
  exact ⟨by rw [h1.1.2.1.2.1]; exact h1.1.1.2.1.1, h1.1.2.1.2.1⟩
end TRD
end
section
/-! The class's reader of texts: var. -/
section TRE
variable {G : mG} {d z q w T A B D N C n p O P K Ab Be Cm V F c s s' L L' cnt Bn a d0 V1 F1 nw k : Nat} {M0 M M' M1 M2 : mM} {ns ns' ns1 : Nat → Int} {sf ef sf' ef' : Nat → Nat} {H : Nat → Nat} {S R : Nat → Prop}
/-- the item's rule k, below s' -/
def rvR (M : mM) (q O P F : Nat) (ns : Nat → Int) (L s' k : Nat) : Prop := ∃ s e H, mI M (q + 21) k = ((s : Nat) : Int) ∧ Cod M O P 0 F (nsc ns) s e H 1 ∧ L ≤ s ∧ e < s'
theorem rvR.cg {s1 s2 : Nat} (h : rvR M q O P F ns L s1 k) (h1 : mI M' (q + 21) k = mI M (q + 21) k) (hO : ∀ i, i < s1 → mI M' O i = mI M O i ∧ mI M' P i = mI M P i) (hs : s1 ≤ s2) : rvR M' q O P F ns L s2 k := by
  obtain ⟨s, e, H, a1, a2, a3, a4⟩ := h
  exact ⟨s, e, H, by rw [h1]; exact a1, a2.cg (fun i hi => (hO i (by omega)).1) (fun i hi => (hO i (by omega)).2), a3, by omega⟩
/-- what the item has so far -/
def vrS (M : mM) (q A n p L s a nw V : Nat) : Prop := mI M p 2 = ((s : Nat) : Int) ∧ L ≤ s ∧ s ≤ a ∧ mI M (q + 1) 2 = ((a : Nat) : Int) ∧ a ≤ n ∧ mI M (q + 1) 5 = 0 ∧ mI M q 3 = ((nw : Nat) : Int) ∧ nw < n ∧ mI M A nw = 2 ∧ mI M q 4 = ((L : Nat) : Int) ∧ (mI M q 8 = 0 ∨ mI M q 8 = 1) ∧ (12 ≤ V → mI M (q + 1) 3 ≠ 0)
def vaQ (M0 : mM) (z q w T A B D N C n p O P K Ab Be Cm V F : Nat) (ns : Nat → Int) (sf ef : Nat → Nat) (c cnt L : Nat) (x : Int) (M' : mM) : Prop := FI (txS q p O P) M0 M' ∧ ((x = 0 ∧ nstQ z q w T A B D N C n p O P K Ab Be Cm V F ns sf ef c cnt L M') ∨ (x = 1 ∧ TX M' z q w T A B D N C n p O P K Ab Be Cm V F ns sf ef c cnt L ∧ ∃ s a nw : Nat, vrS M' q A n p L s a nw V ∧ (mI M' q 8 = 0 → rvR M' q O P F ns L s 0 ∧ rvR M' q O P F ns L s 1) ∧ (mI M' q 7 ≠ 0 → rvR M' q O P F ns L s 2)))
end TRE
end
end
section
section
/-! The class's reader of texts: var, the whole. -/
section TRF
variable {G : mG} {d z q w T A B D N C n p O P K Ab Be Cm V F c s s' L L' cnt Bn a d0 V1 F1 nw k : Nat} {M0 M M' M1 M2 : mM} {ns ns' ns1 : Nat → Int} {sf ef sf' ef' : Nat → Nat} {H : Nat → Nat} {S R : Nat → Prop}
end TRF
end
section
/-! The class's reader of texts: worksOut. -/
section TRG
variable {G : mG} {d z q w T A B D N C n p O P K Ab Be Cm V F c s s' L L' cnt Bn a d0 V1 F1 nw k e s9 : Nat} {M0 M M' M1 M2 : mM} {ns ns' ns1 : Nat → Int} {sf ef sf' ef' : Nat → Nat} {H : Nat → Nat} {S R : Nat → Prop}
/-- a run of the machine: what stays -/
def maF (M : mM) (q Ab Be Cm : Nat) (M' : mM) (Ab' Be' Cm' : Nat) : Prop := FA (mcS (q + 11) Ab Be) (fun x => x = q + 11) M M' ∧ ((Ab' = Ab ∨ mZ M ≤ Ab') ∧ (Be' = Be ∨ mZ M ≤ Be')) ∧ (mS M' + 4 * Cm = mS M + 4 * Cm' ∧ 32 * mZ M' + Cm ≤ 32 * mZ M + Cm')
def sm4 (M M' : mM) (x : Nat) : Prop := mK M' x = mK M x ∧ mN M' x = mN M x ∧ mR M' x = mR M x ∧ mI M' x = mI M x
theorem RK.eq {r : Nat} (h : RK M r) (v : ∀ i, i ≤ 9 → sm4 M M' (r + i)) : RK M' r := by
  unfold RK at h ⊢
  have v0 := v 0 (by omega)
  rw [Nat.add_zero] at v0
  rw [v0.1, v0.2.2.1, (v 1 (by omega)).1, (v 2 (by omega)).1, (v 3 (by omega)).1, (v 4 (by omega)).1, (v 5 (by omega)).1, (v 6 (by omega)).1, (v 7 (by omega)).1, (v 8 (by omega)).1, (v 9 (by omega)).1, (v 1 (by omega)).2.1, (v 2 (by omega)).2.1, (v 3 (by omega)).2.1, (v 4 (by omega)).2.1, (v 5 (by omega)).2.1, (v 6 (by omega)).2.1, (v 7 (by omega)).2.1, (v 8 (by omega)).2.1, (v 9 (by omega)).2.1]
  exact h
theorem Wf.eq (h : Wf M w T A B D N C n) (sw : ∀ x, (x = w ∨ x = T ∨ x = A ∨ x = B ∨ x = D) → sm4 M M' x) : Wf M' w T A B D N C n := by
  unfold Wf WA at h ⊢
  obtain ⟨w1, w2, w3, w4⟩ := sw w (Or.inl rfl)
  obtain ⟨x1, x2, x3, x4⟩ := sw T (Or.inr (Or.inl rfl))
  obtain ⟨y1, y2, y3, y4⟩ := sw A (Or.inr (Or.inr (Or.inl rfl)))
  obtain ⟨z1, z2, z3, z4⟩ := sw B (Or.inr (Or.inr (Or.inr (Or.inl rfl))))
  obtain ⟨v1, v2, v3, v4⟩ := sw D (Or.inr (Or.inr (Or.inr (Or.inr rfl))))
  rw [w1, w3, w4, x1, x2, y1, y2, y4, z1, z2, z4, v1, v2, v4]
  exact h
theorem TP.st (h : TP M z q w T A B D N C n p O P K Ab Be Cm) (hf : FA (mcS (q + 11) Ab Be) (fun x => x = q + 11) M M') : ∀ x, x < mZ M → ¬ (q + 11 ≤ x ∧ x ≤ q + 20) → x ≠ Ab → x ≠ Be → sm4 M M' x := fun x hx h1 h2 h3 => by
  obtain ⟨u1, u2, u3, u4, u5⟩ := hf.2 x hx
  refine ⟨u1, u2, u4 (show ¬ x = q + 11 by omega), u5 (fun y => ?_)⟩
  have y' : x = q + 11 ∨ x = q + 11 + 2 ∨ (q + 11 + 5 ≤ x ∧ x ≤ q + 11 + 9) ∨ x = Ab ∨ x = Be := y
  omega
theorem ms9a {q z A x k : Nat} (a5 : A = q + 11 + k ∨ z ≤ A) (hk : k ≤ 9) (hz : q + 23 ≤ z) (h : x ≤ q + 22) (h2 : ¬ (q + 11 ≤ x ∧ x ≤ q + 20)) : x ≠ A := by omega
theorem ms9b {q p z A i k : Nat} (a1 : p + 15 < q + 11 ∨ q + 11 + 9 < p) (a4 : p + 16 ≤ z) (a5 : A = q + 11 + k ∨ z ≤ A) (hk : k ≤ 9) (hi : i ≤ 15) : p + i ≠ A := by omega
theorem ms9c {q p i : Nat} (a1 : p + 15 < q + 11 ∨ q + 11 + 9 < p) (hi : i ≤ 15) : ¬ (q + 11 ≤ p + i ∧ p + i ≤ q + 20) := by omega
theorem ms9d {q O : Nat} (a : O < q ∨ q + 22 < O) : ¬ (q + 11 ≤ O ∧ O ≤ q + 20) := by omega
theorem nab9 {x A A' Z : Nat} (o : A' = A ∨ Z ≤ A') (h : x ≠ A) (hz : x < Z) : x ≠ A' := by
  rcases o with o | o
  · rw [o]; exact h
  · omega
theorem TP.mst (h : TP M z q w T A B D N C n p O P K Ab Be Cm) (hf : FA (mcS (q + 11) Ab Be) (fun x => x = q + 11) M M') : (∀ i, i ≤ 10 → sm4 M M' (q + i)) ∧ sm4 M M' (q + 21) ∧ sm4 M M' (q + 22) ∧ (∀ i, i ≤ 15 → sm4 M M' (p + i)) ∧ sm4 M M' O ∧ sm4 M M' P ∧ (∀ x, (x = w ∨ x = T ∨ x = A ∨ x = B ∨ x = D) → sm4 M M' x) := by
  have st := h.st hf
  obtain ⟨⟨aA1, aA2, aA3, aA4, aA5, aA6⟩, aO, aP, aO2, aP2, aOP⟩ := h.apart
  have zz : z ≤ mZ M := h.2.2.2.1.2.2.2.2.2.2.1.1
  obtain ⟨pz0, pz1, pz2⟩ := h.1.2.2.2.2.1.2.2.2.2.1
  obtain ⟨s1, s2, s3⟩ := h.2.2.2.2.2.1
  clear h hf
  refine ⟨fun i hi => st _ (by omega) (by omega) (ms9a aA5 (by decide) s1 (by omega) (by omega)) (ms9a aA6 (by decide) s1 (by omega) (by omega)), st _ (by omega) (by omega) (ms9a aA5 (by decide) s1 (by omega) (by omega)) (ms9a aA6 (by decide) s1 (by omega) (by omega)), st _ (by omega) (by omega) (ms9a aA5 (by decide) s1 (by omega) (by omega)) (ms9a aA6 (by decide) s1 (by omega) (by omega)), fun i hi => st _ (by omega) (ms9c aA1 hi) (ms9b aA1 aA4 aA5 (by decide) hi) (ms9b aA1 aA4 aA6 (by decide) hi), st O pz1 (ms9d aO) aA2.1 aA2.2.1, st P pz2 (ms9d aP) aA2.2.2.1 aA2.2.2.2, fun x hx => ?_⟩
  obtain ⟨u1, u2, u3, u4⟩ := s3 x hx
  exact st x u4 (fun v => u1 ⟨Nat.le_trans (Nat.le_add_right _ _) v.1, Nat.le_trans v.2 (by omega)⟩) u2 u3
theorem TP.ma {Ab' Be' Cm' : Nat} (h : TP M z q w T A B D N C n p O P K Ab Be Cm) (ok : mOk M') (hk : MK M' z (q + 11) (q + 12) Ab' Be' Cm') (hf : FA (mcS (q + 11) Ab Be) (fun x => x = q + 11) M M') (hab : (Ab' = Ab ∨ mZ M ≤ Ab') ∧ (Be' = Be ∨ mZ M ≤ Be')) (h0 : mR M' (q + 11) 0 = mR M (q + 11) 0) : TP M' z q w T A B D N C n p O P K Ab' Be' Cm' := by
  obtain ⟨m1, m2, m3, m4, m5, m6, m7⟩ := h.mst hf
  have np : ¬ p = q + 11 := by have := h.apart.1.1; omega
  obtain ⟨⟨b1, b2, b3, b4, b5, b6, b7⟩, t1, t2, t3, t4, ⟨s1, s2, s3⟩, s4⟩ := h
  obtain ⟨pz0, pz1, pz2⟩ := b5.2.2.2.2.1
  have s0 := m1 0 (by omega)
  have r0 := m1 1 (by omega)
  rw [Nat.add_zero] at s0
  have zz := hf.1.1
  refine ⟨⟨ok, b2.eq (fun i hi => by rw [show q + 1 + i = q + (1 + i) by omega]; exact m1 _ (by omega)), by rw [r0.2.2.1]; exact b3, b4.eq m7, b5.fa hf np, b6, b7⟩, by rw [s0.1, s0.2.2.1]; exact t1, by rw [m2.1, m3.1, m2.2.1, m3.2.1]; exact t2, hk, by rw [h0]; exact t4, ⟨s1, s2, fun x hx => ?_⟩, ?_⟩
  · obtain ⟨u1, u2, u3, u4⟩ := s3 x hx
    exact ⟨u1, nab9 hab.1 u2 u4, nab9 hab.2 u3 u4, Nat.lt_of_lt_of_le u4 zz⟩
  · exact ⟨nab9 hab.1 s4.1 pz1, nab9 hab.2 s4.2.1 pz1, nab9 hab.1 s4.2.2.1 pz2, nab9 hab.2 s4.2.2.2 pz2⟩
theorem TX.ma {t cc : Nat} (h : TX M z q w T A B D N C n p O P K Ab Be Cm V F ns sf ef c cnt L) (hM : MS M z (q + 11) (q + 12) Ab Be Cm M' t cc) : ∃ Ab' Be' Cm', TX M' z q w T A B D N C n p O P K Ab' Be' Cm' V F ns sf ef c cnt L ∧ maF M q Ab Be Cm M' Ab' Be' Cm' ∧ (∀ j, j < t → 1 ≤ mI M' Be' j ∧ mI M' Be' j < 1000000000) ∧ (mI M' q = mI M q ∧ mI M' (q + 1) = mI M (q + 1) ∧ mI M' (q + 21) = mI M (q + 21) ∧ mI M' (q + 22) = mI M (q + 22) ∧ mI M' p = mI M p ∧ mI M' O = mI M O ∧ mI M' P = mI M P ∧ mI M' A = mI M A) := by
  obtain ⟨Ab', Be', Cm', ok, hk, hf, hab, hr, ⟨h8, htC, hb⟩, h15, hm⟩ := hM
  obtain ⟨hP, hC, hX⟩ := h
  obtain ⟨m1, m2, m3, m4, m5, m6, m7⟩ := hP.mst hf
  have s0 := m1 0 (by omega)
  have r0 := m1 1 (by omega)
  rw [Nat.add_zero] at s0
  have p0 := m4 0 (by omega)
  rw [Nat.add_zero] at p0
  have eE : txE M q p O P L M' := ⟨fun i _ _ _ _ _ _ _ _ => by rw [r0.2.2.2], fun y => by rw [r0.2.2.2]; exact y, fun i i6 i9 => by rw [show q + 1 + i = q + (1 + i) by omega]; exact (m1 (1 + i) (by omega)).2.2.2, fun i _ => by rw [p0.2.2.2], fun i _ i15 => (m4 i i15).2.2.2, fun i _ => ⟨by rw [m5.2.2.2], by rw [m6.2.2.2]⟩⟩
  have mA := (m7 A (Or.inr (Or.inr (Or.inl rfl)))).2.2.2
  exact ⟨Ab', Be', Cm', ⟨hP.ma ok hk hf hab hm.2.2, hC.tx mA eE (fun j => by rw [(m1 6 (by omega)).2.2.2]; exact hC.2.2.2 j), hX.tx eE⟩, ⟨hf, hab, hr⟩, hb, s0.2.2.2, r0.2.2.2, m2.2.2.2, m3.2.2.2, p0.2.2.2, m5.2.2.2, m6.2.2.2, mA⟩
/-- what working out a rule comes to -/
def wuQ (M : mM) (z q w T A B D N C n p O P K Ab Be Cm V F : Nat) (ns : Nat → Int) (sf ef : Nat → Nat) (c cnt L : Nat) (x : Int) (M' : mM) : Prop := ∃ Ab' Be' Cm', TX M' z q w T A B D N C n p O P K Ab' Be' Cm' V F ns sf ef c cnt L ∧ FA (fun x => x = q + 1 ∨ mcS (q + 11) Ab Be x) (fun x => x = q + 11) M M' ∧ ((Ab' = Ab ∨ mZ M ≤ Ab') ∧ (Be' = Be ∨ mZ M ≤ Be')) ∧ (mS M' + 4 * Cm = mS M + 4 * Cm' ∧ 32 * mZ M' + Cm ≤ 32 * mZ M + Cm') ∧ (mI M' q = mI M q ∧ (∀ i, i ≠ 3 → i ≠ 4 → mI M' (q + 1) i = mI M (q + 1) i) ∧ mI M' (q + 21) = mI M (q + 21) ∧ mI M' p = mI M p ∧ mI M' O = mI M O ∧ mI M' P = mI M P ∧ mI M' A = mI M A) ∧ ((x = 0) ∨ (x = 1 ∧ mI M' (q + 1) 3 = 0 ∧ 1 ≤ mI M' Be' 0 ∧ mI M' Be' 0 < 1000000000))
end TRG
end
section
/-! The class's reader of texts: a name is settled. -/
section TRH
variable {G : mG} {d z q w T A B D N C n p O P K Ab Be Cm V F c s s' L L' cnt Bn a d0 V1 F1 nw k e s9 Ab0 Be0 Cm0 Ab1 Be1 Cm1 : Nat} {M0 M M' M1 M2 : mM} {ns ns' ns1 : Nat → Int} {sf ef sf' ef' : Nat → Nat} {H : Nat → Nat} {S R : Nat → Prop}
/-- what reading a text may change, with the room that it takes -/
def trS (q p O P Ab Be : Nat) : Nat → Prop := fun x => txS q p O P x ∨ mcS (q + 11) Ab Be x
def trF (M0 : mM) (q p O P Ab0 Be0 Cm0 : Nat) (M : mM) (Ab Be Cm : Nat) : Prop := FA (trS q p O P Ab0 Be0) (fun x => x = q + 11) M0 M ∧ ((Ab = Ab0 ∨ mZ M0 ≤ Ab) ∧ (Be = Be0 ∨ mZ M0 ≤ Be)) ∧ (mS M + 4 * Cm0 = mS M0 + 4 * Cm ∧ 32 * mZ M + Cm0 ≤ 32 * mZ M0 + Cm)
theorem trF.refl : trF M q p O P Ab Be Cm M Ab Be Cm := ⟨FA.refl, ⟨Or.inl rfl, Or.inl rfl⟩, rfl, Nat.le_refl _⟩
theorem trF.trans (f : trF M0 q p O P Ab0 Be0 Cm0 M Ab Be Cm) (g : trF M q p O P Ab Be Cm M1 Ab1 Be1 Cm1) : trF M0 q p O P Ab0 Be0 Cm0 M1 Ab1 Be1 Cm1 := by
  obtain ⟨f1, ⟨f2, f3⟩, f4, f5⟩ := f
  obtain ⟨g1, ⟨g2, g3⟩, g4, g5⟩ := g
  have zz := f1.1.1
  refine ⟨f1.trans2 g1 (fun x hx y => ?_) (fun _ _ y => y), ⟨by omega, by omega⟩, by omega, by omega⟩
  rcases y with y | y
  · exact Or.inl y
  · refine Or.inr ?_
    have y' : x = q + 11 ∨ x = q + 11 + 2 ∨ (q + 11 + 5 ≤ x ∧ x ≤ q + 11 + 9) ∨ x = Ab ∨ x = Be := y
    show x = q + 11 ∨ x = q + 11 + 2 ∨ (q + 11 + 5 ≤ x ∧ x ≤ q + 11 + 9) ∨ x = Ab0 ∨ x = Be0
    omega
theorem trF.fi (f : FI (txS q p O P) M M1) : trF M q p O P Ab Be Cm M1 Ab Be Cm := ⟨(FI.fa f).mono (fun _ _ y => Or.inl y) (fun _ _ y => y), ⟨Or.inl rfl, Or.inl rfl⟩, by rw [f.2.2.2.2.2.1], by rw [f.2.2.2.2.1]; omega⟩
/-- an item has been read and settled -/
def itE (M0 : mM) (z q w T A B D N C n p O P K Ab0 Be0 Cm0 : Nat) (M' : mM) : Prop := ∃ (Ab Be Cm V F : Nat) (ns : Nat → Int) (sf ef : Nat → Nat) (c cnt L a : Nat), TX M' z q w T A B D N C n p O P K Ab Be Cm V F ns sf ef c cnt L ∧ mI M' p 2 = ((L : Nat) : Int) ∧ mI M' (q + 1) 2 = ((a : Nat) : Int) ∧ a ≤ n ∧ L ≤ a ∧ mI M' (q + 1) 5 = 0 ∧ trF M0 q p O P Ab0 Be0 Cm0 M' Ab Be Cm
def un (ns : Nat → Int) (F : Nat) (l : Int) : Nat → Int := fun x => if x = F then l else ns x
def uf (sf : Nat → Nat) (F v : Nat) : Nat → Nat := fun x => if x = F then v else sf x
theorem PX.cg (h : PX M q p O P V F ns sf ef L cnt) (f3 : mI M (q + 1) 3 ≠ 0 → mI M' (q + 1) 3 ≠ 0) (f5 : ∀ i, i ≠ 2 → mI M' p i = mI M p i) (f6 : ∀ i, 3 ≤ i → i ≤ 15 → mI M' (p + i) = mI M (p + i)) (f7 : ∀ i, i < L → mI M' O i = mI M O i ∧ mI M' P i = mI M P i) : PX M' q p O P V F ns sf ef L cnt := by
  obtain ⟨a1, a2⟩ := h
  refine ⟨by rw [f5 12 (by decide)]; exact a1, fun h0 => ?_⟩
  obtain ⟨u, e, g1, g2, g3, g4, g5, g6, g7⟩ := a2 (Classical.byContradiction (fun y => f3 y h0))
  have cg : ∀ {s h : Nat}, PC M O P V F ns ef L s h → PC M' O P V F ns ef L s h := fun hc => hc.cg (fun i hi => (f7 i hi).1) (fun i hi => (f7 i hi).2)
  refine ⟨u, by rw [f6 12 (by omega) (by omega)]; exact e, g1.cg (fun i hi => (f7 i hi).1) (fun i hi => (f7 i hi).2) (fun i _ => by rw [f6 7 (by omega) (by omega)]) (fun i _ => by rw [f6 8 (by omega) (by omega)]), ?_, fun j hj => ?_, by rw [f6 12 (by omega) (by omega)]; exact g4, by rw [f6 12 (by omega) (by omega)]; exact g5, by rw [f6 12 (by omega) (by omega)]; exact g6, fun b hb => ?_⟩
  · rw [f5 11 (by decide)]
    exact g2.imp (fun y => y) (fun ⟨s, y1, y2⟩ => ⟨s, y1, cg y2⟩)
  · obtain ⟨s, y1, y2⟩ := g3 j hj
    exact ⟨s, by rw [f6 11 (by omega) (by omega)]; exact y1, cg y2⟩
  · obtain ⟨s1, s2, y1, y2, y3, y4⟩ := g7 b hb
    exact ⟨s1, s2, by rw [f6 14 (by omega) (by omega)]; exact y1, cg y2, by rw [f6 15 (by omega) (by omega)]; exact y3, cg y4⟩
/-- one name more: a const with its value, or a formula with its code -/
theorem PG.name {l1 : Int} (h : PG M p O P V F ns sf ef L cnt Bn) (hLL : L ≤ L') (f7 : ∀ i, i < L → mI M' O i = mI M O i ∧ mI M' P i = mI M P i) (h11 : mI M' p 11 = mI M p 11) (f6 : ∀ i, 9 ≤ i → i ≤ 15 → mI M' (p + i) = mI M (p + i)) (h7 : ∀ i, i < F → mI M' (p + 7) i = mI M (p + 7) i) (h8 : ∀ i, i < F → mI M' (p + 8) i = mI M (p + 8) i) (new : (l1 = 4 ∧ 1 ≤ mI M' (p + 7) F ∧ mI M' (p + 7) F < 1000000000) ∨ (l1 = 7 ∧ mI M' (p + 8) F = ((L : Nat) : Int) ∧ Cod M' O P V F ns L e H 1 ∧ e < L')) : PG M' p O P V (F + 1) (un ns F l1) (uf sf F L) (uf ef F e) L' cnt Bn := by
  obtain ⟨g1, g2, g3, g4, g5, g6, g7⟩ := h
  have un0 : ∀ x, x < F → un ns F l1 x = ns x := fun x hx => by unfold un; rw [if_neg (by omega)]
  have ue0 : ∀ x, x < F → uf ef F e x = ef x := fun x hx => by unfold uf; rw [if_neg (by omega)]
  have us0 : ∀ x, x < F → uf sf F L x = sf x := fun x hx => by unfold uf; rw [if_neg (by omega)]
  have unF : un ns F l1 F = l1 := by unfold un; rw [if_pos rfl]
  have ueF : uf ef F e F = e := by unfold uf; rw [if_pos rfl]
  have usF : uf sf F L F = L := by unfold uf; rw [if_pos rfl]
  have cg : ∀ {s h : Nat}, PC M O P V F ns ef L s h → PC M' O P V (F + 1) (un ns F l1) (uf ef F e) L' s h := fun hc => (hc.cg (M' := M') (fun i hi => (f7 i hi).1) (fun i hi => (f7 i hi).2)).wide (Nat.le_refl _) (Nat.le_succ _) hLL (fun x hx => ⟨un0 x hx, ue0 x hx⟩)
  refine ⟨fun x hx => ?_, ?_, fun j hj => ?_, by rw [f6 12 (by omega) (by omega)]; exact g4, by rw [f6 12 (by omega) (by omega)]; exact g5, by rw [f6 12 (by omega) (by omega)]; exact g6, fun b hb => ?_⟩
  · by_cases y : x = F
    · subst y
      rw [unF, usF, ueF]
      rcases new with ⟨u1, u2, u3⟩ | ⟨u1, u2, u3, u4⟩
      · exact ⟨fun _ => ⟨u2, u3⟩, fun v => absurd (u1.symm.trans v) (by decide)⟩
      · refine ⟨fun v => absurd (u1.symm.trans v) (by decide), fun _ => ⟨u2, ⟨H, u3.wide (Nat.le_refl _) (Nat.le_refl _) (fun y hy => un0 y hy)⟩, u4, fun y hy v => ?_⟩⟩
        rw [ue0 y hy]
        rw [un0 y hy] at v
        exact ((g1 y hy).2 v).2.2.1
    · have hxF : x < F := by omega
      obtain ⟨a1, a2⟩ := g1 x hxF
      rw [un0 x hxF, us0 x hxF, ue0 x hxF, h7 x hxF, h8 x hxF]
      refine ⟨a1, fun v => ?_⟩
      obtain ⟨b1, ⟨Hx, b2⟩, b3, b4⟩ := a2 v
      refine ⟨b1, ⟨Hx, (b2.cg (M' := M') (fun i hi => (f7 i (by omega)).1) (fun i hi => (f7 i (by omega)).2)).wide (Nat.le_refl _) (Nat.le_refl _) (fun y hy => un0 y (by omega))⟩, by omega, fun y hy v => ?_⟩
      rw [ue0 y (by omega)]
      rw [un0 y (by omega)] at v
      exact b4 y hy v
  · rw [h11]
    exact g2.imp (fun y => y) (fun ⟨s, y1, y2⟩ => ⟨s, y1, cg y2⟩)
  · obtain ⟨s, y1, y2⟩ := g3 j hj
    exact ⟨s, by rw [f6 11 (by omega) (by omega)]; exact y1, cg y2⟩
  · obtain ⟨s1, s2, y1, y2, y3, y4⟩ := g7 b hb
    exact ⟨s1, s2, by rw [f6 14 (by omega) (by omega)]; exact y1, cg y2, by rw [f6 15 (by omega) (by omega)]; exact y3, cg y4⟩
theorem tx_name {l1 : Int} (h : TX M z q w T A B D N C n p O P K Ab Be Cm V F ns sf ef c cnt L) (h0 : mI M (q + 1) 3 = 0) (h60 : F < 60) (ok : mOk M') (f : FI (txS q p O P) M M') (hr : ∀ i, i ≤ 9 → mI M' (q + 1 + i) = mI M (q + 1 + i)) (ep : ∀ i, i ≠ 2 → i ≠ 7 → mI M' p i = mI M p i) (e7 : mI M' p 7 = ((F + 1 : Nat) : Int)) (f6 : ∀ i, 9 ≤ i → i ≤ 15 → mI M' (p + i) = mI M (p + i)) (h7 : ∀ i, i < F → mI M' (p + 7) i = mI M (p + 7) i) (h8 : ∀ i, i < F → mI M' (p + 8) i = mI M (p + 8) i) (f7 : ∀ i, i < L → mI M' O i = mI M O i ∧ mI M' P i = mI M P i) (hLL : L ≤ L') (new : (l1 = 4 ∧ 1 ≤ mI M' (p + 7) F ∧ mI M' (p + 7) F < 1000000000) ∨ (l1 = 7 ∧ mI M' (p + 8) F = ((L : Nat) : Int) ∧ Cod M' O P V F ns L e H 1 ∧ e < L')) : TX M' z q w T A B D N C n p O P K Ab Be Cm V (F + 1) (un ns F l1) (uf sf F L) (uf ef F e) c cnt L' := by
  obtain ⟨hP, ⟨c1, c2, c3, c4⟩, x1, x2⟩ := h
  have hA := (hP.words f).1
  have r0 := hr 0 (by omega)
  rw [Nat.add_zero] at r0
  refine ⟨hP.fi ok f, ⟨by rw [ep 3 (by decide) (by decide)]; exact c1, ⟨e7, by omega⟩, ?_, fun j => by rw [show q + 6 = q + 1 + 5 by omega, hr 5 (by omega)]; exact c4 j⟩, by rw [ep 12 (by decide) (by decide)]; exact x1, fun _ => ?_⟩
  · obtain ⟨n1, n2, n3⟩ := c3
    refine ⟨by rw [r0]; exact n1, n2, fun i hi => ?_⟩
    obtain ⟨m1, m2, m3⟩ := n3 i hi
    rw [hA, hr 6 (by omega), hr 7 (by omega), hr 8 (by omega), hr 9 (by omega)]
    refine ⟨m1, ?_, m3⟩
    rcases m2 with u | ⟨u1, u2, u3, u4⟩
    · exact Or.inl u
    · refine Or.inr ⟨u1, u2, by omega, ?_⟩
      unfold un
      rw [if_neg (by omega)]
      exact u4
  · obtain ⟨u, eu, gu⟩ := x2 h0
    exact ⟨u, by rw [f6 12 (by omega) (by omega)]; exact eu, gu.name hLL f7 (ep 11 (by decide) (by decide)) f6 h7 h8 new⟩
/-- where a fault is noted, the tables don't matter -/
theorem TX.any (h : TX M z q w T A B D N C n p O P K Ab Be Cm V F ns sf ef c cnt L) (hL : mI M (q + 1) 3 = 0 → L ≤ L') : TX M z q w T A B D N C n p O P K Ab Be Cm V F ns sf ef c cnt L' := by
  obtain ⟨hP, hC, x1, x2⟩ := h
  refine ⟨hP, hC, x1, fun h0 => ?_⟩
  obtain ⟨u, eu, gu⟩ := x2 h0
  exact ⟨u, eu, gu.longer (hL h0)⟩
end TRH
end
end
section
section
/-! The class's reader of texts: settleNamed. -/
section TRI
variable {G : mG} {d z q w T A B D N C n p O P K Ab Be Cm V F c s s' L L' cnt Bn a d0 V1 F1 nw k e s9 Ab0 Be0 Cm0 Ab1 Be1 Cm1 : Nat} {M0 M M' M1 M2 : mM} {ns ns' ns1 : Nat → Int} {sf ef sf' ef' : Nat → Nat} {H : Nat → Nat} {S R : Nat → Prop}
theorem wu_tr (f : FA (fun x => x = q + 1 ∨ mcS (q + 11) Ab Be x) (fun x => x = q + 11) M M') (g : (Ab1 = Ab ∨ mZ M ≤ Ab1) ∧ (Be1 = Be ∨ mZ M ≤ Be1)) (r : mS M' + 4 * Cm = mS M + 4 * Cm1 ∧ 32 * mZ M' + Cm ≤ 32 * mZ M + Cm1) : trF M q p O P Ab Be Cm M' Ab1 Be1 Cm1 :=
  ⟨f.mono (fun x _ y => y.elim (fun u => Or.inl (Or.inl ⟨by omega, by omega⟩)) (fun u => Or.inr u)) (fun _ _ y => y), g, r⟩
/-- the places of the program's tables -/
theorem TX.tab (h : TX M z q w T A B D N C n p O P K Ab Be Cm V F ns sf ef c cnt L) : mK M p = 6 ∧ (mR M p 4 = p + 3 ∧ mR M p 5 = p + 4 ∧ mR M p 6 = p + 5 ∧ mR M p 8 = p + 6 ∧ mR M p 9 = p + 7 ∧ mR M p 10 = p + 8 ∧ mR M p 13 = p + 9 ∧ mR M p 14 = p + 10 ∧ mR M p 15 = p + 11 ∧ mR M p 16 = p + 12 ∧ mR M p 17 = p + 13 ∧ mR M p 18 = p + 14 ∧ mR M p 19 = p + 15) ∧ (mK M (p + 3) = 30 ∧ mK M (p + 4) = 30 ∧ mK M (p + 5) = 30 ∧ mK M (p + 6) = 30 ∧ mK M (p + 7) = 30 ∧ mK M (p + 8) = 30 ∧ mK M (p + 9) = 30 ∧ mK M (p + 10) = 30 ∧ mK M (p + 11) = 30 ∧ mK M (p + 12) = 30 ∧ mK M (p + 13) = 30 ∧ mK M (p + 14) = 30 ∧ mK M (p + 15) = 30) ∧ (mN M (p + 3) = 12 ∧ mN M (p + 4) = 12 ∧ mN M (p + 5) = 12 ∧ mN M (p + 6) = 60 ∧ mN M (p + 7) = 60 ∧ mN M (p + 8) = 60 ∧ mN M (p + 9) = 60 ∧ mN M (p + 10) = 60 ∧ mN M (p + 11) = 60 ∧ mN M (p + 12) = 61 ∧ mN M (p + 13) = 480 ∧ mN M (p + 14) = 480 ∧ mN M (p + 15) = 480) := ⟨h.1.1.2.2.2.2.1.1, h.1.1.2.2.2.2.1.2.2.2.2.2.2⟩
end TRI
end
section
/-! The class's reader of texts: settleNamed, the whole; settleVar. -/
section TRJ
variable {G : mG} {d z q w T A B D N C n p O P K Ab Be Cm V F c s s' L L' cnt Bn a d0 V1 F1 nw k e s9 Ab0 Be0 Cm0 Ab1 Be1 Cm1 : Nat} {M0 M M' M1 M2 : mM} {ns ns' ns1 : Nat → Int} {sf ef sf' ef' : Nat → Nat} {H : Nat → Nat} {S R : Nat → Prop}
/-- a var that is being settled -/
def svS (M0 : mM) (z q w T A B D N C n p O P K Ab0 Be0 Cm0 V F : Nat) (ns : Nat → Int) (sf ef : Nat → Nat) (c cnt L s a nw : Nat) (M : mM) : Prop := ∃ Ab Be Cm, TX M z q w T A B D N C n p O P K Ab Be Cm V F ns sf ef c cnt L ∧ trF M0 q p O P Ab0 Be0 Cm0 M Ab Be Cm ∧ vrS M q A n p L s a nw V ∧ (mI M q 8 = 0 → rvR M q O P F ns L s 0 ∧ rvR M q O P F ns L s 1) ∧ (mI M q 7 ≠ 0 → rvR M q O P F ns L s 2)
theorem svS.pl (h : svS M0 z q w T A B D N C n p O P K Ab0 Be0 Cm0 V F ns sf ef c cnt L s a nw M) : mOk M ∧ mK M q = 3 ∧ mR M q 0 = q + 1 ∧ mK M (q + 1) = 4 ∧ mR M q 1 = q + 11 ∧ mK M (q + 11) = 5 ∧ mK M (mR M (q + 11) 6) = 30 ∧ (0 : Int) < mN M (mR M (q + 11) 6) ∧ mR M q 6 = q + 22 ∧ mK M (q + 22) = 30 ∧ mN M (q + 22) = 3 := by
  obtain ⟨Ab, Be, Cm, h1, -⟩ := h
  obtain ⟨t0, t1, t2, t3, t4, t5⟩ := h1.1.2.1
  obtain ⟨s1, s2, s3, s4⟩ := h1.1.2.2.1
  have hk := h1.1.2.2.2.1
  have m6 := hk.2.1.2.2.1
  have n6 := hk.2.2.2.1.2.1
  have c6 := hk.2.2.2.2.2.2.2.1
  exact ⟨h1.1.1.1, t0, t1, h1.1.1.2.1.1, t2, hk.1, by rw [m6]; exact hk.2.2.1.2.2.1, by rw [m6, n6]; omega, t5, s2, s4⟩
end TRJ
end
section
/-! The class's reader of texts: settleVar. -/
section TRK
variable {G : mG} {d z q w T A B D N C n p O P K Ab Be Cm V F c s s' L L' cnt Bn a d0 V1 F1 nw k e s9 Ab0 Be0 Cm0 Ab1 Be1 Cm1 : Nat} {M0 M M' M1 M2 : mM} {ns ns' ns1 : Nat → Int} {sf ef sf' ef' : Nat → Nat} {H : Nat → Nat} {S R : Nat → Prop}
theorem TN.more {r : Nat} (h : TN M r A n V F ns c) (hA : mI M' A = mI M A) (hr : mI M' r = mI M r) (ht : ∀ i, 6 ≤ i → i ≤ 9 → mI M' (r + i) = mI M (r + i)) : TN M' r A n (V + 1) F ns c := by
  obtain ⟨n1, n2, n3⟩ := h
  refine ⟨by rw [hr]; exact n1, n2, fun i hi => ?_⟩
  obtain ⟨m1, m2, m3⟩ := n3 i hi
  rw [hA, ht 6 (by omega) (by omega), ht 7 (by omega) (by omega), ht 8 (by omega) (by omega), ht 9 (by omega) (by omega)]
  refine ⟨m1, ?_, m3⟩
  rcases m2 with ⟨u1, u2, u3⟩ | u
  · exact Or.inl ⟨u1, u2, by omega⟩
  · exact Or.inr u
theorem PX.var (h : PX M q p O P V F ns sf ef L cnt) (f3 : mI M (q + 1) 3 ≠ 0 → mI M' (q + 1) 3 ≠ 0) (f5 : ∀ i, i ≠ 2 → i ≠ 3 → mI M' p i = mI M p i) (f6 : ∀ i, 6 ≤ i → i ≤ 15 → mI M' (p + i) = mI M (p + i)) (f7 : ∀ i, i < L → mI M' O i = mI M O i ∧ mI M' P i = mI M P i) : PX M' q p O P (V + 1) F ns sf ef L cnt := by
  obtain ⟨a1, a2⟩ := h
  refine ⟨by rw [f5 12 (by decide) (by decide)]; exact a1, fun h0 => ?_⟩
  obtain ⟨u, e, g1, g2, g3, g4, g5, g6, g7⟩ := a2 (Classical.byContradiction (fun y => f3 y h0))
  have cg : ∀ {s h : Nat}, PC M O P V F ns ef L s h → PC M' O P (V + 1) F ns ef L s h := fun hc => (hc.cg (M' := M') (fun i hi => (f7 i hi).1) (fun i hi => (f7 i hi).2)).wide (Nat.le_succ _) (Nat.le_refl _) (Nat.le_refl _) (fun _ _ => ⟨rfl, rfl⟩)
  refine ⟨u, by rw [f6 12 (by omega) (by omega)]; exact e, (g1.cg (M' := M') (fun i hi => (f7 i hi).1) (fun i hi => (f7 i hi).2) (fun i _ => by rw [f6 7 (by omega) (by omega)]) (fun i _ => by rw [f6 8 (by omega) (by omega)])).wide (Nat.le_succ _) (Nat.le_refl _), ?_, fun j hj => ?_, by rw [f6 12 (by omega) (by omega)]; exact g4, by rw [f6 12 (by omega) (by omega)]; exact g5, by rw [f6 12 (by omega) (by omega)]; exact g6, fun b hb => ?_⟩
  · rw [f5 11 (by decide) (by decide)]
    exact g2.imp (fun y => y) (fun ⟨s, y1, y2⟩ => ⟨s, y1, cg y2⟩)
  · obtain ⟨s, y1, y2⟩ := g3 j hj
    exact ⟨s, by rw [f6 11 (by omega) (by omega)]; exact y1, cg y2⟩
  · obtain ⟨s1, s2, y1, y2, y3, y4⟩ := g7 b hb
    exact ⟨s1, s2, by rw [f6 14 (by omega) (by omega)]; exact y1, cg y2, by rw [f6 15 (by omega) (by omega)]; exact y3, cg y4⟩
end TRK
end
end
section
theorem u7a {q p O P b : Nat} (s : q + 22 < p ∨ p + 15 < q) (o : O < q ∨ q + 22 < O) (o' : P < q ∨ q + 22 < P) (hb : b = q ∨ b = q + 21 ∨ b = q + 22) (y : (q + 1 ≤ b ∧ b ≤ q + 1 + 9) ∨ b = p ∨ b = O ∨ b = P) : False := by
  have h : q ≤ b ∧ b ≤ q + 22 ∧ ¬ (q + 1 ≤ b ∧ b ≤ q + 1 + 9) := by
    rcases hb with e | e | e <;> subst e <;> exact ⟨by omega, by omega, by omega⟩
  clear hb
  rcases y with y | y | y | y
  · exact h.2.2 y
  · clear o o'; omega
  · clear s o'; omega
  · clear s o; omega
theorem u7b {p O i k : Nat} (o : O < p ∨ O = p + k ∨ p + 15 < O) (hk : k ≤ 2) (hi : 3 ≤ i) (h15 : i ≤ 15) : O ≠ p + i := by omega
theorem u7c {q O i : Nat} (o : O < q ∨ q + 22 < O) (hi : i ≤ 22) : O ≠ q + i := by omega
theorem u7d {q p x i : Nat} (qp : q + 22 < p ∨ p + 15 < q) (h1 : q ≤ x) (h2 : x ≤ q + 22) (h15 : i ≤ 15) : x ≠ p + i := by omega
theorem u7e {q x A B : Nat} (u1 : ¬ (q ≤ x ∧ x ≤ q + 22)) (u2 : x ≠ A) (u3 : x ≠ B) (y : x = q + 11 ∨ x = q + 11 + 2 ∨ (q + 11 + 5 ≤ x ∧ x ≤ q + 11 + 9) ∨ x = A ∨ x = B) : False := by
  rcases y with y | y | y | y | y
  · exact u1 ⟨by omega, by omega⟩
  · exact u1 ⟨by omega, by omega⟩
  · exact u1 ⟨by omega, by omega⟩
  · exact u2 y
  · exact u3 y
theorem u7f {q p O P b i : Nat} (y : b = p + i) (h3 : 3 ≤ i) (h15 : i ≤ 15) : (q ≤ b ∧ b ≤ q + 10) ∨ b = q + 21 ∨ b = q + 22 ∨ b = p ∨ (p + 3 ≤ b ∧ b ≤ p + 15) ∨ b = O ∨ b = P := Or.inr (Or.inr (Or.inr (Or.inr (Or.inl ⟨by omega, by omega⟩))))
section
/-! The class's reader of texts: sets. -/
section TRL
variable {G : mG} {d z q w T A B D N C n p O P K Ab Be Cm V F c s s' L L' cnt Bn a d0 V1 F1 nw k e s9 S0 wd Ab0 Be0 Cm0 Ab1 Be1 Cm1 : Nat} {M0 M M' M1 M2 : mM} {ns ns' ns1 : Nat → Int} {sf ef sf' ef' : Nat → Nat} {H H1 : Nat → Nat} {S R : Nat → Prop}
theorem CO.join {s1 : Nat} (h : CO M O P V F ns H S0 s1 (fun _ => False)) (h0 : H s1 = 0) (g : CO M O P V F ns H1 s1 e (fun _ => False)) (g0 : H1 s1 = 0) (hs : S0 ≤ s1) (he : s1 ≤ e) : ∃ H', CO M O P V F ns H' S0 e (fun _ => False) ∧ H' S0 = H S0 ∧ H' e = H1 e := by
  obtain ⟨H', hH⟩ : ∃ H' : Nat → Nat, ∀ i, H' i = if i ≤ s1 then H i else H1 i := ⟨fun i => if i ≤ s1 then H i else H1 i, fun _ => rfl⟩
  have lo : ∀ i, i ≤ s1 → H' i = H i := fun i hi => by rw [hH, if_pos hi]
  have hi' : ∀ i, s1 ≤ i → H' i = H1 i := fun i hi => by
    by_cases y : i = s1
    · rw [y, lo s1 (Nat.le_refl _), h0, g0]
    · rw [hH, if_neg (by omega)]
  refine ⟨H', fun pc p0 p1 => ?_, lo S0 hs, hi' e he⟩
  by_cases y : pc < s1
  · obtain ⟨a1, a2, a3⟩ := h pc p0 y
    refine ⟨a1.cg (lo pc (by omega)) (lo (pc + 1) (by omega)), fun u => ?_, by rw [lo pc (by omega)]; exact a3⟩
    rcases a2 u with v | v
    · exact v.elim
    · exact Or.inr (v.cg (by omega) y (fun i hi => lo i hi))
  · obtain ⟨a1, a2, a3⟩ := g pc (by omega) p1
    refine ⟨a1.cg (hi' pc (by omega)) (hi' (pc + 1) (by omega)), fun u => ?_, by rw [hi' pc (by omega)]; omega⟩
    rcases a2 u with v | ⟨t, e1, t1, t2, t3, t4⟩
    · exact v.elim
    · refine Or.inr ⟨t, e1, t1, t2, ?_, ?_⟩
      · rw [hi' t (by omega), hi' pc (by omega)]; exact t3
      · rw [hi' t (by omega), hi' pc (by omega)]; exact t4
/-- the code of sets from S0 to s -/
def scI (M : mM) (O P V F : Nat) (ns : Nat → Int) (S0 s : Nat) : Prop := ∃ H, CO M O P V F ns H S0 s (fun _ => False) ∧ H S0 = 0 ∧ H s = 0 ∧ S0 ≤ s
theorem scI.cg (h : scI M O P V F ns S0 s) (hO : ∀ i, i < s → mI M' O i = mI M O i ∧ mI M' P i = mI M P i) : scI M' O P V F ns S0 s := by
  obtain ⟨H, h1, h2⟩ := h
  refine ⟨H, fun pc p0 p1 => ?_, h2⟩
  rw [(hO pc p1).1, (hO pc p1).2]
  exact h1 pc p0 p1
/-- one set more: a rule from s to e, and its SET -/
theorem scI.set {x : Int} (h : scI M O P V F ns S0 s) (g : CO M O P V F ns H1 s e (fun _ => False)) (g0 : H1 s = 0) (g1 : H1 e = 1) (hse : 1 + s ≤ e) (hO : ∀ i, mI M' O i = if i = e then 43 else mI M O i) (hP : ∀ i, mI M' P i = if i = e then x else mI M P i) (hx : 0 ≤ x ∧ x ≤ 1000000 ∧ x % 16 < V) : scI M' O P V F ns S0 (e + 1) := by
  obtain ⟨H, h1, h2, h3, h4⟩ := h
  obtain ⟨H', j1, j2, j3⟩ := h1.join h3 g g0 h4 (by omega)
  obtain ⟨H2, hH⟩ : ∃ H2 : Nat → Nat, ∀ i, H2 i = if i ≤ e then H' i else 0 := ⟨fun i => if i ≤ e then H' i else 0, fun _ => rfl⟩
  have lo : ∀ i, i ≤ e → H2 i = H' i := fun i hi => by rw [hH, if_pos hi]
  have l1 : H2 (e + 1) = 0 := by rw [hH, if_neg (by omega)]
  have l0 := lo e (Nat.le_refl _)
  refine ⟨H2, j1.add (by omega) lo (by omega) hO hP (fun i _ u => u) ?_ (fun u => ?_), by rw [lo S0 (by omega), j2, h2], l1, by omega⟩
  · exact Or.inr (Or.inr (Or.inr (Or.inr (Or.inr (Or.inr (Or.inr ⟨rfl, hx.1, hx.2.1, hx.2.2, by omega⟩))))))
  · exact absurd u (by unfold jm; omega)
def rsI (M0 : mM) (z q w T A B D N C n p O P K Ab Be Cm V F : Nat) (ns : Nat → Int) (sf ef : Nat → Nat) (c cnt L S0 a s9 : Nat) (M : mM) : Prop := TX M z q w T A B D N C n p O P K Ab Be Cm V F ns sf ef c cnt L ∧ txF M0 q p O P S0 M ∧ mI M (q + 1) 2 = ((a : Nat) : Int) ∧ a ≤ n ∧ mI M p 2 = ((s9 : Nat) : Int) ∧ S0 ≤ s9 ∧ s9 ≤ a ∧ mI M (q + 1) 5 = 0 ∧ mI M (q + 1) 6 = 0 ∧ (mI M (q + 1) 3 = 0 → scI M O P V F ns S0 s9) ∧ L ≤ S0
def rsQ9 (M0 : mM) (z q w T A B D N C n p O P K Ab Be Cm V F : Nat) (ns : Nat → Int) (sf ef : Nat → Nat) (c cnt L S0 : Nat) (x : Int) (M : mM) : Prop := txF M0 q p O P S0 M ∧ ((x = 0 ∧ nstQ z q w T A B D N C n p O P K Ab Be Cm V F ns sf ef c cnt L M) ∨ (x = 1 ∧ TX M z q w T A B D N C n p O P K Ab Be Cm V F ns sf ef c cnt L ∧ ∃ a s9 : Nat, mI M (q + 1) 2 = ((a : Nat) : Int) ∧ a ≤ n ∧ mI M p 2 = ((s9 + 1 : Nat) : Int) ∧ S0 ≤ s9 ∧ s9 ≤ a ∧ mI M (q + 1) 5 = 0 ∧ mI M (q + 1) 6 = 0 ∧ (mI M (q + 1) 3 = 0 → ∃ H, Cod M O P V F ns S0 s9 H 0)))
end TRL
end
section
/-! The class's reader of texts: sets, the whole; chances. -/
section TRM
variable {G : mG} {d z q w T A B D N C n p O P K Ab Be Cm V F c s s' L L' cnt Bn a d0 V1 F1 nw k e s9 S0 wd ix nbr Ab0 Be0 Cm0 Ab1 Be1 Cm1 : Nat} {M0 M M' M1 M2 : mM} {ns ns' ns1 : Nat → Int} {sf ef sf' ef' : Nat → Nat} {H H1 : Nat → Nat} {S R : Nat → Prop}
theorem rsI.note (h : rsI M0 z q w T A B D N C n p O P K Ab Be Cm V F ns sf ef c cnt L S0 a s9 M) (h2 : TX M' z q w T A B D N C n p O P K Ab Be Cm V F ns sf ef c cnt L) (x2 : txF M q p O P L M') (r2 : ∀ i, i ≠ 3 → i ≠ 4 → mI M' (q + 1) i = mI M (q + 1) i) (b2 : ∀ b, b ≠ q + 1 → mI M' b = mI M b) : rsI M0 z q w T A B D N C n p O P K Ab Be Cm V F ns sf ef c cnt L S0 a s9 M' := by
  obtain ⟨h1, f1, a1, a2, p1, p2, p3, d1, c1, sc, hL⟩ := h
  obtain ⟨⟨np0, np1, -, -⟩, ⟨nO0, nO1, -, -, -⟩, nP0, nP1, -, -, -⟩ := h1.1.ne
  refine ⟨h2, f1.trans ⟨x2.1, x2.2.1, x2.2.2.1, x2.2.2.2.1, x2.2.2.2.2.1, x2.2.2.2.2.2.1, fun i _ => ⟨by rw [b2 O nO1], by rw [b2 P nP1]⟩⟩, by rw [r2 2 (by decide) (by decide)]; exact a1, a2, by rw [b2 p np1]; exact p1, p2, p3, by rw [r2 5 (by decide) (by decide)]; exact d1, by rw [r2 6 (by decide) (by decide)]; exact c1, fun y => ?_, hL⟩
  exact (sc (Classical.byContradiction (fun u => x2.2.2.1 u y))).cg (fun i _ => ⟨by rw [b2 O nO1], by rw [b2 P nP1]⟩)
/-- a word more -/
theorem rsI.acc (h : rsI M0 z q w T A B D N C n p O P K Ab Be Cm V F ns sf ef c cnt L S0 a s9 M) (h2 : TX M' z q w T A B D N C n p O P K Ab Be Cm V F ns sf ef c cnt L) (x2 : txF M q p O P L M') (ha : mI M' (q + 1) 2 = ((a + 1 : Nat) : Int)) (han : a < n) (r2 : ∀ i, i ≠ 2 → mI M' (q + 1) i = mI M (q + 1) i) (b2 : ∀ b, b ≠ q + 1 → mI M' b = mI M b) : rsI M0 z q w T A B D N C n p O P K Ab Be Cm V F ns sf ef c cnt L S0 (a + 1) s9 M' := by
  obtain ⟨h1, f1, a1, a2, p1, p2, p3, d1, c1, sc, hL⟩ := h
  obtain ⟨⟨np0, np1, -, -⟩, ⟨nO0, nO1, -, -, -⟩, nP0, nP1, -, -, -⟩ := h1.1.ne
  refine ⟨h2, f1.trans ⟨x2.1, x2.2.1, x2.2.2.1, x2.2.2.2.1, x2.2.2.2.2.1, x2.2.2.2.2.2.1, fun i _ => ⟨by rw [b2 O nO1], by rw [b2 P nP1]⟩⟩, ha, han, by rw [b2 p np1]; exact p1, p2, Nat.le_succ_of_le p3, by rw [r2 5 (by decide)]; exact d1, by rw [r2 6 (by decide)]; exact c1, fun y => ?_, hL⟩
  exact (sc (Classical.byContradiction (fun u => x2.2.2.1 u y))).cg (fun i _ => ⟨by rw [b2 O nO1], by rw [b2 P nP1]⟩)
end TRM
end
section
/-! The class's reader of texts: a command's chances. -/
section TRN
variable {G : mG} {d z q w T A B D N C n p O P K Ab Be Cm V F c s s' L L' cnt Bn a d0 V1 F1 nw k e s9 S0 wd ix nbr u v Ab0 Be0 Cm0 Ab1 Be1 Cm1 : Nat} {M0 M M' M1 M2 : mM} {ns ns' ns1 : Nat → Int} {sf ef sf' ef' : Nat → Nat} {H H1 : Nat → Nat} {S R : Nat → Prop}
theorem PG.cg (h : PG M p O P V F ns sf ef L cnt Bn) (h11 : mI M' p 11 = mI M p 11) (f6 : ∀ i, 7 ≤ i → i ≤ 12 → mI M' (p + i) = mI M (p + i)) (fb : ∀ b, b < Bn → mI M' (p + 14) b = mI M (p + 14) b ∧ mI M' (p + 15) b = mI M (p + 15) b) (f7 : ∀ i, i < L → mI M' O i = mI M O i ∧ mI M' P i = mI M P i) : PG M' p O P V F ns sf ef L cnt Bn := by
  obtain ⟨g1, g2, g3, g4, g5, g6, g7⟩ := h
  have cg : ∀ {s h : Nat}, PC M O P V F ns ef L s h → PC M' O P V F ns ef L s h := fun hc => hc.cg (fun i hi => (f7 i hi).1) (fun i hi => (f7 i hi).2)
  refine ⟨g1.cg (fun i hi => (f7 i hi).1) (fun i hi => (f7 i hi).2) (fun i _ => by rw [f6 7 (by omega) (by omega)]) (fun i _ => by rw [f6 8 (by omega) (by omega)]), ?_, fun j hj => ?_, by rw [f6 12 (by omega) (by omega)]; exact g4, by rw [f6 12 (by omega) (by omega)]; exact g5, by rw [f6 12 (by omega) (by omega)]; exact g6, fun b hb => ?_⟩
  · rw [h11]
    exact g2.imp (fun y => y) (fun ⟨s, y1, y2⟩ => ⟨s, y1, cg y2⟩)
  · obtain ⟨s, y1, y2⟩ := g3 j hj
    exact ⟨s, by rw [f6 11 (by omega) (by omega)]; exact y1, cg y2⟩
  · obtain ⟨s1, s2, y1, y2, y3, y4⟩ := g7 b hb
    exact ⟨s1, s2, by rw [(fb b hb).1]; exact y1, cg y2, by rw [(fb b hb).2]; exact y3, cg y4⟩
/-- a command that is being read: its guard, and nbr branches -/
def CY (M : mM) (q p O P V F : Nat) (ns : Nat → Int) (sf ef : Nat → Nat) (L cnt ix nbr : Nat) : Prop := mI M (q + 1) 3 = 0 → ix = cnt ∧ cnt < 60 ∧ ∃ u v : Nat, mI M (p + 12) cnt = ((u : Nat) : Int) ∧ mI M (p + 12) (cnt + 1) = ((v : Nat) : Int) ∧ v = u + nbr ∧ nbr ≤ 8 ∧ PG M p O P V F ns sf ef L cnt v ∧ ∃ s : Nat, mI M (p + 11) cnt = ((s : Nat) : Int) ∧ PC M O P V F ns ef L s 1
theorem CY.cg (h : CY M q p O P V F ns sf ef L cnt ix nbr) (f3 : mI M (q + 1) 3 ≠ 0 → mI M' (q + 1) 3 ≠ 0) (h11 : mI M' p 11 = mI M p 11) (f6 : ∀ i, 7 ≤ i → i ≤ 12 → mI M' (p + i) = mI M (p + i)) (fb : ∀ v, mI M (p + 12) (cnt + 1) = ((v : Nat) : Int) → ∀ b, b < v → mI M' (p + 14) b = mI M (p + 14) b ∧ mI M' (p + 15) b = mI M (p + 15) b) (f7 : ∀ i, i < L → mI M' O i = mI M O i ∧ mI M' P i = mI M P i) : CY M' q p O P V F ns sf ef L cnt ix nbr := fun h0 => by
  obtain ⟨a1, a2, u, v, b1, b2, b3, b4, b5, s, b6, b7⟩ := h (Classical.byContradiction (fun y => f3 y h0))
  exact ⟨a1, a2, u, v, by rw [f6 12 (by omega) (by omega)]; exact b1, by rw [f6 12 (by omega) (by omega)]; exact b2, b3, b4, b5.cg h11 f6 (fb v b2) f7, s, by rw [f6 11 (by omega) (by omega)]; exact b6, b7.cg (fun i hi => (f7 i hi).1) (fun i hi => (f7 i hi).2)⟩
theorem CY.tx (h : CY M q p O P V F ns sf ef L cnt ix nbr) (f : txE M q p O P L M') : CY M' q p O P V F ns sf ef L cnt ix nbr := by
  obtain ⟨f2, f3, f4, f5, f6, f7⟩ := f
  exact h.cg f3 (f5 11 (by decide)) (fun i _ _ => f6 i (by omega) (by omega)) (fun v _ b _ => ⟨by rw [f6 14 (by omega) (by omega)], by rw [f6 15 (by omega) (by omega)]⟩) f7
theorem CY.longer (h : CY M q p O P V F ns sf ef L cnt ix nbr) (hL : L ≤ L') : CY M q p O P V F ns sf ef L' cnt ix nbr := fun h0 => by
  obtain ⟨a1, a2, u, v, b1, b2, b3, b4, b5, s, b6, b7⟩ := h h0
  exact ⟨a1, a2, u, v, b1, b2, b3, b4, b5.longer hL, s, b6, b7.wide (Nat.le_refl _) (Nat.le_refl _) hL (fun _ _ => ⟨rfl, rfl⟩)⟩
/-- what readChance comes to -/
def chQ9 (M0 : mM) (z q w T A B D N C n p O P K Ab Be Cm V F : Nat) (ns : Nat → Int) (sf ef : Nat → Nat) (c cnt L ix nbr : Nat) (x : Int) (M : mM) : Prop := FI (txS q p O P) M0 M ∧ ((x = 0 ∧ nstQ z q w T A B D N C n p O P K Ab Be Cm V F ns sf ef c cnt L M) ∨ (x = 1 ∧ TX M z q w T A B D N C n p O P K Ab Be Cm V F ns sf ef c cnt L ∧ (mI M0 (q + 1) 3 ≠ 0 → mI M (q + 1) 3 ≠ 0) ∧ ∃ a e : Nat, mI M (q + 1) 2 = ((a : Nat) : Int) ∧ a ≤ n ∧ mI M p 2 = ((e + 1 : Nat) : Int) ∧ L ≤ e ∧ e + 1 ≤ a ∧ mI M (q + 1) 5 = 0 ∧ mI M (q + 1) 6 = 0 ∧ CY M q p O P V F ns sf ef L cnt ix nbr ∧ (mI M (q + 1) 3 = 0 → ∃ v H, mI M (p + 12) (cnt + 1) = ((v : Nat) : Int) ∧ mI M (p + 14) v = ((L : Nat) : Int) ∧ mI M (p + 15) v = ((e + 1 : Nat) : Int) ∧ Cod M O P V F ns L e H 1)))
/-- the tables of branches are written at v -/
theorem tx_br {x : Int} (h : TX M z q w T A B D N C n p O P K Ab Be Cm V F ns sf ef c cnt L) (cy : CY M q p O P V F ns sf ef L cnt ix nbr) (h0 : mI M (q + 1) 3 = 0) (hv : mI M (p + 12) (cnt + 1) = ((v : Nat) : Int)) (ok : mOk M') (f : FI (fun b => b = p + 13 ∨ b = p + 14 ∨ b = p + 15) M M') (e14 : ∀ i, mI M' (p + 14) i = if i = v then ((L : Nat) : Int) else mI M (p + 14) i) (e15 : ∀ i, mI M' (p + 15) i = if i = v then x else mI M (p + 15) i) : TX M' z q w T A B D N C n p O P K Ab Be Cm V F ns sf ef c cnt L ∧ CY M' q p O P V F ns sf ef L cnt ix nbr ∧ FI (txS q p O P) M M' ∧ (∀ b, b ≠ p + 13 → b ≠ p + 14 → b ≠ p + 15 → mI M' b = mI M b) := by
  have ap := h.1.apart
  have qp := h.1.2.2.2.2.2.1.2.1
  have nb : ∀ b, b ≠ p + 13 → b ≠ p + 14 → b ≠ p + 15 → mI M' b = mI M b := fun b b1 b2 b3 => f.2.2.2.2.2.2 b (fun y => by
    have y' : b = p + 13 ∨ b = p + 14 ∨ b = p + 15 := y
    exact y'.elim b1 (fun y => y.elim b2 b3))
  have fx : FI (txS q p O P) M M' := f.mono (fun b y => by
    have y' : b = p + 13 ∨ b = p + 14 ∨ b = p + 15 := y
    rcases y' with y | y | y
    · exact u7f y (by decide) (by decide)
    · exact u7f y (by decide) (by decide)
    · exact u7f y (by decide) (by decide))
  have nO := nb O (by first | (have h1 := ap.2.2.2.1; have h2 := ap.2.1; omega) | omega) (by first | (have h1 := ap.2.2.2.1; have h2 := ap.2.1; omega) | omega) (by first | (have h1 := ap.2.2.2.1; have h2 := ap.2.1; omega) | omega)
  have nP := nb P (by first | (have h1 := ap.2.2.2.2.1; have h2 := ap.2.2.1; omega) | omega) (by first | (have h1 := ap.2.2.2.2.1; have h2 := ap.2.2.1; omega) | omega) (by first | (have h1 := ap.2.2.2.2.1; have h2 := ap.2.2.1; omega) | omega)
  have np := nb p (by first | (have h1 := qp; omega) | omega) (by first | (have h1 := qp; omega) | omega) (by first | (have h1 := qp; omega) | omega)
  have nr : ∀ i, i ≤ 10 → mI M' (q + i) = mI M (q + i) := fun i hi => nb _ (u7d qp (by omega) (by omega) (by decide)) (u7d qp (by omega) (by omega) (by decide)) (u7d qp (by omega) (by omega) (by decide))
  have n6 : ∀ i, 7 ≤ i → i ≤ 12 → mI M' (p + i) = mI M (p + i) := fun i h7 h12 => nb _ (by omega) (by omega) (by omega)
  have fb : ∀ b, b < v → mI M' (p + 14) b = mI M (p + 14) b ∧ mI M' (p + 15) b = mI M (p + 15) b := fun b hb => ⟨by rw [e14, if_neg (by omega)], by rw [e15, if_neg (by omega)]⟩
  clear ap qp
  obtain ⟨hP, ⟨c1, c2, c3, c4⟩, x1, x2⟩ := h
  refine ⟨⟨hP.fi ok fx, ⟨by rw [np]; exact c1, by rw [np]; exact c2, ?_, fun j => by rw [nr 6 (by omega)]; exact c4 j⟩, by rw [np]; exact x1, fun _ => ?_⟩, cy.cg (fun y => by rw [nr 1 (by omega)]; exact y) (by rw [np]) n6 (fun v' hv' b hb => ?_) (fun i _ => ⟨by rw [nO], by rw [nP]⟩), fx, nb⟩
  · unfold TN at c3 ⊢
    rw [(hP.words fx).1, nr 1 (by omega), show q + 1 + 6 = q + 7 by omega, show q + 1 + 7 = q + 8 by omega, show q + 1 + 8 = q + 9 by omega, show q + 1 + 9 = q + 10 by omega, nr 7 (by omega), nr 8 (by omega), nr 9 (by omega), nr 10 (by omega)]
    exact c3
  · obtain ⟨u, eu, gu⟩ := x2 h0
    obtain ⟨-, -, u', v', b1, b2, b3, -⟩ := cy h0
    have uv : u ≤ v := by
      rw [eu] at b1
      rw [hv] at b2
      omega
    exact ⟨u, by rw [n6 12 (by omega) (by omega)]; exact eu, gu.cg (by rw [np]) n6 (fun b hb => fb b (by omega)) (fun i _ => ⟨by rw [nO], by rw [nP]⟩)⟩
  · rw [hv] at hv'
    exact fb b (by omega)
end TRN
end
end
section
section
/-! The class's reader of texts: a command's branches. -/
section TRO
variable {G : mG} {d z q w T A B D N C n p O P K Ab Be Cm V F c s s' L L' cnt Bn a d0 V1 F1 nw k e s9 S0 wd ix nbr u v Ab0 Be0 Cm0 Ab1 Be1 Cm1 : Nat} {M0 M M' M1 M2 : mM} {ns ns' ns1 : Nat → Int} {sf ef sf' ef' : Nat → Nat} {H H1 : Nat → Nat} {S R : Nat → Prop}
theorem PG.up (h : PG M p O P V F ns sf ef L cnt Bn) (h11 : mI M' p 11 = mI M p 11) (t7 : mI M' (p + 7) = mI M (p + 7)) (t8 : mI M' (p + 8) = mI M (p + 8)) (t11 : ∀ j, j < cnt → mI M' (p + 11) j = mI M (p + 11) j) (t12 : ∀ j, j ≤ cnt → mI M' (p + 12) j = mI M (p + 12) j) (fb : ∀ b, b < Bn → mI M' (p + 14) b = mI M (p + 14) b ∧ mI M' (p + 15) b = mI M (p + 15) b) (f7 : ∀ i, i < L → mI M' O i = mI M O i ∧ mI M' P i = mI M P i) : PG M' p O P V F ns sf ef L cnt Bn := by
  obtain ⟨g1, g2, g3, g4, g5, g6, g7⟩ := h
  have cg : ∀ {s h : Nat}, PC M O P V F ns ef L s h → PC M' O P V F ns ef L s h := fun hc => hc.cg (fun i hi => (f7 i hi).1) (fun i hi => (f7 i hi).2)
  refine ⟨g1.cg (fun i hi => (f7 i hi).1) (fun i hi => (f7 i hi).2) (fun i _ => by rw [t7]) (fun i _ => by rw [t8]), ?_, fun j hj => ?_, by rw [t12 0 (by omega)]; exact g4, fun j hj => by rw [t12 j (by omega), t12 (j + 1) (by omega)]; exact g5 j hj, by rw [t12 cnt (Nat.le_refl _)]; exact g6, fun b hb => ?_⟩
  · rw [h11]
    exact g2.imp (fun y => y) (fun ⟨s, y1, y2⟩ => ⟨s, y1, cg y2⟩)
  · obtain ⟨s, y1, y2⟩ := g3 j hj
    exact ⟨s, by rw [t11 j hj]; exact y1, cg y2⟩
  · obtain ⟨s1, s2, y1, y2, y3, y4⟩ := g7 b hb
    exact ⟨s1, s2, by rw [(fb b hb).1]; exact y1, cg y2, by rw [(fb b hb).2]; exact y3, cg y4⟩
/-- a table of commands is written, where no command is yet -/
theorem TX.up {b j : Nat} {x : Int} (h : TX M z q w T A B D N C n p O P K Ab Be Cm V F ns sf ef c cnt L) (hx : i32 x) (e1 : M' = mUI M (p + b) j x) (hb : 9 ≤ b ∧ b ≤ 12) (h11 : b = 11 → mI M (q + 1) 3 = 0 → cnt ≤ j) (h12 : b = 12 → mI M (q + 1) 3 = 0 → cnt < j) : TX M' z q w T A B D N C n p O P K Ab Be Cm V F ns sf ef c cnt L ∧ FI (txS q p O P) M M' ∧ (∀ y, y ≠ p + b → mI M' y = mI M y) ∧ (∀ i, mI M' (p + b) i = if i = j then x else mI M (p + b) i) := by
  have ap := h.1.apart
  have qp := h.1.2.2.2.2.2.1.2.1
  have ok : mOk M' := by rw [e1]; exact mOk_UI h.1.1.1 hx
  have f : FI (fun y => y = p + b) M M' := by rw [e1]; exact FI.ui rfl
  have nb : ∀ y, y ≠ p + b → mI M' y = mI M y := fun y hy => f.2.2.2.2.2.2 y hy
  have ib : ∀ i, mI M' (p + b) i = if i = j then x else mI M (p + b) i := fun i => by
    rw [mI_ui _ i e1]
    by_cases y : i = j
    · rw [if_pos ⟨rfl, y⟩, if_pos y]
    · rw [if_neg (fun t => y t.2), if_neg y]
  have fx : FI (txS q p O P) M M' := f.mono (fun y hy => by
    have hy' : y = p + b := hy
    exact u7f hy' (by omega) (by omega))
  have nO := nb O (by first | (have h1 := ap.2.2.2.1; have h2 := ap.2.1; omega) | omega)
  have nP := nb P (by first | (have h1 := ap.2.2.2.2.1; have h2 := ap.2.2.1; omega) | omega)
  have np := nb p (by first | (have h1 := qp; omega) | omega)
  have nr : ∀ i, i ≤ 10 → mI M' (q + i) = mI M (q + i) := fun i hi => nb _ (by omega)
  obtain ⟨hP, ⟨c1, c2, c3, c4⟩, x1, x2⟩ := h
  refine ⟨⟨hP.fi ok fx, ⟨by rw [np]; exact c1, by rw [np]; exact c2, ?_, fun j => by rw [nr 6 (by omega)]; exact c4 j⟩, by rw [np]; exact x1, fun y0 => ?_⟩, fx, nb, ib⟩
  · unfold TN at c3 ⊢
    rw [(hP.words fx).1, nr 1 (by omega), show q + 1 + 6 = q + 7 by omega, show q + 1 + 7 = q + 8 by omega, show q + 1 + 8 = q + 9 by omega, show q + 1 + 9 = q + 10 by omega, nr 7 (by omega), nr 8 (by omega), nr 9 (by omega), nr 10 (by omega)]
    exact c3
  · rw [nr 1 (by omega)] at y0
    obtain ⟨u, eu, gu⟩ := x2 y0
    have t11 : ∀ i, i < cnt → mI M' (p + 11) i = mI M (p + 11) i := fun i hi => by
      by_cases yb : b = 11
      · have := h11 yb y0
        rw [← yb, ib, if_neg (by omega)]
      · rw [nb _ (by omega)]
    have t12 : ∀ i, i ≤ cnt → mI M' (p + 12) i = mI M (p + 12) i := fun i hi => by
      by_cases yb : b = 12
      · have := h12 yb y0
        rw [← yb, ib, if_neg (by omega)]
      · rw [nb _ (by omega)]
    exact ⟨u, by rw [t12 cnt (Nat.le_refl _)]; exact eu, gu.up (by rw [np]) (nb _ (by omega)) (nb _ (by omega)) t11 t12 (fun b' _ => ⟨by rw [nb _ (by omega)], by rw [nb _ (by omega)]⟩) (fun i _ => ⟨by rw [nO], by rw [nP]⟩)⟩
/-- a branch is counted -/
theorem tx_nb (h : TX M z q w T A B D N C n p O P K Ab Be Cm V F ns sf ef c cnt L) (cy : CY M q p O P V F ns sf ef L cnt ix nbr) (h0 : mI M (q + 1) 3 = 0) (n8 : nbr < 8) (hv : mI M (p + 12) (cnt + 1) = ((v : Nat) : Int)) (b14 : mI M (p + 14) v = ((s : Nat) : Int)) (p14 : PC M O P V F ns ef L' s 1) (b15 : mI M (p + 15) v = ((s' : Nat) : Int)) (p15 : PC M O P V F ns ef L' s' 0) (hLL : L ≤ L') (e1 : M' = mUI M (p + 12) (cnt + 1) ((v : Int) + 1)) : TX M' z q w T A B D N C n p O P K Ab Be Cm V F ns sf ef c cnt L' ∧ CY M' q p O P V F ns sf ef L' cnt ix (nbr + 1) ∧ FI (txS q p O P) M M' ∧ (∀ y, y ≠ p + 12 → mI M' y = mI M y) := by
  obtain ⟨g1, g2, u, v', g3, g4, g5, g6, g7, sg, g8, g9⟩ := cy h0
  have vv : v' = v := by rw [hv] at g4; omega
  subst vv
  obtain ⟨u', g10, -, g11⟩ := g7.2.2.2.2.2.1
  have vb : v' < 480 := by
    rw [g3] at g10
    omega
  obtain ⟨h', fx, nb, ib⟩ := h.up (b := 12) ⟨by omega, by omega⟩ e1 ⟨by omega, by omega⟩ (fun y => absurd y (by omega)) (fun _ _ => by omega)
  have ap := h.1.apart
  have qp := h.1.2.2.2.2.2.1.2.1
  have nO := nb O (by first | (have h1 := ap.2.2.2.1; have h2 := ap.2.1; omega) | omega)
  have nP := nb P (by first | (have h1 := ap.2.2.2.2.1; have h2 := ap.2.2.1; omega) | omega)
  have nr := nb (q + 1) (by omega)
  have np := nb p (by first | (have h1 := qp; omega) | omega)
  refine ⟨h'.any (fun _ => hLL), fun _ => ?_, fx, nb⟩
  have cg : ∀ {s h : Nat}, PC M O P V F ns ef L' s h → PC M' O P V F ns ef L' s h := fun hc => hc.cg (fun i _ => by rw [nO]) (fun i _ => by rw [nP])
  have gg := (g7.longer hLL).up (M' := M') (by rw [np]) (nb _ (by omega)) (nb _ (by omega)) (fun i _ => by rw [nb _ (by omega)]) (fun i hi => by rw [ib, if_neg (by omega)]) (fun b' _ => ⟨by rw [nb _ (by omega)], by rw [nb _ (by omega)]⟩) (fun i _ => ⟨by rw [nO], by rw [nP]⟩)
  refine ⟨g1, g2, u, v' + 1, by rw [ib, if_neg (by omega)]; exact g3, by rw [ib, if_pos rfl]; omega, by omega, by omega, ?_, sg, by rw [nb _ (by omega)]; exact g8, cg (g9.wide (Nat.le_refl _) (Nat.le_refl _) hLL (fun _ _ => ⟨rfl, rfl⟩))⟩
  obtain ⟨k1, k2, k3, k4, k5, ⟨uu, k6, k7, k8⟩, k9⟩ := gg
  refine ⟨k1, k2, k3, k4, k5, ⟨uu, k6, by omega, k8⟩, fun b hb => ?_⟩
  by_cases y : b = v'
  · subst y
    exact ⟨s, s', by rw [nb _ (by omega)]; exact b14, cg p14, by rw [nb _ (by omega)]; exact b15, cg p15⟩
  · exact k9 b (by omega)
/-- a command that has been read -/
def cmQ9 (M0 : mM) (z q w T A B D N C n p O P K Ab Be Cm V F : Nat) (ns : Nat → Int) (sf ef : Nat → Nat) (c : Nat) (x : Int) (M' : mM) : Prop := FI (txS q p O P) M0 M' ∧ ((x = 0 ∧ ∃ L' cnt', nstQ z q w T A B D N C n p O P K Ab Be Cm V F ns sf ef c cnt' L' M') ∨ (x = 1 ∧ ∃ L' cnt' a' : Nat, TX M' z q w T A B D N C n p O P K Ab Be Cm V F ns sf ef c cnt' L' ∧ mI M' p 2 = ((L' : Nat) : Int) ∧ mI M' (q + 1) 2 = ((a' : Nat) : Int) ∧ a' ≤ n ∧ L' ≤ a' ∧ mI M' (q + 1) 5 = 0))
/-- between two branches -/
def cmI (M0 : mM) (z q w T A B D N C n p O P K Ab Be Cm V F : Nat) (ns : Nat → Int) (sf ef : Nat → Nat) (c cnt L ix nbr a : Nat) (M : mM) : Prop := FI (txS q p O P) M0 M ∧ TX M z q w T A B D N C n p O P K Ab Be Cm V F ns sf ef c cnt L ∧ CY M q p O P V F ns sf ef L cnt ix nbr ∧ mI M (q + 1) 2 = ((a : Nat) : Int) ∧ a ≤ n ∧ mI M p 2 = ((L : Nat) : Int) ∧ mI M (q + 1) 5 = 0 ∧ mI M (q + 1) 6 = 0 ∧ ix ≤ 59
end TRO
end
section
/-! The class's reader of texts: commands, the whole. -/
section TRP
variable {G : mG} {d z q w T A B D N C n p O P K Ab Be Cm V F c s s' L L' cnt Bn a d0 V1 F1 nw k e s9 S0 wd ix nbr u v i Ab0 Be0 Cm0 Ab1 Be1 Cm1 : Nat} {M0 M M' M1 M2 : mM} {ns ns' ns1 : Nat → Int} {sf ef sf' ef' : Nat → Nat} {H H1 : Nat → Nat} {S R : Nat → Prop}
/-- behind a branch: it is counted, if no fault is noted -/
theorem s_rc_cnt (f1 : FI (txS q p O P) M0 M) (h : TX M z q w T A B D N C n p O P K Ab Be Cm V F ns sf ef c cnt L) (cy : CY M q p O P V F ns sf ef L cnt ix nbr) (n8 : mI M (q + 1) 3 = 0 → nbr < 8) (a1 : mI M (q + 1) 2 = ((a : Nat) : Int)) (a2 : a ≤ n) (p1 : mI M p 2 = ((L' : Nat) : Int)) (hLL : L ≤ L') (d1 : mI M (q + 1) 5 = 0) (c1 : mI M (q + 1) 6 = 0) (hix : ix ≤ 59) (br : mI M (q + 1) 3 = 0 → ∃ v s s' : Nat, mI M (p + 12) (cnt + 1) = ((v : Nat) : Int) ∧ mI M (p + 14) v = ((s : Nat) : Int) ∧ PC M O P V F ns ef L' s 1 ∧ mI M (p + 15) v = ((s' : Nat) : Int) ∧ PC M O P V F ns ef L' s' 0) : ((mI M (q + 1) 3 = 0) → (mK M p = 6 ∧ mK M (p + 12) = 30 ∧ ((0 : Int) ≤ (ix : Int) + 1 ∧ (ix : Int) + 1 < (mN M (p + 12) : Int)) ∧ ((0 : Int) ≤ (ix : Int) + 1 ∧ (ix : Int) + 1 < (mN M (p + 12) : Int)) ∧ i32 ((mI M (p + 12) (Int.toNat ((ix : Int) + 1))) + 1))) ∧ ∀ M120 : mM, M120 = (if (mI M (q + 1) 3 = 0) then (mUI M (p + 12) (Int.toNat ((ix : Int) + 1)) ((mI M (p + 12) (Int.toNat ((ix : Int) + 1))) + 1)) else M) → ∃ nbr', cmI M0 z q w T A B D N C n p O P K Ab Be Cm V F ns sf ef c cnt L' ix nbr' a M120 ∧ (mI M120 (q + 1) 3 = 0 → nbr' = nbr + 1) := by
  have ap := h.1.apart
  have qp := h.1.2.2.2.2.2.1.2.1
  have q12 : q + 1 ≠ p + 12 := by omega
  have p12 : p ≠ p + 12 := by omega
  clear ap qp
  obtain ⟨k6, -, ⟨-, -, -, -, -, -, -, -, -, kp12, -⟩, ⟨-, -, -, -, -, -, -, -, -, np12, -⟩⟩ := h.tab
  have e12 : Int.toNat ((ix : Int) + 1) = ix + 1 := by omega
  rw [np12, e12]
  refine ⟨fun y => ⟨k6, kp12, by omega, by omega, ?_⟩, fun M120 e120 => ?_⟩
  · obtain ⟨g1, g2, u, v, g3, g4, g5, g6, g7, -⟩ := cy y
    obtain ⟨u', g10, -, g11⟩ := g7.2.2.2.2.2.1
    have vb : v ≤ 480 := by
      rw [g3] at g10
      omega
    rw [g1, g4]
    exact ⟨by omega, by omega⟩
  · by_cases y : mI M (q + 1) 3 = 0
    · rw [if_pos y] at e120
      obtain ⟨v, s, s', b1, b2, b3, b4, b5⟩ := br y
      have g1 := (cy y).1
      rw [g1, b1] at e120
      obtain ⟨h2, cy2, fx, nb⟩ := tx_nb h cy y (n8 y) b1 b2 b3 b4 b5 hLL e120
      have nr := nb (q + 1) q12
      exact ⟨nbr + 1, ⟨f1.trans fx, h2, cy2, by rw [nr]; exact a1, a2, by rw [nb p p12]; exact p1, by rw [nr]; exact d1, by rw [nr]; exact c1, hix⟩, fun _ => rfl⟩
    · rw [if_neg y] at e120
      subst e120
      exact ⟨nbr, ⟨f1, h.any (fun u => absurd u y), fun u => absurd u y, a1, a2, p1, d1, c1, hix⟩, fun u => absurd u y⟩
end TRP
end
section
/-! The class's reader of texts: readCommand. -/
section TRQ
variable {G : mG} {d z q w T A B D N C n p O P K Ab Be Cm V F c s s' L L' cnt Bn a d0 V1 F1 nw k e s9 S0 wd ix nbr u v i Ab0 Be0 Cm0 Ab1 Be1 Cm1 : Nat} {M0 M M' M1 M2 : mM} {ns ns' ns1 : Nat → Int} {sf ef sf' ef' : Nat → Nat} {H H1 : Nat → Nat} {S R : Nat → Prop}
end TRQ
end
end
section
section
/-! The class's reader of texts: translate. -/
section TRR
variable {G : mG} {d z q w T A B D N C n p O P K Ab Be Cm V F c s s' L L' cnt Bn a d0 V1 F1 nw k e s9 S0 wd ix nbr u v i Ab0 Be0 Cm0 Ab1 Be1 Cm1 : Nat} {M0 M M' M1 M2 : mM} {ns ns' ns1 : Nat → Int} {sf ef sf' ef' : Nat → Nat} {H H1 : Nat → Nat} {S R : Nat → Prop}
/-- what translate comes to -/
def tlQ (M0 : mM) (z q w T A B D N C n p O P K Ab0 Be0 Cm0 : Nat) (x : Int) (M' : mM) : Prop := ∃ (Ab Be Cm V F : Nat) (ns : Nat → Int) (sf ef : Nat → Nat) (c cnt L : Nat), TX M' z q w T A B D N C n p O P K Ab Be Cm V F ns sf ef c cnt L ∧ trF M0 q p O P Ab0 Be0 Cm0 M' Ab Be Cm ∧ x = mI M' (q + 1) 3 ∧ (x = 0 → mI M' p 11 ≠ -1 ∧ mI M' p 2 = ((L : Nat) : Int) ∧ L ≤ n)
end TRR
end
section
/-! The class's reader of texts: translate, the whole. -/
section TRS
variable {G : mG} {d z q w T A B D N C n p O P K Ab Be Cm V F c s s' L L' cnt Bn a d0 V1 F1 nw k e s9 S0 wd ix nbr u v i Ab0 Be0 Cm0 Ab1 Be1 Cm1 : Nat} {M0 M M' M1 M2 : mM} {ns ns' ns1 : Nat → Int} {sf ef sf' ef' : Nat → Nat} {H H1 : Nat → Nat} {S R : Nat → Prop}
/-- the reader of texts at rest -/
def TZ (M : mM) (z q p O P K Ab Be Cm : Nat) : Prop := mOk M ∧ RK M (q + 1) ∧ (mK M q = 3 ∧ mR M q 0 = q + 1 ∧ mR M q 1 = q + 11 ∧ mR M q 5 = q + 21 ∧ mR M q 6 = q + 22) ∧ (mK M (q + 21) = 30 ∧ mK M (q + 22) = 30 ∧ mN M (q + 21) = 3 ∧ mN M (q + 22) = 3) ∧ MK M z (q + 11) (q + 12) Ab Be Cm ∧ PK M z p O P K ∧ (q + 23 ≤ z ∧ (q + 22 < p ∨ p + 15 < q)) ∧ (O ≠ Ab ∧ O ≠ Be ∧ P ≠ Ab ∧ P ≠ Be) ∧ (∀ j, mI M (q + 6) j = 0 ∨ mI M (q + 6) j = 1)
/-- the words lie apart from it -/
def TZw (M : mM) (q w T A B D p O P Ab Be : Nat) : Prop := ∀ x, (x = w ∨ x = T ∨ x = A ∨ x = B ∨ x = D) → ¬ (q ≤ x ∧ x ≤ q + 22) ∧ ¬ (p ≤ x ∧ x ≤ p + 15) ∧ x ≠ O ∧ x ≠ P ∧ x ≠ Ab ∧ x ≠ Be ∧ x < mZ M
def tzS (q p O P Ab Be : Nat) : Nat → Prop := fun x => (q ≤ x ∧ x ≤ q + 22) ∨ (p ≤ x ∧ x ≤ p + 15) ∨ x = O ∨ x = P ∨ x = Ab ∨ x = Be
def tzR (q p : Nat) : Nat → Prop := fun x => x = q ∨ x = q + 1 ∨ x = q + 11 ∨ x = p
/-- what translate comes to -/
def tzQ (M0 : mM) (z q w T A B D N C n p O0 P0 K0 Ab0 Be0 Cm0 : Nat) (x : Int) (M' : mM) : Prop := ∃ (O P K Ab Be Cm V F : Nat) (ns : Nat → Int) (sf ef : Nat → Nat) (c cnt L : Nat), TX M' z q w T A B D N C n p O P K Ab Be Cm V F ns sf ef c cnt L ∧ FA (tzS q p O0 P0 Ab0 Be0) (tzR q p) M0 M' ∧ (((O = O0 ∧ P = P0) ∨ (mZ M0 ≤ O ∧ mZ M0 ≤ P)) ∧ (Ab = Ab0 ∨ mZ M0 ≤ Ab) ∧ (Be = Be0 ∨ mZ M0 ≤ Be)) ∧ (mS M' + 4 * Cm0 + 4 * K0 ≤ mS M0 + 4 * Cm + 4 * K ∧ 64 * mZ M' + 2 * Cm0 + K0 ≤ 64 * mZ M0 + 2 * Cm + K) ∧ x = mI M' (q + 1) 3 ∧ (x = 0 → mI M' p 11 ≠ -1 ∧ mI M' p 2 = ((L : Nat) : Int) ∧ L ≤ n)
theorem RK.eq2 {r : Nat} (h : RK M r) (v : ∀ i, i ≤ 9 → mK M' (r + i) = mK M (r + i) ∧ mN M' (r + i) = mN M (r + i)) (hr : ∀ i, 8 ≤ i → mR M' r i = mR M r i) : RK M' r := by
  unfold RK at h ⊢
  have v0 := v 0 (by omega)
  rw [Nat.add_zero] at v0
  rw [v0.1, (v 1 (by omega)).1, (v 2 (by omega)).1, (v 3 (by omega)).1, (v 4 (by omega)).1, (v 5 (by omega)).1, (v 6 (by omega)).1, (v 7 (by omega)).1, (v 8 (by omega)).1, (v 9 (by omega)).1, (v 1 (by omega)).2, (v 2 (by omega)).2, (v 3 (by omega)).2, (v 4 (by omega)).2, (v 5 (by omega)).2, (v 6 (by omega)).2, (v 7 (by omega)).2, (v 8 (by omega)).2, (v 9 (by omega)).2, hr 8 (by omega), hr 9 (by omega), hr 10 (by omega), hr 11 (by omega), hr 13 (by omega), hr 15 (by omega), hr 16 (by omega), hr 17 (by omega), hr 18 (by omega)]
  exact h
theorem MK.eq2 {m U : Nat} (h : MK M z m U Ab Be Cm) (hc : ∀ x, x < mZ M → mK M' x = mK M x ∧ mN M' x = mN M x) (hr : ∀ i, 3 ≤ i → mR M' m i = mR M m i) (h4 : mI M' m 4 = mI M m 4) (hz : mZ M ≤ mZ M') : MK M' z m U Ab Be Cm := by
  obtain ⟨e1, e2, e3, e4, e5, ⟨e61, e62, e63, e64⟩, ⟨e7, e8, e9, e10⟩, e11⟩ := h
  have v : ∀ i, i ≤ 9 → mK M' (m + i) = mK M (m + i) ∧ mN M' (m + i) = mN M (m + i) := fun i hi => hc _ (by omega)
  have v0 := v 0 (by omega)
  rw [Nat.add_zero] at v0
  unfold MK
  rw [v0.1, (v 2 (by omega)).1, (v 5 (by omega)).1, (v 6 (by omega)).1, (v 7 (by omega)).1, (v 8 (by omega)).1, (v 9 (by omega)).1, (v 2 (by omega)).2, (v 5 (by omega)).2, (v 6 (by omega)).2, (v 7 (by omega)).2, (v 8 (by omega)).2, (v 9 (by omega)).2, (hc U e10).1, (hc U e10).2, (hc Ab e8).1, (hc Ab e8).2, (hc Be e9).1, (hc Be e9).2, hr 3 (by omega), hr 5 (by omega), hr 6 (by omega), hr 7 (by omega), hr 10 (by omega), hr 11 (by omega), hr 12 (by omega), hr 13 (by omega), hr 14 (by omega), h4]
  exact ⟨e1, e2, e3, e4, e5, ⟨e61, e62, e63, e64⟩, ⟨by omega, by omega, by omega, by omega⟩, e11⟩
theorem tz1 {q p z : Nat} (s1 : q + 23 ≤ z) (s2 : q + 22 < p ∨ p + 15 < q) : q + 1 + 9 < z ∧ (q + 1 + 9 < p ∨ p + 15 < q + 1) := by omega
theorem tz2 {q x : Nat} (y1 : q + 1 ≤ x) (y2 : x ≤ q + 1 + 9) : q ≤ x ∧ x ≤ q + 22 := by omega
theorem tz3 {q p O P O' P' Ab Be x Z : Nat} (hx : x < Z) (hOP : (O' = O ∧ P' = P) ∨ (Z ≤ O' ∧ Z ≤ P')) (y : trS q p O' P' Ab Be x) : tzS q p O P Ab Be x := by
  show (q ≤ x ∧ x ≤ q + 22) ∨ (p ≤ x ∧ x ≤ p + 15) ∨ x = O ∨ x = P ∨ x = Ab ∨ x = Be
  rcases y with y | y
  · rcases y with y | y | y | y | y | y | y
    · omega
    · omega
    · omega
    · omega
    · omega
    · omega
    · omega
  · rcases y with y | y | y | y | y
    · omega
    · omega
    · omega
    · omega
    · omega
theorem tz4 {q p O P Ab Be x : Nat} (y : x = p ∨ x = p + 12 ∨ x = q + 1) : tzS q p O P Ab Be x := by
  show (q ≤ x ∧ x ≤ q + 22) ∨ (p ≤ x ∧ x ≤ p + 15) ∨ x = O ∨ x = P ∨ x = Ab ∨ x = Be
  omega
/-- the start: cells of the reader after begin -/
theorem tz_start {O' P' K' : Nat} (h : TZ M z q p O P K Ab Be Cm) (hw : TZw M q w T A B D p O P Ab Be) (hW : Wf M w T A B D N C n) (ok : mOk M') (f : FA (fun x => x = p ∨ x = p + 12 ∨ x = q + 1) (tzR q p) M M') (pk : PK M' z p O' P' K') (nK : n + 1 ≤ K') (hOP : (O' = O ∧ P' = P) ∨ (mZ M ≤ O' ∧ mZ M ≤ P')) (rr : ∀ i, mR M' (q + 1) i = if i = 1 then p else if i = 0 then w else mR M (q + 1) i) (rq : ∀ i, mR M' q i = if i = 2 then p else mR M q i) (rm : ∀ i, mR M' (q + 11) i = if i = 0 then p else mR M (q + 11) i) (ip : mI M' p 2 = 0 ∧ mI M' p 3 = 0 ∧ mI M' p 7 = 0 ∧ mI M' p 12 = 0 ∧ mI M' p 11 = -1) (i12 : mI M' (p + 12) 0 = 0) (ir : mI M' (q + 1) 2 = 0 ∧ mI M' (q + 1) 3 = 0 ∧ mI M' (q + 1) 5 = 0 ∧ mI M' (q + 1) 19 = 0) : TX M' z q w T A B D N C n p O' P' K' Ab Be Cm 0 0 (fun _ => 0) (fun _ => 0) (fun _ => 0) 0 0 0 := by
  obtain ⟨h1, h2, ⟨q0, q1, q2, q5, q6⟩, h4, h5, h6, ⟨s1, s2⟩, s3, h9⟩ := h
  have zz := f.1.1
  obtain ⟨z0, zA, zB, zU⟩ := h5.2.2.2.2.2.2.1
  obtain ⟨sA, sB, sne, sz⟩ := h5.2.2.2.2.2.1
  obtain ⟨-, -, -, ⟨o1, o2, o3, o4⟩, ⟨pz0, pz1, pz2⟩, -⟩ := id h6
  have bq : ∀ i, i ≤ 22 → q + i < mZ M := fun i hi => by omega
  have bq0 : q < mZ M := by omega
  have nq : ∀ i, i ≤ 22 → q + i ≠ p ∧ q + i ≠ p + 12 := fun i hi => by omega
  have cell : ∀ x, x < mZ M → mK M' x = mK M x ∧ mN M' x = mN M x := fun x hx => ⟨(f.2 x hx).1, (f.2 x hx).2.1⟩
  have iI : ∀ x, x < mZ M → x ≠ p → x ≠ p + 12 → x ≠ q + 1 → mI M' x = mI M x := fun x hx b1 b2 b3 => (f.2 x hx).2.2.2.2 (fun y => y.elim b1 (fun y => y.elim b2 b3))
  have sw : ∀ x, (x = w ∨ x = T ∨ x = A ∨ x = B ∨ x = D) → sm4 M M' x := fun x hx => by
    obtain ⟨u1, u2, u3, u4, u5, u6, u7⟩ := hw x hx
    clear hw hW h5 h6 pk rr rq rm hOP o1 o2 sA sB s2 s3 nq bq
    refine ⟨(cell x u7).1, (cell x u7).2, (f.2 x u7).2.2.2.1 (fun y => ?_), iI x u7 (by omega) (by omega) (by omega)⟩
    have y' : x = q ∨ x = q + 1 ∨ x = q + 11 ∨ x = p := y
    omega
  have rk : RK M' (q + 1) := h2.eq2 (fun i hi => cell _ (by rw [show q + 1 + i = q + (1 + i) by omega]; exact bq _ (by omega))) (fun i hi => by rw [rr, if_neg (by omega), if_neg (by omega)])
  have mk : MK M' z (q + 11) (q + 12) Ab Be Cm := h5.eq2 cell (fun i hi => by rw [rm, if_neg (by omega)]) (by rw [iI (q + 11) (bq 11 (by omega)) (nq 11 (by omega)).1 (nq 11 (by omega)).2 (by omega)]) zz
  have sO : (O' ≠ Ab ∧ O' ≠ Be ∧ P' ≠ Ab ∧ P' ≠ Be) := by
    rcases hOP with ⟨e1, e2⟩ | ⟨e1, e2⟩
    · rw [e1, e2]; exact s3
    · exact ⟨fun u => absurd zA (Nat.not_lt.mpr (by rw [← u]; exact e1)), fun u => absurd zB (Nat.not_lt.mpr (by rw [← u]; exact e1)), fun u => absurd zA (Nat.not_lt.mpr (by rw [← u]; exact e2)), fun u => absurd zB (Nat.not_lt.mpr (by rw [← u]; exact e2))⟩
  have sX := tz1 s1 s2
  refine ⟨⟨⟨ok, rk, ⟨by rw [rr 0]; rfl, by rw [rr 1]; rfl⟩, hW.eq sw, pk, ⟨sX.1, sX.2, fun x hx => ?_⟩, nK⟩, ⟨by rw [(cell q bq0).1]; exact q0, by rw [rq 0]; exact q1, by rw [rq 1]; exact q2, by rw [rq 2]; rfl, by rw [rq 5]; exact q5, by rw [rq 6]; exact q6⟩, by rw [(cell (q + 21) (bq 21 (by decide))).1, (cell (q + 22) (bq 22 (by decide))).1, (cell (q + 21) (bq 21 (by decide))).2, (cell (q + 22) (bq 22 (by decide))).2]; exact h4, mk, by rw [rm 0]; rfl, ⟨s1, s2, fun x hx => ?_⟩, sO⟩, ⟨⟨ip.2.1, Nat.zero_le _⟩, ⟨ip.2.2.1, Nat.zero_le _⟩, ⟨ir.2.2.2, Nat.zero_le _, fun i hi => absurd hi (Nat.not_lt_zero _)⟩, fun j => by rw [iI (q + 6) (bq 6 (by decide)) (nq 6 (by decide)).1 (nq 6 (by decide)).2 (by omega)]; exact h9 j⟩, ⟨ip.2.2.2.1, Nat.zero_le _⟩, fun _ => ⟨0, i12, fun x hx => absurd hx (Nat.not_lt_zero _), Or.inl ip.2.2.2.2, fun j hj => absurd hj (Nat.not_lt_zero _), i12, fun j hj => absurd hj (Nat.not_lt_zero _), ⟨0, i12, Nat.le_refl _, Nat.zero_le _⟩, fun b hb => absurd hb (Nat.not_lt_zero _)⟩⟩
  · obtain ⟨u1, u2, u3, u4, u5, u6, u7⟩ := hw x hx
    intro y
    rcases y with ⟨y1, y2⟩ | y | y | y
    · exact u1 (tz2 y1 y2)
    · exact u2 y
    · rcases hOP with ⟨e1, -⟩ | ⟨e1, -⟩
      · exact u3 (y.trans e1)
      · exact absurd u7 (Nat.not_lt.mpr (by rw [y]; exact e1))
    · rcases hOP with ⟨-, e1⟩ | ⟨-, e1⟩
      · exact u4 (y.trans e1)
      · exact absurd u7 (Nat.not_lt.mpr (by rw [y]; exact e1))
  · obtain ⟨u1, u2, u3, u4, u5, u6, u7⟩ := hw x hx
    exact ⟨u1, u5, u6, Nat.lt_of_lt_of_le u7 zz⟩
theorem hmono_41 {l3 : Int} {Q Q' : Int → mM → Prop} (h : h_TR_translate_41 G d q w l3 M Q) (hq : ∀ x M', Q x M' → Q' x M') : h_TR_translate_41 G d q w l3 M Q' := by
  unfold h_TR_translate_41 at h ⊢
  exact mWm.mono h (fun r M' k => by
    obtain ⟨x, e, t⟩ := k
    exact ⟨x, e, hq x M' t⟩)
end TRS
end
end
section
/-! The names that are words of the language: nameSort and wordKind. -/
theorem kt_spL : (Jvm.Cond.methodLink "ChanceArena$Words" (74 : Nat) ({ cls := "ChanceArena$Words", name := "spells", desc := "(ILjava/lang/String;)Z" } : Jvm.MethodName)) ∈ lw_R := zR (zk_4 _ (List.mem_of_getElem? (i := 55) rfl)) rfl
theorem kt_spI : (Jvm.Cond.instanceMethod ({ cls := "ChanceArena$Words", name := "spells", desc := "(ILjava/lang/String;)Z" } : Jvm.MethodName)) ∈ lw_R := zR (zk_4 _ (List.mem_of_getElem? (i := 57) rfl)) rfl
theorem kt_spC : (Jvm.Cond.code ({ cls := "ChanceArena$Words", name := "spells", desc := "(ILjava/lang/String;)Z" } : Jvm.MethodName) prog_13_method_14_code (4 : Nat) (Option.some Jvm.ClassFile.FieldType.boolean)) ∈ lw_R := zR (zk_4 _ (List.mem_of_getElem? (i := 58) rfl)) rfl
theorem kt_isL : (Jvm.Cond.methodLink "ChanceArenaModel" (178 : Nat) ({ cls := "ChanceArenaModel", name := "is", desc := "(IILjava/lang/String;)Z" } : Jvm.MethodName)) ∈ lw_R := zR (zk_11 _ (List.mem_of_getElem? (i := 39) rfl)) rfl
theorem kt_isI : (Jvm.Cond.instanceMethod ({ cls := "ChanceArenaModel", name := "is", desc := "(IILjava/lang/String;)Z" } : Jvm.MethodName)) ∈ lw_R := zR (zk_11 _ (List.mem_of_getElem? (i := 41) rfl)) rfl
theorem kt_isC : (Jvm.Cond.code ({ cls := "ChanceArenaModel", name := "is", desc := "(IILjava/lang/String;)Z" } : Jvm.MethodName) prog_15_method_11_code (6 : Nat) (Option.some Jvm.ClassFile.FieldType.boolean)) ∈ lw_R := zR (zk_11 _ (List.mem_of_getElem? (i := 42) rfl)) rfl
theorem ks_Wo_spells : Cond.selects "ChanceArena$Words" y_Wo_spells.1 y_Wo_spells.1 ∈ lw_R := zR (List.mem_append_left _ (List.mem_of_getElem? (i := 7) rfl)) rfl
theorem ks_MM_is : Cond.selects "ChanceArenaModel" y_MM_is.1 y_MM_is.1 ∈ lw_R := zR (List.mem_append_left _ (List.mem_of_getElem? (i := 84) rfl)) rfl
theorem d_Wo_spells_0 : decode y_Wo_spells.2.1 0 = .ok (.iconst 0, 1) := dc9_3 (by decide +kernel)
theorem d_Wo_spells_1 : decode y_Wo_spells.2.1 1 = .ok (.istore_n 3, 1) := dc9_62 (by decide +kernel)
theorem d_Wo_spells_2 : decode y_Wo_spells.2.1 2 = .ok (.iload_n 3, 1) := dc9_29 (by decide +kernel)
theorem d_Wo_spells_3 : decode y_Wo_spells.2.1 3 = .ok (.aload_n 2, 1) := dc9_44 (by decide +kernel)
theorem d_Wo_spells_4 : decode y_Wo_spells.2.1 4 = .ok (.invokevirtual 102, 3) := dc9_182 (by decide +kernel)
theorem d_Wo_spells_7 : decode y_Wo_spells.2.1 7 = .ok (.if_icmp .ge 27, 3) := dc9_162 (by decide +kernel)
theorem d_Wo_spells_10 : decode y_Wo_spells.2.1 10 = .ok (.aload_n 0, 1) := dc9_42 (by decide +kernel)
theorem d_Wo_spells_11 : decode y_Wo_spells.2.1 11 = .ok (.getfield 9, 3) := dc9_180 (by decide +kernel)
theorem d_Wo_spells_14 : decode y_Wo_spells.2.1 14 = .ok (.iload_n 1, 1) := dc9_27 (by decide +kernel)
theorem d_Wo_spells_15 : decode y_Wo_spells.2.1 15 = .ok (.iload_n 3, 1) := dc9_29 (by decide +kernel)
theorem d_Wo_spells_16 : decode y_Wo_spells.2.1 16 = .ok (.iadd, 1) := dc9_96 (by decide +kernel)
theorem d_Wo_spells_17 : decode y_Wo_spells.2.1 17 = .ok (.caload, 1) := dc9_52 (by decide +kernel)
theorem d_Wo_spells_18 : decode y_Wo_spells.2.1 18 = .ok (.aload_n 2, 1) := dc9_44 (by decide +kernel)
theorem d_Wo_spells_19 : decode y_Wo_spells.2.1 19 = .ok (.iload_n 3, 1) := dc9_29 (by decide +kernel)
theorem d_Wo_spells_20 : decode y_Wo_spells.2.1 20 = .ok (.invokevirtual 107, 3) := dc9_182 (by decide +kernel)
theorem d_Wo_spells_23 : decode y_Wo_spells.2.1 23 = .ok (.if_icmp .eq 5, 3) := dc9_159 (by decide +kernel)
theorem d_Wo_spells_26 : decode y_Wo_spells.2.1 26 = .ok (.iconst 0, 1) := dc9_3 (by decide +kernel)
theorem d_Wo_spells_27 : decode y_Wo_spells.2.1 27 = .ok (.ireturn, 1) := dc9_172 (by decide +kernel)
theorem d_Wo_spells_28 : decode y_Wo_spells.2.1 28 = .ok (.iinc 3 1, 3) := by decide +kernel
theorem d_Wo_spells_31 : decode y_Wo_spells.2.1 31 = .ok (.goto (-29), 3) := dc9_167 (by decide +kernel)
theorem d_Wo_spells_34 : decode y_Wo_spells.2.1 34 = .ok (.iconst 1, 1) := dc9_4 (by decide +kernel)
theorem d_Wo_spells_35 : decode y_Wo_spells.2.1 35 = .ok (.ireturn, 1) := dc9_172 (by decide +kernel)
theorem d_Wo_nameSort_0 : decode y_Wo_nameSort.2.1 0 = .ok (.iload_n 2, 1) := dc9_28 (by decide +kernel)
theorem d_Wo_nameSort_1 : decode y_Wo_nameSort.2.1 1 = .ok (.tableswitch 238 3 7 #[35, 81, 158, 204, 221], 35) := by decide +kernel
theorem d_Wo_nameSort_36 : decode y_Wo_nameSort.2.1 36 = .ok (.aload_n 0, 1) := dc9_42 (by decide +kernel)
theorem d_Wo_nameSort_37 : decode y_Wo_nameSort.2.1 37 = .ok (.iload_n 1, 1) := dc9_27 (by decide +kernel)
theorem d_Wo_nameSort_38 : decode y_Wo_nameSort.2.1 38 = .ok (.ldc 72, 2) := dc9_18 (by decide +kernel)
theorem d_Wo_nameSort_40 : decode y_Wo_nameSort.2.1 40 = .ok (.invokevirtual 74, 3) := dc9_182 (by decide +kernel)
theorem d_Wo_nameSort_43 : decode y_Wo_nameSort.2.1 43 = .ok (.ifCond .eq 7, 3) := dc9_153 (by decide +kernel)
theorem d_Wo_nameSort_46 : decode y_Wo_nameSort.2.1 46 = .ok (.iconst 5, 1) := dc9_8 (by decide +kernel)
theorem d_Wo_nameSort_47 : decode y_Wo_nameSort.2.1 47 = .ok (.goto 34, 3) := dc9_167 (by decide +kernel)
theorem d_Wo_nameSort_50 : decode y_Wo_nameSort.2.1 50 = .ok (.aload_n 0, 1) := dc9_42 (by decide +kernel)
theorem d_Wo_nameSort_51 : decode y_Wo_nameSort.2.1 51 = .ok (.iload_n 1, 1) := dc9_27 (by decide +kernel)
theorem d_Wo_nameSort_52 : decode y_Wo_nameSort.2.1 52 = .ok (.ldc 78, 2) := dc9_18 (by decide +kernel)
theorem d_Wo_nameSort_54 : decode y_Wo_nameSort.2.1 54 = .ok (.invokevirtual 74, 3) := dc9_182 (by decide +kernel)
theorem d_Wo_nameSort_57 : decode y_Wo_nameSort.2.1 57 = .ok (.ifCond .eq 8, 3) := dc9_153 (by decide +kernel)
theorem d_Wo_nameSort_60 : decode y_Wo_nameSort.2.1 60 = .ok (.bipush 8, 2) := dc9_16 (by decide +kernel)
theorem d_Wo_nameSort_62 : decode y_Wo_nameSort.2.1 62 = .ok (.goto 19, 3) := dc9_167 (by decide +kernel)
theorem d_Wo_nameSort_65 : decode y_Wo_nameSort.2.1 65 = .ok (.aload_n 0, 1) := dc9_42 (by decide +kernel)
theorem d_Wo_nameSort_66 : decode y_Wo_nameSort.2.1 66 = .ok (.iload_n 1, 1) := dc9_27 (by decide +kernel)
theorem d_Wo_nameSort_67 : decode y_Wo_nameSort.2.1 67 = .ok (.ldc 80, 2) := dc9_18 (by decide +kernel)
theorem d_Wo_nameSort_69 : decode y_Wo_nameSort.2.1 69 = .ok (.invokevirtual 74, 3) := dc9_182 (by decide +kernel)
theorem d_Wo_nameSort_72 : decode y_Wo_nameSort.2.1 72 = .ok (.ifCond .eq 8, 3) := dc9_153 (by decide +kernel)
theorem d_Wo_nameSort_75 : decode y_Wo_nameSort.2.1 75 = .ok (.bipush 9, 2) := dc9_16 (by decide +kernel)
theorem d_Wo_nameSort_77 : decode y_Wo_nameSort.2.1 77 = .ok (.goto 4, 3) := dc9_167 (by decide +kernel)
theorem d_Wo_nameSort_80 : decode y_Wo_nameSort.2.1 80 = .ok (.iconst 2, 1) := dc9_5 (by decide +kernel)
theorem d_Wo_nameSort_81 : decode y_Wo_nameSort.2.1 81 = .ok (.ireturn, 1) := dc9_172 (by decide +kernel)
theorem d_Wo_nameSort_82 : decode y_Wo_nameSort.2.1 82 = .ok (.aload_n 0, 1) := dc9_42 (by decide +kernel)
theorem d_Wo_nameSort_83 : decode y_Wo_nameSort.2.1 83 = .ok (.iload_n 1, 1) := dc9_27 (by decide +kernel)
theorem d_Wo_nameSort_84 : decode y_Wo_nameSort.2.1 84 = .ok (.ldc 82, 2) := dc9_18 (by decide +kernel)
theorem d_Wo_nameSort_86 : decode y_Wo_nameSort.2.1 86 = .ok (.invokevirtual 74, 3) := dc9_182 (by decide +kernel)
theorem d_Wo_nameSort_89 : decode y_Wo_nameSort.2.1 89 = .ok (.ifCond .eq 8, 3) := dc9_153 (by decide +kernel)
theorem d_Wo_nameSort_92 : decode y_Wo_nameSort.2.1 92 = .ok (.bipush 13, 2) := dc9_16 (by decide +kernel)
theorem d_Wo_nameSort_94 : decode y_Wo_nameSort.2.1 94 = .ok (.goto 64, 3) := dc9_167 (by decide +kernel)
theorem d_Wo_nameSort_97 : decode y_Wo_nameSort.2.1 97 = .ok (.aload_n 0, 1) := dc9_42 (by decide +kernel)
theorem d_Wo_nameSort_98 : decode y_Wo_nameSort.2.1 98 = .ok (.iload_n 1, 1) := dc9_27 (by decide +kernel)
theorem d_Wo_nameSort_99 : decode y_Wo_nameSort.2.1 99 = .ok (.ldc 84, 2) := dc9_18 (by decide +kernel)
theorem d_Wo_nameSort_101 : decode y_Wo_nameSort.2.1 101 = .ok (.invokevirtual 74, 3) := dc9_182 (by decide +kernel)
theorem d_Wo_nameSort_104 : decode y_Wo_nameSort.2.1 104 = .ok (.ifCond .eq 8, 3) := dc9_153 (by decide +kernel)
theorem d_Wo_nameSort_107 : decode y_Wo_nameSort.2.1 107 = .ok (.bipush 11, 2) := dc9_16 (by decide +kernel)
theorem d_Wo_nameSort_109 : decode y_Wo_nameSort.2.1 109 = .ok (.goto 49, 3) := dc9_167 (by decide +kernel)
theorem d_Wo_nameSort_112 : decode y_Wo_nameSort.2.1 112 = .ok (.aload_n 0, 1) := dc9_42 (by decide +kernel)
theorem d_Wo_nameSort_113 : decode y_Wo_nameSort.2.1 113 = .ok (.iload_n 1, 1) := dc9_27 (by decide +kernel)
theorem d_Wo_nameSort_114 : decode y_Wo_nameSort.2.1 114 = .ok (.ldc 86, 2) := dc9_18 (by decide +kernel)
theorem d_Wo_nameSort_116 : decode y_Wo_nameSort.2.1 116 = .ok (.invokevirtual 74, 3) := dc9_182 (by decide +kernel)
theorem d_Wo_nameSort_119 : decode y_Wo_nameSort.2.1 119 = .ok (.ifCond .eq 8, 3) := dc9_153 (by decide +kernel)
theorem d_Wo_nameSort_122 : decode y_Wo_nameSort.2.1 122 = .ok (.bipush 6, 2) := dc9_16 (by decide +kernel)
theorem d_Wo_nameSort_124 : decode y_Wo_nameSort.2.1 124 = .ok (.goto 34, 3) := dc9_167 (by decide +kernel)
theorem d_Wo_nameSort_127 : decode y_Wo_nameSort.2.1 127 = .ok (.aload_n 0, 1) := dc9_42 (by decide +kernel)
theorem d_Wo_nameSort_128 : decode y_Wo_nameSort.2.1 128 = .ok (.iload_n 1, 1) := dc9_27 (by decide +kernel)
theorem d_Wo_nameSort_129 : decode y_Wo_nameSort.2.1 129 = .ok (.ldc 88, 2) := dc9_18 (by decide +kernel)
theorem d_Wo_nameSort_131 : decode y_Wo_nameSort.2.1 131 = .ok (.invokevirtual 74, 3) := dc9_182 (by decide +kernel)
theorem d_Wo_nameSort_134 : decode y_Wo_nameSort.2.1 134 = .ok (.ifCond .eq 8, 3) := dc9_153 (by decide +kernel)
theorem d_Wo_nameSort_137 : decode y_Wo_nameSort.2.1 137 = .ok (.bipush 10, 2) := dc9_16 (by decide +kernel)
theorem d_Wo_nameSort_139 : decode y_Wo_nameSort.2.1 139 = .ok (.goto 19, 3) := dc9_167 (by decide +kernel)
theorem d_Wo_nameSort_142 : decode y_Wo_nameSort.2.1 142 = .ok (.aload_n 0, 1) := dc9_42 (by decide +kernel)
theorem d_Wo_nameSort_143 : decode y_Wo_nameSort.2.1 143 = .ok (.iload_n 1, 1) := dc9_27 (by decide +kernel)
theorem d_Wo_nameSort_144 : decode y_Wo_nameSort.2.1 144 = .ok (.ldc 90, 2) := dc9_18 (by decide +kernel)
theorem d_Wo_nameSort_146 : decode y_Wo_nameSort.2.1 146 = .ok (.invokevirtual 74, 3) := dc9_182 (by decide +kernel)
theorem d_Wo_nameSort_149 : decode y_Wo_nameSort.2.1 149 = .ok (.ifCond .eq 8, 3) := dc9_153 (by decide +kernel)
theorem d_Wo_nameSort_152 : decode y_Wo_nameSort.2.1 152 = .ok (.bipush 16, 2) := dc9_16 (by decide +kernel)
theorem d_Wo_nameSort_154 : decode y_Wo_nameSort.2.1 154 = .ok (.goto 4, 3) := dc9_167 (by decide +kernel)
theorem d_Wo_nameSort_157 : decode y_Wo_nameSort.2.1 157 = .ok (.iconst 2, 1) := dc9_5 (by decide +kernel)
theorem d_Wo_nameSort_158 : decode y_Wo_nameSort.2.1 158 = .ok (.ireturn, 1) := dc9_172 (by decide +kernel)
theorem d_Wo_nameSort_159 : decode y_Wo_nameSort.2.1 159 = .ok (.aload_n 0, 1) := dc9_42 (by decide +kernel)
theorem d_Wo_nameSort_160 : decode y_Wo_nameSort.2.1 160 = .ok (.iload_n 1, 1) := dc9_27 (by decide +kernel)
theorem d_Wo_nameSort_161 : decode y_Wo_nameSort.2.1 161 = .ok (.ldc 92, 2) := dc9_18 (by decide +kernel)
theorem d_Wo_nameSort_163 : decode y_Wo_nameSort.2.1 163 = .ok (.invokevirtual 74, 3) := dc9_182 (by decide +kernel)
theorem d_Wo_nameSort_166 : decode y_Wo_nameSort.2.1 166 = .ok (.ifCond .eq 7, 3) := dc9_153 (by decide +kernel)
theorem d_Wo_nameSort_169 : decode y_Wo_nameSort.2.1 169 = .ok (.iconst 4, 1) := dc9_7 (by decide +kernel)
theorem d_Wo_nameSort_170 : decode y_Wo_nameSort.2.1 170 = .ok (.goto 34, 3) := dc9_167 (by decide +kernel)
theorem d_Wo_nameSort_173 : decode y_Wo_nameSort.2.1 173 = .ok (.aload_n 0, 1) := dc9_42 (by decide +kernel)
theorem d_Wo_nameSort_174 : decode y_Wo_nameSort.2.1 174 = .ok (.iload_n 1, 1) := dc9_27 (by decide +kernel)
theorem d_Wo_nameSort_175 : decode y_Wo_nameSort.2.1 175 = .ok (.ldc 94, 2) := dc9_18 (by decide +kernel)
theorem d_Wo_nameSort_177 : decode y_Wo_nameSort.2.1 177 = .ok (.invokevirtual 74, 3) := dc9_182 (by decide +kernel)
theorem d_Wo_nameSort_180 : decode y_Wo_nameSort.2.1 180 = .ok (.ifCond .eq 8, 3) := dc9_153 (by decide +kernel)
theorem d_Wo_nameSort_183 : decode y_Wo_nameSort.2.1 183 = .ok (.bipush 14, 2) := dc9_16 (by decide +kernel)
theorem d_Wo_nameSort_185 : decode y_Wo_nameSort.2.1 185 = .ok (.goto 19, 3) := dc9_167 (by decide +kernel)
theorem d_Wo_nameSort_188 : decode y_Wo_nameSort.2.1 188 = .ok (.aload_n 0, 1) := dc9_42 (by decide +kernel)
theorem d_Wo_nameSort_189 : decode y_Wo_nameSort.2.1 189 = .ok (.iload_n 1, 1) := dc9_27 (by decide +kernel)
theorem d_Wo_nameSort_190 : decode y_Wo_nameSort.2.1 190 = .ok (.ldc 96, 2) := dc9_18 (by decide +kernel)
theorem d_Wo_nameSort_192 : decode y_Wo_nameSort.2.1 192 = .ok (.invokevirtual 74, 3) := dc9_182 (by decide +kernel)
theorem d_Wo_nameSort_195 : decode y_Wo_nameSort.2.1 195 = .ok (.ifCond .eq 8, 3) := dc9_153 (by decide +kernel)
theorem d_Wo_nameSort_198 : decode y_Wo_nameSort.2.1 198 = .ok (.bipush 15, 2) := dc9_16 (by decide +kernel)
theorem d_Wo_nameSort_200 : decode y_Wo_nameSort.2.1 200 = .ok (.goto 4, 3) := dc9_167 (by decide +kernel)
theorem d_Wo_nameSort_203 : decode y_Wo_nameSort.2.1 203 = .ok (.iconst 2, 1) := dc9_5 (by decide +kernel)
theorem d_Wo_nameSort_204 : decode y_Wo_nameSort.2.1 204 = .ok (.ireturn, 1) := dc9_172 (by decide +kernel)
theorem d_Wo_nameSort_205 : decode y_Wo_nameSort.2.1 205 = .ok (.aload_n 0, 1) := dc9_42 (by decide +kernel)
theorem d_Wo_nameSort_206 : decode y_Wo_nameSort.2.1 206 = .ok (.iload_n 1, 1) := dc9_27 (by decide +kernel)
theorem d_Wo_nameSort_207 : decode y_Wo_nameSort.2.1 207 = .ok (.ldc 98, 2) := dc9_18 (by decide +kernel)
theorem d_Wo_nameSort_209 : decode y_Wo_nameSort.2.1 209 = .ok (.invokevirtual 74, 3) := dc9_182 (by decide +kernel)
theorem d_Wo_nameSort_212 : decode y_Wo_nameSort.2.1 212 = .ok (.ifCond .eq 8, 3) := dc9_153 (by decide +kernel)
theorem d_Wo_nameSort_215 : decode y_Wo_nameSort.2.1 215 = .ok (.bipush 12, 2) := dc9_16 (by decide +kernel)
theorem d_Wo_nameSort_217 : decode y_Wo_nameSort.2.1 217 = .ok (.goto 4, 3) := dc9_167 (by decide +kernel)
theorem d_Wo_nameSort_220 : decode y_Wo_nameSort.2.1 220 = .ok (.iconst 2, 1) := dc9_5 (by decide +kernel)
theorem d_Wo_nameSort_221 : decode y_Wo_nameSort.2.1 221 = .ok (.ireturn, 1) := dc9_172 (by decide +kernel)
theorem d_Wo_nameSort_222 : decode y_Wo_nameSort.2.1 222 = .ok (.aload_n 0, 1) := dc9_42 (by decide +kernel)
theorem d_Wo_nameSort_223 : decode y_Wo_nameSort.2.1 223 = .ok (.iload_n 1, 1) := dc9_27 (by decide +kernel)
theorem d_Wo_nameSort_224 : decode y_Wo_nameSort.2.1 224 = .ok (.ldc 100, 2) := dc9_18 (by decide +kernel)
theorem d_Wo_nameSort_226 : decode y_Wo_nameSort.2.1 226 = .ok (.invokevirtual 74, 3) := dc9_182 (by decide +kernel)
theorem d_Wo_nameSort_229 : decode y_Wo_nameSort.2.1 229 = .ok (.ifCond .eq 8, 3) := dc9_153 (by decide +kernel)
theorem d_Wo_nameSort_232 : decode y_Wo_nameSort.2.1 232 = .ok (.bipush 7, 2) := dc9_16 (by decide +kernel)
theorem d_Wo_nameSort_234 : decode y_Wo_nameSort.2.1 234 = .ok (.goto 4, 3) := dc9_167 (by decide +kernel)
theorem d_Wo_nameSort_237 : decode y_Wo_nameSort.2.1 237 = .ok (.iconst 2, 1) := dc9_5 (by decide +kernel)
theorem d_Wo_nameSort_238 : decode y_Wo_nameSort.2.1 238 = .ok (.ireturn, 1) := dc9_172 (by decide +kernel)
theorem d_Wo_nameSort_239 : decode y_Wo_nameSort.2.1 239 = .ok (.iconst 2, 1) := dc9_5 (by decide +kernel)
theorem d_Wo_nameSort_240 : decode y_Wo_nameSort.2.1 240 = .ok (.ireturn, 1) := dc9_172 (by decide +kernel)
theorem d_MM_is_0 : decode y_MM_is.2.1 0 = .ok (.iload_n 2, 1) := dc9_28 (by decide +kernel)
theorem d_MM_is_1 : decode y_MM_is.2.1 1 = .ok (.iload_n 1, 1) := dc9_27 (by decide +kernel)
theorem d_MM_is_2 : decode y_MM_is.2.1 2 = .ok (.isub, 1) := dc9_100 (by decide +kernel)
theorem d_MM_is_3 : decode y_MM_is.2.1 3 = .ok (.aload_n 3, 1) := dc9_45 (by decide +kernel)
theorem d_MM_is_4 : decode y_MM_is.2.1 4 = .ok (.invokevirtual 166, 3) := dc9_182 (by decide +kernel)
theorem d_MM_is_7 : decode y_MM_is.2.1 7 = .ok (.if_icmp .ne 7, 3) := dc9_160 (by decide +kernel)
theorem d_MM_is_10 : decode y_MM_is.2.1 10 = .ok (.iconst 1, 1) := dc9_4 (by decide +kernel)
theorem d_MM_is_11 : decode y_MM_is.2.1 11 = .ok (.goto 4, 3) := dc9_167 (by decide +kernel)
theorem d_MM_is_14 : decode y_MM_is.2.1 14 = .ok (.iconst 0, 1) := dc9_3 (by decide +kernel)
theorem d_MM_is_15 : decode y_MM_is.2.1 15 = .ok (.istore 4, 2) := dc9_54 (by decide +kernel)
theorem d_MM_is_17 : decode y_MM_is.2.1 17 = .ok (.iconst 0, 1) := dc9_3 (by decide +kernel)
theorem d_MM_is_18 : decode y_MM_is.2.1 18 = .ok (.istore 5, 2) := dc9_54 (by decide +kernel)
theorem d_MM_is_20 : decode y_MM_is.2.1 20 = .ok (.iload 4, 2) := dc9_21 (by decide +kernel)
theorem d_MM_is_22 : decode y_MM_is.2.1 22 = .ok (.ifCond .eq 42, 3) := dc9_153 (by decide +kernel)
theorem d_MM_is_25 : decode y_MM_is.2.1 25 = .ok (.iload 5, 2) := dc9_21 (by decide +kernel)
theorem d_MM_is_27 : decode y_MM_is.2.1 27 = .ok (.aload_n 3, 1) := dc9_45 (by decide +kernel)
theorem d_MM_is_28 : decode y_MM_is.2.1 28 = .ok (.invokevirtual 166, 3) := dc9_182 (by decide +kernel)
theorem d_MM_is_31 : decode y_MM_is.2.1 31 = .ok (.if_icmp .ge 33, 3) := dc9_162 (by decide +kernel)
theorem d_MM_is_34 : decode y_MM_is.2.1 34 = .ok (.aload_n 0, 1) := dc9_42 (by decide +kernel)
theorem d_MM_is_35 : decode y_MM_is.2.1 35 = .ok (.iload_n 1, 1) := dc9_27 (by decide +kernel)
theorem d_MM_is_36 : decode y_MM_is.2.1 36 = .ok (.iload 5, 2) := dc9_21 (by decide +kernel)
theorem d_MM_is_38 : decode y_MM_is.2.1 38 = .ok (.iadd, 1) := dc9_96 (by decide +kernel)
theorem d_MM_is_39 : decode y_MM_is.2.1 39 = .ok (.invokevirtual 159, 3) := dc9_182 (by decide +kernel)
theorem d_MM_is_42 : decode y_MM_is.2.1 42 = .ok (.aload_n 3, 1) := dc9_45 (by decide +kernel)
theorem d_MM_is_43 : decode y_MM_is.2.1 43 = .ok (.iload 5, 2) := dc9_21 (by decide +kernel)
theorem d_MM_is_45 : decode y_MM_is.2.1 45 = .ok (.invokevirtual 172, 3) := dc9_182 (by decide +kernel)
theorem d_MM_is_48 : decode y_MM_is.2.1 48 = .ok (.if_icmp .ne 7, 3) := dc9_160 (by decide +kernel)
theorem d_MM_is_51 : decode y_MM_is.2.1 51 = .ok (.iconst 1, 1) := dc9_4 (by decide +kernel)
theorem d_MM_is_52 : decode y_MM_is.2.1 52 = .ok (.goto 4, 3) := dc9_167 (by decide +kernel)
theorem d_MM_is_55 : decode y_MM_is.2.1 55 = .ok (.iconst 0, 1) := dc9_3 (by decide +kernel)
theorem d_MM_is_56 : decode y_MM_is.2.1 56 = .ok (.istore 4, 2) := dc9_54 (by decide +kernel)
theorem d_MM_is_58 : decode y_MM_is.2.1 58 = .ok (.iinc 5 1, 3) := by decide +kernel
theorem d_MM_is_61 : decode y_MM_is.2.1 61 = .ok (.goto (-41), 3) := dc9_167 (by decide +kernel)
theorem d_MM_is_64 : decode y_MM_is.2.1 64 = .ok (.iload 4, 2) := dc9_21 (by decide +kernel)
theorem d_MM_is_66 : decode y_MM_is.2.1 66 = .ok (.ireturn, 1) := dc9_172 (by decide +kernel)
theorem d_MM_wordKind_0 : decode y_MM_wordKind.2.1 0 = .ok (.aload_n 0, 1) := dc9_42 (by decide +kernel)
theorem d_MM_wordKind_1 : decode y_MM_wordKind.2.1 1 = .ok (.iload_n 1, 1) := dc9_27 (by decide +kernel)
theorem d_MM_wordKind_2 : decode y_MM_wordKind.2.1 2 = .ok (.invokevirtual 159, 3) := dc9_182 (by decide +kernel)
theorem d_MM_wordKind_5 : decode y_MM_wordKind.2.1 5 = .ok (.tableswitch 322 98 118 #[133, 99, 322, 322, 150, 322, 322, 234, 322, 322, 304, 184, 322, 322, 322, 322, 322, 252, 270, 322, 116], 99) := by decide +kernel
theorem d_MM_wordKind_104 : decode y_MM_wordKind.2.1 104 = .ok (.aload_n 0, 1) := dc9_42 (by decide +kernel)
theorem d_MM_wordKind_105 : decode y_MM_wordKind.2.1 105 = .ok (.iload_n 1, 1) := dc9_27 (by decide +kernel)
theorem d_MM_wordKind_106 : decode y_MM_wordKind.2.1 106 = .ok (.iload_n 2, 1) := dc9_28 (by decide +kernel)
theorem d_MM_wordKind_107 : decode y_MM_wordKind.2.1 107 = .ok (.ldc 176, 2) := dc9_18 (by decide +kernel)
theorem d_MM_wordKind_109 : decode y_MM_wordKind.2.1 109 = .ok (.invokevirtual 178, 3) := dc9_182 (by decide +kernel)
theorem d_MM_wordKind_112 : decode y_MM_wordKind.2.1 112 = .ok (.ifCond .eq 7, 3) := dc9_153 (by decide +kernel)
theorem d_MM_wordKind_115 : decode y_MM_wordKind.2.1 115 = .ok (.iconst 3, 1) := dc9_6 (by decide +kernel)
theorem d_MM_wordKind_116 : decode y_MM_wordKind.2.1 116 = .ok (.goto 4, 3) := dc9_167 (by decide +kernel)
theorem d_MM_wordKind_119 : decode y_MM_wordKind.2.1 119 = .ok (.iconst 1, 1) := dc9_4 (by decide +kernel)
theorem d_MM_wordKind_120 : decode y_MM_wordKind.2.1 120 = .ok (.ireturn, 1) := dc9_172 (by decide +kernel)
theorem d_MM_wordKind_121 : decode y_MM_wordKind.2.1 121 = .ok (.aload_n 0, 1) := dc9_42 (by decide +kernel)
theorem d_MM_wordKind_122 : decode y_MM_wordKind.2.1 122 = .ok (.iload_n 1, 1) := dc9_27 (by decide +kernel)
theorem d_MM_wordKind_123 : decode y_MM_wordKind.2.1 123 = .ok (.iload_n 2, 1) := dc9_28 (by decide +kernel)
theorem d_MM_wordKind_124 : decode y_MM_wordKind.2.1 124 = .ok (.ldc 182, 2) := dc9_18 (by decide +kernel)
theorem d_MM_wordKind_126 : decode y_MM_wordKind.2.1 126 = .ok (.invokevirtual 178, 3) := dc9_182 (by decide +kernel)
theorem d_MM_wordKind_129 : decode y_MM_wordKind.2.1 129 = .ok (.ifCond .eq 7, 3) := dc9_153 (by decide +kernel)
theorem d_MM_wordKind_132 : decode y_MM_wordKind.2.1 132 = .ok (.iconst 4, 1) := dc9_7 (by decide +kernel)
theorem d_MM_wordKind_133 : decode y_MM_wordKind.2.1 133 = .ok (.goto 4, 3) := dc9_167 (by decide +kernel)
theorem d_MM_wordKind_136 : decode y_MM_wordKind.2.1 136 = .ok (.iconst 1, 1) := dc9_4 (by decide +kernel)
theorem d_MM_wordKind_137 : decode y_MM_wordKind.2.1 137 = .ok (.ireturn, 1) := dc9_172 (by decide +kernel)
theorem d_MM_wordKind_138 : decode y_MM_wordKind.2.1 138 = .ok (.aload_n 0, 1) := dc9_42 (by decide +kernel)
theorem d_MM_wordKind_139 : decode y_MM_wordKind.2.1 139 = .ok (.iload_n 1, 1) := dc9_27 (by decide +kernel)
theorem d_MM_wordKind_140 : decode y_MM_wordKind.2.1 140 = .ok (.iload_n 2, 1) := dc9_28 (by decide +kernel)
theorem d_MM_wordKind_141 : decode y_MM_wordKind.2.1 141 = .ok (.ldc 184, 2) := dc9_18 (by decide +kernel)
theorem d_MM_wordKind_143 : decode y_MM_wordKind.2.1 143 = .ok (.invokevirtual 178, 3) := dc9_182 (by decide +kernel)
theorem d_MM_wordKind_146 : decode y_MM_wordKind.2.1 146 = .ok (.ifCond .eq 7, 3) := dc9_153 (by decide +kernel)
theorem d_MM_wordKind_149 : decode y_MM_wordKind.2.1 149 = .ok (.iconst 5, 1) := dc9_8 (by decide +kernel)
theorem d_MM_wordKind_150 : decode y_MM_wordKind.2.1 150 = .ok (.goto 4, 3) := dc9_167 (by decide +kernel)
theorem d_MM_wordKind_153 : decode y_MM_wordKind.2.1 153 = .ok (.iconst 1, 1) := dc9_4 (by decide +kernel)
theorem d_MM_wordKind_154 : decode y_MM_wordKind.2.1 154 = .ok (.ireturn, 1) := dc9_172 (by decide +kernel)
theorem d_MM_wordKind_155 : decode y_MM_wordKind.2.1 155 = .ok (.aload_n 0, 1) := dc9_42 (by decide +kernel)
theorem d_MM_wordKind_156 : decode y_MM_wordKind.2.1 156 = .ok (.iload_n 1, 1) := dc9_27 (by decide +kernel)
theorem d_MM_wordKind_157 : decode y_MM_wordKind.2.1 157 = .ok (.iload_n 2, 1) := dc9_28 (by decide +kernel)
theorem d_MM_wordKind_158 : decode y_MM_wordKind.2.1 158 = .ok (.ldc 186, 2) := dc9_18 (by decide +kernel)
theorem d_MM_wordKind_160 : decode y_MM_wordKind.2.1 160 = .ok (.invokevirtual 178, 3) := dc9_182 (by decide +kernel)
theorem d_MM_wordKind_163 : decode y_MM_wordKind.2.1 163 = .ok (.ifCond .eq 8, 3) := dc9_153 (by decide +kernel)
theorem d_MM_wordKind_166 : decode y_MM_wordKind.2.1 166 = .ok (.bipush 6, 2) := dc9_16 (by decide +kernel)
theorem d_MM_wordKind_168 : decode y_MM_wordKind.2.1 168 = .ok (.goto 20, 3) := dc9_167 (by decide +kernel)
theorem d_MM_wordKind_171 : decode y_MM_wordKind.2.1 171 = .ok (.aload_n 0, 1) := dc9_42 (by decide +kernel)
theorem d_MM_wordKind_172 : decode y_MM_wordKind.2.1 172 = .ok (.iload_n 1, 1) := dc9_27 (by decide +kernel)
theorem d_MM_wordKind_173 : decode y_MM_wordKind.2.1 173 = .ok (.iload_n 2, 1) := dc9_28 (by decide +kernel)
theorem d_MM_wordKind_174 : decode y_MM_wordKind.2.1 174 = .ok (.ldc 188, 2) := dc9_18 (by decide +kernel)
theorem d_MM_wordKind_176 : decode y_MM_wordKind.2.1 176 = .ok (.invokevirtual 178, 3) := dc9_182 (by decide +kernel)
theorem d_MM_wordKind_179 : decode y_MM_wordKind.2.1 179 = .ok (.ifCond .eq 8, 3) := dc9_153 (by decide +kernel)
theorem d_MM_wordKind_182 : decode y_MM_wordKind.2.1 182 = .ok (.bipush 13, 2) := dc9_16 (by decide +kernel)
theorem d_MM_wordKind_184 : decode y_MM_wordKind.2.1 184 = .ok (.goto 4, 3) := dc9_167 (by decide +kernel)
theorem d_MM_wordKind_187 : decode y_MM_wordKind.2.1 187 = .ok (.iconst 1, 1) := dc9_4 (by decide +kernel)
theorem d_MM_wordKind_188 : decode y_MM_wordKind.2.1 188 = .ok (.ireturn, 1) := dc9_172 (by decide +kernel)
theorem d_MM_wordKind_189 : decode y_MM_wordKind.2.1 189 = .ok (.aload_n 0, 1) := dc9_42 (by decide +kernel)
theorem d_MM_wordKind_190 : decode y_MM_wordKind.2.1 190 = .ok (.iload_n 1, 1) := dc9_27 (by decide +kernel)
theorem d_MM_wordKind_191 : decode y_MM_wordKind.2.1 191 = .ok (.iload_n 2, 1) := dc9_28 (by decide +kernel)
theorem d_MM_wordKind_192 : decode y_MM_wordKind.2.1 192 = .ok (.ldc 190, 2) := dc9_18 (by decide +kernel)
theorem d_MM_wordKind_194 : decode y_MM_wordKind.2.1 194 = .ok (.invokevirtual 178, 3) := dc9_182 (by decide +kernel)
theorem d_MM_wordKind_197 : decode y_MM_wordKind.2.1 197 = .ok (.ifCond .eq 8, 3) := dc9_153 (by decide +kernel)
theorem d_MM_wordKind_200 : decode y_MM_wordKind.2.1 200 = .ok (.bipush 7, 2) := dc9_16 (by decide +kernel)
theorem d_MM_wordKind_202 : decode y_MM_wordKind.2.1 202 = .ok (.goto 36, 3) := dc9_167 (by decide +kernel)
theorem d_MM_wordKind_205 : decode y_MM_wordKind.2.1 205 = .ok (.aload_n 0, 1) := dc9_42 (by decide +kernel)
theorem d_MM_wordKind_206 : decode y_MM_wordKind.2.1 206 = .ok (.iload_n 1, 1) := dc9_27 (by decide +kernel)
theorem d_MM_wordKind_207 : decode y_MM_wordKind.2.1 207 = .ok (.iload_n 2, 1) := dc9_28 (by decide +kernel)
theorem d_MM_wordKind_208 : decode y_MM_wordKind.2.1 208 = .ok (.ldc 192, 2) := dc9_18 (by decide +kernel)
theorem d_MM_wordKind_210 : decode y_MM_wordKind.2.1 210 = .ok (.invokevirtual 178, 3) := dc9_182 (by decide +kernel)
theorem d_MM_wordKind_213 : decode y_MM_wordKind.2.1 213 = .ok (.ifCond .eq 8, 3) := dc9_153 (by decide +kernel)
theorem d_MM_wordKind_216 : decode y_MM_wordKind.2.1 216 = .ok (.bipush 8, 2) := dc9_16 (by decide +kernel)
theorem d_MM_wordKind_218 : decode y_MM_wordKind.2.1 218 = .ok (.goto 20, 3) := dc9_167 (by decide +kernel)
theorem d_MM_wordKind_221 : decode y_MM_wordKind.2.1 221 = .ok (.aload_n 0, 1) := dc9_42 (by decide +kernel)
theorem d_MM_wordKind_222 : decode y_MM_wordKind.2.1 222 = .ok (.iload_n 1, 1) := dc9_27 (by decide +kernel)
theorem d_MM_wordKind_223 : decode y_MM_wordKind.2.1 223 = .ok (.iload_n 2, 1) := dc9_28 (by decide +kernel)
theorem d_MM_wordKind_224 : decode y_MM_wordKind.2.1 224 = .ok (.ldc 194, 2) := dc9_18 (by decide +kernel)
theorem d_MM_wordKind_226 : decode y_MM_wordKind.2.1 226 = .ok (.invokevirtual 178, 3) := dc9_182 (by decide +kernel)
theorem d_MM_wordKind_229 : decode y_MM_wordKind.2.1 229 = .ok (.ifCond .eq 8, 3) := dc9_153 (by decide +kernel)
theorem d_MM_wordKind_232 : decode y_MM_wordKind.2.1 232 = .ok (.bipush 15, 2) := dc9_16 (by decide +kernel)
theorem d_MM_wordKind_234 : decode y_MM_wordKind.2.1 234 = .ok (.goto 4, 3) := dc9_167 (by decide +kernel)
theorem d_MM_wordKind_237 : decode y_MM_wordKind.2.1 237 = .ok (.iconst 1, 1) := dc9_4 (by decide +kernel)
theorem d_MM_wordKind_238 : decode y_MM_wordKind.2.1 238 = .ok (.ireturn, 1) := dc9_172 (by decide +kernel)
theorem d_MM_wordKind_239 : decode y_MM_wordKind.2.1 239 = .ok (.aload_n 0, 1) := dc9_42 (by decide +kernel)
theorem d_MM_wordKind_240 : decode y_MM_wordKind.2.1 240 = .ok (.iload_n 1, 1) := dc9_27 (by decide +kernel)
theorem d_MM_wordKind_241 : decode y_MM_wordKind.2.1 241 = .ok (.iload_n 2, 1) := dc9_28 (by decide +kernel)
theorem d_MM_wordKind_242 : decode y_MM_wordKind.2.1 242 = .ok (.ldc 196, 2) := dc9_18 (by decide +kernel)
theorem d_MM_wordKind_244 : decode y_MM_wordKind.2.1 244 = .ok (.invokevirtual 178, 3) := dc9_182 (by decide +kernel)
theorem d_MM_wordKind_247 : decode y_MM_wordKind.2.1 247 = .ok (.ifCond .eq 8, 3) := dc9_153 (by decide +kernel)
theorem d_MM_wordKind_250 : decode y_MM_wordKind.2.1 250 = .ok (.bipush 9, 2) := dc9_16 (by decide +kernel)
theorem d_MM_wordKind_252 : decode y_MM_wordKind.2.1 252 = .ok (.goto 4, 3) := dc9_167 (by decide +kernel)
theorem d_MM_wordKind_255 : decode y_MM_wordKind.2.1 255 = .ok (.iconst 1, 1) := dc9_4 (by decide +kernel)
theorem d_MM_wordKind_256 : decode y_MM_wordKind.2.1 256 = .ok (.ireturn, 1) := dc9_172 (by decide +kernel)
theorem d_MM_wordKind_257 : decode y_MM_wordKind.2.1 257 = .ok (.aload_n 0, 1) := dc9_42 (by decide +kernel)
theorem d_MM_wordKind_258 : decode y_MM_wordKind.2.1 258 = .ok (.iload_n 1, 1) := dc9_27 (by decide +kernel)
theorem d_MM_wordKind_259 : decode y_MM_wordKind.2.1 259 = .ok (.iload_n 2, 1) := dc9_28 (by decide +kernel)
theorem d_MM_wordKind_260 : decode y_MM_wordKind.2.1 260 = .ok (.ldc 198, 2) := dc9_18 (by decide +kernel)
theorem d_MM_wordKind_262 : decode y_MM_wordKind.2.1 262 = .ok (.invokevirtual 178, 3) := dc9_182 (by decide +kernel)
theorem d_MM_wordKind_265 : decode y_MM_wordKind.2.1 265 = .ok (.ifCond .eq 8, 3) := dc9_153 (by decide +kernel)
theorem d_MM_wordKind_268 : decode y_MM_wordKind.2.1 268 = .ok (.bipush 10, 2) := dc9_16 (by decide +kernel)
theorem d_MM_wordKind_270 : decode y_MM_wordKind.2.1 270 = .ok (.goto 4, 3) := dc9_167 (by decide +kernel)
theorem d_MM_wordKind_273 : decode y_MM_wordKind.2.1 273 = .ok (.iconst 1, 1) := dc9_4 (by decide +kernel)
theorem d_MM_wordKind_274 : decode y_MM_wordKind.2.1 274 = .ok (.ireturn, 1) := dc9_172 (by decide +kernel)
theorem d_MM_wordKind_275 : decode y_MM_wordKind.2.1 275 = .ok (.aload_n 0, 1) := dc9_42 (by decide +kernel)
theorem d_MM_wordKind_276 : decode y_MM_wordKind.2.1 276 = .ok (.iload_n 1, 1) := dc9_27 (by decide +kernel)
theorem d_MM_wordKind_277 : decode y_MM_wordKind.2.1 277 = .ok (.iload_n 2, 1) := dc9_28 (by decide +kernel)
theorem d_MM_wordKind_278 : decode y_MM_wordKind.2.1 278 = .ok (.ldc 200, 2) := dc9_18 (by decide +kernel)
theorem d_MM_wordKind_280 : decode y_MM_wordKind.2.1 280 = .ok (.invokevirtual 178, 3) := dc9_182 (by decide +kernel)
theorem d_MM_wordKind_283 : decode y_MM_wordKind.2.1 283 = .ok (.ifCond .eq 8, 3) := dc9_153 (by decide +kernel)
theorem d_MM_wordKind_286 : decode y_MM_wordKind.2.1 286 = .ok (.bipush 11, 2) := dc9_16 (by decide +kernel)
theorem d_MM_wordKind_288 : decode y_MM_wordKind.2.1 288 = .ok (.goto 20, 3) := dc9_167 (by decide +kernel)
theorem d_MM_wordKind_291 : decode y_MM_wordKind.2.1 291 = .ok (.aload_n 0, 1) := dc9_42 (by decide +kernel)
theorem d_MM_wordKind_292 : decode y_MM_wordKind.2.1 292 = .ok (.iload_n 1, 1) := dc9_27 (by decide +kernel)
theorem d_MM_wordKind_293 : decode y_MM_wordKind.2.1 293 = .ok (.iload_n 2, 1) := dc9_28 (by decide +kernel)
theorem d_MM_wordKind_294 : decode y_MM_wordKind.2.1 294 = .ok (.ldc 202, 2) := dc9_18 (by decide +kernel)
theorem d_MM_wordKind_296 : decode y_MM_wordKind.2.1 296 = .ok (.invokevirtual 178, 3) := dc9_182 (by decide +kernel)
theorem d_MM_wordKind_299 : decode y_MM_wordKind.2.1 299 = .ok (.ifCond .eq 8, 3) := dc9_153 (by decide +kernel)
theorem d_MM_wordKind_302 : decode y_MM_wordKind.2.1 302 = .ok (.bipush 12, 2) := dc9_16 (by decide +kernel)
theorem d_MM_wordKind_304 : decode y_MM_wordKind.2.1 304 = .ok (.goto 4, 3) := dc9_167 (by decide +kernel)
theorem d_MM_wordKind_307 : decode y_MM_wordKind.2.1 307 = .ok (.iconst 1, 1) := dc9_4 (by decide +kernel)
theorem d_MM_wordKind_308 : decode y_MM_wordKind.2.1 308 = .ok (.ireturn, 1) := dc9_172 (by decide +kernel)
theorem d_MM_wordKind_309 : decode y_MM_wordKind.2.1 309 = .ok (.aload_n 0, 1) := dc9_42 (by decide +kernel)
theorem d_MM_wordKind_310 : decode y_MM_wordKind.2.1 310 = .ok (.iload_n 1, 1) := dc9_27 (by decide +kernel)
theorem d_MM_wordKind_311 : decode y_MM_wordKind.2.1 311 = .ok (.iload_n 2, 1) := dc9_28 (by decide +kernel)
theorem d_MM_wordKind_312 : decode y_MM_wordKind.2.1 312 = .ok (.ldc 204, 2) := dc9_18 (by decide +kernel)
theorem d_MM_wordKind_314 : decode y_MM_wordKind.2.1 314 = .ok (.invokevirtual 178, 3) := dc9_182 (by decide +kernel)
theorem d_MM_wordKind_317 : decode y_MM_wordKind.2.1 317 = .ok (.ifCond .eq 8, 3) := dc9_153 (by decide +kernel)
theorem d_MM_wordKind_320 : decode y_MM_wordKind.2.1 320 = .ok (.bipush 14, 2) := dc9_16 (by decide +kernel)
theorem d_MM_wordKind_322 : decode y_MM_wordKind.2.1 322 = .ok (.goto 4, 3) := dc9_167 (by decide +kernel)
theorem d_MM_wordKind_325 : decode y_MM_wordKind.2.1 325 = .ok (.iconst 1, 1) := dc9_4 (by decide +kernel)
theorem d_MM_wordKind_326 : decode y_MM_wordKind.2.1 326 = .ok (.ireturn, 1) := dc9_172 (by decide +kernel)
theorem d_MM_wordKind_327 : decode y_MM_wordKind.2.1 327 = .ok (.iconst 1, 1) := dc9_4 (by decide +kernel)
theorem d_MM_wordKind_328 : decode y_MM_wordKind.2.1 328 = .ok (.ireturn, 1) := dc9_172 (by decide +kernel)
section NAM
variable {G : mG} {d pc t n w T A B D N C p a : Nat} {f : Nat → Int} {M : mM} {Q : Option mV → mM → Prop}
theorem s_Wo_spells (hJ : JD G) (hs : Str G t n f) (hO : mOk M) (h : WA M w T A B D N C) (hp : p + n ≤ N) : Ci G y_Wo_spells (d + 4) [vr w, vi p, vo t] M (fun r M' => M' = M ∧ (r = 0 ∨ r = 1) ∧ (r = 1 ↔ ∀ j, j < n → mI M T (p + j) = f j)) := by
  obtain ⟨A0, hv, hT⟩ := hs.2.2
  have hn := hT.2.1
  obtain ⟨k2, ⟨r0, -⟩, ⟨kT, nT⟩, -, -, -, hN, -⟩ := h
  have step : ∀ i : Nat, i ≤ n → (∀ j, j < i → mI M T (p + j) = f j) → (i < n → mI M T (p + i) = f i → mWm G y_Wo_spells (d + 4) 2 [vr w, vi p, vo t, vi ((i + 1 : Nat) : Int)] [] M (fun r M' => ∃ x, r = some (vi x) ∧ M' = M ∧ (x = 0 ∨ x = 1) ∧ (x = 1 ↔ ∀ j, j < n → mI M T (p + j) = f j))) → mWm G y_Wo_spells (d + 4) 2 [vr w, vi p, vo t, vi (i : Int)] [] M (fun r M' => ∃ x, r = some (vi x) ∧ M' = M ∧ (x = 0 ∨ x = 1) ∧ (x = 1 ↔ ∀ j, j < n → mI M T (p + j) = f j)) := by
    intro i hi hj0 ih
    refine wm_iload_n d_Wo_spells_2 rfl rfl ?_
    refine wm_aldO_n d_Wo_spells_3 rfl rfl ?_
    refine wm_strLen (d := d + 2) hJ hs kt_lenW (Nat.le_of_ble_eq_true rfl) d_Wo_spells_4 ?_
    refine wm_icmp_ge (tgt := 34) d_Wo_spells_7 rfl ⟨by omega, by omega⟩ ⟨by omega, by omega⟩ (fun c0 => ?_) (fun c => ?_)
    · refine wm_iconst d_Wo_spells_34 ?_
      refine wm_ireturn d_Wo_spells_35 rfl rfl ?_
      exact ⟨_, rfl, rfl, Or.inr rfl, fun _ j hj => hj0 j (by omega), fun _ => rfl⟩
    · have hin : i < n := by omega
      refine wm_aload_n d_Wo_spells_10 rfl rfl ?_
      refine gf_Wo_9 rfl d_Wo_spells_11 k2 ?_
      rw [r0]
      refine wm_iload_n d_Wo_spells_14 rfl rfl ?_
      refine wm_iload_n d_Wo_spells_15 rfl rfl ?_
      refine wm_iadd d_Wo_spells_16 ?_
      refine wm_cald d_Wo_spells_17 kT ⟨by omega, by omega⟩ ?_
      refine wm_aldO_n d_Wo_spells_18 rfl rfl ?_
      refine wm_iload_n d_Wo_spells_19 rfl rfl ?_
      refine wm_strAt (d := d) hJ hs hin kt_chaW (Nat.le_of_ble_eq_true rfl) d_Wo_spells_20 ?_
      have hf := hT.2.2 i hin
      refine wm_icmp_eq (tgt := 28) d_Wo_spells_23 rfl (hO _ _).1 ⟨by omega, by omega⟩ (fun ce => ?_) (fun cn => ?_)
      · refine wm_iinc d_Wo_spells_28 (by decide) rfl (L' := [vr w, vi p, vo t, vi ((i : Int) + 1)]) rfl ?_
        refine wm_goto (tgt := 2) d_Wo_spells_31 rfl ?_
        have ih := ih hin (by rw [show p + i = ((p : Int) + (i : Int)).toNat by omega]; exact ce)
        rw [show ((i + 1 : Nat) : Int) = (i : Int) + 1 by omega] at ih
        exact ih
      · refine wm_iconst d_Wo_spells_26 ?_
        refine wm_ireturn d_Wo_spells_27 rfl rfl ?_
        exact ⟨_, rfl, rfl, Or.inl rfl, fun e => absurd e (by decide), fun e => absurd (e i hin) (by rw [show p + i = ((p : Int) + (i : Int)).toNat by omega]; exact cn)⟩
  have all : ∀ q i : Nat, n = i + q → (∀ j, j < i → mI M T (p + j) = f j) → mWm G y_Wo_spells (d + 4) 2 [vr w, vi p, vo t, vi (i : Int)] [] M (fun r M' => ∃ x, r = some (vi x) ∧ M' = M ∧ (x = 0 ∨ x = 1) ∧ (x = 1 ↔ ∀ j, j < n → mI M T (p + j) = f j)) := by
    intro q
    induction q with
    | zero => exact fun i e hj => step i (by omega) hj (fun c => by omega)
    | succ q ih => exact fun i e hj => step i (by omega) hj (fun _ ce => ih (i + 1) (by omega) (fun j hj1 => by
        by_cases cj : j < i
        · exact hj j cj
        · rw [show j = i by omega]; exact ce))
  refine wm_open (y := y_Wo_spells) rfl (Nat.le_of_ble_eq_true rfl) (L := [vr w, vi p, vo t, vd]) rfl ?_
  refine wm_iconst d_Wo_spells_0 ?_
  refine wm_istore_n d_Wo_spells_1 rfl (by decide) (L' := [vr w, vi p, vo t, vi 0]) rfl ?_
  exact all n 0 (by omega) (fun j hj => absurd hj (by omega))
theorem ns_test {tx : String} {l : List Int} {k tgt : Nat} {off : Int} (hJ : JD G) (hl : Lit G "ChanceArena$Words" k tx l) (hO : mOk M) (h : WA M w T A B D N C) (hp : p + l.length ≤ N) (hnl : n = l.length) (h0 : decode y_Wo_nameSort.2.1 pc = .ok (.aload_n 0, 1)) (h1 : decode y_Wo_nameSort.2.1 (pc + 1) = .ok (.iload_n 1, 1)) (h2 : decode y_Wo_nameSort.2.1 (pc + 2) = .ok (.ldc k, 2)) (h3 : decode y_Wo_nameSort.2.1 (pc + 4) = .ok (.invokevirtual 74, 3)) (h4 : decode y_Wo_nameSort.2.1 (pc + 7) = .ok (.ifCond .eq off, 3)) (ht : ((pc + 7 : Nat) : Int) + off = (tgt : Int)) (kt : wlq (mI M T) p (p + n) ≠ l → mWm G y_Wo_nameSort (d + 5) tgt [vr w, vi p, vi n] [] M Q) (kf : wlq (mI M T) p (p + n) = l → mWm G y_Wo_nameSort (d + 5) (pc + 10) [vr w, vi p, vi n] [] M Q) : mWm G y_Wo_nameSort (d + 5) pc [vr w, vi p, vi n] [] M Q := by
  obtain ⟨t, hr, hs⟩ := hl
  refine wm_aload_n h0 rfl rfl ?_
  refine wm_iload_n h1 rfl rfl ?_
  refine wm_ldcS rfl hr h2 ?_
  refine wm_callV (y2 := y_Wo_spells) (c := 1) (n := 2) (As := [vi p, vo t]) rfl rfl rfl kt_spL kt_spI ks_Wo_spells k1_2 kt_spC ⟨by decide, by decide, by decide +kernel⟩ (by decide) rfl rfl (Nat.le_of_ble_eq_true rfl) h3 h.1 ?_
  refine mCm.mono (s_Wo_spells (d := d) hJ hs hO h hp) (fun r M' q => ?_)
  obtain ⟨x, rfl, rfl, hx, hi⟩ := q
  have hw : x = 1 ↔ wlq (mI M' T) p (p + n) = l := by
    rw [hi, wlq_eq]
    exact ⟨fun u => ⟨by omega, u⟩, fun u => u.2⟩
  exact wm_if_eq h4 ht (by rcases hx with e | e <;> subst e <;> exact ⟨by decide, by decide⟩) (fun c => kt (fun u => absurd (hw.mpr u) (by omega))) (fun c => kf (hw.mp (by omega)))
theorem s_Wo_nameSort (hJ : JD G) (hL : ∀ q, q ∈ litBW → Lit G "ChanceArena$Words" q.1 q.2.1 q.2.2) (hO : mOk M) (h : WA M w T A B D N C) (hp : p + n ≤ N) (hn : n ≤ 40) : Ci G y_Wo_nameSort (d + 5) [vr w, vi p, vi n] M (fun r M' => M' = M ∧ (2 ≤ r ∧ r ≤ 16 ∧ r ≠ 3) ∧ r = kwq (wlq (mI M T) p (p + n)) + 1) := by
  have hlen : (wlq (mI M T) p (p + n)).length = n := by rw [wlq_len]; omega
  refine wm_open (y := y_Wo_nameSort) rfl (Nat.le_of_ble_eq_true rfl) (L := [vr w, vi p, vi n]) rfl ?_
  refine (?_ : ∀ Q9 : Option mV → mM → Prop, (∀ x : Int, 2 ≤ x → x ≤ 16 → x ≠ 3 → x = kwq (wlq (mI M T) p (p + n)) + 1 → Q9 (some (vi x)) M) → mWm G y_Wo_nameSort (d + 5) 0 [vr w, vi p, vi n] [] M Q9) _ (fun x a b c e => ⟨x, rfl, rfl, ⟨a, b, c⟩, e⟩)
  intro Q9 hend
  have B46 : kwq (wlq (mI M T) p (p + n)) = 4 → mWm G y_Wo_nameSort (d + 5) 46 [vr w, vi p, vi n] [] M Q9 := fun ek => by
    refine wm_iconst d_Wo_nameSort_46 ?_
    refine wm_goto (tgt := 81) d_Wo_nameSort_47 rfl ?_
    refine wm_ireturn d_Wo_nameSort_81 rfl rfl ?_
    exact hend _ (by decide) (by decide) (by decide) (Eq.trans (by decide) (congrArg (· + 1) ek.symm))
  have B60 : kwq (wlq (mI M T) p (p + n)) = 7 → mWm G y_Wo_nameSort (d + 5) 60 [vr w, vi p, vi n] [] M Q9 := fun ek => by
    refine wm_bipush d_Wo_nameSort_60 (by decide) ?_
    refine wm_goto (tgt := 81) d_Wo_nameSort_62 rfl ?_
    refine wm_ireturn d_Wo_nameSort_81 rfl rfl ?_
    exact hend _ (by decide) (by decide) (by decide) (Eq.trans (by decide) (congrArg (· + 1) ek.symm))
  have B75 : kwq (wlq (mI M T) p (p + n)) = 8 → mWm G y_Wo_nameSort (d + 5) 75 [vr w, vi p, vi n] [] M Q9 := fun ek => by
    refine wm_bipush d_Wo_nameSort_75 (by decide) ?_
    refine wm_goto (tgt := 81) d_Wo_nameSort_77 rfl ?_
    refine wm_ireturn d_Wo_nameSort_81 rfl rfl ?_
    exact hend _ (by decide) (by decide) (by decide) (Eq.trans (by decide) (congrArg (· + 1) ek.symm))
  have B80 : kwq (wlq (mI M T) p (p + n)) = 1 → mWm G y_Wo_nameSort (d + 5) 80 [vr w, vi p, vi n] [] M Q9 := fun ek => by
    refine wm_iconst d_Wo_nameSort_80 ?_
    refine wm_ireturn d_Wo_nameSort_81 rfl rfl ?_
    exact hend _ (by decide) (by decide) (by decide) (Eq.trans (by decide) (congrArg (· + 1) ek.symm))
  have B92 : kwq (wlq (mI M T) p (p + n)) = 12 → mWm G y_Wo_nameSort (d + 5) 92 [vr w, vi p, vi n] [] M Q9 := fun ek => by
    refine wm_bipush d_Wo_nameSort_92 (by decide) ?_
    refine wm_goto (tgt := 158) d_Wo_nameSort_94 rfl ?_
    refine wm_ireturn d_Wo_nameSort_158 rfl rfl ?_
    exact hend _ (by decide) (by decide) (by decide) (Eq.trans (by decide) (congrArg (· + 1) ek.symm))
  have B107 : kwq (wlq (mI M T) p (p + n)) = 10 → mWm G y_Wo_nameSort (d + 5) 107 [vr w, vi p, vi n] [] M Q9 := fun ek => by
    refine wm_bipush d_Wo_nameSort_107 (by decide) ?_
    refine wm_goto (tgt := 158) d_Wo_nameSort_109 rfl ?_
    refine wm_ireturn d_Wo_nameSort_158 rfl rfl ?_
    exact hend _ (by decide) (by decide) (by decide) (Eq.trans (by decide) (congrArg (· + 1) ek.symm))
  have B122 : kwq (wlq (mI M T) p (p + n)) = 5 → mWm G y_Wo_nameSort (d + 5) 122 [vr w, vi p, vi n] [] M Q9 := fun ek => by
    refine wm_bipush d_Wo_nameSort_122 (by decide) ?_
    refine wm_goto (tgt := 158) d_Wo_nameSort_124 rfl ?_
    refine wm_ireturn d_Wo_nameSort_158 rfl rfl ?_
    exact hend _ (by decide) (by decide) (by decide) (Eq.trans (by decide) (congrArg (· + 1) ek.symm))
  have B137 : kwq (wlq (mI M T) p (p + n)) = 9 → mWm G y_Wo_nameSort (d + 5) 137 [vr w, vi p, vi n] [] M Q9 := fun ek => by
    refine wm_bipush d_Wo_nameSort_137 (by decide) ?_
    refine wm_goto (tgt := 158) d_Wo_nameSort_139 rfl ?_
    refine wm_ireturn d_Wo_nameSort_158 rfl rfl ?_
    exact hend _ (by decide) (by decide) (by decide) (Eq.trans (by decide) (congrArg (· + 1) ek.symm))
  have B152 : kwq (wlq (mI M T) p (p + n)) = 15 → mWm G y_Wo_nameSort (d + 5) 152 [vr w, vi p, vi n] [] M Q9 := fun ek => by
    refine wm_bipush d_Wo_nameSort_152 (by decide) ?_
    refine wm_goto (tgt := 158) d_Wo_nameSort_154 rfl ?_
    refine wm_ireturn d_Wo_nameSort_158 rfl rfl ?_
    exact hend _ (by decide) (by decide) (by decide) (Eq.trans (by decide) (congrArg (· + 1) ek.symm))
  have B157 : kwq (wlq (mI M T) p (p + n)) = 1 → mWm G y_Wo_nameSort (d + 5) 157 [vr w, vi p, vi n] [] M Q9 := fun ek => by
    refine wm_iconst d_Wo_nameSort_157 ?_
    refine wm_ireturn d_Wo_nameSort_158 rfl rfl ?_
    exact hend _ (by decide) (by decide) (by decide) (Eq.trans (by decide) (congrArg (· + 1) ek.symm))
  have B169 : kwq (wlq (mI M T) p (p + n)) = 3 → mWm G y_Wo_nameSort (d + 5) 169 [vr w, vi p, vi n] [] M Q9 := fun ek => by
    refine wm_iconst d_Wo_nameSort_169 ?_
    refine wm_goto (tgt := 204) d_Wo_nameSort_170 rfl ?_
    refine wm_ireturn d_Wo_nameSort_204 rfl rfl ?_
    exact hend _ (by decide) (by decide) (by decide) (Eq.trans (by decide) (congrArg (· + 1) ek.symm))
  have B183 : kwq (wlq (mI M T) p (p + n)) = 13 → mWm G y_Wo_nameSort (d + 5) 183 [vr w, vi p, vi n] [] M Q9 := fun ek => by
    refine wm_bipush d_Wo_nameSort_183 (by decide) ?_
    refine wm_goto (tgt := 204) d_Wo_nameSort_185 rfl ?_
    refine wm_ireturn d_Wo_nameSort_204 rfl rfl ?_
    exact hend _ (by decide) (by decide) (by decide) (Eq.trans (by decide) (congrArg (· + 1) ek.symm))
  have B198 : kwq (wlq (mI M T) p (p + n)) = 14 → mWm G y_Wo_nameSort (d + 5) 198 [vr w, vi p, vi n] [] M Q9 := fun ek => by
    refine wm_bipush d_Wo_nameSort_198 (by decide) ?_
    refine wm_goto (tgt := 204) d_Wo_nameSort_200 rfl ?_
    refine wm_ireturn d_Wo_nameSort_204 rfl rfl ?_
    exact hend _ (by decide) (by decide) (by decide) (Eq.trans (by decide) (congrArg (· + 1) ek.symm))
  have B203 : kwq (wlq (mI M T) p (p + n)) = 1 → mWm G y_Wo_nameSort (d + 5) 203 [vr w, vi p, vi n] [] M Q9 := fun ek => by
    refine wm_iconst d_Wo_nameSort_203 ?_
    refine wm_ireturn d_Wo_nameSort_204 rfl rfl ?_
    exact hend _ (by decide) (by decide) (by decide) (Eq.trans (by decide) (congrArg (· + 1) ek.symm))
  have B215 : kwq (wlq (mI M T) p (p + n)) = 11 → mWm G y_Wo_nameSort (d + 5) 215 [vr w, vi p, vi n] [] M Q9 := fun ek => by
    refine wm_bipush d_Wo_nameSort_215 (by decide) ?_
    refine wm_goto (tgt := 221) d_Wo_nameSort_217 rfl ?_
    refine wm_ireturn d_Wo_nameSort_221 rfl rfl ?_
    exact hend _ (by decide) (by decide) (by decide) (Eq.trans (by decide) (congrArg (· + 1) ek.symm))
  have B220 : kwq (wlq (mI M T) p (p + n)) = 1 → mWm G y_Wo_nameSort (d + 5) 220 [vr w, vi p, vi n] [] M Q9 := fun ek => by
    refine wm_iconst d_Wo_nameSort_220 ?_
    refine wm_ireturn d_Wo_nameSort_221 rfl rfl ?_
    exact hend _ (by decide) (by decide) (by decide) (Eq.trans (by decide) (congrArg (· + 1) ek.symm))
  have B232 : kwq (wlq (mI M T) p (p + n)) = 6 → mWm G y_Wo_nameSort (d + 5) 232 [vr w, vi p, vi n] [] M Q9 := fun ek => by
    refine wm_bipush d_Wo_nameSort_232 (by decide) ?_
    refine wm_goto (tgt := 238) d_Wo_nameSort_234 rfl ?_
    refine wm_ireturn d_Wo_nameSort_238 rfl rfl ?_
    exact hend _ (by decide) (by decide) (by decide) (Eq.trans (by decide) (congrArg (· + 1) ek.symm))
  have B237 : kwq (wlq (mI M T) p (p + n)) = 1 → mWm G y_Wo_nameSort (d + 5) 237 [vr w, vi p, vi n] [] M Q9 := fun ek => by
    refine wm_iconst d_Wo_nameSort_237 ?_
    refine wm_ireturn d_Wo_nameSort_238 rfl rfl ?_
    exact hend _ (by decide) (by decide) (by decide) (Eq.trans (by decide) (congrArg (· + 1) ek.symm))
  have B239 : kwq (wlq (mI M T) p (p + n)) = 1 → mWm G y_Wo_nameSort (d + 5) 239 [vr w, vi p, vi n] [] M Q9 := fun ek => by
    refine wm_iconst d_Wo_nameSort_239 ?_
    refine wm_ireturn d_Wo_nameSort_240 rfl rfl ?_
    exact hend _ (by decide) (by decide) (by decide) (Eq.trans (by decide) (congrArg (· + 1) ek.symm))
  have B222 : n = 7 → mWm G y_Wo_nameSort (d + 5) 222 [vr w, vi p, vi n] [] M Q9 := fun e => ns_test (tgt := 237) hJ (hL (100, "formula", [102, 111, 114, 109, 117, 108, 97]) (List.mem_of_getElem? (i := 12) rfl)) hO h (by show p + 7 ≤ N; omega) e d_Wo_nameSort_222 d_Wo_nameSort_223 d_Wo_nameSort_224 d_Wo_nameSort_226 d_Wo_nameSort_229 rfl (fun c => B237 (kw_none (wl_len hlen (by rw [e]; decide)) (wl_len hlen (by rw [e]; decide)) (wl_len hlen (by rw [e]; decide)) (wl_len hlen (by rw [e]; decide)) (wl_len hlen (by rw [e]; decide)) (wl_len hlen (by rw [e]; decide)) (wl_len hlen (by rw [e]; decide)) (wl_len hlen (by rw [e]; decide)) (wl_len hlen (by rw [e]; decide)) (wl_len hlen (by rw [e]; decide)) (wl_len hlen (by rw [e]; decide)) (wl_len hlen (by rw [e]; decide)) c)) (fun c => B232 (by rw [c]; decide))
  have B205 : n = 6 → mWm G y_Wo_nameSort (d + 5) 205 [vr w, vi p, vi n] [] M Q9 := fun e => ns_test (tgt := 220) hJ (hL (98, "target", [116, 97, 114, 103, 101, 116]) (List.mem_of_getElem? (i := 11) rfl)) hO h (by show p + 6 ≤ N; omega) e d_Wo_nameSort_205 d_Wo_nameSort_206 d_Wo_nameSort_207 d_Wo_nameSort_209 d_Wo_nameSort_212 rfl (fun c => B220 (kw_none (wl_len hlen (by rw [e]; decide)) (wl_len hlen (by rw [e]; decide)) (wl_len hlen (by rw [e]; decide)) (wl_len hlen (by rw [e]; decide)) (wl_len hlen (by rw [e]; decide)) (wl_len hlen (by rw [e]; decide)) (wl_len hlen (by rw [e]; decide)) (wl_len hlen (by rw [e]; decide)) (wl_len hlen (by rw [e]; decide)) (wl_len hlen (by rw [e]; decide)) (wl_len hlen (by rw [e]; decide)) c (wl_len hlen (by rw [e]; decide)))) (fun c => B215 (by rw [c]; decide))
  have B188 : n = 5 → wlq (mI M T) p (p + n) ≠ [99, 111, 110, 115, 116] → wlq (mI M T) p (p + n) ≠ [102, 97, 108, 115, 101] → mWm G y_Wo_nameSort (d + 5) 188 [vr w, vi p, vi n] [] M Q9 := fun e v8 v9 => ns_test (tgt := 203) hJ (hL (96, "least", [108, 101, 97, 115, 116]) (List.mem_of_getElem? (i := 10) rfl)) hO h (by show p + 5 ≤ N; omega) e d_Wo_nameSort_188 d_Wo_nameSort_189 d_Wo_nameSort_190 d_Wo_nameSort_192 d_Wo_nameSort_195 rfl (fun c => B203 (kw_none (wl_len hlen (by rw [e]; decide)) (wl_len hlen (by rw [e]; decide)) (wl_len hlen (by rw [e]; decide)) (wl_len hlen (by rw [e]; decide)) (wl_len hlen (by rw [e]; decide)) (wl_len hlen (by rw [e]; decide)) (wl_len hlen (by rw [e]; decide)) (wl_len hlen (by rw [e]; decide)) v8 v9 c (wl_len hlen (by rw [e]; decide)) (wl_len hlen (by rw [e]; decide)))) (fun c => B198 (by rw [c]; decide))
  have B173 : n = 5 → wlq (mI M T) p (p + n) ≠ [99, 111, 110, 115, 116] → mWm G y_Wo_nameSort (d + 5) 173 [vr w, vi p, vi n] [] M Q9 := fun e v8 => ns_test (tgt := 188) hJ (hL (94, "false", [102, 97, 108, 115, 101]) (List.mem_of_getElem? (i := 9) rfl)) hO h (by show p + 5 ≤ N; omega) e d_Wo_nameSort_173 d_Wo_nameSort_174 d_Wo_nameSort_175 d_Wo_nameSort_177 d_Wo_nameSort_180 rfl (fun c => B188 e v8 c) (fun c => B183 (by rw [c]; decide))
  have B159 : n = 5 → mWm G y_Wo_nameSort (d + 5) 159 [vr w, vi p, vi n] [] M Q9 := fun e => ns_test (tgt := 173) hJ (hL (92, "const", [99, 111, 110, 115, 116]) (List.mem_of_getElem? (i := 8) rfl)) hO h (by show p + 5 ≤ N; omega) e d_Wo_nameSort_159 d_Wo_nameSort_160 d_Wo_nameSort_161 d_Wo_nameSort_163 d_Wo_nameSort_166 rfl (fun c => B173 e c) (fun c => B169 (by rw [c]; decide))
  have B142 : n = 4 → wlq (mI M T) p (p + n) ≠ [116, 114, 117, 101] → wlq (mI M T) p (p + n) ≠ [115, 116, 97, 121] → wlq (mI M T) p (p + n) ≠ [98, 111, 111, 108] → wlq (mI M T) p (p + n) ≠ [105, 110, 105, 116] → mWm G y_Wo_nameSort (d + 5) 142 [vr w, vi p, vi n] [] M Q9 := fun e v3 v4 v5 v6 => ns_test (tgt := 157) hJ (hL (90, "most", [109, 111, 115, 116]) (List.mem_of_getElem? (i := 7) rfl)) hO h (by show p + 4 ≤ N; omega) e d_Wo_nameSort_142 d_Wo_nameSort_143 d_Wo_nameSort_144 d_Wo_nameSort_146 d_Wo_nameSort_149 rfl (fun c => B157 (kw_none (wl_len hlen (by rw [e]; decide)) (wl_len hlen (by rw [e]; decide)) (wl_len hlen (by rw [e]; decide)) v3 v4 v5 v6 c (wl_len hlen (by rw [e]; decide)) (wl_len hlen (by rw [e]; decide)) (wl_len hlen (by rw [e]; decide)) (wl_len hlen (by rw [e]; decide)) (wl_len hlen (by rw [e]; decide)))) (fun c => B152 (by rw [c]; decide))
  have B127 : n = 4 → wlq (mI M T) p (p + n) ≠ [116, 114, 117, 101] → wlq (mI M T) p (p + n) ≠ [115, 116, 97, 121] → wlq (mI M T) p (p + n) ≠ [98, 111, 111, 108] → mWm G y_Wo_nameSort (d + 5) 127 [vr w, vi p, vi n] [] M Q9 := fun e v3 v4 v5 => ns_test (tgt := 142) hJ (hL (88, "init", [105, 110, 105, 116]) (List.mem_of_getElem? (i := 6) rfl)) hO h (by show p + 4 ≤ N; omega) e d_Wo_nameSort_127 d_Wo_nameSort_128 d_Wo_nameSort_129 d_Wo_nameSort_131 d_Wo_nameSort_134 rfl (fun c => B142 e v3 v4 v5 c) (fun c => B137 (by rw [c]; decide))
  have B112 : n = 4 → wlq (mI M T) p (p + n) ≠ [116, 114, 117, 101] → wlq (mI M T) p (p + n) ≠ [115, 116, 97, 121] → mWm G y_Wo_nameSort (d + 5) 112 [vr w, vi p, vi n] [] M Q9 := fun e v3 v4 => ns_test (tgt := 127) hJ (hL (86, "bool", [98, 111, 111, 108]) (List.mem_of_getElem? (i := 5) rfl)) hO h (by show p + 4 ≤ N; omega) e d_Wo_nameSort_112 d_Wo_nameSort_113 d_Wo_nameSort_114 d_Wo_nameSort_116 d_Wo_nameSort_119 rfl (fun c => B127 e v3 v4 c) (fun c => B122 (by rw [c]; decide))
  have B97 : n = 4 → wlq (mI M T) p (p + n) ≠ [116, 114, 117, 101] → mWm G y_Wo_nameSort (d + 5) 97 [vr w, vi p, vi n] [] M Q9 := fun e v3 => ns_test (tgt := 112) hJ (hL (84, "stay", [115, 116, 97, 121]) (List.mem_of_getElem? (i := 4) rfl)) hO h (by show p + 4 ≤ N; omega) e d_Wo_nameSort_97 d_Wo_nameSort_98 d_Wo_nameSort_99 d_Wo_nameSort_101 d_Wo_nameSort_104 rfl (fun c => B112 e v3 c) (fun c => B107 (by rw [c]; decide))
  have B82 : n = 4 → mWm G y_Wo_nameSort (d + 5) 82 [vr w, vi p, vi n] [] M Q9 := fun e => ns_test (tgt := 97) hJ (hL (82, "true", [116, 114, 117, 101]) (List.mem_of_getElem? (i := 3) rfl)) hO h (by show p + 4 ≤ N; omega) e d_Wo_nameSort_82 d_Wo_nameSort_83 d_Wo_nameSort_84 d_Wo_nameSort_86 d_Wo_nameSort_89 rfl (fun c => B97 e c) (fun c => B92 (by rw [c]; decide))
  have B65 : n = 3 → wlq (mI M T) p (p + n) ≠ [118, 97, 114] → wlq (mI M T) p (p + n) ≠ [109, 97, 120] → mWm G y_Wo_nameSort (d + 5) 65 [vr w, vi p, vi n] [] M Q9 := fun e v0 v1 => ns_test (tgt := 80) hJ (hL (80, "min", [109, 105, 110]) (List.mem_of_getElem? (i := 2) rfl)) hO h (by show p + 3 ≤ N; omega) e d_Wo_nameSort_65 d_Wo_nameSort_66 d_Wo_nameSort_67 d_Wo_nameSort_69 d_Wo_nameSort_72 rfl (fun c => B80 (kw_none v0 v1 c (wl_len hlen (by rw [e]; decide)) (wl_len hlen (by rw [e]; decide)) (wl_len hlen (by rw [e]; decide)) (wl_len hlen (by rw [e]; decide)) (wl_len hlen (by rw [e]; decide)) (wl_len hlen (by rw [e]; decide)) (wl_len hlen (by rw [e]; decide)) (wl_len hlen (by rw [e]; decide)) (wl_len hlen (by rw [e]; decide)) (wl_len hlen (by rw [e]; decide)))) (fun c => B75 (by rw [c]; decide))
  have B50 : n = 3 → wlq (mI M T) p (p + n) ≠ [118, 97, 114] → mWm G y_Wo_nameSort (d + 5) 50 [vr w, vi p, vi n] [] M Q9 := fun e v0 => ns_test (tgt := 65) hJ (hL (78, "max", [109, 97, 120]) (List.mem_of_getElem? (i := 1) rfl)) hO h (by show p + 3 ≤ N; omega) e d_Wo_nameSort_50 d_Wo_nameSort_51 d_Wo_nameSort_52 d_Wo_nameSort_54 d_Wo_nameSort_57 rfl (fun c => B65 e v0 c) (fun c => B60 (by rw [c]; decide))
  have B36 : n = 3 → mWm G y_Wo_nameSort (d + 5) 36 [vr w, vi p, vi n] [] M Q9 := fun e => ns_test (tgt := 50) hJ (hL (72, "var", [118, 97, 114]) (List.mem_of_getElem? (i := 0) rfl)) hO h (by show p + 3 ≤ N; omega) e d_Wo_nameSort_36 d_Wo_nameSort_37 d_Wo_nameSort_38 d_Wo_nameSort_40 d_Wo_nameSort_43 rfl (fun c => B50 e c) (fun c => B46 (by rw [c]; decide))
  refine wm_iload_n d_Wo_nameSort_0 rfl rfl ?_
  by_cases c : n < 3 ∨ 7 < n
  · exact wm_tableOut (tgt := 239) d_Wo_nameSort_1 ⟨by omega, by omega⟩ (by omega) rfl (B239 (kw_none (wl_len hlen (by show 3 ≠ n; omega)) (wl_len hlen (by show 3 ≠ n; omega)) (wl_len hlen (by show 3 ≠ n; omega)) (wl_len hlen (by show 4 ≠ n; omega)) (wl_len hlen (by show 4 ≠ n; omega)) (wl_len hlen (by show 4 ≠ n; omega)) (wl_len hlen (by show 4 ≠ n; omega)) (wl_len hlen (by show 4 ≠ n; omega)) (wl_len hlen (by show 5 ≠ n; omega)) (wl_len hlen (by show 5 ≠ n; omega)) (wl_len hlen (by show 5 ≠ n; omega)) (wl_len hlen (by show 6 ≠ n; omega)) (wl_len hlen (by show 7 ≠ n; omega))))
  · have c5 : n = 3 ∨ n = 4 ∨ n = 5 ∨ n = 6 ∨ n = 7 := by omega
    rcases c5 with e | e | e | e | e
    · exact wm_tableIn (tgt := 36) (off := 35) d_Wo_nameSort_1 ⟨by omega, by omega⟩ (by omega) (by omega) (by rw [e]; rfl) rfl (B36 e)
    · exact wm_tableIn (tgt := 82) (off := 81) d_Wo_nameSort_1 ⟨by omega, by omega⟩ (by omega) (by omega) (by rw [e]; rfl) rfl (B82 e)
    · exact wm_tableIn (tgt := 159) (off := 158) d_Wo_nameSort_1 ⟨by omega, by omega⟩ (by omega) (by omega) (by rw [e]; rfl) rfl (B159 e)
    · exact wm_tableIn (tgt := 205) (off := 204) d_Wo_nameSort_1 ⟨by omega, by omega⟩ (by omega) (by omega) (by rw [e]; rfl) rfl (B205 e)
    · exact wm_tableIn (tgt := 222) (off := 221) d_Wo_nameSort_1 ⟨by omega, by omega⟩ (by omega) (by omega) (by rw [e]; rfl) rfl (B222 e)
theorem s_MM_is {f0 e : Nat} (hJ : JD G) (hs : Str G t n f) (hO : mOk M) (h : Wd M a) (hfe : f0 ≤ 16384 ∧ f0 < e ∧ e ≤ f0 + 40) : Ci G y_MM_is (d + 4) [vr a, vi f0, vi e, vo t] M (fun r M' => M' = M ∧ (r = 0 ∨ r = 1) ∧ (r = 1 ↔ (e = f0 + n ∧ ∀ j, j < n → lt M a (f0 + j) = f j))) := by
  obtain ⟨A0, hv, hT⟩ := hs.2.2
  have hn := hT.2.1
  obtain ⟨f1, f2, f3⟩ := hfe
  have step : ∀ (b : Int) (i : Nat), ((b = 1 ∧ e = f0 + n ∧ ∀ j, j < i → lt M a (f0 + j) = f j) ∨ (b = 0 ∧ ¬ (e = f0 + n ∧ ∀ j, j < n → lt M a (f0 + j) = f j))) → i ≤ n → (i < n → ∀ b' : Int, ((b' = 1 ∧ e = f0 + n ∧ ∀ j, j < i + 1 → lt M a (f0 + j) = f j) ∨ (b' = 0 ∧ ¬ (e = f0 + n ∧ ∀ j, j < n → lt M a (f0 + j) = f j))) → mWm G y_MM_is (d + 4) 20 [vr a, vi f0, vi e, vo t, vi b', vi ((i + 1 : Nat) : Int)] [] M (fun r M' => ∃ x, r = some (vi x) ∧ M' = M ∧ (x = 0 ∨ x = 1) ∧ (x = 1 ↔ (e = f0 + n ∧ ∀ j, j < n → lt M a (f0 + j) = f j)))) → mWm G y_MM_is (d + 4) 20 [vr a, vi f0, vi e, vo t, vi b, vi (i : Int)] [] M (fun r M' => ∃ x, r = some (vi x) ∧ M' = M ∧ (x = 0 ∨ x = 1) ∧ (x = 1 ↔ (e = f0 + n ∧ ∀ j, j < n → lt M a (f0 + j) = f j))) := by
    intro b i hB hi ih
    have hb : b = 0 ∨ b = 1 := by rcases hB with u | u <;> omega
    have ib : i32 b := by rcases hb with e | e <;> subst e <;> exact ⟨by decide, by decide⟩
    have fin : (b = 0 ∨ n ≤ i) → mWm G y_MM_is (d + 4) 64 [vr a, vi f0, vi e, vo t, vi b, vi (i : Int)] [] M (fun r M' => ∃ x, r = some (vi x) ∧ M' = M ∧ (x = 0 ∨ x = 1) ∧ (x = 1 ↔ (e = f0 + n ∧ ∀ j, j < n → lt M a (f0 + j) = f j))) := fun cz => by
      refine wm_iload d_MM_is_64 rfl ?_
      refine wm_ireturn d_MM_is_66 rfl (m_nb hb) ?_
      refine ⟨_, rfl, rfl, hb, ?_⟩
      rcases hB with ⟨u1, u2, u3⟩ | ⟨u1, u2⟩
      · exact ⟨fun _ => ⟨u2, fun j hj => u3 j (by omega)⟩, fun _ => u1⟩
      · exact ⟨fun c => by omega, fun c => absurd c u2⟩
    refine wm_iload d_MM_is_20 rfl ?_
    refine wm_if_eq (tgt := 64) d_MM_is_22 rfl ib (fun c => fin (Or.inl c)) (fun cb => ?_)
    refine wm_iload d_MM_is_25 rfl ?_
    refine wm_aldO_n d_MM_is_27 rfl rfl ?_
    refine wm_strLen (d := d + 2) hJ hs kt_lenM (Nat.le_of_ble_eq_true rfl) d_MM_is_28 ?_
    refine wm_icmp_ge (tgt := 64) d_MM_is_31 rfl ⟨by omega, by omega⟩ ⟨by omega, by omega⟩ (fun c => fin (Or.inr (by omega))) (fun c => ?_)
    have hin : i < n := by omega
    have hB1 : e = f0 + n ∧ ∀ j, j < i → lt M a (f0 + j) = f j := by
      rcases hB with ⟨-, u⟩ | ⟨u, -⟩
      · exact u
      · exact absurd u cb
    have ih := ih hin
    refine wm_aload_n d_MM_is_34 rfl rfl ?_
    refine wm_iload_n d_MM_is_35 rfl rfl ?_
    refine wm_iload d_MM_is_36 rfl ?_
    refine wm_iadd d_MM_is_38 ?_
    rw [show (f0 : Int) + (i : Int) = ((f0 + i : Nat) : Int) by omega]
    refine cf_MM_159 rfl d_MM_is_39 h.1.1 (Nat.le_of_ble_eq_true rfl) ?_
    refine (s_MM_letter (d := d + 2) (by omega) hO h).mono (fun x M' q => ?_)
    obtain ⟨eM, hx⟩ := q
    have ix : i32 x := by rw [hx]; exact lt_i32 hO
    rw [eM]
    refine wm_aldO_n d_MM_is_42 rfl rfl ?_
    refine wm_iload d_MM_is_43 rfl ?_
    refine wm_strAt (d := d) hJ hs hin kt_chaM (Nat.le_of_ble_eq_true rfl) d_MM_is_45 ?_
    have hf := hT.2.2 i hin
    have nxt : ∀ b' : Int, ((b' = 1 ∧ e = f0 + n ∧ ∀ j, j < i + 1 → lt M a (f0 + j) = f j) ∨ (b' = 0 ∧ ¬ (e = f0 + n ∧ ∀ j, j < n → lt M a (f0 + j) = f j))) → mWm G y_MM_is (d + 4) 56 [vr a, vi f0, vi e, vo t, vi b, vi (i : Int)] [vi b'] M (fun r M' => ∃ x, r = some (vi x) ∧ M' = M ∧ (x = 0 ∨ x = 1) ∧ (x = 1 ↔ (e = f0 + n ∧ ∀ j, j < n → lt M a (f0 + j) = f j))) := by
      intro b' hb'
      refine wm_istore d_MM_is_56 (by decide) (L' := [vr a, vi f0, vi e, vo t, vi b', vi (i : Int)]) rfl ?_
      refine wm_iinc d_MM_is_58 (by decide) rfl (L' := [vr a, vi f0, vi e, vo t, vi b', vi ((i : Int) + 1)]) rfl ?_
      refine wm_goto (tgt := 20) d_MM_is_61 rfl ?_
      have ih := ih b' hb'
      rw [show ((i + 1 : Nat) : Int) = (i : Int) + 1 by omega] at ih
      exact ih
    refine wm_icmp_ne (tgt := 55) d_MM_is_48 rfl ix ⟨by omega, by omega⟩ (fun cn => ?_) (fun ce => ?_)
    · refine wm_iconst d_MM_is_55 ?_
      exact nxt 0 (Or.inr ⟨rfl, fun u => cn (by rw [hx]; exact u.2 i hin)⟩)
    · refine wm_iconst d_MM_is_51 ?_
      refine wm_goto (tgt := 56) d_MM_is_52 rfl ?_
      exact nxt 1 (Or.inl ⟨rfl, hB1.1, fun j hj => by
        by_cases cj : j < i
        · exact hB1.2 j cj
        · rw [show j = i by omega, ← hx]; exact Decidable.not_not.mp ce⟩)
  have all : ∀ (q i : Nat) (b : Int), ((b = 1 ∧ e = f0 + n ∧ ∀ j, j < i → lt M a (f0 + j) = f j) ∨ (b = 0 ∧ ¬ (e = f0 + n ∧ ∀ j, j < n → lt M a (f0 + j) = f j))) → n = i + q → mWm G y_MM_is (d + 4) 20 [vr a, vi f0, vi e, vo t, vi b, vi (i : Int)] [] M (fun r M' => ∃ x, r = some (vi x) ∧ M' = M ∧ (x = 0 ∨ x = 1) ∧ (x = 1 ↔ (e = f0 + n ∧ ∀ j, j < n → lt M a (f0 + j) = f j))) := by
    intro q
    induction q with
    | zero => exact fun i b hb e => step b i hb (by omega) (fun c => by omega)
    | succ q ih => exact fun i b hb e => step b i hb (by omega) (fun _ b' hb' => ih (i + 1) b' hb' (by omega))
  have go : ∀ b : Int, ((b = 1 ∧ e = f0 + n ∧ ∀ j, j < 0 → lt M a (f0 + j) = f j) ∨ (b = 0 ∧ ¬ (e = f0 + n ∧ ∀ j, j < n → lt M a (f0 + j) = f j))) → mWm G y_MM_is (d + 4) 15 [vr a, vi f0, vi e, vo t, vd, vd] [vi b] M (fun r M' => ∃ x, r = some (vi x) ∧ M' = M ∧ (x = 0 ∨ x = 1) ∧ (x = 1 ↔ (e = f0 + n ∧ ∀ j, j < n → lt M a (f0 + j) = f j))) := by
    intro b hb
    refine wm_istore d_MM_is_15 (by decide) (L' := [vr a, vi f0, vi e, vo t, vi b, vd]) rfl ?_
    refine wm_iconst d_MM_is_17 ?_
    refine wm_istore d_MM_is_18 (by decide) (L' := [vr a, vi f0, vi e, vo t, vi b, vi 0]) rfl ?_
    exact all n 0 b hb (by omega)
  refine wm_open (y := y_MM_is) rfl (Nat.le_of_ble_eq_true rfl) (L := [vr a, vi f0, vi e, vo t, vd, vd]) rfl ?_
  refine wm_iload_n d_MM_is_0 rfl rfl ?_
  refine wm_iload_n d_MM_is_1 rfl rfl ?_
  refine wm_isub d_MM_is_2 ?_
  refine wm_aldO_n d_MM_is_3 rfl rfl ?_
  refine wm_strLen (d := d + 2) hJ hs kt_lenM (Nat.le_of_ble_eq_true rfl) d_MM_is_4 ?_
  refine wm_icmp_ne (tgt := 14) d_MM_is_7 rfl ⟨by omega, by omega⟩ ⟨by omega, by omega⟩ (fun cn => ?_) (fun ce => ?_)
  · refine wm_iconst d_MM_is_14 ?_
    exact go 0 (Or.inr ⟨rfl, fun u => cn (by omega)⟩)
  · refine wm_iconst d_MM_is_10 ?_
    refine wm_goto (tgt := 15) d_MM_is_11 rfl ?_
    exact go 1 (Or.inl ⟨rfl, by omega, fun j hj => absurd hj (by omega)⟩)
theorem wk_test {f e : Nat} {tx : String} {l : List Int} {k tgt : Nat} {off : Int} (hJ : JD G) (hl : Lit G "ChanceArenaModel" k tx l) (hO : mOk M) (h : Wd M a) (hfe : f ≤ 16384 ∧ f < e ∧ e ≤ f + 40) (hel : (e : Int) ≤ ln M (mR M a 2)) (h0 : decode y_MM_wordKind.2.1 pc = .ok (.aload_n 0, 1)) (h1 : decode y_MM_wordKind.2.1 (pc + 1) = .ok (.iload_n 1, 1)) (h1' : decode y_MM_wordKind.2.1 (pc + 2) = .ok (.iload_n 2, 1)) (h2 : decode y_MM_wordKind.2.1 (pc + 3) = .ok (.ldc k, 2)) (h3 : decode y_MM_wordKind.2.1 (pc + 5) = .ok (.invokevirtual 178, 3)) (h4 : decode y_MM_wordKind.2.1 (pc + 8) = .ok (.ifCond .eq off, 3)) (ht : ((pc + 8 : Nat) : Int) + off = (tgt : Int)) (kt : wlq (nt M (mR M a 2)) f e ≠ l → mWm G y_MM_wordKind (d + 5) tgt [vr a, vi f, vi e] [] M Q) (kf : wlq (nt M (mR M a 2)) f e = l → mWm G y_MM_wordKind (d + 5) (pc + 11) [vr a, vi f, vi e] [] M Q) : mWm G y_MM_wordKind (d + 5) pc [vr a, vi f, vi e] [] M Q := by
  obtain ⟨t, hr, hs⟩ := hl
  refine wm_aload_n h0 rfl rfl ?_
  refine wm_iload_n h1 rfl rfl ?_
  refine wm_iload_n h1' rfl rfl ?_
  refine wm_ldcS rfl hr h2 ?_
  refine wm_callV (y2 := y_MM_is) (c := 13) (n := 3) (As := [vi f, vi e, vo t]) rfl rfl rfl kt_isL kt_isI ks_MM_is k1_14 kt_isC ⟨by decide, by decide, by decide +kernel⟩ (by decide) rfl rfl (Nat.le_of_ble_eq_true rfl) h3 h.1.1 ?_
  refine mCm.mono (s_MM_is (d := d) hJ hs hO h hfe) (fun r M' q => ?_)
  obtain ⟨x, rfl, rfl, hx, hi⟩ := q
  have hw : x = 1 ↔ wlq (nt M' (mR M' a 2)) f e = l := by
    rw [hi, wlq_eq]
    have g : ∀ j, j < l.length → e = f + l.length → lt M' a (f + j) = nt M' (mR M' a 2) (f + j) := fun j hj u => by
      unfold lt
      rw [if_pos (by omega)]
    exact ⟨fun u => ⟨by omega, fun j hj => by rw [← g j hj u.1]; exact u.2 j hj⟩, fun u => ⟨by omega, fun j hj => by rw [g j hj (by omega)]; exact u.2 j hj⟩⟩
  exact wm_if_eq h4 ht (by rcases hx with e | e <;> subst e <;> exact ⟨by decide, by decide⟩) (fun c => kt (fun u => absurd (hw.mpr u) (by omega))) (fun c => kf (hw.mp (by omega)))
theorem s_MM_wordKind {f e : Nat} (hJ : JD G) (hL : ∀ q, q ∈ litBM → Lit G "ChanceArenaModel" q.1 q.2.1 q.2.2) (hO : mOk M) (h : Wd M a) (hfe : f ≤ 16384 ∧ f < e ∧ e ≤ f + 40) (hel : (e : Int) ≤ ln M (mR M a 2)) : Ci G y_MM_wordKind (d + 5) [vr a, vi f, vi e] M (fun r M' => M' = M ∧ (1 ≤ r ∧ r ≤ 15 ∧ r ≠ 2) ∧ r = kwq (wlq (nt M (mR M a 2)) f e)) := by
  refine wm_open (y := y_MM_wordKind) rfl (Nat.le_of_ble_eq_true rfl) (L := [vr a, vi f, vi e]) rfl ?_
  refine (?_ : ∀ Q9 : Option mV → mM → Prop, (∀ x : Int, 1 ≤ x → x ≤ 15 → x ≠ 2 → x = kwq (wlq (nt M (mR M a 2)) f e) → Q9 (some (vi x)) M) → mWm G y_MM_wordKind (d + 5) 0 [vr a, vi f, vi e] [] M Q9) _ (fun x a b c e => ⟨x, rfl, rfl, ⟨a, b, c⟩, e⟩)
  intro Q9 hend
  have B115 : kwq (wlq (nt M (mR M a 2)) f e) = 3 → mWm G y_MM_wordKind (d + 5) 115 [vr a, vi f, vi e] [] M Q9 := fun ek => by
    refine wm_iconst d_MM_wordKind_115 ?_
    refine wm_goto (tgt := 120) d_MM_wordKind_116 rfl ?_
    refine wm_ireturn d_MM_wordKind_120 rfl rfl ?_
    exact hend _ (by decide) (by decide) (by decide) (Eq.trans (by decide) ek.symm)
  have B119 : kwq (wlq (nt M (mR M a 2)) f e) = 1 → mWm G y_MM_wordKind (d + 5) 119 [vr a, vi f, vi e] [] M Q9 := fun ek => by
    refine wm_iconst d_MM_wordKind_119 ?_
    refine wm_ireturn d_MM_wordKind_120 rfl rfl ?_
    exact hend _ (by decide) (by decide) (by decide) (Eq.trans (by decide) ek.symm)
  have B132 : kwq (wlq (nt M (mR M a 2)) f e) = 4 → mWm G y_MM_wordKind (d + 5) 132 [vr a, vi f, vi e] [] M Q9 := fun ek => by
    refine wm_iconst d_MM_wordKind_132 ?_
    refine wm_goto (tgt := 137) d_MM_wordKind_133 rfl ?_
    refine wm_ireturn d_MM_wordKind_137 rfl rfl ?_
    exact hend _ (by decide) (by decide) (by decide) (Eq.trans (by decide) ek.symm)
  have B136 : kwq (wlq (nt M (mR M a 2)) f e) = 1 → mWm G y_MM_wordKind (d + 5) 136 [vr a, vi f, vi e] [] M Q9 := fun ek => by
    refine wm_iconst d_MM_wordKind_136 ?_
    refine wm_ireturn d_MM_wordKind_137 rfl rfl ?_
    exact hend _ (by decide) (by decide) (by decide) (Eq.trans (by decide) ek.symm)
  have B149 : kwq (wlq (nt M (mR M a 2)) f e) = 5 → mWm G y_MM_wordKind (d + 5) 149 [vr a, vi f, vi e] [] M Q9 := fun ek => by
    refine wm_iconst d_MM_wordKind_149 ?_
    refine wm_goto (tgt := 154) d_MM_wordKind_150 rfl ?_
    refine wm_ireturn d_MM_wordKind_154 rfl rfl ?_
    exact hend _ (by decide) (by decide) (by decide) (Eq.trans (by decide) ek.symm)
  have B153 : kwq (wlq (nt M (mR M a 2)) f e) = 1 → mWm G y_MM_wordKind (d + 5) 153 [vr a, vi f, vi e] [] M Q9 := fun ek => by
    refine wm_iconst d_MM_wordKind_153 ?_
    refine wm_ireturn d_MM_wordKind_154 rfl rfl ?_
    exact hend _ (by decide) (by decide) (by decide) (Eq.trans (by decide) ek.symm)
  have B166 : kwq (wlq (nt M (mR M a 2)) f e) = 6 → mWm G y_MM_wordKind (d + 5) 166 [vr a, vi f, vi e] [] M Q9 := fun ek => by
    refine wm_bipush d_MM_wordKind_166 (by decide) ?_
    refine wm_goto (tgt := 188) d_MM_wordKind_168 rfl ?_
    refine wm_ireturn d_MM_wordKind_188 rfl rfl ?_
    exact hend _ (by decide) (by decide) (by decide) (Eq.trans (by decide) ek.symm)
  have B182 : kwq (wlq (nt M (mR M a 2)) f e) = 13 → mWm G y_MM_wordKind (d + 5) 182 [vr a, vi f, vi e] [] M Q9 := fun ek => by
    refine wm_bipush d_MM_wordKind_182 (by decide) ?_
    refine wm_goto (tgt := 188) d_MM_wordKind_184 rfl ?_
    refine wm_ireturn d_MM_wordKind_188 rfl rfl ?_
    exact hend _ (by decide) (by decide) (by decide) (Eq.trans (by decide) ek.symm)
  have B187 : kwq (wlq (nt M (mR M a 2)) f e) = 1 → mWm G y_MM_wordKind (d + 5) 187 [vr a, vi f, vi e] [] M Q9 := fun ek => by
    refine wm_iconst d_MM_wordKind_187 ?_
    refine wm_ireturn d_MM_wordKind_188 rfl rfl ?_
    exact hend _ (by decide) (by decide) (by decide) (Eq.trans (by decide) ek.symm)
  have B200 : kwq (wlq (nt M (mR M a 2)) f e) = 7 → mWm G y_MM_wordKind (d + 5) 200 [vr a, vi f, vi e] [] M Q9 := fun ek => by
    refine wm_bipush d_MM_wordKind_200 (by decide) ?_
    refine wm_goto (tgt := 238) d_MM_wordKind_202 rfl ?_
    refine wm_ireturn d_MM_wordKind_238 rfl rfl ?_
    exact hend _ (by decide) (by decide) (by decide) (Eq.trans (by decide) ek.symm)
  have B216 : kwq (wlq (nt M (mR M a 2)) f e) = 8 → mWm G y_MM_wordKind (d + 5) 216 [vr a, vi f, vi e] [] M Q9 := fun ek => by
    refine wm_bipush d_MM_wordKind_216 (by decide) ?_
    refine wm_goto (tgt := 238) d_MM_wordKind_218 rfl ?_
    refine wm_ireturn d_MM_wordKind_238 rfl rfl ?_
    exact hend _ (by decide) (by decide) (by decide) (Eq.trans (by decide) ek.symm)
  have B232 : kwq (wlq (nt M (mR M a 2)) f e) = 15 → mWm G y_MM_wordKind (d + 5) 232 [vr a, vi f, vi e] [] M Q9 := fun ek => by
    refine wm_bipush d_MM_wordKind_232 (by decide) ?_
    refine wm_goto (tgt := 238) d_MM_wordKind_234 rfl ?_
    refine wm_ireturn d_MM_wordKind_238 rfl rfl ?_
    exact hend _ (by decide) (by decide) (by decide) (Eq.trans (by decide) ek.symm)
  have B237 : kwq (wlq (nt M (mR M a 2)) f e) = 1 → mWm G y_MM_wordKind (d + 5) 237 [vr a, vi f, vi e] [] M Q9 := fun ek => by
    refine wm_iconst d_MM_wordKind_237 ?_
    refine wm_ireturn d_MM_wordKind_238 rfl rfl ?_
    exact hend _ (by decide) (by decide) (by decide) (Eq.trans (by decide) ek.symm)
  have B250 : kwq (wlq (nt M (mR M a 2)) f e) = 9 → mWm G y_MM_wordKind (d + 5) 250 [vr a, vi f, vi e] [] M Q9 := fun ek => by
    refine wm_bipush d_MM_wordKind_250 (by decide) ?_
    refine wm_goto (tgt := 256) d_MM_wordKind_252 rfl ?_
    refine wm_ireturn d_MM_wordKind_256 rfl rfl ?_
    exact hend _ (by decide) (by decide) (by decide) (Eq.trans (by decide) ek.symm)
  have B255 : kwq (wlq (nt M (mR M a 2)) f e) = 1 → mWm G y_MM_wordKind (d + 5) 255 [vr a, vi f, vi e] [] M Q9 := fun ek => by
    refine wm_iconst d_MM_wordKind_255 ?_
    refine wm_ireturn d_MM_wordKind_256 rfl rfl ?_
    exact hend _ (by decide) (by decide) (by decide) (Eq.trans (by decide) ek.symm)
  have B268 : kwq (wlq (nt M (mR M a 2)) f e) = 10 → mWm G y_MM_wordKind (d + 5) 268 [vr a, vi f, vi e] [] M Q9 := fun ek => by
    refine wm_bipush d_MM_wordKind_268 (by decide) ?_
    refine wm_goto (tgt := 274) d_MM_wordKind_270 rfl ?_
    refine wm_ireturn d_MM_wordKind_274 rfl rfl ?_
    exact hend _ (by decide) (by decide) (by decide) (Eq.trans (by decide) ek.symm)
  have B273 : kwq (wlq (nt M (mR M a 2)) f e) = 1 → mWm G y_MM_wordKind (d + 5) 273 [vr a, vi f, vi e] [] M Q9 := fun ek => by
    refine wm_iconst d_MM_wordKind_273 ?_
    refine wm_ireturn d_MM_wordKind_274 rfl rfl ?_
    exact hend _ (by decide) (by decide) (by decide) (Eq.trans (by decide) ek.symm)
  have B286 : kwq (wlq (nt M (mR M a 2)) f e) = 11 → mWm G y_MM_wordKind (d + 5) 286 [vr a, vi f, vi e] [] M Q9 := fun ek => by
    refine wm_bipush d_MM_wordKind_286 (by decide) ?_
    refine wm_goto (tgt := 308) d_MM_wordKind_288 rfl ?_
    refine wm_ireturn d_MM_wordKind_308 rfl rfl ?_
    exact hend _ (by decide) (by decide) (by decide) (Eq.trans (by decide) ek.symm)
  have B302 : kwq (wlq (nt M (mR M a 2)) f e) = 12 → mWm G y_MM_wordKind (d + 5) 302 [vr a, vi f, vi e] [] M Q9 := fun ek => by
    refine wm_bipush d_MM_wordKind_302 (by decide) ?_
    refine wm_goto (tgt := 308) d_MM_wordKind_304 rfl ?_
    refine wm_ireturn d_MM_wordKind_308 rfl rfl ?_
    exact hend _ (by decide) (by decide) (by decide) (Eq.trans (by decide) ek.symm)
  have B307 : kwq (wlq (nt M (mR M a 2)) f e) = 1 → mWm G y_MM_wordKind (d + 5) 307 [vr a, vi f, vi e] [] M Q9 := fun ek => by
    refine wm_iconst d_MM_wordKind_307 ?_
    refine wm_ireturn d_MM_wordKind_308 rfl rfl ?_
    exact hend _ (by decide) (by decide) (by decide) (Eq.trans (by decide) ek.symm)
  have B320 : kwq (wlq (nt M (mR M a 2)) f e) = 14 → mWm G y_MM_wordKind (d + 5) 320 [vr a, vi f, vi e] [] M Q9 := fun ek => by
    refine wm_bipush d_MM_wordKind_320 (by decide) ?_
    refine wm_goto (tgt := 326) d_MM_wordKind_322 rfl ?_
    refine wm_ireturn d_MM_wordKind_326 rfl rfl ?_
    exact hend _ (by decide) (by decide) (by decide) (Eq.trans (by decide) ek.symm)
  have B325 : kwq (wlq (nt M (mR M a 2)) f e) = 1 → mWm G y_MM_wordKind (d + 5) 325 [vr a, vi f, vi e] [] M Q9 := fun ek => by
    refine wm_iconst d_MM_wordKind_325 ?_
    refine wm_ireturn d_MM_wordKind_326 rfl rfl ?_
    exact hend _ (by decide) (by decide) (by decide) (Eq.trans (by decide) ek.symm)
  have B327 : kwq (wlq (nt M (mR M a 2)) f e) = 1 → mWm G y_MM_wordKind (d + 5) 327 [vr a, vi f, vi e] [] M Q9 := fun ek => by
    refine wm_iconst d_MM_wordKind_327 ?_
    refine wm_ireturn d_MM_wordKind_328 rfl rfl ?_
    exact hend _ (by decide) (by decide) (by decide) (Eq.trans (by decide) ek.symm)
  have B309 : (wlq (nt M (mR M a 2)) f e).head? = some 108 → mWm G y_MM_wordKind (d + 5) 309 [vr a, vi f, vi e] [] M Q9 := fun hh => wk_test (tgt := 325) hJ (hL (204, "least", [108, 101, 97, 115, 116]) (List.mem_of_getElem? (i := 12) rfl)) hO h hfe hel d_MM_wordKind_309 d_MM_wordKind_310 d_MM_wordKind_311 d_MM_wordKind_312 d_MM_wordKind_314 d_MM_wordKind_317 rfl (fun c => B325 (kw_none (wl_hd hh (by decide)) (wl_hd hh (by decide)) (wl_hd hh (by decide)) (wl_hd hh (by decide)) (wl_hd hh (by decide)) (wl_hd hh (by decide)) (wl_hd hh (by decide)) (wl_hd hh (by decide)) (wl_hd hh (by decide)) (wl_hd hh (by decide)) c (wl_hd hh (by decide)) (wl_hd hh (by decide)))) (fun c => B320 (by rw [c]; decide))
  have B291 : (wlq (nt M (mR M a 2)) f e).head? = some 116 → wlq (nt M (mR M a 2)) f e ≠ [116, 97, 114, 103, 101, 116] → mWm G y_MM_wordKind (d + 5) 291 [vr a, vi f, vi e] [] M Q9 := fun hh v11 => wk_test (tgt := 307) hJ (hL (202, "true", [116, 114, 117, 101]) (List.mem_of_getElem? (i := 11) rfl)) hO h hfe hel d_MM_wordKind_291 d_MM_wordKind_292 d_MM_wordKind_293 d_MM_wordKind_294 d_MM_wordKind_296 d_MM_wordKind_299 rfl (fun c => B307 (kw_none (wl_hd hh (by decide)) (wl_hd hh (by decide)) (wl_hd hh (by decide)) c (wl_hd hh (by decide)) (wl_hd hh (by decide)) (wl_hd hh (by decide)) (wl_hd hh (by decide)) (wl_hd hh (by decide)) (wl_hd hh (by decide)) (wl_hd hh (by decide)) v11 (wl_hd hh (by decide)))) (fun c => B302 (by rw [c]; decide))
  have B275 : (wlq (nt M (mR M a 2)) f e).head? = some 116 → mWm G y_MM_wordKind (d + 5) 275 [vr a, vi f, vi e] [] M Q9 := fun hh => wk_test (tgt := 291) hJ (hL (200, "target", [116, 97, 114, 103, 101, 116]) (List.mem_of_getElem? (i := 10) rfl)) hO h hfe hel d_MM_wordKind_275 d_MM_wordKind_276 d_MM_wordKind_277 d_MM_wordKind_278 d_MM_wordKind_280 d_MM_wordKind_283 rfl (fun c => B291 hh c) (fun c => B286 (by rw [c]; decide))
  have B257 : (wlq (nt M (mR M a 2)) f e).head? = some 115 → mWm G y_MM_wordKind (d + 5) 257 [vr a, vi f, vi e] [] M Q9 := fun hh => wk_test (tgt := 273) hJ (hL (198, "stay", [115, 116, 97, 121]) (List.mem_of_getElem? (i := 9) rfl)) hO h hfe hel d_MM_wordKind_257 d_MM_wordKind_258 d_MM_wordKind_259 d_MM_wordKind_260 d_MM_wordKind_262 d_MM_wordKind_265 rfl (fun c => B273 (kw_none (wl_hd hh (by decide)) (wl_hd hh (by decide)) (wl_hd hh (by decide)) (wl_hd hh (by decide)) c (wl_hd hh (by decide)) (wl_hd hh (by decide)) (wl_hd hh (by decide)) (wl_hd hh (by decide)) (wl_hd hh (by decide)) (wl_hd hh (by decide)) (wl_hd hh (by decide)) (wl_hd hh (by decide)))) (fun c => B268 (by rw [c]; decide))
  have B239 : (wlq (nt M (mR M a 2)) f e).head? = some 105 → mWm G y_MM_wordKind (d + 5) 239 [vr a, vi f, vi e] [] M Q9 := fun hh => wk_test (tgt := 255) hJ (hL (196, "init", [105, 110, 105, 116]) (List.mem_of_getElem? (i := 8) rfl)) hO h hfe hel d_MM_wordKind_239 d_MM_wordKind_240 d_MM_wordKind_241 d_MM_wordKind_242 d_MM_wordKind_244 d_MM_wordKind_247 rfl (fun c => B255 (kw_none (wl_hd hh (by decide)) (wl_hd hh (by decide)) (wl_hd hh (by decide)) (wl_hd hh (by decide)) (wl_hd hh (by decide)) (wl_hd hh (by decide)) c (wl_hd hh (by decide)) (wl_hd hh (by decide)) (wl_hd hh (by decide)) (wl_hd hh (by decide)) (wl_hd hh (by decide)) (wl_hd hh (by decide)))) (fun c => B250 (by rw [c]; decide))
  have B221 : (wlq (nt M (mR M a 2)) f e).head? = some 109 → wlq (nt M (mR M a 2)) f e ≠ [109, 97, 120] → wlq (nt M (mR M a 2)) f e ≠ [109, 105, 110] → mWm G y_MM_wordKind (d + 5) 221 [vr a, vi f, vi e] [] M Q9 := fun hh v1 v2 => wk_test (tgt := 237) hJ (hL (194, "most", [109, 111, 115, 116]) (List.mem_of_getElem? (i := 7) rfl)) hO h hfe hel d_MM_wordKind_221 d_MM_wordKind_222 d_MM_wordKind_223 d_MM_wordKind_224 d_MM_wordKind_226 d_MM_wordKind_229 rfl (fun c => B237 (kw_none (wl_hd hh (by decide)) v1 v2 (wl_hd hh (by decide)) (wl_hd hh (by decide)) (wl_hd hh (by decide)) (wl_hd hh (by decide)) c (wl_hd hh (by decide)) (wl_hd hh (by decide)) (wl_hd hh (by decide)) (wl_hd hh (by decide)) (wl_hd hh (by decide)))) (fun c => B232 (by rw [c]; decide))
  have B205 : (wlq (nt M (mR M a 2)) f e).head? = some 109 → wlq (nt M (mR M a 2)) f e ≠ [109, 97, 120] → mWm G y_MM_wordKind (d + 5) 205 [vr a, vi f, vi e] [] M Q9 := fun hh v1 => wk_test (tgt := 221) hJ (hL (192, "min", [109, 105, 110]) (List.mem_of_getElem? (i := 6) rfl)) hO h hfe hel d_MM_wordKind_205 d_MM_wordKind_206 d_MM_wordKind_207 d_MM_wordKind_208 d_MM_wordKind_210 d_MM_wordKind_213 rfl (fun c => B221 hh v1 c) (fun c => B216 (by rw [c]; decide))
  have B189 : (wlq (nt M (mR M a 2)) f e).head? = some 109 → mWm G y_MM_wordKind (d + 5) 189 [vr a, vi f, vi e] [] M Q9 := fun hh => wk_test (tgt := 205) hJ (hL (190, "max", [109, 97, 120]) (List.mem_of_getElem? (i := 5) rfl)) hO h hfe hel d_MM_wordKind_189 d_MM_wordKind_190 d_MM_wordKind_191 d_MM_wordKind_192 d_MM_wordKind_194 d_MM_wordKind_197 rfl (fun c => B205 hh c) (fun c => B200 (by rw [c]; decide))
  have B171 : (wlq (nt M (mR M a 2)) f e).head? = some 102 → wlq (nt M (mR M a 2)) f e ≠ [102, 111, 114, 109, 117, 108, 97] → mWm G y_MM_wordKind (d + 5) 171 [vr a, vi f, vi e] [] M Q9 := fun hh v12 => wk_test (tgt := 187) hJ (hL (188, "false", [102, 97, 108, 115, 101]) (List.mem_of_getElem? (i := 4) rfl)) hO h hfe hel d_MM_wordKind_171 d_MM_wordKind_172 d_MM_wordKind_173 d_MM_wordKind_174 d_MM_wordKind_176 d_MM_wordKind_179 rfl (fun c => B187 (kw_none (wl_hd hh (by decide)) (wl_hd hh (by decide)) (wl_hd hh (by decide)) (wl_hd hh (by decide)) (wl_hd hh (by decide)) (wl_hd hh (by decide)) (wl_hd hh (by decide)) (wl_hd hh (by decide)) (wl_hd hh (by decide)) c (wl_hd hh (by decide)) (wl_hd hh (by decide)) v12)) (fun c => B182 (by rw [c]; decide))
  have B155 : (wlq (nt M (mR M a 2)) f e).head? = some 102 → mWm G y_MM_wordKind (d + 5) 155 [vr a, vi f, vi e] [] M Q9 := fun hh => wk_test (tgt := 171) hJ (hL (186, "formula", [102, 111, 114, 109, 117, 108, 97]) (List.mem_of_getElem? (i := 3) rfl)) hO h hfe hel d_MM_wordKind_155 d_MM_wordKind_156 d_MM_wordKind_157 d_MM_wordKind_158 d_MM_wordKind_160 d_MM_wordKind_163 rfl (fun c => B171 hh c) (fun c => B166 (by rw [c]; decide))
  have B138 : (wlq (nt M (mR M a 2)) f e).head? = some 98 → mWm G y_MM_wordKind (d + 5) 138 [vr a, vi f, vi e] [] M Q9 := fun hh => wk_test (tgt := 153) hJ (hL (184, "bool", [98, 111, 111, 108]) (List.mem_of_getElem? (i := 2) rfl)) hO h hfe hel d_MM_wordKind_138 d_MM_wordKind_139 d_MM_wordKind_140 d_MM_wordKind_141 d_MM_wordKind_143 d_MM_wordKind_146 rfl (fun c => B153 (kw_none (wl_hd hh (by decide)) (wl_hd hh (by decide)) (wl_hd hh (by decide)) (wl_hd hh (by decide)) (wl_hd hh (by decide)) c (wl_hd hh (by decide)) (wl_hd hh (by decide)) (wl_hd hh (by decide)) (wl_hd hh (by decide)) (wl_hd hh (by decide)) (wl_hd hh (by decide)) (wl_hd hh (by decide)))) (fun c => B149 (by rw [c]; decide))
  have B121 : (wlq (nt M (mR M a 2)) f e).head? = some 118 → mWm G y_MM_wordKind (d + 5) 121 [vr a, vi f, vi e] [] M Q9 := fun hh => wk_test (tgt := 136) hJ (hL (182, "var", [118, 97, 114]) (List.mem_of_getElem? (i := 1) rfl)) hO h hfe hel d_MM_wordKind_121 d_MM_wordKind_122 d_MM_wordKind_123 d_MM_wordKind_124 d_MM_wordKind_126 d_MM_wordKind_129 rfl (fun c => B136 (kw_none c (wl_hd hh (by decide)) (wl_hd hh (by decide)) (wl_hd hh (by decide)) (wl_hd hh (by decide)) (wl_hd hh (by decide)) (wl_hd hh (by decide)) (wl_hd hh (by decide)) (wl_hd hh (by decide)) (wl_hd hh (by decide)) (wl_hd hh (by decide)) (wl_hd hh (by decide)) (wl_hd hh (by decide)))) (fun c => B132 (by rw [c]; decide))
  have B104 : (wlq (nt M (mR M a 2)) f e).head? = some 99 → mWm G y_MM_wordKind (d + 5) 104 [vr a, vi f, vi e] [] M Q9 := fun hh => wk_test (tgt := 119) hJ (hL (176, "const", [99, 111, 110, 115, 116]) (List.mem_of_getElem? (i := 0) rfl)) hO h hfe hel d_MM_wordKind_104 d_MM_wordKind_105 d_MM_wordKind_106 d_MM_wordKind_107 d_MM_wordKind_109 d_MM_wordKind_112 rfl (fun c => B119 (kw_none (wl_hd hh (by decide)) (wl_hd hh (by decide)) (wl_hd hh (by decide)) (wl_hd hh (by decide)) (wl_hd hh (by decide)) (wl_hd hh (by decide)) (wl_hd hh (by decide)) (wl_hd hh (by decide)) c (wl_hd hh (by decide)) (wl_hd hh (by decide)) (wl_hd hh (by decide)) (wl_hd hh (by decide)))) (fun c => B115 (by rw [c]; decide))
  refine wm_aload_n d_MM_wordKind_0 rfl rfl ?_
  refine wm_iload_n d_MM_wordKind_1 rfl rfl ?_
  refine cf_MM_159 rfl d_MM_wordKind_2 h.1.1 (Nat.le_of_ble_eq_true rfl) ?_
  refine (s_MM_letter (d := d + 3) (by omega) hO h).mono (fun x M' q => ?_)
  obtain ⟨eM, hx⟩ := q
  have ix : i32 x := by rw [hx]; exact lt_i32 hO
  rw [eM]
  have hh : (wlq (nt M (mR M a 2)) f e).head? = some x := by
    rw [wlq_hd hfe.2.1, hx]
    unfold lt
    rw [if_pos (by omega)]
  clear hx
  by_cases c : x < 98 ∨ 118 < x
  · exact wm_tableOut (tgt := 327) d_MM_wordKind_5 ix c rfl (B327 (kw_none (wl_hd hh (by intro u; have u : (118 : Int) = x := Option.some.inj u; omega)) (wl_hd hh (by intro u; have u : (109 : Int) = x := Option.some.inj u; omega)) (wl_hd hh (by intro u; have u : (109 : Int) = x := Option.some.inj u; omega)) (wl_hd hh (by intro u; have u : (116 : Int) = x := Option.some.inj u; omega)) (wl_hd hh (by intro u; have u : (115 : Int) = x := Option.some.inj u; omega)) (wl_hd hh (by intro u; have u : (98 : Int) = x := Option.some.inj u; omega)) (wl_hd hh (by intro u; have u : (105 : Int) = x := Option.some.inj u; omega)) (wl_hd hh (by intro u; have u : (109 : Int) = x := Option.some.inj u; omega)) (wl_hd hh (by intro u; have u : (99 : Int) = x := Option.some.inj u; omega)) (wl_hd hh (by intro u; have u : (102 : Int) = x := Option.some.inj u; omega)) (wl_hd hh (by intro u; have u : (108 : Int) = x := Option.some.inj u; omega)) (wl_hd hh (by intro u; have u : (116 : Int) = x := Option.some.inj u; omega)) (wl_hd hh (by intro u; have u : (102 : Int) = x := Option.some.inj u; omega))))
  · have c5 : x = 98 ∨ x = 99 ∨ x = 100 ∨ x = 101 ∨ x = 102 ∨ x = 103 ∨ x = 104 ∨ x = 105 ∨ x = 106 ∨ x = 107 ∨ x = 108 ∨ x = 109 ∨ x = 110 ∨ x = 111 ∨ x = 112 ∨ x = 113 ∨ x = 114 ∨ x = 115 ∨ x = 116 ∨ x = 117 ∨ x = 118 := by omega
    rcases c5 with rfl | rfl | rfl | rfl | rfl | rfl | rfl | rfl | rfl | rfl | rfl | rfl | rfl | rfl | rfl | rfl | rfl | rfl | rfl | rfl | rfl
    · exact wm_tableIn (tgt := 138) (off := 133) d_MM_wordKind_5 ix (by decide) (by decide) rfl rfl (B138 hh)
    · exact wm_tableIn (tgt := 104) (off := 99) d_MM_wordKind_5 ix (by decide) (by decide) rfl rfl (B104 hh)
    · exact wm_tableIn (tgt := 327) (off := 322) d_MM_wordKind_5 ix (by decide) (by decide) rfl rfl (B327 (kw_none (wl_hd hh (by decide)) (wl_hd hh (by decide)) (wl_hd hh (by decide)) (wl_hd hh (by decide)) (wl_hd hh (by decide)) (wl_hd hh (by decide)) (wl_hd hh (by decide)) (wl_hd hh (by decide)) (wl_hd hh (by decide)) (wl_hd hh (by decide)) (wl_hd hh (by decide)) (wl_hd hh (by decide)) (wl_hd hh (by decide))))
    · exact wm_tableIn (tgt := 327) (off := 322) d_MM_wordKind_5 ix (by decide) (by decide) rfl rfl (B327 (kw_none (wl_hd hh (by decide)) (wl_hd hh (by decide)) (wl_hd hh (by decide)) (wl_hd hh (by decide)) (wl_hd hh (by decide)) (wl_hd hh (by decide)) (wl_hd hh (by decide)) (wl_hd hh (by decide)) (wl_hd hh (by decide)) (wl_hd hh (by decide)) (wl_hd hh (by decide)) (wl_hd hh (by decide)) (wl_hd hh (by decide))))
    · exact wm_tableIn (tgt := 155) (off := 150) d_MM_wordKind_5 ix (by decide) (by decide) rfl rfl (B155 hh)
    · exact wm_tableIn (tgt := 327) (off := 322) d_MM_wordKind_5 ix (by decide) (by decide) rfl rfl (B327 (kw_none (wl_hd hh (by decide)) (wl_hd hh (by decide)) (wl_hd hh (by decide)) (wl_hd hh (by decide)) (wl_hd hh (by decide)) (wl_hd hh (by decide)) (wl_hd hh (by decide)) (wl_hd hh (by decide)) (wl_hd hh (by decide)) (wl_hd hh (by decide)) (wl_hd hh (by decide)) (wl_hd hh (by decide)) (wl_hd hh (by decide))))
    · exact wm_tableIn (tgt := 327) (off := 322) d_MM_wordKind_5 ix (by decide) (by decide) rfl rfl (B327 (kw_none (wl_hd hh (by decide)) (wl_hd hh (by decide)) (wl_hd hh (by decide)) (wl_hd hh (by decide)) (wl_hd hh (by decide)) (wl_hd hh (by decide)) (wl_hd hh (by decide)) (wl_hd hh (by decide)) (wl_hd hh (by decide)) (wl_hd hh (by decide)) (wl_hd hh (by decide)) (wl_hd hh (by decide)) (wl_hd hh (by decide))))
    · exact wm_tableIn (tgt := 239) (off := 234) d_MM_wordKind_5 ix (by decide) (by decide) rfl rfl (B239 hh)
    · exact wm_tableIn (tgt := 327) (off := 322) d_MM_wordKind_5 ix (by decide) (by decide) rfl rfl (B327 (kw_none (wl_hd hh (by decide)) (wl_hd hh (by decide)) (wl_hd hh (by decide)) (wl_hd hh (by decide)) (wl_hd hh (by decide)) (wl_hd hh (by decide)) (wl_hd hh (by decide)) (wl_hd hh (by decide)) (wl_hd hh (by decide)) (wl_hd hh (by decide)) (wl_hd hh (by decide)) (wl_hd hh (by decide)) (wl_hd hh (by decide))))
    · exact wm_tableIn (tgt := 327) (off := 322) d_MM_wordKind_5 ix (by decide) (by decide) rfl rfl (B327 (kw_none (wl_hd hh (by decide)) (wl_hd hh (by decide)) (wl_hd hh (by decide)) (wl_hd hh (by decide)) (wl_hd hh (by decide)) (wl_hd hh (by decide)) (wl_hd hh (by decide)) (wl_hd hh (by decide)) (wl_hd hh (by decide)) (wl_hd hh (by decide)) (wl_hd hh (by decide)) (wl_hd hh (by decide)) (wl_hd hh (by decide))))
    · exact wm_tableIn (tgt := 309) (off := 304) d_MM_wordKind_5 ix (by decide) (by decide) rfl rfl (B309 hh)
    · exact wm_tableIn (tgt := 189) (off := 184) d_MM_wordKind_5 ix (by decide) (by decide) rfl rfl (B189 hh)
    · exact wm_tableIn (tgt := 327) (off := 322) d_MM_wordKind_5 ix (by decide) (by decide) rfl rfl (B327 (kw_none (wl_hd hh (by decide)) (wl_hd hh (by decide)) (wl_hd hh (by decide)) (wl_hd hh (by decide)) (wl_hd hh (by decide)) (wl_hd hh (by decide)) (wl_hd hh (by decide)) (wl_hd hh (by decide)) (wl_hd hh (by decide)) (wl_hd hh (by decide)) (wl_hd hh (by decide)) (wl_hd hh (by decide)) (wl_hd hh (by decide))))
    · exact wm_tableIn (tgt := 327) (off := 322) d_MM_wordKind_5 ix (by decide) (by decide) rfl rfl (B327 (kw_none (wl_hd hh (by decide)) (wl_hd hh (by decide)) (wl_hd hh (by decide)) (wl_hd hh (by decide)) (wl_hd hh (by decide)) (wl_hd hh (by decide)) (wl_hd hh (by decide)) (wl_hd hh (by decide)) (wl_hd hh (by decide)) (wl_hd hh (by decide)) (wl_hd hh (by decide)) (wl_hd hh (by decide)) (wl_hd hh (by decide))))
    · exact wm_tableIn (tgt := 327) (off := 322) d_MM_wordKind_5 ix (by decide) (by decide) rfl rfl (B327 (kw_none (wl_hd hh (by decide)) (wl_hd hh (by decide)) (wl_hd hh (by decide)) (wl_hd hh (by decide)) (wl_hd hh (by decide)) (wl_hd hh (by decide)) (wl_hd hh (by decide)) (wl_hd hh (by decide)) (wl_hd hh (by decide)) (wl_hd hh (by decide)) (wl_hd hh (by decide)) (wl_hd hh (by decide)) (wl_hd hh (by decide))))
    · exact wm_tableIn (tgt := 327) (off := 322) d_MM_wordKind_5 ix (by decide) (by decide) rfl rfl (B327 (kw_none (wl_hd hh (by decide)) (wl_hd hh (by decide)) (wl_hd hh (by decide)) (wl_hd hh (by decide)) (wl_hd hh (by decide)) (wl_hd hh (by decide)) (wl_hd hh (by decide)) (wl_hd hh (by decide)) (wl_hd hh (by decide)) (wl_hd hh (by decide)) (wl_hd hh (by decide)) (wl_hd hh (by decide)) (wl_hd hh (by decide))))
    · exact wm_tableIn (tgt := 327) (off := 322) d_MM_wordKind_5 ix (by decide) (by decide) rfl rfl (B327 (kw_none (wl_hd hh (by decide)) (wl_hd hh (by decide)) (wl_hd hh (by decide)) (wl_hd hh (by decide)) (wl_hd hh (by decide)) (wl_hd hh (by decide)) (wl_hd hh (by decide)) (wl_hd hh (by decide)) (wl_hd hh (by decide)) (wl_hd hh (by decide)) (wl_hd hh (by decide)) (wl_hd hh (by decide)) (wl_hd hh (by decide))))
    · exact wm_tableIn (tgt := 257) (off := 252) d_MM_wordKind_5 ix (by decide) (by decide) rfl rfl (B257 hh)
    · exact wm_tableIn (tgt := 275) (off := 270) d_MM_wordKind_5 ix (by decide) (by decide) rfl rfl (B275 hh)
    · exact wm_tableIn (tgt := 327) (off := 322) d_MM_wordKind_5 ix (by decide) (by decide) rfl rfl (B327 (kw_none (wl_hd hh (by decide)) (wl_hd hh (by decide)) (wl_hd hh (by decide)) (wl_hd hh (by decide)) (wl_hd hh (by decide)) (wl_hd hh (by decide)) (wl_hd hh (by decide)) (wl_hd hh (by decide)) (wl_hd hh (by decide)) (wl_hd hh (by decide)) (wl_hd hh (by decide)) (wl_hd hh (by decide)) (wl_hd hh (by decide))))
    · exact wm_tableIn (tgt := 121) (off := 116) d_MM_wordKind_5 ix (by decide) (by decide) rfl rfl (B121 hh)
end NAM
theorem WKs.of {G : mG} (h : LT G) : WKs G := fun d a f e M hO hw h1 h2 h3 h4 => (s_MM_wordKind h.1 h.2.2 hO hw ⟨by omega, h1, h3⟩ h2).mono (fun _ _ q => ⟨q.1, q.2.1⟩)
theorem NSs.of {G : mG} (h : LT G) : NSs G := fun d w T A B D N C p n M hO hw h1 h2 h3 => (s_Wo_nameSort h.1 h.2.1 hO hw h1 h3).mono (fun _ _ q => ⟨q.1, q.2.1⟩)
end
section
section
/-! The reference: one step of the grammar, exactly. -/
/-- a step of the grammar, and why it fails where it fails -/
def pQx (M : mM) (a : Nat) (st : List Int) (x nx r : Int) (M' : mM) : Prop := pQ M a st x nx r M' ∧ (r = -1 → ex x nx = none ∨ ∃ ys t, ex x nx = some (ys, t) ∧ dlv x ys = 1 ∧ 40 ≤ mI M a 7)
section PIX
variable {G : mG} {d a : Nat} {M M2 : mM} {st : List Int} {lv nx : Int}
theorem SI.donex {x nx : Int} {ys : List Int} {t : Nat} (h : SI M a (ys ++ st) lv M2) (he : ex x nx = some (ys, t)) (hl : lv = mI M a 7 + dlv x ys) (h4 : lv = mI M a 7 ∨ lv ≤ 40) : pQx M a st x nx (t : Int) M2 := ⟨h.done he hl h4, fun q => by omega⟩
theorem SI.fail0 {x nx : Int} {st' : List Int} (h : SI M a st' lv M2) (he : ex x nx = none) : pQx M a st x nx (-1) M2 := ⟨h.fail, fun _ => Or.inl he⟩
theorem SI.fail1 {x nx : Int} {st' ys : List Int} {t : Nat} (h : SI M a st' lv M2) (he : ex x nx = some (ys, t)) (hd : dlv x ys = 1) (h4 : 40 ≤ mI M a 7) : pQx M a st x nx (-1) M2 := ⟨h.fail, fun _ => Or.inr ⟨ys, t, he, hd, h4⟩⟩
theorem SI.levelx (h : SI M a st lv M2) (h1 : -1000000 ≤ lv) (h2 : lv ≤ 1000000) : Ci G y_MM_level d [vr a] M2 (fun r M3 => SI M a st (lv + 1) M3 ∧ (r = 0 ∨ r = 1) ∧ (r ≠ 0 → lv + 1 ≤ 40) ∧ (r = 0 → 40 ≤ lv)) := by
  have hk := h.k
  obtain ⟨m, f, s, l⟩ := h
  have w := m.2.1
  refine k_MM_level m.1 ?_
  rw [l]
  refine ⟨hk, ⟨by omega, by omega⟩, fun M3 e3 v hv => ?_⟩
  obtain ⟨m3, f3⟩ := mv_fld ⟨by omega, by omega⟩ m.1 w e3
  have l3 : mI M3 a 7 = lv + 1 := by rw [f3, if_pos rfl]
  rw [l3] at hv
  have s3 := m3.2.2.2.2 _ q11 (fun hq => hq)
  exact ⟨⟨m.trans (m3.mono (fun q hq => hq.elim) (fun x hx => hx) (fun q hq => by rw [hq]; exact w.lt q11)), fun j hj => by rw [f3, if_neg hj]; exact f j hj, s.same s3, l3⟩, by split at hv <;> omega, fun q => by split at hv <;> omega, fun q => by split at hv <;> omega⟩

theorem x_MM_ask (h : SI M a st lv M2) (hl : st.length ≤ 800) (h1 : -1000 ≤ lv) (h2 : lv ≤ 1000) : Ci G y_MM_ask (d + 2) [vr a] M2 (fun r M3 => SI M a (61 :: 33 :: 61 :: 75 :: st) (lv + 1) M3 ∧ ((r = -1 ∧ 40 ≤ lv) ∨ (r = 1 ∧ lv + 1 ≤ 40))) := by
  refine k_MM_ask h.ok ?_
  rw [h.r6]
  refine ⟨h.k, h.k6, (h.push (by omega) ⟨by omega, by omega⟩).mono (fun M3 h3 => ⟨h3.ok, h3.k, (s_MM_want (d := d) h3 (by rw [List.length_cons]; omega) ⟨by omega, by omega⟩ ⟨by omega, by omega⟩ ⟨by omega, by omega⟩).mono (fun M4 h4 => ⟨h4.ok, h4.k, (h4.levelx (by omega) (by omega)).mono (fun r M5 h5 => ?_)⟩)⟩)⟩
  obtain ⟨h5, r1, r2, r3⟩ := h5
  refine ⟨⟨by omega, by omega⟩, h5.ok, fun v hv => ⟨h5, ?_⟩⟩
  by_cases q : r = 0
  · rw [if_pos q] at hv; exact Or.inl ⟨hv, r3 q⟩
  · rw [if_neg q] at hv; exact Or.inr ⟨hv, r2 q⟩

theorem x_MM_anItem (hn : i32 nx) (hO : mOk M) (h : Wd M a) (hs : St M (a + 11) st) (hl : st.length ≤ 700) : Ci G y_MM_anItem (d + 2) [vr a, vi nx] M (pQx M a st 50 nx) := by
  have s0 := SI.start hO h hs
  have e50 : ex 50 nx = ex50 nx := rfl
  unfold ex50 at e50
  refine k_MM_anItem hO hn ⟨fun w => ?_, fun w => ?_⟩
  · rw [if_pos w] at e50
    exact s0.donex (ys := []) (t := 1) e50 (dl0 rfl rfl (by omega)) (Or.inl rfl)
  · rw [if_neg w] at e50
    rw [s0.r6]
    refine ⟨s0.k, s0.k6, s0.two (by omega) (i32s (by omega) (by omega)) (i32s (by omega) (by omega)) (fun M3 h3 => ?_)⟩
    rw [h3.r6]
    have hz : ∀ ys, c75 ys = 0 → c76 ys = 0 → mI M a 7 = mI M a 7 + dlv 50 ys := fun ys h1 h2 => by unfold dlv; rw [h1, h2, if_neg (by omega)]; omega
    refine ⟨fun w1 => ⟨h3.k, h3.k6, (h3.push (by simp only [List.length_cons]; omega) (i32s (by omega) (by omega))).mono (fun M4 h4 => ?_)⟩, fun w1 => ⟨fun w2 => ⟨h3.k, h3.k6, (h3.push (by simp only [List.length_cons]; omega) (i32s (by omega) (by omega))).mono (fun M4 h4 => ⟨h4.ok, h4.k, (s_MM_want (d := d) h4 (by simp only [List.length_cons]; omega) (i32s (by omega) (by omega)) (i32s (by omega) (by omega)) (i32s (by omega) (by omega))).mono (fun M5 h5 => ?_)⟩)⟩, fun w2 => ⟨fun w3 => ⟨h3.k, h3.k6, (h3.push (by simp only [List.length_cons]; omega) (i32s (by omega) (by omega))).mono (fun M4 h4 => ⟨h4.ok, h4.k, (s_MM_want (d := d) h4 (by simp only [List.length_cons]; omega) (i32s (by omega) (by omega)) (i32s (by omega) (by omega)) (i32s (by omega) (by omega))).mono (fun M5 h5 => ?_)⟩)⟩, fun w3 => ⟨fun w4 => ⟨h3.k, h3.k6, (h3.push (by simp only [List.length_cons]; omega) (i32s (by omega) (by omega))).mono (fun M4 h4 => ?_)⟩, fun w4 => ?_⟩⟩⟩⟩
    · rw [if_pos w1] at e50
      exact ⟨h4.ok, h4.donex (ys := [51, 34, 50]) (t := 1) e50 (hz _ (by decide) (by decide)) (Or.inl rfl)⟩
    · rw [if_neg w1, if_pos w2] at e50
      exact ⟨h5.ok, h5.donex (ys := [1, 33, 53, 54, 34, 50]) (t := 1) e50 (hz _ (by decide) (by decide)) (Or.inl rfl)⟩
    · rw [if_neg w1, if_neg w2, if_pos w3] at e50
      exact ⟨h5.ok, h5.donex (ys := [61, 17, 56, 57, 34, 50]) (t := 1) e50 (hz _ (by decide) (by decide)) (Or.inl rfl)⟩
    · rw [if_neg w1, if_neg w2, if_neg w3, if_pos w4] at e50
      exact ⟨h4.ok, h4.donex (ys := [61, 34, 50]) (t := 1) e50 (hz _ (by decide) (by decide)) (Or.inl rfl)⟩
    · rw [if_neg w1, if_neg w2, if_neg w3, if_neg w4] at e50
      exact h3.fail0 e50

theorem x_MM_set0 (hn : i32 nx) (hO : mOk M) (h : Wd M a) (hs : St M (a + 11) st) (hl : st.length ≤ 700) (h1 : -900 ≤ mI M a 7) (h2 : mI M a 7 ≤ 900) : Ci G y_MM_set0 (d + 2) [vr a, vi nx] M (pQx M a st 59 nx) := by
  have s0 := SI.start hO h hs
  have e0 : ex 59 nx = ex59 nx := rfl
  unfold ex59 at e0
  refine k_MM_set0 hO hn ⟨fun w => ⟨s0.k, (s0.levelx (by omega) (by omega)).mono (fun r M2 h2 => ?_)⟩, fun w => s0.fail0 (by rw [if_neg w] at e0; exact e0)⟩
  obtain ⟨h2, r1, r2, r3⟩ := h2
  rw [if_pos w] at e0
  refine ⟨⟨by omega, by omega⟩, h2.ok, fun q => h2.fail1 e0 (by decide) (r3 q), fun q => ?_⟩
  rw [h2.r6]
  refine ⟨h2.k, h2.k6, (h2.push (by omega) (i32s (by omega) (by omega))).mono (fun M3 h3 => ?_)⟩
  rw [h3.r6]
  refine ⟨h3.ok, h3.k, h3.k6, (h3.push (by simp only [List.length_cons]; omega) (i32s (by omega) (by omega))).mono (fun M4 h4 => ?_)⟩
  rw [h4.r6]
  refine ⟨h4.ok, h4.k, h4.k6, (h4.push (by simp only [List.length_cons]; omega) (i32s (by omega) (by omega))).mono (fun M5 h5 => ⟨h5.ok, h5.k, (s_MM_want (d := d) h5 (by simp only [List.length_cons]; omega) (i32s (by omega) (by omega)) (i32s (by omega) (by omega)) (i32s (by omega) (by omega))).mono (fun M6 h6 => ?_)⟩)⟩
  exact ⟨h6.ok, h6.donex (ys := [1, 38, 23, 61, 37, 75]) (t := 1) e0 (dl1 (by decide) (by decide) (by omega)) (Or.inr (r2 q))⟩

theorem ag_donex {x u v g r : Int} {M3 : mM} (s0 : SI M a st (mI M a 7) M) (hx : x ≠ 76) (hv : c75 [v, u] = 0 ∧ c76 [v, u] = 0) (e1 : g ≠ 0 → ex x nx = some ([v, u], 1)) (e2 : g = 0 → ex x nx = some ([], 0)) (h : (g = 0 ∧ r = 0 ∧ M3 = M) ∨ (g ≠ 0 ∧ r = 1 ∧ SI M a (v :: u :: st) (mI M a 7) M3)) : i32 r ∧ mOk M3 ∧ pQx M a st x nx r M3 := by
  rcases h with ⟨h1, h2, h3⟩ | ⟨h1, h2, h3⟩
  · subst h2 h3
    exact ⟨i32s (by omega) (by omega), s0.ok, s0.donex (ys := []) (t := 0) (e2 h1) (dl0 rfl rfl hx) (Or.inl rfl)⟩
  · subst h2
    exact ⟨i32s (by omega) (by omega), h3.ok, h3.donex (ys := [v, u]) (t := 1) (e1 h1) (dl0 hv.1 hv.2 hx) (Or.inl rfl)⟩

theorem x_MM_item {x : Int} (hx : x = 50 ∨ x = 51 ∨ x = 53 ∨ x = 54 ∨ x = 56 ∨ x = 57 ∨ x = 58 ∨ x = 59 ∨ x = 60) (hn : i32 nx) (hO : mOk M) (h : Wd M a) (hs : St M (a + 11) st) (hl : st.length ≤ 700) (h1 : -900 ≤ mI M a 7) (h2 : mI M a 7 ≤ 900) : Ci G y_MM_item (d + 3) [vr a, vi x, vi nx] M (pQx M a st x nx) := by
  have s0 := SI.start hO h hs
  refine k_MM_item hO (by rcases hx with q | q | q | q | q | q | q | q | q <;> rw [q] <;> exact i32s (by omega) (by omega)) hn ⟨fun w => ⟨s0.k, ?_⟩, fun w50 => ⟨fun w => ⟨s0.k, ?_⟩, fun w51 => ⟨fun w => ?_, fun w53 => ⟨fun w => ?_, fun w54 => ⟨fun w => ⟨s0.k, ?_⟩, fun w56 => ⟨fun w => ?_, fun w57 => ⟨fun w => ?_, fun w58 => ⟨fun w => ?_, fun w60 => ⟨s0.k, ?_⟩⟩⟩⟩⟩⟩⟩⟩⟩
  · subst w
    refine (x_MM_anItem (d := d) hn hO h hs hl).mono (fun r M2 h2 => ⟨?_, h2.1.1.1, h2⟩)
    rcases h2.1.2.2 with q | ⟨ys, t, e, q, -⟩
    · rw [q]; exact i32s (by omega) (by omega)
    · have c := ex_chk e
      unfold chk at c
      simp only [Bool.and_eq_true, decide_eq_true_eq] at c
      exact i32s (by omega) (by omega)
  · subst w
    refine (s_MM_want (d := d + 1) s0 (by omega) (i32s (by omega) (by omega)) (i32s (by omega) (by omega)) (i32s (by omega) (by omega))).mono (fun M2 h2 => ⟨h2.ok, h2.donex (ys := [1, 23, 61]) (t := 0) rfl (dl0 (by decide) (by decide) (by omega)) (Or.inl rfl)⟩)
  · subst w
    have e0 : ex 53 nx = ex53 nx := rfl
    unfold ex53 at e0
    refine ⟨fun w => ?_, fun w => ⟨s0.k, (s_MM_want (d := d + 1) s0 (by omega) (i32s (by omega) (by omega)) (i32s (by omega) (by omega)) (i32s (by omega) (by omega))).mono (fun M2 h2 => ⟨h2.ok, ?_⟩)⟩⟩
    · rw [if_pos w] at e0
      exact s0.donex (ys := []) (t := 1) e0 (dl0 rfl rfl (by omega)) (Or.inl rfl)
    · rw [if_neg w] at e0
      exact h2.donex (ys := [61, 16, 61]) (t := 0) e0 (dl0 (by decide) (by decide) (by omega)) (Or.inl rfl)
  · subst w
    have e0 : ex 54 nx = ex54 nx := rfl
    unfold ex54 at e0
    rw [s0.r6]
    refine ⟨fun w => ⟨s0.k, s0.k6, (s0.push (by omega) (i32s (by omega) (by omega))).mono (fun M2 h2 => ⟨h2.ok, ?_⟩)⟩, fun w => ?_⟩
    · rw [if_pos w] at e0
      exact h2.donex (ys := [61]) (t := 1) e0 (dl0 (by decide) (by decide) (by omega)) (Or.inl rfl)
    · rw [if_neg w] at e0
      exact s0.donex (ys := []) (t := 0) e0 (dl0 rfl rfl (by omega)) (Or.inl rfl)
  · subst w
    refine (s_MM_want (d := d + 1) s0 (by omega) (i32s (by omega) (by omega)) (i32s (by omega) (by omega)) (i32s (by omega) (by omega))).mono (fun M2 h2 => ⟨h2.ok, h2.donex (ys := [63, 33, 58]) (t := 0) rfl (dl0 (by decide) (by decide) (by omega)) (Or.inl rfl)⟩)
  · subst w
    intro v hv
    have e0 : ex 57 nx = ex57 nx := rfl
    unfold ex57 at e0
    refine ⟨s0.k, (s_MM_again (d := d + 1) s0 (by omega) (by split at hv <;> exact i32s (by omega) (by omega)) (i32s (by omega) (by omega)) (i32s (by omega) (by omega))).mono (fun r M3 h3 => ag_donex s0 (by omega) (by decide) (fun w => ?_) (fun w => ?_) h3)⟩
    · rw [if_pos (by split at hv <;> omega)] at e0; exact e0
    · rw [if_neg (by split at hv <;> omega)] at e0; exact e0
  · subst w
    have e0 : ex 58 nx = ex58 nx := rfl
    unfold ex58 at e0
    rw [s0.r6]
    refine ⟨fun w => ?_, fun w => ⟨s0.k, s0.k6, s0.two (by omega) (i32s (by omega) (by omega)) (i32s (by omega) (by omega)) (fun M3 h3 => ?_)⟩⟩
    · rw [if_pos w] at e0
      exact s0.donex (ys := []) (t := 1) e0 (dl0 rfl rfl (by omega)) (Or.inl rfl)
    · rw [if_neg w] at e0
      exact h3.donex (ys := [59, 60]) (t := 0) e0 (dl0 (by decide) (by decide) (by omega)) (Or.inl rfl)
  · subst w
    intro v hv
    have e0 : ex 60 nx = ex60 nx := rfl
    unfold ex60 at e0
    refine ⟨s0.k, (s_MM_again (d := d + 1) s0 (by omega) (by split at hv <;> exact i32s (by omega) (by omega)) (i32s (by omega) (by omega)) (i32s (by omega) (by omega))).mono (fun r M3 h3 => ag_donex s0 (by omega) (by decide) (fun w => ?_) (fun w => ?_) h3)⟩
    · rw [if_pos (by split at hv <;> omega)] at e0; exact e0
    · rw [if_neg (by split at hv <;> omega)] at e0; exact e0
  · have w59 : x = 59 := by omega
    subst w59
    refine (x_MM_set0 (d := d) hn hO h hs hl h1 h2).mono (fun r M2 h2 => ⟨?_, h2.1.1.1, h2⟩)
    rcases h2.1.2.2 with q | ⟨ys, t, e, q, -⟩
    · rw [q]; exact i32s (by omega) (by omega)
    · have c := ex_chk e
      unfold chk at c
      simp only [Bool.and_eq_true, decide_eq_true_eq] at c
      exact i32s (by omega) (by omega)

theorem x_MM_sign (hn : i32 nx) (hO : mOk M) (h : Wd M a) (hs : St M (a + 11) st) (hl : st.length ≤ 700) (h1 : -900 ≤ mI M a 7) (h2 : mI M a 7 ≤ 900) : Ci G y_MM_sign (d + 2) [vr a, vi nx] M (pQx M a st 73 nx) := by
  have s0 := SI.start hO h hs
  have e0 : ex 73 nx = ex73 nx := rfl
  unfold ex73 at e0
  refine k_MM_sign hO hn ⟨fun w1 => ?_, fun w1 => ⟨fun w2 => ?_, fun w2 => ⟨fun w3 => ?_, fun w3 => ⟨fun w4 => ?_, fun w4 => s0.fail0 (by rw [if_neg w1, if_neg w2, if_neg w3, if_neg w4] at e0; exact e0)⟩⟩⟩⟩
  · rw [if_pos w1] at e0
    exact s0.donex (ys := []) (t := 1) e0 (dl0 rfl rfl (by omega)) (Or.inl rfl)
  · rw [if_neg w1, if_pos w2] at e0
    rw [s0.r6]
    refine ⟨s0.k, s0.k6, (s0.push (by omega) (i32s (by omega) (by omega))).mono (fun M2 h2 => ?_)⟩
    rw [h2.r6]
    refine ⟨h2.ok, h2.k, h2.k6, (h2.push (by simp only [List.length_cons]; omega) (i32s (by omega) (by omega))).mono (fun M3 h3 => ?_)⟩
    rw [h3.r6]
    refine ⟨h3.ok, h3.k, h3.k6, (h3.push (by simp only [List.length_cons]; omega) (i32s (by omega) (by omega))).mono (fun M4 h4 => ?_)⟩
    rw [h4.r6]
    refine ⟨h4.ok, h4.k, h4.k6, (h4.push (by simp only [List.length_cons]; omega) (i32s (by omega) (by omega))).mono (fun M5 h5 => ?_)⟩
    rw [h5.r6]
    refine ⟨h5.ok, h5.k, h5.k6, (h5.push (by simp only [List.length_cons]; omega) (i32s (by omega) (by omega))).mono (fun M6 h6 => ⟨h6.ok, ?_⟩)⟩
    exact h6.donex (ys := [76, 61, 74, 37, 75]) (t := 1) e0 (by unfold dlv; rw [show c75 [76, 61, 74, 37, 75] = 1 by decide, show c76 [76, 61, 74, 37, 75] = 1 by decide, if_neg (by omega)]; omega) (Or.inl rfl)
  · rw [if_neg w1, if_neg w2, if_pos w3] at e0
    rw [s0.r6]
    refine ⟨s0.k, s0.k6, s0.two (by omega) (i32s (by omega) (by omega)) (i32s (by omega) (by omega)) (fun M3 h3 => ⟨h3.k, (h3.levelx (by omega) (by omega)).mono (fun r M4 h4 => ?_)⟩)⟩
    obtain ⟨h4, r1, r2, r3⟩ := h4
    refine ⟨i32s (by omega) (by omega), h4.ok, fun v hv => ?_⟩
    by_cases q : r = 0
    · rw [if_pos q] at hv; subst hv; exact h4.fail1 e0 (by decide) (r3 q)
    · rw [if_neg q] at hv; subst hv
      exact h4.donex (ys := [73, 75]) (t := 1) e0 (dl1 (by decide) (by decide) (by omega)) (Or.inr (r2 q))
  · rw [if_neg w1, if_neg w2, if_neg w3, if_pos w4] at e0
    rw [s0.r6]
    refine ⟨s0.k, s0.k6, (s0.push (by omega) (i32s (by omega) (by omega))).mono (fun M2 h2 => ?_)⟩
    rw [h2.r6]
    refine ⟨h2.ok, h2.k, h2.k6, h2.two (by simp only [List.length_cons]; omega) (i32s (by omega) (by omega)) (i32s (by omega) (by omega)) (fun M3 h3 => ⟨h3.k, (h3.levelx (by omega) (by omega)).mono (fun r M4 h4 => ?_)⟩)⟩
    obtain ⟨h4, r1, r2, r3⟩ := h4
    refine ⟨i32s (by omega) (by omega), h4.ok, fun v hv => ?_⟩
    by_cases q : r = 0
    · rw [if_pos q] at hv; subst hv; exact h4.fail1 e0 (by decide) (r3 q)
    · rw [if_neg q] at hv; subst hv
      exact h4.donex (ys := [61, 37, 75]) (t := 1) e0 (dl1 (by decide) (by decide) (by omega)) (Or.inr (r2 q))

theorem x_MM_rule0 {x : Int} (hx : x = 61 ∨ x = 62 ∨ x = 63 ∨ x = 64 ∨ x = 65 ∨ x = 66 ∨ x = 67 ∨ x = 68 ∨ x = 69 ∨ x = 70 ∨ x = 71 ∨ x = 72 ∨ x = 73 ∨ x = 74 ∨ x = 76) (hn : i32 nx) (hO : mOk M) (h : Wd M a) (hs : St M (a + 11) st) (hl : st.length ≤ 700) (h1 : -900 ≤ mI M a 7) (h2 : mI M a 7 ≤ 900) : Ci G y_MM_rule0 (d + 3) [vr a, vi x, vi nx] M (pQx M a st x nx) := by
  have s0 := SI.start hO h hs
  have hxb : 61 ≤ x ∧ x ≤ 76 := by omega
  have i2 : ∀ u : Int, 0 ≤ u → u ≤ 100 → i32 u := fun u a b => i32s (by omega) (by omega)
  refine k_MM_rule0 hO (i32s (by omega) (by omega)) hn ⟨fun w => ?_, fun n1 => ⟨fun w => ?_, fun n2 => ⟨fun w => ?_, fun n3 => ⟨fun w => ?_, fun n4 => ⟨fun w => ?_, fun n5 => ⟨fun w => ?_, fun n6 => ⟨fun w => ?_, fun n7 => ⟨fun w => ?_, fun n8 => ⟨fun w => ?_, fun n9 => ⟨fun w => ?_, fun n10 => ⟨fun w => ?_, fun n11 => ⟨fun w => ?_, fun n12 => ⟨fun w => ?_, fun n13 => ⟨fun w => ?_, fun n14 => ?_⟩⟩⟩⟩⟩⟩⟩⟩⟩⟩⟩⟩⟩⟩
  · subst w
    rw [s0.r6]
    exact ⟨s0.k, s0.k6, s0.two (by omega) (i2 _ (by omega) (by omega)) (i2 _ (by omega) (by omega)) (fun M3 h3 => h3.donex (ys := [63, 62]) (t := 0) rfl (dl0 (by decide) (by decide) (by omega)) (Or.inl rfl))⟩
  · subst w
    have e0 : ex 62 nx = ex62 nx := rfl
    unfold ex62 at e0
    refine ⟨fun w => ⟨s0.k, (x_MM_ask (d := d) s0 (by omega) (by omega) (by omega)).mono (fun r M2 h2 => ?_)⟩, fun w => ?_⟩
    · obtain ⟨h2, hr⟩ := h2
      rw [if_pos w] at e0
      rcases hr with ⟨q, q2⟩ | ⟨q, q2⟩
      · subst q
        exact ⟨i32s (by omega) (by omega), h2.ok, k_MM_rule0_114 h2.ok (i32s (by omega) (by omega)) (h2.fail1 e0 (by decide) q2)⟩
      · subst q
        exact ⟨i32s (by omega) (by omega), h2.ok, k_MM_rule0_114 h2.ok (i32s (by omega) (by omega)) (h2.donex (ys := [61, 33, 61, 75]) (t := 1) e0 (dl1 (by decide) (by decide) (by omega)) (Or.inr q2))⟩
    · rw [if_neg w] at e0
      exact k_MM_rule0_114 s0.ok (i32s (by omega) (by omega)) (s0.donex (ys := []) (t := 0) e0 (dl0 rfl rfl (by omega)) (Or.inl rfl))
  · subst w
    rw [s0.r6]
    exact ⟨s0.k, s0.k6, s0.two (by omega) (i2 _ (by omega) (by omega)) (i2 _ (by omega) (by omega)) (fun M3 h3 => h3.donex (ys := [65, 64]) (t := 0) rfl (dl0 (by decide) (by decide) (by omega)) (Or.inl rfl))⟩
  · subst w
    intro v hv
    have e0 : ex 64 nx = ex64 nx := rfl
    unfold ex64 at e0
    refine ⟨s0.k, (s_MM_again (d := d + 1) s0 (by omega) (by split at hv <;> exact i32s (by omega) (by omega)) (i2 _ (by omega) (by omega)) (i2 _ (by omega) (by omega))).mono (fun r M3 h3 => ag_donex s0 (by omega) (by decide) (fun w => ?_) (fun w => ?_) h3)⟩
    · rw [if_pos (by split at hv <;> omega)] at e0; exact e0
    · rw [if_neg (by split at hv <;> omega)] at e0; exact e0
  · subst w
    rw [s0.r6]
    exact ⟨s0.k, s0.k6, s0.two (by omega) (i2 _ (by omega) (by omega)) (i2 _ (by omega) (by omega)) (fun M3 h3 => h3.donex (ys := [67, 66]) (t := 0) rfl (dl0 (by decide) (by decide) (by omega)) (Or.inl rfl))⟩
  · subst w
    intro v hv
    have e0 : ex 66 nx = ex66 nx := rfl
    unfold ex66 at e0
    refine ⟨s0.k, (s_MM_again (d := d + 1) s0 (by omega) (by split at hv <;> exact i32s (by omega) (by omega)) (i2 _ (by omega) (by omega)) (i2 _ (by omega) (by omega))).mono (fun r M3 h3 => ag_donex s0 (by omega) (by decide) (fun w => ?_) (fun w => ?_) h3)⟩
    · rw [if_pos (by split at hv <;> omega)] at e0; exact e0
    · rw [if_neg (by split at hv <;> omega)] at e0; exact e0
  · subst w
    have e0 : ex 67 nx = ex67 nx := rfl
    unfold ex67 at e0
    rw [s0.r6]
    refine ⟨fun w => ⟨s0.k, s0.k6, s0.two (by omega) (i2 _ (by omega) (by omega)) (i2 _ (by omega) (by omega)) (fun M3 h3 => ⟨h3.k, (h3.levelx (by omega) (by omega)).mono (fun r M4 h4 => ?_)⟩)⟩, fun w => ⟨s0.k, s0.k6, s0.two (by omega) (i2 _ (by omega) (by omega)) (i2 _ (by omega) (by omega)) (fun M3 h3 => ?_)⟩⟩
    · obtain ⟨h4, r1, r2, r3⟩ := h4
      rw [if_pos w] at e0
      refine ⟨i32s (by omega) (by omega), h4.ok, fun v hv => ?_⟩
      by_cases q : r = 0
      · rw [if_pos q] at hv; subst hv; exact h4.fail1 e0 (by decide) (r3 q)
      · rw [if_neg q] at hv; subst hv
        exact h4.donex (ys := [67, 75]) (t := 1) e0 (dl1 (by decide) (by decide) (by omega)) (Or.inr (r2 q))
    · rw [if_neg w] at e0
      exact h3.donex (ys := [69, 68]) (t := 0) e0 (dl0 (by decide) (by decide) (by omega)) (Or.inl rfl)
  · subst w
    have e0 : ex 68 nx = ex68 nx := rfl
    unfold ex68 at e0
    refine (s_MM_isComparison hn hO).mono (fun r M2 h2 => ?_)
    obtain ⟨e2, r1, r2⟩ := h2
    subst e2
    rw [s0.r6]
    refine ⟨i32s (by omega) (by omega), hO, fun q => ?_, fun q => ⟨s0.k, s0.k6, (s0.push (by omega) (i2 _ (by omega) (by omega))).mono (fun M3 h3 => ⟨h3.ok, ?_⟩)⟩⟩
    · rw [if_neg (fun w => r2.2 w q)] at e0
      exact s0.donex (ys := []) (t := 0) e0 (dl0 rfl rfl (by omega)) (Or.inl rfl)
    · rw [if_pos (r2.1 q)] at e0
      exact h3.donex (ys := [69]) (t := 1) e0 (dl0 (by decide) (by decide) (by omega)) (Or.inl rfl)
  · subst w
    rw [s0.r6]
    exact ⟨s0.k, s0.k6, s0.two (by omega) (i2 _ (by omega) (by omega)) (i2 _ (by omega) (by omega)) (fun M3 h3 => h3.donex (ys := [71, 70]) (t := 0) rfl (dl0 (by decide) (by decide) (by omega)) (Or.inl rfl))⟩
  · subst w
    intro v hv
    have e0 : ex 70 nx = ex70 nx := rfl
    unfold ex70 at e0
    refine ⟨s0.k, (s_MM_again (d := d + 1) s0 (by omega) (by split at hv <;> exact i32s (by omega) (by omega)) (i2 _ (by omega) (by omega)) (i2 _ (by omega) (by omega))).mono (fun r M3 h3 => ag_donex s0 (by omega) (by decide) (fun w => ?_) (fun w => ?_) h3)⟩
    · rw [if_pos (by split at hv <;> omega)] at e0; exact e0
    · rw [if_neg (by split at hv <;> omega)] at e0; exact e0
  · subst w
    rw [s0.r6]
    exact ⟨s0.k, s0.k6, s0.two (by omega) (i2 _ (by omega) (by omega)) (i2 _ (by omega) (by omega)) (fun M3 h3 => h3.donex (ys := [73, 72]) (t := 0) rfl (dl0 (by decide) (by decide) (by omega)) (Or.inl rfl))⟩
  · subst w
    intro v hv
    have e0 : ex 72 nx = ex72 nx := rfl
    unfold ex72 at e0
    refine ⟨s0.k, (s_MM_again (d := d + 1) s0 (by omega) (by split at hv <;> exact i32s (by omega) (by omega)) (i2 _ (by omega) (by omega)) (i2 _ (by omega) (by omega))).mono (fun r M3 h3 => ag_donex s0 (by omega) (by decide) (fun w => ?_) (fun w => ?_) h3)⟩
    · rw [if_pos (by split at hv <;> omega)] at e0; exact e0
    · rw [if_neg (by split at hv <;> omega)] at e0; exact e0
  · subst w
    intro v hv
    have e0 : ex 74 nx = ex74 nx := rfl
    unfold ex74 at e0
    refine ⟨s0.k, (s_MM_again (d := d + 1) s0 (by omega) (by split at hv <;> exact i32s (by omega) (by omega)) (i2 _ (by omega) (by omega)) (i2 _ (by omega) (by omega))).mono (fun r M3 h3 => ag_donex s0 (by omega) (by decide) (fun w => ?_) (fun w => ?_) h3)⟩
    · rw [if_pos (by split at hv <;> omega)] at e0; exact e0
    · rw [if_neg (by split at hv <;> omega)] at e0; exact e0
  · subst w
    have e0 : ex 76 nx = ex76 nx := rfl
    unfold ex76 at e0
    refine ⟨fun w => ⟨s0.k, (s0.levelx (by omega) (by omega)).mono (fun r M4 h4 => ?_)⟩, fun w => k_MM_rule0_408 hO (i32s (by omega) (by omega)) (s0.fail0 (by rw [if_neg w] at e0; exact e0))⟩
    obtain ⟨h4, r1, r2, r3⟩ := h4
    rw [if_pos w] at e0
    exact ⟨i32s (by omega) (by omega), h4.ok, fun q => k_MM_rule0_408 h4.ok (i32s (by omega) (by omega)) (h4.fail1 e0 (by decide) (r3 q)), fun q => k_MM_rule0_408 h4.ok (i32s (by omega) (by omega)) (h4.donex (ys := []) (t := 1) e0 (by unfold dlv; rw [if_pos rfl]; show _ = _ + (((0 : Nat) : Int) - ((0 : Nat) : Int) + 1); omega) (Or.inr (r2 q)))⟩
  · have w : x = 73 := by omega
    subst w
    exact ⟨s0.k, (x_MM_sign (d := d) hn hO h hs hl h1 h2).mono (fun r M2 h2 => ⟨pq_i32 h2.1, h2.1.1.1, h2⟩)⟩

end PIX
end
section
/-! The reference: readText, exactly. -/
/-- what readText tells -/
def rdV (M : mM) (a N : Nat) (v : Int) (M' : mM) : Prop := (v = 0 ∧ ∃ q : Nat, mI M' a 8 = q ∧ ∀ W : Nat → Int, (∀ j, j < N → W j = nt M (a + 5) j) → Rf W [50] 0 q) ∨ (v = 1 ∧ ∀ W : Nat → Int, (∀ j, j < N → W j = nt M (a + 5) j) → Rc W [50] 0 [] N)
section RTX
variable {G : mG} {d a : Nat} {M : mM} {N : Nat}
theorem slv_cons {M : mM} {a : Nat} {st : List Int} (h : mI M a 7 = (c75 st : Int) - c76 st) : slv st = mI M a 7 := h.symm
theorem x_MM_readText (hO : mOk M) (h : Wd M a) (hw : wrds M a N) : Ci G y_MM_readText (d + 4) [vr a] M (fun v M' => rdQ M a N v M' ∧ rdV M a N v M') := by
  obtain ⟨n1, n2, n3, n4, n5⟩ := hw
  have i5 : a + 5 ∈ nums a := nums_o (by decide)
  refine k_MM_readText hO ?_
  rw [h.1.2.2.1.2.2.2]
  refine ⟨h.1.1, (h.nu q11).1, fun M1 e1 M2 e2 M3 e3 => ?_⟩
  obtain ⟨m1, l1, -⟩ := mv_set hO h q11 (v := 0) (by omega) (h.nu q11).2.2.2.1.1 e1
  have w1 := m1.2.1
  have f1 := (m1.fld h (fun q hq => by rw [hq]; exact q11) (fun hq => hq)).1
  have r1 : rdI M a M1 := ⟨m1.mono (fun q hq => hq) (fun x hx => hx.elim) (fun q hq => by rw [hq]; exact h.lt q11), fun j _ _ => by rw [f1]⟩
  obtain ⟨r2, f2, s2⟩ := r1.fld (i32s (by omega) (by omega)) (Or.inl rfl) e2
  obtain ⟨r3, f3, s3⟩ := r2.fld (i32s (by omega) (by omega)) (Or.inr rfl) e3
  have w3 := r3.1.2.1
  have l3 : ln M3 (a + 11) = 0 := by rw [(s3 _ q11).1, (s2 _ q11).1]; exact l1
  rw [w3.1.2.2.1.2.2.2]
  refine ⟨(w3.nu q11).1, (s_MN_add (i32s (by omega) (by omega)) r3.1.1 (w3.nu q11) (by omega)).mono (fun M4 t4 => ?_)⟩
  have m4 := mv_add w3 q11 t4
  have f4 := (m4.fld w3 (fun q hq => by rw [hq]; exact q11) (fun hq => hq)).1
  have r4 : rdI M a M4 := ⟨r3.1.trans (m4.mono (fun q hq => hq) (fun x hx => hx.elim) (fun q hq => by rw [hq]; exact w3.lt q11)), fun j j7 j8 => by rw [f4]; exact r3.2 j j7 j8⟩
  have st4 : St M4 (a + 11) [50] := St.add (st := []) ⟨l3, fun i hi => by simp at hi⟩ t4
  refine ⟨m4.1, ?_⟩
  -- a wrong word ends it
  have hbad : ∀ (M5 : mM) (k : Nat), rdI M a M5 → 0 ≤ mI M5 a 8 → mI M5 a 8 < N → k ≤ 20000 → (∃ q : Nat, mI M5 a 8 = q ∧ ∀ W : Nat → Int, (∀ j, j < N → W j = nt M (a + 5) j) → Rf W [50] 0 q) → h_MM_readText_29 G (d + 3) a k M5 (fun v M' => rdQ M a N v M' ∧ rdV M a N v M') := fun M5 k r5 b0 b1 hk hq => by
    refine k_MM_readText_29 r5.1.1 (i32s (by omega) (by omega)) ⟨r5.1.2.1.1.1, fun q => absurd b0 q, fun _ v hv => ?_, fun q => absurd (Or.inl b0) q⟩
    rw [if_pos b0] at hv
    exact ⟨⟨r5, Or.inl ⟨hv, b0, b1⟩⟩, Or.inl ⟨hv, hq⟩⟩
  suffices H : ∀ (μ k : Nat) (st : List Int) (M5 : mM), (N - k) * 40 + swt st ≤ μ → rdI M a M5 → mI M5 a 8 = -1 → St M5 (a + 11) st → gdS st → mI M5 a 7 = (c75 st : Int) - c76 st → mI M5 a 7 ≤ 40 → ((st = [] ∧ k = N ∧ nt M (a + 5) (N - 1) = 0) ∨ (k < N ∧ ∃ s, st = s ++ [50] ∧ 50 ∉ s)) → (∀ f, Ac (nt M (a + 5)) N f st k → ∃ f', Ac (nt M (a + 5)) N f' [50] 0) → (∀ W : Nat → Int, (∀ j, j < N → W j = nt M (a + 5) j) → Rc W [50] 0 st k) → h_MM_readText_29 G (d + 3) a k M5 (fun v M' => rdQ M a N v M' ∧ rdV M a N v M') by
    refine H _ 0 [50] M4 (Nat.le_refl _) r4 (by rw [f4, f3, if_pos rfl]) st4 ⟨⟨by decide, trivial⟩, fun x hx => by rw [List.mem_singleton.1 hx]; decide, by decide⟩ (by rw [f4, f3, if_neg (by omega), f2, if_pos rfl]; rfl) (by rw [f4, f3, if_neg (by omega), f2, if_pos rfl]; omega) (Or.inr ⟨by omega, [], rfl, by simp⟩) (fun f hf => ⟨f, hf⟩) (fun _ _ => Rc.refl)
  intro μ
  induction μ with
  | zero =>
    intro k st M5 hμ r5 b5 s5 g5 l5 l4 bt ac rc
    rcases bt with ⟨e1, e2, e3⟩ | ⟨e1, -⟩
    · subst e1
      refine k_MM_readText_29 r5.1.1 (i32s (by omega) (by omega)) ?_
      have w5 := r5.1.2.1
      rw [w5.1.2.2.1.2.2.2]
      refine ⟨w5.1.1, fun _ => (w5.nu q11).1, fun _ v hv => ?_, fun q => absurd (Or.inr (by have := s5.1; exact Int.le_of_eq this)) q⟩
      rw [if_neg (by omega)] at hv
      exact ⟨⟨r5, Or.inr ⟨hv, e3, ac 0 ⟨rfl, e2⟩⟩⟩, Or.inr ⟨hv, fun W hW => by have := rc W hW; rw [e2] at this; exact this⟩⟩
    · omega
  | succ μ ih =>
    intro k st M5 hμ r5 b5 s5 g5 l5 l4 bt ac rc
    have w5 := r5.1.2.1
    have o5 := r5.1.1
    cases st with
    | nil =>
      rcases bt with ⟨-, e2, e3⟩ | ⟨-, s, e2, -⟩
      · refine k_MM_readText_29 o5 (i32s (by omega) (by omega)) ?_
        rw [w5.1.2.2.1.2.2.2]
        refine ⟨w5.1.1, fun _ => (w5.nu q11).1, fun _ v hv => ?_, fun q => absurd (Or.inr (by have := s5.1; exact Int.le_of_eq this)) q⟩
        rw [if_neg (by omega)] at hv
        exact ⟨⟨r5, Or.inr ⟨hv, e3, ac 0 ⟨rfl, e2⟩⟩⟩, Or.inr ⟨hv, fun W hW => by have := rc W hW; rw [e2] at this; exact this⟩⟩
      · exact absurd e2 (by simp)
    | cons x r =>
      obtain ⟨hkN, s, hs1, hs2⟩ : k < N ∧ ∃ s, x :: r = s ++ [50] ∧ 50 ∉ s := by
        rcases bt with ⟨e1, -, -⟩ | w
        · exact absurd e1 (by simp)
        · exact w
      have hlen := g5.len l5 l4
      have hxs := g5.2.1 x (List.mem_cons_self ..)
      have hxb := sgs_b x hxs
      -- the rest of the pile, where x is not the bottom
      have hrest : x ≠ 50 → ∃ s', r = s' ++ [50] ∧ 50 ∉ s' := fun hx => by
        cases s with
        | nil =>
          have : x = 50 := by
            have := hs1
            simp at this
            exact this.1
          exact absurd this hx
        | cons y s' =>
          rw [List.cons_append] at hs1
          obtain ⟨-, e⟩ := List.cons.inj hs1
          exact ⟨s', e, fun q => hs2 (List.mem_cons_of_mem _ q)⟩
      have hbot : x = 50 → r = [] := fun hx => by
        cases s with
        | nil =>
          have := hs1
          simp at this
          exact this.2
        | cons y s' =>
          rw [List.cons_append] at hs1
          obtain ⟨e, -⟩ := List.cons.inj hs1
          exact absurd (by rw [← e, hx]; exact List.mem_cons_self ..) hs2
      have sN := r5.1.2.2.2.2 (a + 5) i5 (by omega)
      have el : mI M5 (a + 11) 1 = (r.length : Int) + 1 := by have := s5.1; rw [List.length_cons] at this; unfold ln at this; omega
      refine k_MM_readText_29 o5 (i32s (by omega) (by omega)) ?_
      rw [w5.1.2.2.1.2.2.2, el, b5]
      refine ⟨w5.1.1, fun _ => (w5.nu q11).1, fun q => by omega, fun _ => ⟨(w5.nu q11).1, (s_MN_take o5 (w5.nu q11) (by have := s5.1; rw [List.length_cons] at this; omega)).mono (fun y M6 t6 => ?_)⟩⟩
      obtain ⟨s6, ey⟩ := s5.take t6
      subst ey
      have m6 := mv_take w5 q11 t6
      have w6 := m6.2.1
      have f6 := (m6.fld w5 (fun q hq => by rw [hq]; exact q11) (fun hq => hq)).1
      have sN6 := m6.2.2.2.2 (a + 5) i5 (by omega)
      have r6 : rdI M a M6 := ⟨r5.1.trans (m6.mono (fun q hq => hq) (fun z hz => hz.elim) (fun q hq => by rw [hq]; exact w5.lt q11)), fun j j7 j8 => by rw [f6]; exact r5.2 j j7 j8⟩
      rw [w6.1.2.2.1.1]
      refine ⟨i32s (by omega) (by omega), t6.1, w6.1.1, (w6.nu i5).1, (s_MN_at t6.1 (w6.nu i5) (by rw [sN6.1, sN.1, n3]; omega)).mono (fun nx M7 h7 => ?_)⟩
      obtain ⟨e7, hnx⟩ := h7
      subst e7
      rw [sN6.2.1, sN.2.1] at hnx
      have hnx32 : i32 nx := by rw [hnx]; exact (hO _ _).1
      have o7 := t6.1
      refine ⟨hnx32, o7, fun x75 => ?_, fun x75 => ⟨fun x50 => ?_, fun x50 => ?_⟩⟩
      · -- a level ends
        rw [f6]
        refine ⟨w6.1.1, i32s (by omega) (by omega), fun M8 e8 => ?_⟩
        obtain ⟨r8, f8, s8⟩ := r6.fld (i32s (by omega) (by omega)) (Or.inl rfl) e8
        have c1 : c75 (y :: r) = 1 + c75 r := by show (if y = 75 then 1 else 0) + c75 r = _; rw [if_pos x75]
        have c2 : c76 (y :: r) = c76 r := by show (if y = 76 then 1 else 0) + c76 r = _; rw [if_neg (by omega)]; omega
        refine ih k r M8 ?_ r8 (by rw [f8, if_neg (by omega), f6]; exact b5) (s6.same (s8 _ q11)) ⟨g5.1.2, fun z hz => g5.2.1 z (List.mem_cons_of_mem _ hz), fun q => g5.2.2 (List.mem_of_mem_tail q)⟩ (by rw [f8, if_pos rfl]; omega) (by rw [f8, if_pos rfl]; omega) (Or.inr ⟨hkN, hrest (by omega)⟩) (fun f hf => ac (f + 1) ?_) (fun W hW => (rc W hW).trans (Rc.zero (by rw [x75]; exact mst_75)))
        · have e : swt (y :: r) = wgt y + swt r := rfl
          have := wgt_pos (x := y)
          omega
        · show (if y = 75 then Ac _ N f r k else _)
          rw [if_pos x75]
          exact hf
      · -- a step of the grammar
        have hpq : ∀ (rr : Int) (M8 : mM), pQx M7 a r y nx rr M8 → h_MM_readText_129 G (d + 3) a k rr M8 (fun v M' => rdQ M a N v M' ∧ rdV M a N v M') := fun rr M8 p8 => by
          obtain ⟨⟨m8, f8, pr⟩, pf⟩ := p8
          have sl : slv (y :: r) = mI M7 a 7 := by rw [f6]; exact slv_cons l5
          have r8 : rdI M a M8 := ⟨r6.1.trans m8, fun j j7 j8 => by rw [f8 j j7]; exact r6.2 j j7 j8⟩
          have b8 : mI M8 a 8 = -1 := by rw [f8 8 (by omega), f6]; exact b5
          have hrr : i32 rr := by
            rcases pr with q | ⟨ys, t, e, q, -⟩
            · rw [q]; exact i32s (by omega) (by omega)
            · have := (g5.step e).2.1
              exact i32s (by omega) (by omega)
          refine k_MM_readText_129 m8.1 (i32s (by omega) (by omega)) hrr (fun v hv => ⟨m8.2.1.1.1, fun M9 e9 u hu => ?_⟩)
          obtain ⟨r9, f9, s9⟩ := r8.fld (v := v) (by split at hv <;> exact i32s (by omega) (by omega)) (Or.inr rfl) e9
          have b9 : mI M9 a 8 = v := by rw [f9, if_pos rfl]
          rcases pr with q | ⟨ys, t, e, q, sY, l8, l8'⟩
          · subst q
            rw [if_neg (by omega)] at hv
            rw [if_pos (by omega)] at hu
            subst hu
            exact hbad M9 k r9 (by omega) (by omega) (by omega) ⟨k, by rw [b9]; exact hv, fun W hW => (rc W hW).rf (Rf.of (by
              rw [hW k hkN, ← hnx]
              rcases pf rfl with pf | ⟨ys, t, p1, p2, p3⟩
              · exact mst_no x50 x75 pf
              · exact mst_deep x50 x75 p1 p2 (by rw [sl]; exact p3)))⟩
          · subst q
            obtain ⟨gd, t01, wt, h50, hn50⟩ := g5.step e
            rw [if_pos (by omega)] at hv
            have l9 : mI M9 a 7 = mI M8 a 7 := by rw [f9, if_neg (by omega)]
            have hu' : u = ((k + t : Nat) : Int) := by
              rcases t01 with z | z
              · rw [if_pos (by omega)] at hu; omega
              · rw [if_neg (by omega)] at hu; omega
            rw [hu']
            have hlast : t = 1 → k + 1 = N → y = 50 ∧ nx = 0 ∧ ys = [] := fun z1 z2 => by
              subst z1
              refine ex_t1 e ?_
              rw [hnx, show k = N - 1 by omega]
              exact n5
            refine ih (k + t) (ys ++ r) M9 ?_ r9 (by omega) (sY.same (s9 _ q11)) gd ?_ (by rw [l9]; rcases l8' with z | z; rw [z, f6]; exact l4; exact z) ?_ (fun f hf => ac (f + 1) ?_) (fun W hW => (rc W hW).trans (Rc.one (mst_n x50 x75 (by rw [hW k hkN, ← hnx]; exact e) (by
              rw [sl]
              by_cases dd : dlv y ys = 1
              · right
                rw [dd] at l8
                rcases l8' with z | z
                · omega
                · omega
              · exact Or.inl dd))))
            · have e1 : swt (y :: r) = wgt y + swt r := rfl
              rw [swt_app]
              rcases t01 with z | z <;> subst z <;> omega
            · rw [l9, l8, f6, l5, c75_app, c76_app]
              unfold dlv
              have e1 : c75 (y :: r) = (if y = 75 then 1 else 0) + c75 r := rfl
              have e2 : c76 (y :: r) = (if y = 76 then 1 else 0) + c76 r := rfl
              rw [if_neg x75] at e1
              by_cases z : y = 76
              · rw [if_pos z] at e2 ⊢
                omega
              · rw [if_neg z] at e2 ⊢
                omega
            · by_cases z : t = 1 ∧ k + 1 = N
              · obtain ⟨z1, z2, z3⟩ := hlast z.1 z.2
                left
                refine ⟨by rw [z3, hbot z1]; rfl, by omega, ?_⟩
                rw [show N - 1 = k by omega, ← hnx]
                exact z2
              · right
                refine ⟨by omega, ?_⟩
                by_cases y5 : y = 50
                · rcases h50 y5 with z1 | ⟨s', z1, z2⟩
                  · -- nothing is put down only at the end
                    exfalso
                    subst y5 z1
                    have he : ex 50 nx = ex50 nx := rfl
                    rw [he] at e
                    unfold ex50 at e
                    have hn0 : nx = 0 := by
                      refine Classical.byContradiction (fun hn => ?_)
                      rw [if_neg hn] at e
                      repeat' (first | (cases e; done) | (split at e))
                      all_goals cases e
                    have hk1 : k + 1 = N := by
                      refine Classical.byContradiction (fun hk => ?_)
                      have := n4 k (by omega)
                      omega
                    rw [if_pos hn0] at e
                    cases e
                    exact z ⟨rfl, hk1⟩
                  · rw [z1, hbot y5]
                    exact ⟨s', by simp, z2⟩
                · obtain ⟨s', z1, z2⟩ := hrest y5
                  refine ⟨ys ++ s', by rw [z1, List.append_assoc], fun w => ?_⟩
                  rcases List.mem_append.1 w with w | w
                  · exact hn50 y5 w
                  · exact z2 w
            · show (if y = 75 then _ else if y < 50 then _ else ∃ ys t, ex y (nt M (a + 5) k) = some (ys, t) ∧ Ac _ N f (ys ++ r) (k + t))
              rw [if_neg x75, if_neg (by omega), ← hnx]
              exact ⟨ys, t, e, hf⟩
        have c76r : c76 r = 0 := c76_no r g5.2.2
        have lv6 : mI M7 a 7 = mI M5 a 7 := by rw [f6]
        rw [List.length_cons] at hlen
        refine ⟨fun x61 => ⟨w6.1.1, (x_MM_rule0 (d := d) (sgs_rule y hxs x61 x75) hnx32 o7 w6 s6 (by omega) (by omega) (by omega)).mono (fun rr M8 p8 => ⟨pq_i32 p8.1, p8.1.1.1, hpq rr M8 p8⟩)⟩, fun x61 => ⟨w6.1.1, (x_MM_item (d := d) (sgs_item y hxs x50 (by omega)) hnx32 o7 w6 s6 (by omega) (by omega) (by omega)).mono (fun rr M8 p8 => ⟨pq_i32 p8.1, p8.1.1.1, hpq rr M8 p8⟩)⟩⟩
      · -- a word is wanted
        intro v hv
        refine ⟨w6.1.1, fun M8 e8 => ?_⟩
        obtain ⟨r8, f8, s8⟩ := r6.fld (v := v) (by split at hv <;> exact i32s (by omega) (by omega)) (Or.inr rfl) e8
        have b8 : mI M8 a 8 = v := by rw [f8, if_pos rfl]
        by_cases z : y = nx
        · rw [if_pos z] at hv
          have ht := sgs_term y hxs (by omega)
          have hk1 : k + 1 < N := by
            refine Classical.byContradiction (fun hk => ?_)
            rw [show k = N - 1 by omega] at hnx
            omega
          have c1 : c75 (y :: r) = c75 r := by show (if y = 75 then 1 else 0) + c75 r = _; rw [if_neg x75]; omega
          have c2 : c76 (y :: r) = c76 r := by show (if y = 76 then 1 else 0) + c76 r = _; rw [if_neg (by omega)]; omega
          have l8 : mI M8 a 7 = mI M5 a 7 := by rw [f8, if_neg (by omega), f6]
          refine ih (k + 1) r M8 ?_ r8 (by omega) (s6.same (s8 _ q11)) ⟨g5.1.2, fun z hz => g5.2.1 z (List.mem_cons_of_mem _ hz), fun q => g5.2.2 (List.mem_of_mem_tail q)⟩ (by omega) (by omega) (Or.inr ⟨hk1, hrest (by omega)⟩) (fun f hf => ac (f + 1) ?_) (fun W hW => (rc W hW).trans (Rc.one (mst_t (by omega) (by rw [hW k hkN, ← hnx]; exact z))))
          · have e : swt (y :: r) = wgt y + swt r := rfl
            have := wgt_pos (x := y)
            omega
          · show (if y = 75 then _ else if y < 50 then nt M (a + 5) k = y ∧ Ac _ N f r (k + 1) else _)
            rw [if_neg x75, if_pos (by omega)]
            exact ⟨by rw [← hnx, z], hf⟩
        · rw [if_neg z] at hv
          exact hbad M8 (k + 1) r8 (by omega) (by omega) (by omega) ⟨k, by rw [b8]; exact hv, fun W hW => (rc W hW).rf (Rf.of (mst_tn (by omega) (by rw [hW k hkN, ← hnx]; exact z)))⟩
end RTX
end
section
/-! The words of a text: pure. c its characters, n how many. -/
def blq (x : Int) : Prop := x = 9 ∨ x = 10 ∨ x = 13 ∨ x = 32
/-- behind blanks and remarks: f characters are left, b within a remark -/
noncomputable def skq (c : Nat → Int) : Nat → Bool → Nat → Nat
  | 0, _, i => i
  | f + 1, b, i => haveI := Classical.propDecidable (c i = 35 ∨ (b = true ∧ c i ≠ 10)); haveI := Classical.propDecidable (blq (c i)); if c i = 35 ∨ (b = true ∧ c i ≠ 10) then skq c f true (i + 1) else if blq (c i) then skq c f false (i + 1) else i
noncomputable def skp (c : Nat → Int) (n i : Nat) : Nat := skq c (n - i) false i
def isDq (x : Int) : Prop := 48 ≤ x ∧ x ≤ 57
def nmq (x : Int) : Prop := isL x ∨ isDq x ∨ x = 95
/-- the first place from i on, within f, where P fails -/
noncomputable def enq (P : Int → Prop) (c : Nat → Int) : Nat → Nat → Nat
  | 0, i => i
  | f + 1, i => haveI := Classical.propDecidable (P (c i)); if P (c i) then enq P c f (i + 1) else i
def lq (c : Nat → Int) (n i : Nat) : Int := if i < n then c i else 0
/-- a sign's kind, by it and the character behind it -/
def sgk (x y : Int) : Int := if x = 46 then (if y = 46 then 16 else 39) else if x = 45 then (if y = 62 then 17 else 25) else if x = 33 then (if y = 61 then 18 else 31) else if x = 60 then (if y = 61 then 19 else 21) else if x = 62 then (if y = 61 then 20 else 22) else if x = 61 then 23 else if x = 43 then 24 else if x = 42 then 26 else if x = 47 then 27 else if x = 37 then 28 else if x = 38 then 29 else if x = 124 then 30 else if x = 63 then 32 else if x = 58 then 33 else if x = 59 then 34 else if x = 44 then 35 else if x = 40 then 36 else if x = 41 then 37 else if x = 39 then 38 else 39
/-- where the word at i ends -/
noncomputable def weq (c : Nat → Int) (n i : Nat) : Nat :=
  haveI := Classical.propDecidable (isL (c i)); haveI := Classical.propDecidable (isDq (c i))
  if isL (c i) then enq nmq c (n - i) i else if isDq (c i) then enq isDq c (n - i) i else if 16 ≤ sgk (c i) (lq c n (i + 1)) ∧ sgk (c i) (lq c n (i + 1)) ≤ 20 then i + 2 else i + 1
/-- its kind; kw tells the kinds of names -/
noncomputable def wkq (kw : Nat → Nat → Int) (c : Nat → Int) (n i : Nat) : Int :=
  haveI := Classical.propDecidable (isL (c i)); haveI := Classical.propDecidable (isDq (c i))
  if isL (c i) then (if 40 < weq c n i - i then 39 else kw i (weq c n i)) else if isDq (c i) then (if 9 < weq c n i - i then 39 else 2) else sgk (c i) (lq c n (i + 1))
/-- where the j-th word begins -/
noncomputable def pwq (c : Nat → Int) (n : Nat) : Nat → Nat
  | 0 => skp c n 0
  | j + 1 => skp c n (weq c n (pwq c n j))
section WQQ
variable {c : Nat → Int} {n i : Nat} {f : Nat} {b : Bool} {P : Int → Prop}
theorem skq_rem (h : c i = 35 ∨ (b = true ∧ c i ≠ 10)) : skq c (f + 1) b i = skq c f true (i + 1) := by rw [skq, if_pos h]
theorem skq_bl (h : ¬ (c i = 35 ∨ (b = true ∧ c i ≠ 10))) (h2 : blq (c i)) : skq c (f + 1) b i = skq c f false (i + 1) := by
  rw [skq, if_neg h, if_pos h2]
theorem skq_end (h : ¬ (c i = 35 ∨ (b = true ∧ c i ≠ 10))) (h2 : ¬ blq (c i)) : skq c (f + 1) b i = i := by
  rw [skq, if_neg h, if_neg h2]
theorem skq_b : ∀ (f : Nat) (b : Bool) (i : Nat), i ≤ skq c f b i ∧ skq c f b i ≤ i + f
  | 0, _, i => ⟨Nat.le_refl _, Nat.le_refl _⟩
  | f + 1, b, i => by
    by_cases h : c i = 35 ∨ (b = true ∧ c i ≠ 10)
    · rw [skq_rem h]
      have := skq_b f true (i + 1)
      omega
    · by_cases h2 : blq (c i)
      · rw [skq_bl h h2]
        have := skq_b f false (i + 1)
        omega
      · rw [skq_end h h2]; omega
theorem skp_b (h : i ≤ n) : i ≤ skp c n i ∧ skp c n i ≤ n := by
  have := skq_b (c := c) (n - i) false i
  unfold skp
  omega
theorem enq_y (h : P (c i)) : enq P c (f + 1) i = enq P c f (i + 1) := by
  rw [enq, if_pos h]
theorem enq_n (h : ¬ P (c i)) : enq P c (f + 1) i = i := by
  rw [enq, if_neg h]
theorem enq_b : ∀ (f i : Nat), i ≤ enq P c f i ∧ enq P c f i ≤ i + f
  | 0, i => ⟨Nat.le_refl _, Nat.le_refl _⟩
  | f + 1, i => by
    by_cases h : P (c i)
    · rw [enq_y h]
      have := enq_b f (i + 1)
      omega
    · rw [enq_n h]; omega
theorem weq_b (h : i < n) : i < weq c n i ∧ weq c n i ≤ n := by
  unfold weq
  obtain ⟨m, hm⟩ : ∃ m, n - i = m + 1 := ⟨n - i - 1, by omega⟩
  by_cases h1 : isL (c i)
  · rw [if_pos h1, hm, enq_y (Or.inl h1)]
    have := enq_b (P := nmq) (c := c) m (i + 1)
    omega
  · rw [if_neg h1]
    by_cases h2 : isDq (c i)
    · rw [if_pos h2, hm, enq_y h2]
      have := enq_b (P := isDq) (c := c) m (i + 1)
      omega
    · rw [if_neg h2]
      split
      · rename_i q
        have hn : i + 1 < n := by
          refine Classical.byContradiction (fun z => ?_)
          have e : lq c n (i + 1) = 0 := if_neg z
          rw [e] at q
          unfold sgk at q
          (repeat' split at q) <;> omega
        omega
      · omega
end WQQ
end
end
