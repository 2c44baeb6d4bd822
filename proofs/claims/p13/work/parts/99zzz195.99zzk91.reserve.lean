/-! Tables of fractions grow. -/
section NBD
variable {G : mG} {d a z n m w S B u g R R' cn f F s i k K : Nat} {M M0 M' M1 M2 M3 : mM} {L L' L1 : List Nat} {W : Nat → Nat}
/-- a table of k fractions, at rest -/
def RwT (L : List Nat) (M : mM) (a R k : Nat) : Prop := mK M a = 13 ∧ mR M a 0 = R ∧ mK M R = 35 ∧ mN M R = k ∧ (Oc L M a ∧ Oc L M R) ∧ ∀ i, i < k → FrL L M (mR M R i)
theorem nf_ur {x j v : Nat} (hF : NF L W M) (hx : x ∉ L) (e : M' = mUR M x j v) : NF L W M' := by
  have ro : ∀ a, a ∈ L → mR M' a 0 = mR M a 0 := fun a ha => by rw [e, mR_UR, if_neg (fun u => hx (by rw [← u.1]; exact ha))]
  have nt' : ∀ a, a ∈ L → Nt M' a (mR M a 0) (cp M a) (sz M a) := fun a ha => (hF.nt ha).fa (S := fun _ => False) (R := fun y => y = x) (FA.ur rfl e) (fun u => u) (fun u => u) (fun u => hx (by rw [← u]; exact ha))
  exact ⟨hF.1, fun a ha => ⟨(nt' a ha).nn, by rw [(nt' a ha).cp]; exact (hF.2.1 a ha).2.1, (hF.2.1 a ha).2.2⟩, fun a b ha hb u => hF.2.2 a b ha hb (by rw [← ro a ha, ← ro b hb]; exact u)⟩
theorem FrP.fa {S R : Nat → Prop} (h : FrP M f) (F : FA S R M M') (hf : ¬ R f) : FrP M' f := by
  obtain ⟨h1, h2, h3⟩ := h
  exact ⟨by rw [(F.2 f h3).1]; exact h1, by rw [(F.2 f h3).2.2.2.1 hf]; exact h2, Nat.lt_of_lt_of_le h3 F.1.1⟩
/-- the new table on its way: e new fractions -/
def RvI (L : List Nat) (W : Nat → Nat) (M : mM) (R k K i : Nat) (L1 : List Nat) (M1 : mM) : Prop := (mOk M1 ∧ NF L1 W M1) ∧ FA (fun _ => False) (fun _ => False) M M1 ∧ (mK M1 (mZ M) = 35 ∧ mN M1 (mZ M) = K) ∧ (mZ M1 = mZ M + 1 + 5 * (i - k) ∧ mS M1 = mS M + K + 15 * (i - k)) ∧ (∀ j, j < i → mR M1 (mZ M) j = if j < k then mR M R j else mZ M + 1 + 5 * (j - k)) ∧ (∀ j, k ≤ j → j < i → FrL L1 M1 (mZ M + 1 + 5 * (j - k)) ∧ mI M1 (mZ M + 1 + 5 * (j - k)) 2 = 1) ∧ (Oc L1 M1 (mZ M) ∧ (∀ x, x ∈ L → x ∈ L1) ∧ (∀ x, x ∈ L1 → x ∈ L ∨ (mZ M < x ∧ mZ M < mR M1 x 0))) ∧ (L1.length = L.length + 2 * (i - k) ∧ psum (cp M1) L1 = psum (cp M) L + 8 * (i - k) ∧ psum (fun p => cp M1 p / 4) L1 = psum (fun p => cp M p / 4) L + 2 * (i - k))
/-- how a table grew -/
def rvG (L : List Nat) (M : mM) (R k : Nat) (L' : List Nat) (M' : mM) (R' k' : Nat) : Prop := R' = mZ M ∧ (k < k' ∧ k' ≤ 512 ∧ (2 * k ≤ k' ∨ k' = 512)) ∧ L'.length = L.length + 2 * (k' - k) ∧ (mZ M' = mZ M + 1 + 5 * (k' - k) ∧ mS M' = mS M + k' + 15 * (k' - k)) ∧ psum (cp M') L' = psum (cp M) L + 8 * (k' - k) ∧ psum (fun p => cp M' p / 4) L' = psum (fun p => cp M p / 4) L + 2 * (k' - k)
def rvQ (L : List Nat) (W : Nat → Nat) (a : Nat) (M : mM) (R k cnt : Nat) (M' : mM) : Prop := ∃ L' R' k', mOk M' ∧ NF L' W M' ∧ (∀ x, x ∈ L → x ∈ L') ∧ (∀ x, x ∈ L' → x ∈ L ∨ (mZ M < x ∧ mZ M < mR M' x 0)) ∧ RwT L' M' a R' k' ∧ (cnt ≤ k' ∧ k ≤ k') ∧ FA (fun _ => False) (fun x => x = a) M M' ∧ (∀ i, i ≠ 0 → mR M' a i = mR M a i) ∧ (∀ i, i < k → mR M' R' i = mR M R i) ∧ (∀ i, k ≤ i → i < k' → mR M' R' i = mZ M + 1 + 5 * (i - k) ∧ mI M' (mZ M + 1 + 5 * (i - k)) 2 = 1) ∧ ((M' = M ∧ L' = L ∧ R' = R ∧ k' = k) ∨ rvG L M R k L' M' R' k')
theorem s_rv_new (h : RvI L W M R k K i L1 M1) (hik : k ≤ i) (hiK : i < K) (hWn : ∀ x, mZ M < x → 2 ≤ W x ∧ W x ≤ 20000) (e33 : M2 = mNew M1 11 0 3) : Cv G y_Fr_init (d + 2) [vr (mZ M1)] M2 (fun M35 => mOk M35 ∧ (mK M35 (mZ M) = 35 ∧ ((0 : Int) ≤ i ∧ (i : Int) < (mN M35 (mZ M) : Int)) ∧ mK M35 (mZ M1) = 11 ∧ ∀ M41, M41 = mUR M35 (mZ M) i (mZ M1) → RvI L W M R k K (i + 1) ((mZ M1 + 1) :: (mZ M1 + 3) :: L1) M41)) := by
  obtain ⟨⟨o1, F1⟩, f1, ⟨kz, nz⟩, ⟨z1, s1⟩, rj, fj, ⟨oc, l1, l2⟩, ⟨g1, g2, g3⟩⟩ := h
  have f2 : FA (fun _ => False) (fun _ => False) M1 M2 := FA.new e33
  have z2 : mZ M2 = mZ M1 + 1 := by rw [e33, mZ_New]
  have s2 : mS M2 = mS M1 + 3 := by rw [e33, mS_New]
  have k2 : mK M2 (mZ M1) = 11 := by rw [e33, mK_New, if_pos rfl]
  have o2 : mOk M2 := by rw [e33]; exact mOk_New o1
  have eF : mZ M1 = mZ M + 1 + 5 * (i - k) := z1
  refine (s_Fr_init (d := d) (F := mZ M1) o2 k2 z2 (by omega)).mono (fun M35 q => ?_)
  obtain ⟨o35, f35, ⟨z35, s35⟩, ⟨r0, r1⟩, t1, t3, i2⟩ := q
  have F35 : FA (fun x => x = mZ M1) (fun x => x = mZ M1) M1 M35 := (f2.mono (fun _ _ e => e.elim) (fun _ _ e => e.elim)).trans f35
  have hlt : mZ M < mZ M1 := by omega
  have c35 := F35.2 (mZ M) hlt
  have k35 : mK M35 (mZ M1) = 11 := by rw [(f35.2 (mZ M1) (by omega)).1]; exact k2
  rw [c35.1, c35.2.1, nz]
  refine ⟨o35, kz, ⟨by omega, by omega⟩, k35, fun M41 e41 => ?_⟩
  have F41 : FA (fun _ => False) (fun x => x = mZ M) M35 M41 := FA.ur rfl e41
  have nL : mZ M ∉ (mZ M1 + 1) :: (mZ M1 + 3) :: L1 := fun u => by
    rcases List.mem_cons.1 u with e | e
    · omega
    · rcases List.mem_cons.1 e with e | e
      · omega
      · exact oc.2.1 e
  have nf35 : NF ((mZ M1 + 1) :: (mZ M1 + 3) :: L1) W M35 := nf_grow F1 F35 (fun x hx e => by have e' : x = mZ M1 := e; omega) (fun x hx e => by have e' : x = mZ M1 := e; omega) (Nat.le_refl _) t1 t3 (hWn _ (by omega)) (hWn _ (by omega))
  have nf41 := nf_ur nf35 nL e41
  have old : ∀ a, a ∈ L1 → cp M41 a = cp M1 a := fun a ha => by
    have z := F1.lt ha
    have t := (F1.nt ha).fa F35 (fun e => by have e' : a = mZ M1 := e; omega) (fun e => by have e' : mR M1 a 0 = mZ M1 := e; omega) (fun e => by have e' : a = mZ M1 := e; omega)
    exact (t.fa F41 (fun e => e) (fun e => e) (fun e => oc.2.1 (by rw [← e]; exact ha))).cp
  have n1 : mZ M1 + 1 ≠ mZ M := by omega
  have n3 : mZ M1 + 3 ≠ mZ M := by omega
  have c1 : cp M41 (mZ M1 + 1) = 4 := (t1.fa F41 (fun e => e) (fun e => e) n1).cp
  have c3 : cp M41 (mZ M1 + 3) = 4 := (t3.fa F41 (fun e => e) (fun e => e) n3).cp
  have fF : FrP M41 (mZ M1) := by
    have q : FrP M35 (mZ M1) := ⟨k35, ⟨r0, r1⟩, by omega⟩
    exact q.fa F41 (fun e => by have e' : mZ M1 = mZ M := e; omega)
  have z41 : mZ M41 = mZ M35 := by rw [e41]; rfl
  have s41 : mS M41 = mS M35 := by rw [e41]; rfl
  have ei : i + 1 - k = i - k + 1 := by omega
  refine ⟨⟨by rw [e41]; exact mOk_UR o35, nf41⟩, ?_, ⟨?_, ?_⟩, ⟨by omega, by omega⟩, fun j hj => ?_, fun j hj1 hj2 => ?_, ⟨⟨by omega, nL, fun a ha u => ?_⟩, fun x hx => List.mem_cons_of_mem _ (List.mem_cons_of_mem _ (l1 x hx)), fun x hx => ?_⟩, ?_⟩
  · exact (f1.trans2 F35 (fun x hx e => by have e' : x = mZ M1 := e; omega) (fun x hx e => by have e' : x = mZ M1 := e; omega)).trans2 F41 (fun _ _ e => e) (fun x hx e => by have e' : x = mZ M := e; omega)
  · rw [e41]; show mK M35 (mZ M) = _; rw [c35.1]; exact kz
  · rw [e41]; show mN M35 (mZ M) = _; rw [c35.2.1]; exact nz
  · rw [e41, mR_UR]
    by_cases e : j = i
    · rw [if_pos ⟨rfl, e⟩, if_neg (by omega), e]; omega
    · rw [if_neg (fun u => e u.2), c35.2.2.2.1 (fun e => by have e' : mZ M = mZ M1 := e; omega)]
      exact rj j (by omega)
  · by_cases e : j = i
    · rw [e, ← eF]
      exact ⟨⟨fF, List.mem_cons_self .., List.mem_cons_of_mem _ (List.mem_cons_self ..)⟩, by rw [e41]; exact i2⟩
    · obtain ⟨⟨p1, p2, p3⟩, p4⟩ := fj j hj1 (by omega)
      have lt : mZ M + 1 + 5 * (j - k) < mZ M1 := p1.2.2
      have q1 : FrP M35 (mZ M + 1 + 5 * (j - k)) := p1.fa F35 (fun e => by have e' : mZ M + 1 + 5 * (j - k) = mZ M1 := e; omega)
      refine ⟨⟨q1.fa F41 (fun e => by have e' : mZ M + 1 + 5 * (j - k) = mZ M := e; omega), List.mem_cons_of_mem _ (List.mem_cons_of_mem _ p2), List.mem_cons_of_mem _ (List.mem_cons_of_mem _ p3)⟩, ?_⟩
      rw [e41]
      show mI M35 _ 2 = 1
      rw [(F35.2 _ lt).2.2.2.2 (fun e => by have e' : mZ M + 1 + 5 * (j - k) = mZ M1 := e; omega)]
      exact p4
  · have z := nf41.lt ha
    rcases List.mem_cons.1 ha with e | e
    · rw [e, (t1.fa F41 (fun e => e) (fun e => e) n1).1.2.1] at u; omega
    · rcases List.mem_cons.1 e with e | e
      · rw [e, (t3.fa F41 (fun e => e) (fun e => e) n3).1.2.1] at u; omega
      · have t := (F1.nt e).fa F35 (fun e' => by have e'' : a = mZ M1 := e'; have := (F1.lt e).1; omega) (fun e' => by have e'' : mR M1 a 0 = mZ M1 := e'; have := (F1.lt e).2; omega) (fun e' => by have e'' : a = mZ M1 := e'; have := (F1.lt e).1; omega)
        have t' := t.fa F41 (fun e => e) (fun e => e) (fun e' => oc.2.1 (by rw [← e']; exact e))
        rw [t'.1.2.1] at u
        exact oc.2.2 a e u
  · rcases List.mem_cons.1 hx with e | e
    · exact Or.inr ⟨by omega, by rw [e, (t1.fa F41 (fun e => e) (fun e => e) n1).1.2.1]; omega⟩
    · rcases List.mem_cons.1 e with e | e
      · exact Or.inr ⟨by omega, by rw [e, (t3.fa F41 (fun e => e) (fun e => e) n3).1.2.1]; omega⟩
      · rcases l2 x e with q | q
        · exact Or.inl q
        · refine Or.inr ⟨q.1, ?_⟩
          have t := (F1.nt e).fa F35 (fun e' => by have e'' : x = mZ M1 := e'; have := (F1.lt e).1; omega) (fun e' => by have e'' : mR M1 x 0 = mZ M1 := e'; have := (F1.lt e).2; omega) (fun e' => by have e'' : x = mZ M1 := e'; have := (F1.lt e).1; omega)
          have t' := t.fa F41 (fun e => e) (fun e => e) (fun e' => oc.2.1 (by rw [← e']; exact e))
          rw [t'.1.2.1]
          exact q.2
  · refine ⟨by rw [List.length_cons, List.length_cons]; omega, ?_, ?_⟩
    · rw [psum, psum, c1, c3, psum_congr L1 old, g2]; omega
    · rw [psum, psum]
      show cp M41 (mZ M1 + 1) / 4 + (cp M41 (mZ M1 + 3) / 4 + psum (fun p => cp M41 p / 4) L1) = _
      rw [c1, c3, psum_congr (g := fun p => cp M1 p / 4) L1 (fun q hq => by show cp M41 q / 4 = cp M1 q / 4; rw [old q hq]), g3]
      omega
end NBD
