/-! Euclid with longs (Fibonacci's bound); the Scales' places and frames. -/
section NAR
variable {G : mG} {d a b c z n m w : Nat} {M M' M1 M2 M3 : mM} {L : List Nat} {W : Nat → Nat} {T T' I I' : Nat → Prop} {r r' : Prop}
/-- Fibonacci's numbers, in pairs -/
def fbp : Nat → Nat × Nat
  | 0 => (0, 1)
  | n + 1 => ((fbp n).2, (fbp n).1 + (fbp n).2)
def fb (n : Nat) : Nat := (fbp n).1
theorem fb_s (n : Nat) : fb (n + 2) = fb n + fb (n + 1) := rfl
theorem fb_st {m a b : Nat} (hb : 0 < b) (h : b < fb (m + 2) ∨ (a < fb (m + 3) ∧ b < a)) : (a % b < fb (m + 1) ∨ (b < fb (m + 2) ∧ a % b < b)) := by
  have h1 := Nat.mod_lt a hb
  by_cases u : b < fb (m + 2)
  · exact Or.inr ⟨u, h1⟩
  · rcases h with h | ⟨h2, h3⟩
    · exact absurd h u
    · refine Or.inl ?_
      have h4 : a % b ≤ a - b := by
        rw [Nat.mod_eq_sub_mod (by omega)]
        exact Nat.mod_le _ _
      have h5 : fb (m + 3) = fb (m + 1) + fb (m + 2) := fb_s (m + 1)
      omega
theorem s_Ma_gcdL {x y : Nat} (hx : x < 1152921504606846976) (hy : y < 1152921504606846976) (xy : 1 ≤ x) (hO : mOk M) : Cj G y_Ma_commonDivisor d [vl x, vl y] M (fun r M' => M' = M ∧ ∃ w : Nat, r = ((w : Nat) : Int) ∧ (1 ≤ w ∧ w < 1152921504606846976) ∧ w ∣ x ∧ w ∣ y ∧ ∀ g : Nat, g ∣ x → g ∣ y → g ∣ w) := by
  refine k_Ma_commonDivisor hO ⟨by omega, by omega⟩ ⟨by omega, by omega⟩ (fun v2 e2 => ?_)
  have v0 : v2 = x := by
    have := (cmpz x 0).1
    rw [e2, if_pos (by rw [this]; omega)]
  subst v0
  suffices HH : ∀ (s i a b : Nat), 100 = i + s → a < 1152921504606846976 → b < 1152921504606846976 → (∀ w, w ∣ a → w ∣ b → w ∣ x ∧ w ∣ y) → (∀ g : Nat, g ∣ x → g ∣ y → g ∣ a ∧ g ∣ b) → (1 ≤ a ∨ 1 ≤ b) → (b < fb (s + 1) ∨ (a < fb (s + 2) ∧ b < a)) → h_Ma_commonDivisor_20 G d a b i M (fun r M' => M' = M ∧ ∃ w : Nat, r = ((w : Nat) : Int) ∧ (1 ≤ w ∧ w < 1152921504606846976) ∧ w ∣ x ∧ w ∣ y ∧ ∀ g : Nat, g ∣ x → g ∣ y → g ∣ w) from HH 100 0 x y (by omega) hx hy (fun w h1 h2 => ⟨h1, h2⟩) (fun g h1 h2 => ⟨h1, h2⟩) (Or.inl xy) (Or.inl (Nat.lt_trans hy (by decide)))
  intro s
  induction s with
  | zero =>
    intro i a b hs ha hb hd hd2 h1 hk
    have b0 : b = 0 := by
      have f1 : fb 1 = 1 := rfl
      have f2 : fb 2 = 1 := rfl
      have hk' : b < fb 1 ∨ (a < fb 2 ∧ b < a) := hk
      omega
    have ca := (cmpz (a : Int) 0).2.2.2.1
    refine k_Ma_commonDivisor_20 hO ⟨by omega, by omega⟩ ⟨by omega, by omega⟩ (i32s (by omega) (by omega)) ⟨fun _ v12 e12 => ?_, fun q => absurd (Or.inl (by omega)) q⟩
    clear hk
    rw [if_neg (by rw [ca]; omega)] at e12
    rw [e12]
    have := hd a (Nat.dvd_refl _) (by rw [b0]; exact Nat.dvd_zero _)
    exact ⟨rfl, a, rfl, ⟨by omega, ha⟩, this.1, this.2, fun g g1 g2 => (hd2 g g1 g2).1⟩
  | succ s ih =>
    intro i a b hs ha hb hd hd2 h1 hk
    have ca := (cmpz (a : Int) 0).2.2.2.1
    have cb := (cmpz (b : Int) 0).2.2.2.1
    refine k_Ma_commonDivisor_20 hO ⟨by omega, by omega⟩ ⟨by omega, by omega⟩ (i32s (by omega) (by omega)) ⟨fun q v12 e12 => ?_, fun q => ?_⟩
    · have b0 : b = 0 := by
        rcases q with q | q
        · omega
        · rw [cb] at q
          omega
      clear hk
      rw [if_neg (by rw [ca]; omega)] at e12
      rw [e12]
      have := hd a (Nat.dvd_refl _) (by rw [b0]; exact Nat.dvd_zero _)
      exact ⟨rfl, a, rfl, ⟨by omega, ha⟩, this.1, this.2, fun g g1 g2 => (hd2 g g1 g2).1⟩
    · have b0 : 0 < b := by
        by_cases t : b = 0
        · exact absurd (Or.inr (by rw [cb]; omega)) q
        · omega
      have em : Int.tmod (a : Int) (b : Int) = ((a % b : Nat) : Int) := by rw [Int.tmod_eq_emod_of_nonneg (by omega)]; rfl
      have ml := Nat.mod_lt a b0
      rw [em, show ((i : Int) + 1) = ((i + 1 : Nat) : Int) by omega]
      refine ⟨by omega, ih (i + 1) b (a % b) (by omega) hb (by omega) (fun w w1 w2 => ?_) (fun g g1 g2 => ⟨(hd2 g g1 g2).2, (Nat.dvd_mod_iff (hd2 g g1 g2).2).2 (hd2 g g1 g2).1⟩) (Or.inl b0) (fb_st b0 hk)⟩
      have wa : w ∣ a := by
        have := Nat.div_add_mod a b
        rw [← this]
        exact Nat.dvd_add (Nat.dvd_trans w1 (Nat.dvd_mul_right _ _)) w2
      exact hd w wa w1
/-- a frame with longs -/
def FD (S R D : Nat → Prop) (M M' : mM) : Prop := (mZ M ≤ mZ M' ∧ mS M ≤ mS M') ∧ ∀ x, x < mZ M → mK M' x = mK M x ∧ mN M' x = mN M x ∧ (¬ D x → mL M' x = mL M x) ∧ (¬ R x → mR M' x = mR M x) ∧ (¬ S x → mI M' x = mI M x)
theorem FD.refl {S R D : Nat → Prop} : FD S R D M M := ⟨⟨Nat.le_refl _, Nat.le_refl _⟩, fun _ _ => ⟨rfl, rfl, fun _ => rfl, fun _ => rfl, fun _ => rfl⟩⟩
theorem FD.trans2 {S R D S' R' D' : Nat → Prop} (h : FD S R D M M1) (k : FD S' R' D' M1 M2) (hS : ∀ x, x < mZ M → S' x → S x) (hR : ∀ x, x < mZ M → R' x → R x) (hD : ∀ x, x < mZ M → D' x → D x) : FD S R D M M2 := by
  obtain ⟨⟨h1, h2⟩, h3⟩ := h
  obtain ⟨⟨k1, k2⟩, k3⟩ := k
  refine ⟨⟨by omega, by omega⟩, fun x hx => ?_⟩
  obtain ⟨a1, a2, a3, a4, a5⟩ := h3 x hx
  obtain ⟨b1, b2, b3, b4, b5⟩ := k3 x (by omega)
  exact ⟨b1.trans a1, b2.trans a2, fun z => (b3 (fun y => z (hD x hx y))).trans (a3 z), fun z => (b4 (fun y => z (hR x hx y))).trans (a4 z), fun z => (b5 (fun y => z (hS x hx y))).trans (a5 z)⟩
theorem FD.mono {S R D S' R' D' : Nat → Prop} (h : FD S R D M M1) (hS : ∀ x, x < mZ M → S x → S' x) (hR : ∀ x, x < mZ M → R x → R' x) (hD : ∀ x, x < mZ M → D x → D' x) : FD S' R' D' M M1 :=
  ⟨h.1, fun x hx => ⟨(h.2 x hx).1, (h.2 x hx).2.1, fun z => (h.2 x hx).2.2.1 (fun y => z (hD x hx y)), fun z => (h.2 x hx).2.2.2.1 (fun y => z (hR x hx y)), fun z => (h.2 x hx).2.2.2.2 (fun y => z (hS x hx y))⟩⟩
theorem FA.fd {S R D : Nat → Prop} (h : FA S R M M1) : FD S R D M M1 := ⟨h.1, fun x hx => ⟨(h.2 x hx).1, (h.2 x hx).2.1, fun _ => (h.2 x hx).2.2.1, (h.2 x hx).2.2.2.1, (h.2 x hx).2.2.2.2⟩⟩
/-- numbers of T, the small factors of the fractions of I, the Scales' longs, and (where r) its own references -/
def NL (L : List Nat) (W : Nat → Nat) (T I : Nat → Prop) (r : Prop) (z : Nat) (M M' : mM) : Prop := (mOk M' ∧ NF L W M') ∧ ((∀ t, T t → t ∈ L) ∧ (∀ x, I x → x < mZ M ∧ mK M x = 11) ∧ (z < mZ M ∧ mK M z = 9)) ∧ FD (fun x => nsS M T x ∨ I x) (fun x => T x ∨ (x = z ∧ r)) (fun x => x = z + 13) M M' ∧ (∀ t, T t → mR M' t 0 = mR M t 0 ∨ mZ M ≤ mR M' t 0) ∧ RmN L M M'
theorem NL.nf (h : NL L W T I r z M M') : NF L W M' := h.1.2
theorem NL.ok (h : NL L W T I r z M M') : mOk M' := h.1.1
theorem NL.kind (h : NL L W T I r z M M') {x : Nat} (hx : x < mZ M) : mK M' x = mK M x := (h.2.2.1.2 x hx).1
theorem NL.refl (hO : mOk M) (h : NF L W M) (hT : ∀ t, T t → t ∈ L) (hI : ∀ x, I x → x < mZ M ∧ mK M x = 11) (hz : z < mZ M ∧ mK M z = 9) : NL L W T I r z M M := ⟨⟨hO, h⟩, ⟨hT, hI, hz⟩, FD.refl, fun _ _ => Or.inl rfl, RmN.refl⟩
theorem NL.trans (h : NL L W T I r z M M1) (k : NL L W T I r z M1 M2) : NL L W T I r z M M2 := by
  obtain ⟨-, h2, h3, h4, h5⟩ := h
  obtain ⟨k1, -, k3, k4, k5⟩ := k
  refine ⟨k1, h2, h3.trans2 k3 ?_ (fun _ _ y => y) (fun _ _ y => y), fun t ht => ?_, h5.trans k5⟩
  · intro x hx u
    rcases u with (u | ⟨t, ht, u⟩) | u
    · exact Or.inl (Or.inl u)
    · rcases h4 t ht with q | q
      · exact Or.inl (Or.inr ⟨t, ht, by rw [u, q]⟩)
      · omega
    · exact Or.inr u
  · rcases k4 t ht with q | q
    · rw [q]; exact h4 t ht
    · exact Or.inr (Nat.le_trans h3.1.1 q)
theorem NF.nz (hF : NF L W M) (hz : mK M z = 9) (ha : a ∈ L) : a ≠ z ∧ mR M a 0 ≠ z := by
  have h1 := hF.kd ha
  have h2 := hF.ka ha
  exact ⟨fun u => by rw [u, hz] at h1; omega, fun u => by rw [u, hz] at h2; omega⟩
theorem NF.nI (hF : NF L W M) {x : Nat} (hx : mK M x = 11) (ha : a ∈ L) : a ≠ x ∧ mR M a 0 ≠ x := by
  have h1 := hF.kd ha
  have h2 := hF.ka ha
  exact ⟨fun u => by rw [u, hx] at h1; omega, fun u => by rw [u, hx] at h2; omega⟩
theorem NL.mono (h : NL L W T I r z M M1) (hr : NF L W M) (hT : ∀ t, T t → T' t) (hL : ∀ t, T' t → t ∈ L) (hI : ∀ x, I x → I' x) (hI' : ∀ x, I' x → x < mZ M ∧ mK M x = 11) (rr : r → r') : NL L W T' I' r' z M M1 := by
  obtain ⟨h1, ⟨-, -, hz⟩, h3, h4, h5⟩ := h
  refine ⟨h1, ⟨hL, hI', hz⟩, h3.mono (fun x _ u => ?_) (fun x _ u => u.elim (fun u => Or.inl (hT x u)) (fun u => Or.inr ⟨u.1, rr u.2⟩)) (fun _ _ u => u), fun t ht => ?_, h5⟩
  · rcases u with (u | ⟨t, ht, u⟩) | u
    · exact Or.inl (Or.inl (hT x u))
    · exact Or.inl (Or.inr ⟨t, hT t ht, u⟩)
    · exact Or.inr (hI x u)
  · by_cases c : T t
    · exact h4 t c
    · refine Or.inl ?_
      rw [(h3.2 t (hr.lt (hL t ht)).1).2.2.2.1 (fun u => u.elim c (fun u => (hr.nz hz.2 (hL t ht)).1 u.1))]
theorem NC.nl (h : NC L W T M M1) (hI : ∀ x, I x → x < mZ M ∧ mK M x = 11) (hz : z < mZ M ∧ mK M z = 9) : NL L W T I r z M M1 := by
  obtain ⟨h1, h2, h3, h4, h5⟩ := h
  exact ⟨h1, ⟨h2, hI, hz⟩, (h3.fd (D := fun x => x = z + 13)).mono (fun x _ u => Or.inl u) (fun x _ u => Or.inl u) (fun _ _ u => u), h4, h5⟩
/-- what is not of T stays -/
theorem NL.num (h : NL L W T I r z M M') (hF : NF L W M) (hb : b ∈ L) (hT : ¬ T b) : mR M' b = mR M b ∧ sz M' b = sz M b ∧ nv M' b = nv M b := by
  obtain ⟨-, ⟨h2, hI, hz⟩, h3, h4, -⟩ := h
  obtain ⟨z1, z2⟩ := hF.lt hb
  have n1 : ¬ (nsS M T b ∨ I b) := by
    rintro ((u | ⟨t, ht, u⟩) | u)
    · exact hT u
    · exact hF.na hb (h2 t ht) u
    · exact (hF.nI (hI b u).2 hb).1 rfl
  have n2 : ¬ (nsS M T (mR M b 0) ∨ I (mR M b 0)) := by
    rintro ((u | ⟨t, ht, u⟩) | u)
    · exact hF.na (h2 _ u) hb rfl
    · exact hT (by rw [hF.2.2 b t hb (h2 t ht) u]; exact ht)
    · exact (hF.nI (hI _ u).2 hb).2 rfl
  have a1 := (h3.2 b z1).2.2.2.1 (fun u => u.elim hT (fun u => (hF.nz hz.2 hb).1 u.1))
  have a2 := (h3.2 b z1).2.2.2.2 n1
  have a3 := (h3.2 _ z2).2.2.2.2 n2
  have a4 : sz M' b = sz M b := by unfold sz; rw [a2]
  exact ⟨a1, a4, by unfold nv; rw [a4, a1, a3]⟩
/-- other cells stay: f is no number, no number's limbs, not the Scales -/
theorem NL.cell (h : NL L W T I r z M M') (hF : NF L W M) {x : Nat} (hx : x < mZ M) (h10 : mK M x ≠ 10) (h30 : mK M x ≠ 30) (h9 : mK M x ≠ 9) : mK M' x = mK M x ∧ mN M' x = mN M x ∧ mR M' x = mR M x ∧ (¬ I x → mI M' x = mI M x) := by
  obtain ⟨-, ⟨h2, hI, hz⟩, h3, h4, -⟩ := h
  obtain ⟨a1, a2, a3, a4, a5⟩ := h3.2 x hx
  refine ⟨a1, a2, a4 ?_, fun ni => a5 ?_⟩
  · rintro (u | ⟨u, -⟩)
    · exact h10 (hF.kd (h2 x u))
    · rw [u] at h9; exact h9 hz.2
  · rintro ((u | ⟨t, ht, u⟩) | u)
    · exact h10 (hF.kd (h2 x u))
    · rw [u] at h30; exact h30 (hF.ka (h2 t ht))
    · exact ni u
/-- the search for factors is a step -/
theorem FLo.nl (h : FLo (z + 13) M M') (o : mOk M') (hF : NF L W M) (hT : ∀ t, T t → t ∈ L) (hI : ∀ x, I x → x < mZ M ∧ mK M x = 11) (hz : z < mZ M ∧ mK M z = 9) : NL L W T I r z M M' := by
  obtain ⟨h1, h2, h3, h4, h5, h6, h7⟩ := h
  have cc : ∀ b, cp M' b = cp M b := fun b => by unfold cp; rw [h3, h2]
  have nt' : ∀ {a Y C s : Nat}, Nt M a Y C s → Nt M' a Y C s := by
    intro a Y C s t
    unfold Nt Nl lim at t ⊢
    rw [h1, h2, h3, h4, h5]
    exact t
  refine ⟨⟨o, hF.1, fun a ha => ⟨(nt' (hF.nt ha)).nn, by rw [cc]; exact (hF.2.1 a ha).2.1, (hF.2.1 a ha).2.2⟩, fun a b ha hb u => hF.2.2 a b ha hb (by rw [← h3]; exact u)⟩, ⟨hT, hI, hz⟩, ⟨⟨by rw [h5]; exact Nat.le_refl _, by rw [h6]; exact Nat.le_refl _⟩, fun x _ => ⟨by rw [h1], by rw [h2], fun u => h7 x u, fun _ => by rw [h3], fun _ => by rw [h4]⟩⟩, fun t _ => Or.inl (by rw [h3]), ?_⟩
  unfold RmN
  rw [show cp M' = cp M from funext cc, h5, h6]
  exact ⟨Nat.le_refl _, Nat.le_refl _⟩
theorem FLo.nv (h : FLo z M M') (a : Nat) : nv M' a = nv M a ∧ sz M' a = sz M a := by
  obtain ⟨h1, h2, h3, h4, h5, h6, h7⟩ := h
  unfold Jvm.Pilot.CChanceArenaLaw_law_r5724_e151ce.nv sz
  rw [h3, h4]
  exact ⟨rfl, rfl⟩
/-- a fraction's places -/
def FrP (M : mM) (f : Nat) : Prop := mK M f = 11 ∧ (mR M f 0 = f + 1 ∧ mR M f 1 = f + 3) ∧ f < mZ M
/-- the Scales' places -/
def SK (L : List Nat) (M : mM) (z : Nat) : Prop := (mK M z = 9 ∧ z < mZ M) ∧ (mR M z 0 = z + 1 ∧ mR M z 1 = z + 3 ∧ mR M z 2 = z + 5 ∧ mR M z 3 = z + 7 ∧ mR M z 4 = z + 9 ∧ mR M z 5 = z + 11 ∧ mR M z 6 = z + 13 ∧ mR M z 7 = z + 14 ∧ mR M z 8 = z + 16) ∧ ((mR M z 9 = z + 18 ∧ mR M z 10 = z + 23) ∨ (mR M z 9 = z + 23 ∧ mR M z 10 = z + 18)) ∧ (mK M (z + 13) = 33 ∧ mN M (z + 13) = 4 ∧ z + 13 < mZ M) ∧ (FrP M (z + 18) ∧ FrP M (z + 23)) ∧ (z + 1 ∈ L ∧ z + 3 ∈ L ∧ z + 5 ∈ L ∧ z + 7 ∈ L ∧ z + 9 ∈ L ∧ z + 11 ∈ L ∧ z + 14 ∈ L ∧ z + 16 ∈ L) ∧ (z + 19 ∈ L ∧ z + 21 ∈ L ∧ z + 24 ∈ L ∧ z + 26 ∈ L)
theorem NL.frp (h : NL L W T I r z M M') (hF : NF L W M) {f : Nat} (hf : FrP M f) : FrP M' f ∧ (¬ I f → mI M' f = mI M f) := by
  obtain ⟨k, p, l⟩ := hf
  obtain ⟨a1, a2, a3, a4⟩ := h.cell hF l (by rw [k]; decide) (by rw [k]; decide) (by rw [k]; decide)
  exact ⟨⟨by rw [a1]; exact k, by rw [a3]; exact p, Nat.lt_of_lt_of_le l h.2.2.1.1.1⟩, a4⟩
theorem NL.sk (h : NL L W T I False z M M') (hF : NF L W M) (hS : SK L M z) : SK L M' z := by
  obtain ⟨⟨k1, k2⟩, k3, k4, ⟨k5, k6, k7⟩, ⟨k8, k9⟩, k10, k11⟩ := hS
  have zz := h.2.2.1.1.1
  have rz : mR M' z = mR M z := (h.2.2.1.2 z k2).2.2.2.1 (fun u => u.elim (fun u => (hF.nz k1 (h.2.1.1 z u)).1 rfl) (fun u => u.2))
  obtain ⟨a1, a2, -⟩ := h.cell hF k7 (by rw [k5]; decide) (by rw [k5]; decide) (by rw [k5]; decide)
  exact ⟨⟨by rw [h.kind k2]; exact k1, Nat.lt_of_lt_of_le k2 zz⟩, by rw [rz]; exact k3, by rw [rz]; exact k4, ⟨by rw [a1]; exact k5, by rw [a2]; exact k6, Nat.lt_of_lt_of_le k7 zz⟩, ⟨(h.frp hF k8).1, (h.frp hF k9).1⟩, k10, k11⟩
end NAR
