section
/-! Euclid with longs (Fibonacci's bound); the Scales' places and frames. -/
section NAR
variable {G : mG} {d a b c z n m w : Nat} {M M' M1 M2 M3 : mM} {L : List Nat} {W : Nat → Nat} {T T' I I' : Nat → Prop} {r r' : Prop}
/-- Fibonacci's numbers, in pairs -/
def fbp : Nat → Nat × Nat
  | 0 => (0, 1)
  | n + 1 => ((fbp n).2, (fbp n).1 + (fbp n).2)
def fb (n : Nat) : Nat := (fbp n).1
theorem fb_s (n : Nat) : fb (n + 2) = fb n + fb (n + 1) := rfl
theorem fb_st {m a b : Nat} (hb : 0 < b) (h : b < fb (m + 2) ∨ (a < fb (m + 3) ∧ b < a)) : (a % b < fb (m + 1) ∨ (b < fb (m + 2) ∧ a % b < b)) := by
  have h1 := Nat.mod_lt a hb
  by_cases u : b < fb (m + 2)
  · exact Or.inr ⟨u, h1⟩
  · rcases h with h | ⟨h2, h3⟩
    · exact absurd h u
    · refine Or.inl ?_
      have h4 : a % b ≤ a - b := by
        rw [Nat.mod_eq_sub_mod (by omega)]
        exact Nat.mod_le _ _
      have h5 : fb (m + 3) = fb (m + 1) + fb (m + 2) := fb_s (m + 1)
      omega
theorem s_Ma_gcdL {x y : Nat} (hx : x < 1152921504606846976) (hy : y < 1152921504606846976) (xy : 1 ≤ x) (hO : mOk M) : Cj G y_Ma_commonDivisor d [vl x, vl y] M (fun r M' => M' = M ∧ ∃ w : Nat, r = ((w : Nat) : Int) ∧ (1 ≤ w ∧ w < 1152921504606846976) ∧ w ∣ x ∧ w ∣ y ∧ ∀ g : Nat, g ∣ x → g ∣ y → g ∣ w) := by
  refine k_Ma_commonDivisor hO ⟨by omega, by omega⟩ ⟨by omega, by omega⟩ (fun v2 e2 => ?_)
  have v0 : v2 = x := by
    have := (cmpz x 0).1
    rw [e2, if_pos (by rw [this]; omega)]
  subst v0
  suffices HH : ∀ (s i a b : Nat), 100 = i + s → a < 1152921504606846976 → b < 1152921504606846976 → (∀ w, w ∣ a → w ∣ b → w ∣ x ∧ w ∣ y) → (∀ g : Nat, g ∣ x → g ∣ y → g ∣ a ∧ g ∣ b) → (1 ≤ a ∨ 1 ≤ b) → (b < fb (s + 1) ∨ (a < fb (s + 2) ∧ b < a)) → h_Ma_commonDivisor_20 G d a b i M (fun r M' => M' = M ∧ ∃ w : Nat, r = ((w : Nat) : Int) ∧ (1 ≤ w ∧ w < 1152921504606846976) ∧ w ∣ x ∧ w ∣ y ∧ ∀ g : Nat, g ∣ x → g ∣ y → g ∣ w) from HH 100 0 x y (by omega) hx hy (fun w h1 h2 => ⟨h1, h2⟩) (fun g h1 h2 => ⟨h1, h2⟩) (Or.inl xy) (Or.inl (Nat.lt_trans hy (by decide)))
  intro s
  induction s with
  | zero =>
    intro i a b hs ha hb hd hd2 h1 hk
    have b0 : b = 0 := by
      have f1 : fb 1 = 1 := rfl
      have f2 : fb 2 = 1 := rfl
      have hk' : b < fb 1 ∨ (a < fb 2 ∧ b < a) := hk
      omega
    have ca := (cmpz (a : Int) 0).2.2.2.1
    refine k_Ma_commonDivisor_20 hO ⟨by omega, by omega⟩ ⟨by omega, by omega⟩ (i32s (by omega) (by omega)) ⟨fun _ v12 e12 => ?_, fun q => absurd (Or.inl (by omega)) q⟩
    clear hk
    rw [if_neg (by rw [ca]; omega)] at e12
    rw [e12]
    have := hd a (Nat.dvd_refl _) (by rw [b0]; exact Nat.dvd_zero _)
    exact ⟨rfl, a, rfl, ⟨by omega, ha⟩, this.1, this.2, fun g g1 g2 => (hd2 g g1 g2).1⟩
  | succ s ih =>
    intro i a b hs ha hb hd hd2 h1 hk
    have ca := (cmpz (a : Int) 0).2.2.2.1
    have cb := (cmpz (b : Int) 0).2.2.2.1
    refine k_Ma_commonDivisor_20 hO ⟨by omega, by omega⟩ ⟨by omega, by omega⟩ (i32s (by omega) (by omega)) ⟨fun q v12 e12 => ?_, fun q => ?_⟩
    · have b0 : b = 0 := by
        rcases q with q | q
        · omega
        · rw [cb] at q
          omega
      clear hk
      rw [if_neg (by rw [ca]; omega)] at e12
      rw [e12]
      have := hd a (Nat.dvd_refl _) (by rw [b0]; exact Nat.dvd_zero _)
      exact ⟨rfl, a, rfl, ⟨by omega, ha⟩, this.1, this.2, fun g g1 g2 => (hd2 g g1 g2).1⟩
    · have b0 : 0 < b := by
        by_cases t : b = 0
        · exact absurd (Or.inr (by rw [cb]; omega)) q
        · omega
      have em : Int.tmod (a : Int) (b : Int) = ((a % b : Nat) : Int) := by rw [Int.tmod_eq_emod_of_nonneg (by omega)]; rfl
      have ml := Nat.mod_lt a b0
      rw [em, show ((i : Int) + 1) = ((i + 1 : Nat) : Int) by omega]
      refine ⟨by omega, ih (i + 1) b (a % b) (by omega) hb (by omega) (fun w w1 w2 => ?_) (fun g g1 g2 => ⟨(hd2 g g1 g2).2, (Nat.dvd_mod_iff (hd2 g g1 g2).2).2 (hd2 g g1 g2).1⟩) (Or.inl b0) (fb_st b0 hk)⟩
      have wa : w ∣ a := by
        have := Nat.div_add_mod a b
        rw [← this]
        exact Nat.dvd_add (Nat.dvd_trans w1 (Nat.dvd_mul_right _ _)) w2
      exact hd w wa w1
/-- a frame with longs -/
def FD (S R D : Nat → Prop) (M M' : mM) : Prop := (mZ M ≤ mZ M' ∧ mS M ≤ mS M') ∧ ∀ x, x < mZ M → mK M' x = mK M x ∧ mN M' x = mN M x ∧ (¬ D x → mL M' x = mL M x) ∧ (¬ R x → mR M' x = mR M x) ∧ (¬ S x → mI M' x = mI M x)
theorem FD.refl {S R D : Nat → Prop} : FD S R D M M := ⟨⟨Nat.le_refl _, Nat.le_refl _⟩, fun _ _ => ⟨rfl, rfl, fun _ => rfl, fun _ => rfl, fun _ => rfl⟩⟩
theorem FD.trans2 {S R D S' R' D' : Nat → Prop} (h : FD S R D M M1) (k : FD S' R' D' M1 M2) (hS : ∀ x, x < mZ M → S' x → S x) (hR : ∀ x, x < mZ M → R' x → R x) (hD : ∀ x, x < mZ M → D' x → D x) : FD S R D M M2 := by
  obtain ⟨⟨h1, h2⟩, h3⟩ := h
  obtain ⟨⟨k1, k2⟩, k3⟩ := k
  refine ⟨⟨by omega, by omega⟩, fun x hx => ?_⟩
  obtain ⟨a1, a2, a3, a4, a5⟩ := h3 x hx
  obtain ⟨b1, b2, b3, b4, b5⟩ := k3 x (by omega)
  exact ⟨b1.trans a1, b2.trans a2, fun z => (b3 (fun y => z (hD x hx y))).trans (a3 z), fun z => (b4 (fun y => z (hR x hx y))).trans (a4 z), fun z => (b5 (fun y => z (hS x hx y))).trans (a5 z)⟩
theorem FD.mono {S R D S' R' D' : Nat → Prop} (h : FD S R D M M1) (hS : ∀ x, x < mZ M → S x → S' x) (hR : ∀ x, x < mZ M → R x → R' x) (hD : ∀ x, x < mZ M → D x → D' x) : FD S' R' D' M M1 :=
  ⟨h.1, fun x hx => ⟨(h.2 x hx).1, (h.2 x hx).2.1, fun z => (h.2 x hx).2.2.1 (fun y => z (hD x hx y)), fun z => (h.2 x hx).2.2.2.1 (fun y => z (hR x hx y)), fun z => (h.2 x hx).2.2.2.2 (fun y => z (hS x hx y))⟩⟩
theorem FA.fd {S R D : Nat → Prop} (h : FA S R M M1) : FD S R D M M1 := ⟨h.1, fun x hx => ⟨(h.2 x hx).1, (h.2 x hx).2.1, fun _ => (h.2 x hx).2.2.1, (h.2 x hx).2.2.2.1, (h.2 x hx).2.2.2.2⟩⟩
/-- numbers of T, the small factors of the fractions of I, the Scales' longs, and (where r) its own references -/
def NL (L : List Nat) (W : Nat → Nat) (T I : Nat → Prop) (r : Prop) (z : Nat) (M M' : mM) : Prop := (mOk M' ∧ NF L W M') ∧ ((∀ t, T t → t ∈ L) ∧ (∀ x, I x → x < mZ M ∧ mK M x = 11) ∧ (z < mZ M ∧ mK M z = 9)) ∧ FD (fun x => nsS M T x ∨ I x) (fun x => T x ∨ (x = z ∧ r)) (fun x => x = z + 13) M M' ∧ (∀ t, T t → mR M' t 0 = mR M t 0 ∨ mZ M ≤ mR M' t 0) ∧ RmN L M M'
theorem NL.nf (h : NL L W T I r z M M') : NF L W M' := h.1.2
theorem NL.ok (h : NL L W T I r z M M') : mOk M' := h.1.1
theorem NL.kind (h : NL L W T I r z M M') {x : Nat} (hx : x < mZ M) : mK M' x = mK M x := (h.2.2.1.2 x hx).1
theorem NL.refl (hO : mOk M) (h : NF L W M) (hT : ∀ t, T t → t ∈ L) (hI : ∀ x, I x → x < mZ M ∧ mK M x = 11) (hz : z < mZ M ∧ mK M z = 9) : NL L W T I r z M M := ⟨⟨hO, h⟩, ⟨hT, hI, hz⟩, FD.refl, fun _ _ => Or.inl rfl, RmN.refl⟩
theorem NL.trans (h : NL L W T I r z M M1) (k : NL L W T I r z M1 M2) : NL L W T I r z M M2 := by
  obtain ⟨-, h2, h3, h4, h5⟩ := h
  obtain ⟨k1, -, k3, k4, k5⟩ := k
  refine ⟨k1, h2, h3.trans2 k3 ?_ (fun _ _ y => y) (fun _ _ y => y), fun t ht => ?_, h5.trans k5⟩
  · intro x hx u
    rcases u with (u | ⟨t, ht, u⟩) | u
    · exact Or.inl (Or.inl u)
    · rcases h4 t ht with q | q
      · exact Or.inl (Or.inr ⟨t, ht, by rw [u, q]⟩)
      · omega
    · exact Or.inr u
  · rcases k4 t ht with q | q
    · rw [q]; exact h4 t ht
    · exact Or.inr (Nat.le_trans h3.1.1 q)
theorem NF.nz (hF : NF L W M) (hz : mK M z = 9) (ha : a ∈ L) : a ≠ z ∧ mR M a 0 ≠ z := by
  have h1 := hF.kd ha
  have h2 := hF.ka ha
  exact ⟨fun u => by rw [u, hz] at h1; omega, fun u => by rw [u, hz] at h2; omega⟩
theorem NF.nI (hF : NF L W M) {x : Nat} (hx : mK M x = 11) (ha : a ∈ L) : a ≠ x ∧ mR M a 0 ≠ x := by
  have h1 := hF.kd ha
  have h2 := hF.ka ha
  exact ⟨fun u => by rw [u, hx] at h1; omega, fun u => by rw [u, hx] at h2; omega⟩
theorem NL.mono (h : NL L W T I r z M M1) (hr : NF L W M) (hT : ∀ t, T t → T' t) (hL : ∀ t, T' t → t ∈ L) (hI : ∀ x, I x → I' x) (hI' : ∀ x, I' x → x < mZ M ∧ mK M x = 11) (rr : r → r') : NL L W T' I' r' z M M1 := by
  obtain ⟨h1, ⟨-, -, hz⟩, h3, h4, h5⟩ := h
  refine ⟨h1, ⟨hL, hI', hz⟩, h3.mono (fun x _ u => ?_) (fun x _ u => u.elim (fun u => Or.inl (hT x u)) (fun u => Or.inr ⟨u.1, rr u.2⟩)) (fun _ _ u => u), fun t ht => ?_, h5⟩
  · rcases u with (u | ⟨t, ht, u⟩) | u
    · exact Or.inl (Or.inl (hT x u))
    · exact Or.inl (Or.inr ⟨t, hT t ht, u⟩)
    · exact Or.inr (hI x u)
  · by_cases c : T t
    · exact h4 t c
    · refine Or.inl ?_
      rw [(h3.2 t (hr.lt (hL t ht)).1).2.2.2.1 (fun u => u.elim c (fun u => (hr.nz hz.2 (hL t ht)).1 u.1))]
theorem NC.nl (h : NC L W T M M1) (hI : ∀ x, I x → x < mZ M ∧ mK M x = 11) (hz : z < mZ M ∧ mK M z = 9) : NL L W T I r z M M1 := by
  obtain ⟨h1, h2, h3, h4, h5⟩ := h
  exact ⟨h1, ⟨h2, hI, hz⟩, (h3.fd (D := fun x => x = z + 13)).mono (fun x _ u => Or.inl u) (fun x _ u => Or.inl u) (fun _ _ u => u), h4, h5⟩
/-- what is not of T stays -/
theorem NL.num (h : NL L W T I r z M M') (hF : NF L W M) (hb : b ∈ L) (hT : ¬ T b) : mR M' b = mR M b ∧ sz M' b = sz M b ∧ nv M' b = nv M b := by
  obtain ⟨-, ⟨h2, hI, hz⟩, h3, h4, -⟩ := h
  obtain ⟨z1, z2⟩ := hF.lt hb
  have n1 : ¬ (nsS M T b ∨ I b) := by
    rintro ((u | ⟨t, ht, u⟩) | u)
    · exact hT u
    · exact hF.na hb (h2 t ht) u
    · exact (hF.nI (hI b u).2 hb).1 rfl
  have n2 : ¬ (nsS M T (mR M b 0) ∨ I (mR M b 0)) := by
    rintro ((u | ⟨t, ht, u⟩) | u)
    · exact hF.na (h2 _ u) hb rfl
    · exact hT (by rw [hF.2.2 b t hb (h2 t ht) u]; exact ht)
    · exact (hF.nI (hI _ u).2 hb).2 rfl
  have a1 := (h3.2 b z1).2.2.2.1 (fun u => u.elim hT (fun u => (hF.nz hz.2 hb).1 u.1))
  have a2 := (h3.2 b z1).2.2.2.2 n1
  have a3 := (h3.2 _ z2).2.2.2.2 n2
  have a4 : sz M' b = sz M b := by unfold sz; rw [a2]
  exact ⟨a1, a4, by unfold nv; rw [a4, a1, a3]⟩
/-- other cells stay: f is no number, no number's limbs, not the Scales -/
theorem NL.cell (h : NL L W T I r z M M') (hF : NF L W M) {x : Nat} (hx : x < mZ M) (h10 : mK M x ≠ 10) (h30 : mK M x ≠ 30) (h9 : mK M x ≠ 9) : mK M' x = mK M x ∧ mN M' x = mN M x ∧ mR M' x = mR M x ∧ (¬ I x → mI M' x = mI M x) := by
  obtain ⟨-, ⟨h2, hI, hz⟩, h3, h4, -⟩ := h
  obtain ⟨a1, a2, a3, a4, a5⟩ := h3.2 x hx
  refine ⟨a1, a2, a4 ?_, fun ni => a5 ?_⟩
  · rintro (u | ⟨u, -⟩)
    · exact h10 (hF.kd (h2 x u))
    · rw [u] at h9; exact h9 hz.2
  · rintro ((u | ⟨t, ht, u⟩) | u)
    · exact h10 (hF.kd (h2 x u))
    · rw [u] at h30; exact h30 (hF.ka (h2 t ht))
    · exact ni u
/-- the search for factors is a step -/
theorem FLo.nl (h : FLo (z + 13) M M') (o : mOk M') (hF : NF L W M) (hT : ∀ t, T t → t ∈ L) (hI : ∀ x, I x → x < mZ M ∧ mK M x = 11) (hz : z < mZ M ∧ mK M z = 9) : NL L W T I r z M M' := by
  obtain ⟨h1, h2, h3, h4, h5, h6, h7⟩ := h
  have cc : ∀ b, cp M' b = cp M b := fun b => by unfold cp; rw [h3, h2]
  have nt' : ∀ {a Y C s : Nat}, Nt M a Y C s → Nt M' a Y C s := by
    intro a Y C s t
    unfold Nt Nl lim at t ⊢
    rw [h1, h2, h3, h4, h5]
    exact t
  refine ⟨⟨o, hF.1, fun a ha => ⟨(nt' (hF.nt ha)).nn, by rw [cc]; exact (hF.2.1 a ha).2.1, (hF.2.1 a ha).2.2⟩, fun a b ha hb u => hF.2.2 a b ha hb (by rw [← h3]; exact u)⟩, ⟨hT, hI, hz⟩, ⟨⟨by rw [h5]; exact Nat.le_refl _, by rw [h6]; exact Nat.le_refl _⟩, fun x _ => ⟨by rw [h1], by rw [h2], fun u => h7 x u, fun _ => by rw [h3], fun _ => by rw [h4]⟩⟩, fun t _ => Or.inl (by rw [h3]), ?_⟩
  unfold RmN
  rw [show cp M' = cp M from funext cc, h5, h6]
  exact ⟨Nat.le_refl _, Nat.le_refl _⟩
theorem FLo.nv (h : FLo z M M') (a : Nat) : nv M' a = nv M a ∧ sz M' a = sz M a := by
  obtain ⟨h1, h2, h3, h4, h5, h6, h7⟩ := h
  unfold Jvm.Pilot.CChanceArenaLaw_law_r6886_6b7991.nv sz
  rw [h3, h4]
  exact ⟨rfl, rfl⟩
/-- a fraction's places -/
def FrP (M : mM) (f : Nat) : Prop := mK M f = 11 ∧ (mR M f 0 = f + 1 ∧ mR M f 1 = f + 3) ∧ f < mZ M
/-- the Scales' places -/
def SK (L : List Nat) (M : mM) (z : Nat) : Prop := (mK M z = 9 ∧ z < mZ M) ∧ (mR M z 0 = z + 1 ∧ mR M z 1 = z + 3 ∧ mR M z 2 = z + 5 ∧ mR M z 3 = z + 7 ∧ mR M z 4 = z + 9 ∧ mR M z 5 = z + 11 ∧ mR M z 6 = z + 13 ∧ mR M z 7 = z + 14 ∧ mR M z 8 = z + 16) ∧ ((mR M z 9 = z + 18 ∧ mR M z 10 = z + 23) ∨ (mR M z 9 = z + 23 ∧ mR M z 10 = z + 18)) ∧ (mK M (z + 13) = 33 ∧ mN M (z + 13) = 4 ∧ z + 13 < mZ M) ∧ (FrP M (z + 18) ∧ FrP M (z + 23)) ∧ (z + 1 ∈ L ∧ z + 3 ∈ L ∧ z + 5 ∈ L ∧ z + 7 ∈ L ∧ z + 9 ∈ L ∧ z + 11 ∈ L ∧ z + 14 ∈ L ∧ z + 16 ∈ L) ∧ (z + 19 ∈ L ∧ z + 21 ∈ L ∧ z + 24 ∈ L ∧ z + 26 ∈ L)
theorem NL.frp (h : NL L W T I r z M M') (hF : NF L W M) {f : Nat} (hf : FrP M f) : FrP M' f ∧ (¬ I f → mI M' f = mI M f) := by
  obtain ⟨k, p, l⟩ := hf
  obtain ⟨a1, a2, a3, a4⟩ := h.cell hF l (by rw [k]; decide) (by rw [k]; decide) (by rw [k]; decide)
  exact ⟨⟨by rw [a1]; exact k, by rw [a3]; exact p, Nat.lt_of_lt_of_le l h.2.2.1.1.1⟩, a4⟩
theorem NL.sk (h : NL L W T I False z M M') (hF : NF L W M) (hS : SK L M z) : SK L M' z := by
  obtain ⟨⟨k1, k2⟩, k3, k4, ⟨k5, k6, k7⟩, ⟨k8, k9⟩, k10, k11⟩ := hS
  have zz := h.2.2.1.1.1
  have rz : mR M' z = mR M z := (h.2.2.1.2 z k2).2.2.2.1 (fun u => u.elim (fun u => (hF.nz k1 (h.2.1.1 z u)).1 rfl) (fun u => u.2))
  obtain ⟨a1, a2, -⟩ := h.cell hF k7 (by rw [k5]; decide) (by rw [k5]; decide) (by rw [k5]; decide)
  exact ⟨⟨by rw [h.kind k2]; exact k1, Nat.lt_of_lt_of_le k2 zz⟩, by rw [rz]; exact k3, by rw [rz]; exact k4, ⟨by rw [a1]; exact k5, by rw [a2]; exact k6, Nat.lt_of_lt_of_le k7 zz⟩, ⟨(h.frp hF k8).1, (h.frp hF k9).1⟩, k10, k11⟩
end NAR
end
section
/-! The Scales: a greatest common divisor. -/
section NAS
variable {G : mG} {d a b c z n m w S : Nat} {M M' M1 M2 M3 : mM} {L : List Nat} {W : Nat → Nat} {T T' I I' : Nat → Prop} {r r' : Prop} {u0 v0 : Int}
/-- the four numbers that it works with -/
def T4 (z x : Nat) : Prop := x = z + 1 ∨ x = z + 3 ∨ x = z + 5 ∨ x = z + 7
theorem SK.t4 (h : SK L M z) : ∀ t, T4 z t → t ∈ L := by
  intro t ht
  obtain ⟨-, -, -, -, -, ⟨h1, h2, h3, h4, -⟩, -⟩ := h
  rcases ht with u | u | u | u
  · rw [u]; exact h1
  · rw [u]; exact h2
  · rw [u]; exact h3
  · rw [u]; exact h4
theorem SK.z9 (h : SK L M z) : z < mZ M ∧ mK M z = 9 := ⟨h.1.2, h.1.1⟩
/-- the larger and the smaller -/
def Lsm (z a b : Nat) : Prop := (a = z + 1 ∧ b = z + 3) ∨ (a = z + 3 ∧ b = z + 1)
theorem Lsm.swap (h : Lsm z a b) : Lsm z b a := h.elim (fun u => Or.inr ⟨u.2, u.1⟩) (fun u => Or.inl ⟨u.2, u.1⟩)
theorem Lsm.t1 (h : Lsm z a b) : T4 z a ∧ T4 z b := by
  rcases h with ⟨u, v⟩ | ⟨u, v⟩
  · exact ⟨Or.inl u, Or.inr (Or.inl v)⟩
  · exact ⟨Or.inr (Or.inl u), Or.inl v⟩
theorem Lsm.ne (h : Lsm z a b) : a ≠ b ∧ a ≠ z + 5 ∧ a ≠ z + 7 ∧ b ≠ z + 5 ∧ b ≠ z + 7 := by
  rcases h with ⟨u, v⟩ | ⟨u, v⟩ <;> subst u <;> subst v <;> omega
/-- room for numbers of S limbs -/
def W4 (W : Nat → Nat) (z S : Nat) : Prop := S + 2 ≤ W (z + 1) ∧ S + 2 ≤ W (z + 3) ∧ S + 2 ≤ W (z + 5) ∧ S + 2 ≤ W (z + 7)
theorem Lsm.wd (h : Lsm z a b) (hw : W4 W z S) : S + 2 ≤ W a ∧ S + 2 ≤ W b := by
  obtain ⟨h1, h2, -, -⟩ := hw
  rcases h with ⟨u, v⟩ | ⟨u, v⟩ <;> subst u <;> subst v
  · exact ⟨h1, h2⟩
  · exact ⟨h2, h1⟩
def gdQ (L : List Nat) (W : Nat → Nat) (z : Nat) (u0 v0 : Int) (M : mM) (r : Nat) (M' : mM) : Prop := (r = z + 1 ∨ r = z + 3) ∧ NL L W (T4 z) (fun _ => False) False z M M' ∧ 0 < nv M' r ∧ nv M' r ∣ u0 ∧ nv M' r ∣ v0 ∧ ∀ g : Int, g ∣ u0 → g ∣ v0 → g ∣ nv M' r
theorem Lsm.rr (h : Lsm z a b) : a = z + 1 ∨ a = z + 3 := h.elim (fun u => Or.inl u.1) (fun u => Or.inr u.1)
theorem noI : ∀ x, (fun _ : Nat => False) x → x < mZ M ∧ mK M x = 11 := fun _ u => u.elim
/-- small numbers -/
theorem s_gc_small {M0 : mM} (hO : mOk M) (hF : NF L W M) (hF0 : NF L W M0) (hS : SK L M z) (hN : NL L W (T4 z) (fun _ => False) False z M0 M) (ls : Lsm z a b) (de : DE u0 v0 (nv M a) (nv M b)) (ab : nv M b ≤ nv M a) (p : 0 < nv M a) (s2 : sz M a < 3) : Cj G y_Na_bitsFrom (d + 3) [vr a, vi 0] M (fun x70 M69 => i64 x70 ∧ mOk M69 ∧ (mK M69 b = 10 ∧ Cj G y_Na_bitsFrom (d + 3) [vr b, vi 0] M69 (fun x74 M73 => i64 x74 ∧ mOk M73 ∧ (Cj G y_Ma_commonDivisor (d + 3) [vl x70, vl x74] M73 (fun x77 M76 => i64 x77 ∧ mOk M76 ∧ (mK M76 a = 10 ∧ Cv G y_Na_putLong (d + 3) [vr a, vl x77] M76 (fun M80 => mOk M80 ∧ (gdQ L W z u0 v0 M0 a M80)))))))) := by
  have hT := hS.t4
  have ha := hT a ls.t1.1
  have hb := hT b ls.t1.2
  have va : nv M a < 1152921504606846976 := by
    have h1 := hF.vlt ha
    have h2 := p30m (m := sz M a) (k := 2) (by omega)
    have h3 : (2 : Int) ^ (30 * 2) = 1152921504606846976 := by decide
    omega
  have nb := hF.nn0 hb
  have h60 : (2 : Int) ^ (0 + 60) = 1152921504606846976 := by decide
  have h1 : ∀ x : Int, x / 2 ^ 0 = x := fun x => by rw [show (2 : Int) ^ 0 = 1 by decide, Int.ediv_one]
  refine (s_Na_bitsFrom (bit := 0) hO (hF.nt ha) (by decide) (by rw [h60]; exact va)).mono (fun x M69 k => ?_)
  obtain ⟨e1, e2⟩ := k
  rw [h1] at e2
  have e2' : x = nv M a := e2
  rw [e1, e2']
  refine ⟨⟨by omega, by omega⟩, hO, hF.kd hb, (s_Na_bitsFrom (bit := 0) hO (hF.nt hb) (by decide) (by rw [h60]; exact Int.lt_of_le_of_lt ab va)).mono (fun y M73 k => ?_)⟩
  obtain ⟨f1, f2⟩ := k
  rw [h1] at f2
  have f2' : y = nv M b := f2
  rw [f1, f2']
  obtain ⟨x, hx⟩ : ∃ x : Nat, nv M a = ((x : Nat) : Int) := ⟨(nv M a).toNat, by omega⟩
  obtain ⟨y, hy⟩ : ∃ y : Nat, nv M b = ((y : Nat) : Int) := ⟨(nv M b).toNat, by omega⟩
  rw [hx] at de p va ab ⊢
  rw [hy] at de nb ab ⊢
  refine ⟨⟨by omega, by omega⟩, hO, (s_Ma_gcdL (x := x) (y := y) (by omega) (by omega) (by omega) hO).mono (fun g M76 k => ?_)⟩
  obtain ⟨g1, w, g2, g3, g4, g5, g6⟩ := k
  rw [g1, g2]
  refine ⟨⟨by omega, by omega⟩, hO, hF.kd ha, (f_putLong (d := d + 2) (x := ((w : Nat) : Int)) ⟨by omega, by omega⟩ hO hF ha).mono (fun M80 k => ?_)⟩
  obtain ⟨c1, v1⟩ := k
  have dv := (de ((w : Nat) : Int)).2 ⟨Int.natCast_dvd_natCast.2 g4, Int.natCast_dvd_natCast.2 g5⟩
  refine ⟨c1.ok, ls.rr, hN.trans ((c1.nl noI hS.z9).mono hF (fun t ht => by rw [ht]; exact ls.t1.1) hT (fun _ u => u) noI (fun u => u)), by rw [v1]; omega, by rw [v1]; exact dv.1, by rw [v1]; exact dv.2, fun g a1 a2 => ?_⟩
  rw [v1]
  obtain ⟨b1, b2⟩ := (de g).1 ⟨a1, a2⟩
  have q := g6 g.natAbs (Int.natAbs_dvd_natAbs.2 b1) (Int.natAbs_dvd_natAbs.2 b2)
  exact Int.natAbs_dvd_natAbs.1 q
theorem pr_h2 {k : Nat} {x y t : Int} (h : x * y < 2 ^ (k + 1)) (h2 : 2 * t ≤ x * y) : t < 2 ^ k := by
  rw [Int.pow_succ] at h
  omega
/-- the loop -/
theorem s_gc58 {M0 : mM} (hF0 : NF L W M0) (hS0 : SK L M0 z) (hw : W4 W z S) : ∀ (t i a b : Nat) (M : mM), 1000000 = i + t → NL L W (T4 z) (fun _ => False) False z M0 M → Lsm z a b → DE u0 v0 (nv M a) (nv M b) → nv M b ≤ nv M a → 0 < nv M a → sz M a ≤ S → nv M a * nv M b < 2 ^ t → h_Sc_commonDivisor_58 G (d + 3) z a b i M (gdQ L W z u0 v0 M0) := by
  have fin : ∀ {a b : Nat} {M : mM}, NL L W (T4 z) (fun _ => False) False z M0 M → Lsm z a b → DE u0 v0 (nv M a) (nv M b) → 0 < nv M a → nv M b = 0 → gdQ L W z u0 v0 M0 a M := by
    intro a b M hN ls de p z0
    have dv := (de (nv M a)).2 ⟨Int.dvd_refl _, by rw [z0]; exact Int.dvd_zero _⟩
    exact ⟨ls.rr, hN, p, dv.1, dv.2, fun g a1 a2 => ((de g).1 ⟨a1, a2⟩).1⟩
  intro t
  induction t with
  | zero =>
    intro i a b M ht hN ls de ab p hs pr
    have hS := hN.sk hF0 hS0
    have hF := hN.nf
    have ha := hS.t4 a ls.t1.1
    have hb := hS.t4 b ls.t1.2
    have nb := hF.nn0 hb
    have z0 : nv M b = 0 := by
      refine Classical.byContradiction (fun u => ?_)
      have := Int.mul_le_mul_of_nonneg_left (show 1 ≤ nv M b by omega) (Int.le_of_lt p)
      have e : (2 : Int) ^ 0 = 1 := by decide
      omega
    exact k_Sc_commonDivisor_58 hN.ok ⟨by omega, by omega⟩ ⟨fun u => absurd (by omega) u, fun _ => fin hN ls de p z0, fun u => absurd (Or.inl (by omega)) u⟩
  | succ t ih =>
    intro i a b M ht hN ls de ab p hs pr
    have hS := hN.sk hF0 hS0
    have hF := hN.nf
    have hO := hN.ok
    have ha := hS.t4 a ls.t1.1
    have hb := hS.t4 b ls.t1.2
    have nb := hF.nn0 hb
    have tb := hF.nt hb
    have ta := hF.nt ha
    have sb := hF.szm hF hb ha ab
    obtain ⟨n1, n2, n3, n4, n5⟩ := ls.ne
    refine k_Sc_commonDivisor_58 hO ⟨by omega, by omega⟩ ?_
    rw [tb.2.1, ta.2.1]
    refine ⟨fun _ => hF.kd hb, fun u => fin hN ls de p ((hF.sz0 hb).1 (by omega)), fun u => ⟨hF.kd ha, fun y => ?_, fun y => s_gc_small (d := d) hO hF hF0 hS hN ls de ab p (by omega)⟩⟩
    have b0 : 0 < nv M b := by
      refine Classical.byContradiction (fun w => u (Or.inr ?_))
      have := (hF.sz0 hb).2 (by omega)
      omega
    refine (s_Na_bits (d := d + 2) hO ta).mono (fun x42 M41 k => ?_)
    obtain ⟨e1, n, e2, k1, k2, k3, -⟩ := k
    obtain ⟨k4, k5⟩ := k3 (by omega)
    have k2' : nv M a < 2 ^ n := k2
    have cb := hF.cb ha
    have sc := hF.sc ha
    rw [e1, e2, show ((n : Nat) : Int) - 60 = ((n - 60 : Nat) : Int) by omega]
    have n60 : n - 60 + 60 = n := by omega
    refine ⟨⟨by omega, by omega⟩, hO, hF.kd ha, (s_Na_bitsFrom (bit := n - 60) hO ta (by omega) (by rw [n60]; exact k2)).mono (fun x46 M45 k => ?_)⟩
    obtain ⟨f1, f2⟩ := k
    have K0 : (0 : Int) < 2 ^ (n - 60) := Int.pow_pos (by decide)
    have kk : nv M a < 2 ^ (n - 60) * 1152921504606846976 := by
      rw [show (1152921504606846976 : Int) = 2 ^ 60 by decide, ← Int.pow_add, n60]
      exact k2'
    have f2' : x46 = nv M a / 2 ^ (n - 60) := f2
    have q1 : 0 ≤ nv M a / 2 ^ (n - 60) := Int.ediv_nonneg (by omega) (by omega)
    have q2 : nv M a / 2 ^ (n - 60) < 1152921504606846976 := Int.ediv_lt_of_lt_mul K0 (by rw [Int.mul_comm]; exact kk)
    have q3 : 0 ≤ nv M b / 2 ^ (n - 60) := Int.ediv_nonneg (by omega) (by omega)
    have q4 : nv M b / 2 ^ (n - 60) < 1152921504606846976 := Int.ediv_lt_of_lt_mul K0 (by rw [Int.mul_comm]; omega)
    rw [f1, f2']
    refine ⟨⟨by omega, by omega⟩, hO, hF.kd hb, (s_Na_bitsFrom (bit := n - 60) hO tb (by omega) (by rw [n60]; exact Int.lt_of_le_of_lt ab k2)).mono (fun x50 M49 k => ?_)⟩
    obtain ⟨g1, g2⟩ := k
    have g2' : x50 = nv M b / 2 ^ (n - 60) := g2
    rw [g1, g2']
    obtain ⟨⟨s1, s1'⟩, ⟨-, -, s2, s3, -, -, s4, -⟩, -, ⟨s5, s6, s7⟩, -⟩ := id hS
    refine ⟨⟨by omega, by omega⟩, hO, s1, (s_Sc_findFactors (e := d + 2) K0 hO s1 s4 s5 s6 kk (Int.le_of_lt b0) ab).mono (fun x54 M53 k => ?_)⟩
    obtain ⟨o53, F53, fa, fb, fc, fd, ⟨l0, l1, l2, l3⟩, ⟨j0, j1, j2, j3⟩, ⟨o1, o2, o3⟩, de2, pr2, x01⟩ := k
    have nl53 : NL L W (T4 z) (fun _ => False) False z M M53 := F53.nl o53 hF hS.t4 noI hS.z9
    have hN53 := hN.trans nl53
    have hF53 := nl53.nf
    have hS53 := nl53.sk hF hS
    obtain ⟨va, sa⟩ := F53.nv a
    obtain ⟨vb, sb'⟩ := F53.nv b
    obtain ⟨⟨m1, m1'⟩, ⟨-, -, m2, m3, -, -, m4, -⟩, -, ⟨m5, m6, m7⟩, -, ⟨-, -, m8, m9, -⟩, -⟩ := id hS53
    obtain ⟨w1, w2⟩ := ls.wd hw
    obtain ⟨-, -, w5, w7⟩ := id hw
    refine ⟨by rcases x01 with u | u <;> rw [u] <;> exact ⟨by decide, by decide⟩, o53, fun x0 => ⟨m1, hF53.kd ha, ?_⟩, fun x1 => ⟨m1, ?_⟩⟩
    · rw [m2, m3]
      refine (f_divide (d := d) o53 hF53 ha hb m8 m9 n1 n2 n3 n4 n5 (by omega) (by omega) (by omega) (by omega) (by omega)).mono (fun M62 k => ?_)
      obtain ⟨c1, e1', r1⟩ := k
      obtain ⟨-, -, -, b4, b5, -⟩ := c1.num hF53 hb (fun u => by rcases u with u | u | u <;> omega)
      rw [va, vb] at e1'
      rw [vb] at r1 b5
      have hF62 := c1.nf
      have r0 := hF62.nn0 ha
      have q1 : 1 ≤ nv M62 (z + 5) := by
        refine Classical.byContradiction (fun u => ?_)
        have := Int.mul_le_mul_of_nonneg_left (show nv M62 (z + 5) ≤ 0 by omega) (Int.le_of_lt b0)
        omega
      have er : nv M62 a = nv M a - nv M62 (z + 5) * nv M b := by rw [Int.mul_comm]; omega
      have hf := eu_half (Int.le_of_lt b0) ab ⟨r0, r1⟩ q1 er
      rw [show ((i : Int) + 1) = ((i + 1 : Nat) : Int) by omega]
      refine ⟨c1.ok, ih (i + 1) b a M62 (by omega) (hN53.trans ((c1.nl noI hS53.z9).mono hF53 (fun t ht => ?_) hS53.t4 (fun _ u => u) noI (fun u => u))) ls.swap ?_ (by omega) (by omega) (by omega) (by rw [b5]; exact pr_h2 pr hf)⟩
      · rcases ht with u | u | u
        · rw [u]; exact ls.t1.1
        · exact Or.inr (Or.inr (Or.inl u))
        · exact Or.inr (Or.inr (Or.inr u))
      · rw [b5, er]
        exact de.trans (DE.step _)
    · rw [m4]
      have vl := hF.vlt ha
      refine (f_combine (d := d) o53 hF53 ha hb n1 (by omega) (by omega) m5 m6 m7 l0 l1 l2 l3 j0 j1 j2 j3 (by rw [va, vb, sa]; omega) (by rw [va, vb, sa]; omega)).mono (fun M66 k => ?_)
      obtain ⟨c1, e1', e2'⟩ := k
      rw [va, vb] at e1' e2'
      have hF66 := c1.nf
      rw [← e1', ← e2'] at de2 pr2
      have up : 0 < nv M66 a := by
        refine Classical.byContradiction (fun u => ?_)
        have z1 : nv M66 a = 0 := by have := hF66.nn0 ha; omega
        have z2 : nv M66 b = 0 := by have := hF66.nn0 hb; omega
        have := ((de2 (nv M a + 1)).2 ⟨by rw [z1]; exact Int.dvd_zero _, by rw [z2]; exact Int.dvd_zero _⟩).1
        have := Int.le_of_dvd p this
        omega
      have s66 : sz M66 a ≤ sz M a := hF66.szm hF ha ha (by omega)
      rw [show ((i : Int) + 1) = ((i + 1 : Nat) : Int) by omega]
      refine ⟨c1.ok, ih (i + 1) a b M66 (by omega) (hN53.trans ((c1.nl noI hS53.z9).mono hF53 (fun t ht => ?_) hS53.t4 (fun _ u => u) noI (fun u => u))) ls (de.trans de2) (by omega) up (by omega) (pr_h2 pr (by rcases pr2 with u | u <;> first | exact absurd u x1 | exact u))⟩
      rcases ht with u | u
      · rw [u]; exact ls.t1.1
      · rw [u]; exact ls.t1.2
/-- a common divisor -/
theorem f_common {one other : Nat} (hO : mOk M) (hF : NF L W M) (hS : SK L M z) (h1 : one ∈ L) (h2 : other ∈ L) (t1 : ¬ T4 z one) (t2 : ¬ T4 z other) (pp : 0 < nv M one ∨ 0 < nv M other) (s1 : sz M one ≤ S) (s2 : sz M other ≤ S) (hS2 : S ≤ 16000) (hw : W4 W z S) : Cr G y_Sc_commonDivisor (d + 4) [vr z, vr one, vr other] M (gdQ L W z (nv M one) (nv M other) M) := by
  obtain ⟨⟨k1, k1'⟩, ⟨k2, k3, -⟩, -, -, -, ⟨k4, k5, -⟩, -⟩ := id hS
  obtain ⟨w1, w3, -⟩ := id hw
  refine k_Sc_commonDivisor hO ⟨k1, (f_order (d := d + 3) hO hF h1 h2).mono (fun x3 M2 k => ?_)⟩
  obtain ⟨e, ox⟩ := k
  rw [e, k2, k3]
  have xi : i32 x3 := by unfold orQ at ox; exact ⟨by omega, by omega⟩
  -- which of them is the larger one
  obtain ⟨big, sml, eb, es, hb, hs, tb, ts, pb, ps, lb, ls, le, de⟩ : ∃ big sml : Nat, (if (if (x3 < 0) then (0 : Int) else 1) = 0 then other else one) = big ∧ (if (if (x3 < 0) then (0 : Int) else 1) = 0 then one else other) = sml ∧ big ∈ L ∧ sml ∈ L ∧ ¬ T4 z big ∧ ¬ T4 z sml ∧ 0 < nv M big ∧ 0 ≤ nv M sml ∧ sz M big ≤ S ∧ sz M sml ≤ S ∧ nv M sml ≤ nv M big ∧ DE (nv M one) (nv M other) (nv M big) (nv M sml) := by
    unfold orQ at ox
    have n1 := hF.nn0 h1
    have n2 := hF.nn0 h2
    by_cases c : x3 < 0
    · rw [if_pos c, if_pos rfl, if_pos rfl]
      exact ⟨other, one, rfl, rfl, h2, h1, t2, t1, by omega, n1, s2, s1, by omega, DE.swap⟩
    · rw [if_neg c, if_neg (by decide), if_neg (by decide)]
      exact ⟨one, other, rfl, rfl, h1, h2, t1, t2, by omega, n2, s1, s2, by omega, DE.refl⟩
  refine ⟨xi, hO, fun v6 e6 v12 e12 => ⟨hF.kd k4, ?_⟩⟩
  rw [e6, eb] at e12
  rw [e12]
  refine (f_put1 (d := d + 2) hO hF k4 hb (fun u => tb (Or.inl u.symm)) (by omega)).mono (fun M16 k => ?_)
  obtain ⟨c1, v1⟩ := k
  have F1 := c1.nf
  refine ⟨c1.ok, fun v20 e20 => ⟨F1.kd k5, ?_⟩⟩
  rw [e6, es] at e20
  rw [e20]
  obtain ⟨-, -, -, n4, n5, -⟩ := c1.num hF hs (fun u => ts (Or.inl u))
  refine (f_put1 (d := d + 2) c1.ok F1 k5 hs (fun u => ts (Or.inr (Or.inl u.symm))) (by omega)).mono (fun M24 k => ?_)
  obtain ⟨c2, v2⟩ := k
  have F2 := c2.nf
  obtain ⟨-, -, -, a4, a5, -⟩ := c2.num F1 k4 (show z + 1 ≠ z + 3 by omega)
  rw [v1] at a5
  rw [n5] at v2
  have sb : sz M24 (z + 1) ≤ sz M big := F2.szm hF k4 hb (by omega)
  have nl1 := (c1.nl (I := fun _ => False) (r := False) noI hS.z9).mono (T' := T4 z) hF (fun t ht => Or.inl ht) hS.t4 (fun _ u => u) noI (fun u => u)
  have hS1 := nl1.sk hF hS
  have nl2 := (c2.nl (I := fun _ => False) (r := False) noI hS1.z9).mono (T' := T4 z) F1 (fun t ht => Or.inr (Or.inl ht)) hS.t4 (fun _ u => u) noI (fun u => u)
  refine ⟨c2.ok, s_gc58 (d := d) hF hS hw 1000000 0 (z + 1) (z + 3) M24 rfl (nl1.trans nl2) (Or.inl ⟨rfl, rfl⟩) (by rw [a5, v2]; exact de) (by omega) (by omega) (by omega) ?_⟩
  have u1 := hF.vlt hb
  have u2 := hF.vlt hs
  have u3 := p30m lb
  have u4 := p30m ls
  rw [a5, v2]
  have u5 : nv M big * nv M sml ≤ 2 ^ (30 * S) * nv M sml := Int.mul_le_mul_of_nonneg_right (by omega) ps
  have u6 : (2 : Int) ^ (30 * S) * nv M sml < 2 ^ (30 * S) * 2 ^ (30 * S) := Int.mul_lt_mul_of_pos_left (by omega) (p30p S)
  rw [← Int.pow_add] at u6
  have u7 := p2m (m := 30 * S + 30 * S) (k := 1000000) (by omega)
  exact Int.lt_of_le_of_lt u5 (Int.lt_of_lt_of_le u6 u7)
end NAS
end
section
/-! The Scales: fractions, other cells, an order of two fractions. -/
section NAT
variable {G : mG} {d a b c z n m w f f' S x : Nat} {M M' M1 M2 M3 : mM} {L : List Nat} {W : Nat → Nat} {T T' I I' : Nat → Prop} {r r' : Prop} {u0 v0 : Int}
/-- a cell that is neither a number nor a number's limbs -/
def Oc (L : List Nat) (M : mM) (x : Nat) : Prop := x < mZ M ∧ x ∉ L ∧ ∀ a, a ∈ L → mR M a 0 ≠ x
theorem NL.oc (h : NL L W T I r z M M') (hF : NF L W M) (hx : Oc L M x) : Oc L M' x := by
  refine ⟨Nat.lt_of_lt_of_le hx.1 h.2.2.1.1.1, hx.2.1, fun a ha u => ?_⟩
  by_cases c : T a
  · rcases h.2.2.2.1 a c with q | q
    · exact hx.2.2 a ha (by rw [← q]; exact u)
    · have := hx.1
      omega
  · rw [(h.num hF ha c).1] at u
    exact hx.2.2 a ha u
theorem NL.oth (h : NL L W T I r z M M') (hx : Oc L M x) (hz : x ≠ z) : mK M' x = mK M x ∧ mN M' x = mN M x ∧ mR M' x = mR M x ∧ (¬ I x → mI M' x = mI M x) := by
  obtain ⟨-, ⟨h2, hI, -⟩, h3, -, -⟩ := h
  obtain ⟨a1, a2, a3, a4, a5⟩ := h3.2 x hx.1
  refine ⟨a1, a2, a4 (fun u => u.elim (fun u => hx.2.1 (h2 x u)) (fun u => hz u.1)), fun ni => a5 ?_⟩
  rintro ((u | ⟨t, ht, u⟩) | u)
  · exact hx.2.1 (h2 x u)
  · exact hx.2.2 t (h2 t ht) u.symm
  · exact ni u
theorem NC.v (h : NC L W (fun x => x = a) M M') (hF : NF L W M) (hb : b ∈ L) (ne : b ≠ a) : nv M' b = nv M b := (h.num hF hb ne).2.2.2.2.1
/-- a fraction whose numbers are of the family -/
def FrL (L : List Nat) (M : mM) (f : Nat) : Prop := FrP M f ∧ f + 1 ∈ L ∧ f + 3 ∈ L
theorem NL.frl (h : NL L W T I r z M M') (hF : NF L W M) (hf : FrL L M f) : FrL L M' f := ⟨(h.frp hF hf.1).1, hf.2⟩
/-- a small factor is written -/
theorem nl_times {v : Int} (hO : mOk M) (hF : NF L W M) (hf : FrL L M f) (hz : z < mZ M ∧ mK M z = 9) (hv : i32 v) (e : M' = mUI M f 2 v) (hT : ∀ t, T t → t ∈ L) (hI : I f) (hI' : ∀ x, I x → x < mZ M ∧ mK M x = 11) : NL L W T I r z M M' ∧ mI M' f 2 = v ∧ ∀ a, a ∈ L → nv M' a = nv M a := by
  have F : FI (fun x => x = f) M M' := by rw [e]; exact FI.ui rfl
  have o : mOk M' := by rw [e]; exact mOk_UI hO hv
  have ne : ∀ a, a ∈ L → a ≠ f ∧ mR M a 0 ≠ f := fun a ha => hF.nI hf.1.1 ha
  have cc : ∀ b, cp M' b = cp M b := fun b => by unfold cp; rw [F.2.2.1, F.2.1]
  have nt' : ∀ a, a ∈ L → Nt M' a (mR M a 0) (cp M a) (sz M a) := fun a ha => (hF.nt ha).fi F (ne a ha).1 (ne a ha).2
  refine ⟨⟨⟨o, hF.1, fun a ha => ⟨(nt' a ha).nn, by rw [cc]; exact (hF.2.1 a ha).2.1, (hF.2.1 a ha).2.2⟩, fun a b ha hb u => hF.2.2 a b ha hb (by rw [← F.2.2.1]; exact u)⟩, ⟨hT, hI', hz⟩, ((F.fa (R := fun _ => False)).fd (D := fun x => x = z + 13)).mono (fun x _ u => Or.inr (by rw [u]; exact hI)) (fun _ _ u => u.elim) (fun _ _ u => u), fun t _ => Or.inl (by rw [F.2.2.1]), ?_⟩, by rw [mI_ui f 2 e, if_pos ⟨rfl, rfl⟩], fun a ha => ?_⟩
  · unfold RmN
    rw [show cp M' = cp M from funext cc, F.2.2.2.2.1, F.2.2.2.2.2.1]
    exact ⟨Nat.le_refl _, Nat.le_refl _⟩
  · rw [(nt' a ha).nv]
    unfold nv
    rw [F.2.2.2.2.2.2 _ (ne a ha).2]
/-- a fraction's numbers -/
def T2 (f x : Nat) : Prop := x = f + 1 ∨ x = f + 3
theorem FrL.t2 (h : FrL L M f) : ∀ t, T2 f t → t ∈ L := fun t u => u.elim (fun u => by rw [u]; exact h.2.1) (fun u => by rw [u]; exact h.2.2)
theorem f_Fr_put0 {v : Int} (hv : 0 ≤ v ∧ v < 1073741824) (hO : mOk M) (hF : NF L W M) (hf : FrL L M f) (hz : z < mZ M ∧ mK M z = 9) : Cv G y_Fr_put0 (d + 1) [vr f, vi v] M (fun M' => NL L W (T2 f) (fun x => x = f) False z M M' ∧ nv M' (f + 1) = v ∧ nv M' (f + 3) = 1 ∧ mI M' f 2 = 1) := by
  have hI : ∀ x, (fun x => x = f) x → x < mZ M ∧ mK M x = 11 := fun x u => by rw [u]; exact ⟨hf.1.2.2, hf.1.1⟩
  obtain ⟨⟨k, ⟨r0, r1⟩, l⟩, m1, m3⟩ := id hf
  refine k_Fr_put0 hO (l30i hv) ?_
  rw [r0]
  refine ⟨k, hF.kd m1, (f_put0 hv hO hF m1).mono (fun M3 k3 => ?_)⟩
  obtain ⟨c1, v1⟩ := k3
  have F1 := c1.nf
  have n1 : NL L W (T2 f) (fun x => x = f) False z M M3 := (c1.nl (I := fun x => x = f) (r := False) hI hz).mono hF (fun t ht => Or.inl ht) hf.t2 (fun _ u => u) hI (fun u => u)
  have hf1 := n1.frl hF hf
  obtain ⟨⟨k1, ⟨-, r1'⟩, l1⟩, -⟩ := id hf1
  rw [r1']
  refine ⟨c1.ok, k1, F1.kd m3, (f_put0 ⟨by decide, by decide⟩ c1.ok F1 m3).mono (fun M8 k8 => ?_)⟩
  obtain ⟨c2, v2⟩ := k8
  have F2 := c2.nf
  have hz1 : z < mZ M3 ∧ mK M3 z = 9 := ⟨Nat.lt_of_lt_of_le hz.1 n1.2.2.1.1.1, by rw [n1.kind hz.1]; exact hz.2⟩
  have hI1 : ∀ x, (fun x => x = f) x → x < mZ M3 ∧ mK M3 x = 11 := fun x u => by rw [u]; exact ⟨l1, k1⟩
  have n2 : NL L W (T2 f) (fun x => x = f) False z M3 M8 := (c2.nl (I := fun x => x = f) (r := False) hI1 hz1).mono F1 (fun t ht => Or.inr ht) hf.t2 (fun _ u => u) hI1 (fun u => u)
  have hf2 := n2.frl F1 hf1
  have n12 := n1.trans n2
  refine ⟨c2.ok, hf2.1.1, fun M12 e12 => ?_⟩
  obtain ⟨n3, t3, w3⟩ := nl_times (T := T2 f) (I := fun x => x = f) (r := False) (z := z) c2.ok F2 hf2 ⟨Nat.lt_of_lt_of_le hz.1 n12.2.2.1.1.1, by rw [n12.kind hz.1]; exact hz.2⟩ ⟨by decide, by decide⟩ e12 hf.t2 rfl (fun x u => by rw [u]; exact ⟨hf2.1.2.2, hf2.1.1⟩)
  exact ⟨n12.trans n3, by rw [w3 _ m1, c2.v F1 m1 (by omega), v1], by rw [w3 _ m3, v2], t3⟩
theorem f_Fr_put1 (hO : mOk M) (hF : NF L W M) (hf : FrL L M f) (hg : FrL L M f') (ff : f ≠ f') (n1 : f + 1 ≠ f' + 3) (n2 : f + 3 ≠ f' + 1) (hz : z < mZ M ∧ mK M z = 9) (w1 : sz M (f' + 1) ≤ W (f + 1)) (w3 : sz M (f' + 3) ≤ W (f + 3)) : Cv G y_Fr_put1 (d + 2) [vr f, vr f'] M (fun M' => NL L W (T2 f) (fun x => x = f) False z M M' ∧ nv M' (f + 1) = nv M (f' + 1) ∧ nv M' (f + 3) = nv M (f' + 3) ∧ mI M' f 2 = mI M f' 2) := by
  have hI : ∀ x, (fun x => x = f) x → x < mZ M ∧ mK M x = 11 := fun x u => by rw [u]; exact ⟨hf.1.2.2, hf.1.1⟩
  obtain ⟨⟨k, ⟨r0, r1⟩, l⟩, m1, m3⟩ := id hf
  obtain ⟨⟨k', ⟨r0', r1'⟩, l'⟩, m1', m3'⟩ := id hg
  refine k_Fr_put1 hO ?_
  rw [r0, r0']
  refine ⟨k, k', hF.kd m1, (f_put1 hO hF m1 m1' (by omega) w1).mono (fun M3 k3 => ?_)⟩
  obtain ⟨c1, v1⟩ := k3
  have F1 := c1.nf
  have n1' : NL L W (T2 f) (fun x => x = f) False z M M3 := (c1.nl (I := fun x => x = f) (r := False) hI hz).mono hF (fun t ht => Or.inl ht) hf.t2 (fun _ u => u) hI (fun u => u)
  have hf1 := n1'.frl hF hf
  have hg1 := n1'.frl hF hg
  rw [hf1.1.2.1.2, hg1.1.2.1.2]
  have s3 := (c1.num hF m3' (show ¬ (f' + 3 = f + 1) by omega)).2.2.2.1
  refine ⟨c1.ok, hf1.1.1, hg1.1.1, F1.kd m3, (f_put1 c1.ok F1 m3 m3' (by omega) (by omega)).mono (fun M8 k8 => ?_)⟩
  obtain ⟨c2, v2⟩ := k8
  have F2 := c2.nf
  have hz1 : z < mZ M3 ∧ mK M3 z = 9 := ⟨Nat.lt_of_lt_of_le hz.1 n1'.2.2.1.1.1, by rw [n1'.kind hz.1]; exact hz.2⟩
  have hI1 : ∀ x, (fun x => x = f) x → x < mZ M3 ∧ mK M3 x = 11 := fun x u => by rw [u]; exact ⟨hf1.1.2.2, hf1.1.1⟩
  have n2' : NL L W (T2 f) (fun x => x = f) False z M3 M8 := (c2.nl (I := fun x => x = f) (r := False) hI1 hz1).mono F1 (fun t ht => Or.inr ht) hf.t2 (fun _ u => u) hI1 (fun u => u)
  have hf2 := n2'.frl F1 hf1
  have hg2 := n2'.frl F1 hg1
  have n12 := n1'.trans n2'
  have t2 : mI M8 f' 2 = mI M f' 2 := by rw [(n12.frp hF hg.1).2 (fun u => ff u.symm)]
  rw [t2]
  refine ⟨c2.ok, hg2.1.1, hf2.1.1, fun M12 e12 => ?_⟩
  obtain ⟨n3, t3, w3'⟩ := nl_times (T := T2 f) (I := fun x => x = f) (r := False) (z := z) c2.ok F2 hf2 ⟨Nat.lt_of_lt_of_le hz.1 n12.2.2.1.1.1, by rw [n12.kind hz.1]; exact hz.2⟩ (hO _ _).1 e12 hf.t2 rfl (fun x u => by rw [u]; exact ⟨hf2.1.2.2, hf2.1.1⟩)
  exact ⟨n12.trans n3, by rw [w3' _ m1, c2.v F1 m1 (by omega), v1], by rw [w3' _ m3, v2, c1.v hF m3' (by omega)], t3⟩
end NAT
end
