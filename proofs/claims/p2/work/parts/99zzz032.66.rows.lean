section
/-! The solver: the equations are written down. -/
/-- some cells hold A -/
def Tp (M : mM) (s : Nat) (P : Nat → Nat → Prop) (A : Nat → Nat → Rat) : Prop := ∀ i j, i < 40 → j < 41 → P i j → Fq M (cel s i j) 56 ∧ Fc M (cel s i j) ∧ fv M (cel s i j) = A i j
/-- all cells have room -/
def Ct (M : mM) (s : Nat) : Prop := ∀ i j, i < 40 → j < 41 → Ft M (cel s i j) 56
theorem Ct.out {S : Nat → Prop} {M M' : mM} {s : Nat} (h : Ct M s) (k : FI S M M') (hs : ∀ x, S x → x < s + 12868) : Ct M' s :=
  fun i j hi hj => (h i j hi hj).out k (fun x q => Or.inl (by have := hs x q; unfold cel; omega))
theorem Ct.put {M M' : mM} {s i j : Nat} (h : Ct M s) (hi : i < 40) (hj : j < 41) (k : FI (fS (cel s i j)) M M') (h1 : Ft M' (cel s i j) 56) : Ct M' s := by
  intro a b ha hb
  by_cases q : a = i ∧ b = j
  · rw [q.1, q.2]; exact h1
  · refine (h a b ha hb).out k (fun x w => ?_)
    have w' : cel s i j ≤ x ∧ x ≤ cel s i j + 4 := w
    unfold cel at w' ⊢
    by_cases z : a = i
    · subst z
      have : b ≠ j := fun y => q ⟨rfl, y⟩
      omega
    · omega
theorem Tp.out {S : Nat → Prop} {M M' : mM} {s : Nat} {P : Nat → Nat → Prop} {A : Nat → Nat → Rat} (h : Tp M s P A) (k : FI S M M') (hs : ∀ x, S x → x < s + 12868) : Tp M' s P A := by
  intro i j hi hj hp
  obtain ⟨h1, h2, h3⟩ := h i j hi hj hp
  have hs' : ∀ x, S x → x < cel s i j ∨ cel s i j + 4 < x := fun x q => Or.inl (by have := hs x q; unfold cel; omega)
  exact ⟨(h1.out k hs').1, h2.out h1 k hs', by rw [fv_out h1 k hs', h3]⟩
theorem Tp.put {M M' : mM} {s i j : Nat} {P Q : Nat → Nat → Prop} {A B : Nat → Nat → Rat} (h : Tp M s P A) (hi : i < 40) (hj : j < 41) (k : FI (fS (cel s i j)) M M') (h1 : Fq M' (cel s i j) 56) (h2 : Fc M' (cel s i j)) (h3 : fv M' (cel s i j) = B i j) (hq : ∀ a b, Q a b → (a = i ∧ b = j) ∨ (P a b ∧ B a b = A a b)) : Tp M' s Q B := by
  intro a b ha hb hp
  by_cases q : a = i ∧ b = j
  · obtain ⟨q1, q2⟩ := q
    subst q1 q2
    exact ⟨h1, h2, h3⟩
  · have hp2 : P a b ∧ B a b = A a b := by
      rcases hq a b hp with w | w
      · exact absurd w q
      · exact w
    obtain ⟨g1, g2, g3⟩ := h a b ha hb hp2.1
    have hs' : ∀ x, fS (cel s i j) x → x < cel s a b ∨ cel s a b + 4 < x := fun x w => by
      have w' : cel s i j ≤ x ∧ x ≤ cel s i j + 4 := w
      unfold cel at w' ⊢
      by_cases z : a = i
      · subst z
        have : b ≠ j := fun y => q ⟨rfl, y⟩
        omega
      · omega
    refine ⟨(g1.out k hs').1, g2.out g1 k hs', ?_⟩
    rw [fv_out g1 k hs', g3, hp2.2]
theorem Tp.congr {M : mM} {s : Nat} {P Q : Nat → Nat → Prop} {A B : Nat → Nat → Rat} (h : Tp M s P A) (hq : ∀ a b, a < 40 → b < 41 → Q a b → P a b ∧ B a b = A a b) : Tp M s Q B := by
  intro a b ha hb hp
  have w := hq a b ha hb hp
  obtain ⟨g1, g2, g3⟩ := h a b ha hb w.1
  exact ⟨g1, g2, g3.trans w.2.symm⟩
/-- the states of the rows, the commands played there -/
def uu (M : mM) (s r : Nat) : Nat := (mI M (s + 39) r).toNat
def pl (M : mM) (s k : Nat) : Nat := (mI M (s + 35) k).toNat
def rwc (M : mM) (s r : Nat) : Nat := cx M s (uu M s r) (pl M s (uu M s r))
/-- the rows are the unknown states, each once; what is played there is a command -/
def Enu (M : mM) (s m : Nat) : Prop := (∀ r, r < m → 0 ≤ mI M (s + 39) r ∧ mI M (s + 39) r < mI M s 1 ∧ unk M s (uu M s r) ∧ mI M (s + 40) (uu M s r) = r) ∧ (∀ k : Nat, (k : Int) < mI M s 1 → unk M s k → 0 ≤ mI M (s + 40) k ∧ mI M (s + 40) k < m ∧ mI M (s + 39) (mI M (s + 40) k).toNat = k)
  ∧ (∀ r, r < m → 0 ≤ mI M (s + 35) (uu M s r) ∧ mI M (s + 35) (uu M s r) < mny M s (uu M s r)) ∧ (∀ k : Nat, (k : Int) < mI M s 1 → mI M (s + 22) k = 3 → mI M (s + 36) k ≠ 0)
theorem Enu.out {S : Nat → Prop} {M M' : mM} {s m : Nat} (h : Enu M s m) (f : FI S M M') (h0 : ¬ S s) (h1 : ∀ x, s + 22 ≤ x → x ≤ s + 40 → ¬ S x) : Enu M' s m := by
  have f := f.2.2.2.2.2.2
  unfold Enu unk uu mny at h ⊢
  rw [f s h0, f (s + 22) (h1 _ (by omega) (by omega)), f (s + 23) (h1 _ (by omega) (by omega)), f (s + 35) (h1 _ (by omega) (by omega)), f (s + 36) (h1 _ (by omega) (by omega)), f (s + 39) (h1 _ (by omega) (by omega)), f (s + 40) (h1 _ (by omega) (by omega))]
  exact h
/-- the first b branches of command c -/
def cwp (M : mM) (s c b : Nat) (f : Nat → Int) : Rat := sr (fun b => chq M s (bg M s c + b) * (f (tg M s (bg M s c + b)) : Rat)) b
def isU (M : mM) (s j : Nat) : Nat → Int := fun k => if k = uu M s j then 1 else 0
def isT (M : mM) (s : Nat) : Nat → Int := fun k => if mI M (s + 22) k = 3 then 1 else 0
/-- the equations -/
def rowp (M : mM) (s m : Nat) : Nat → Nat → Rat := fun i j => cw M s (rwc M s i) (fun k => ((if j = m then isT M s else isU M s j) k : Rat))
def wrA (M : mM) (s m i b : Nat) : Nat → Nat → Rat := fun a j => if a = i then (if j = m then cwp M s (rwc M s i) b (isT M s) else (if i = j then 1 else 0) - cwp M s (rwc M s i) b (isU M s j)) else tA (rowp M s m) m 0 a j
abbrev rS (s : Nat) : Nat → Prop := fun x => (s + 2 ≤ x ∧ x ≤ s + 21) ∨ (s + 42 ≤ x ∧ x ≤ s + 46) ∨ (s + 12868 ≤ x ∧ x ≤ s + 21067)
section CP
variable {M : mM} {s c : Nat}
theorem cwp_succ {b : Nat} {f : Nat → Int} : cwp M s c (b + 1) f = cwp M s c b f + chq M s (bg M s c + b) * (f (tg M s (bg M s c + b)) : Rat) := rfl
theorem cwp_01 (hC : GB M s) (hc : (c : Int) < mI M s 2) {f : Nat → Int} (hf : ∀ k, f k = 0 ∨ f k = 1) {b : Nat} (hb : b ≤ nb M s c) : 0 ≤ cwp M s c b f ∧ cwp M s c b f ≤ 1 := by
  have hnn : ∀ j, j < nb M s c → 0 ≤ chq M s (bg M s c + j) * (f (tg M s (bg M s c + j)) : Rat) := fun j hj => Rat.mul_nonneg (Rat.le_of_lt (hC.chq_pos hc hj)) (by
    rcases hf (tg M s (bg M s c + j)) with q | q <;> rw [q] <;> decide)
  refine ⟨sr_nonneg b (fun j hj => hnn j (by omega)), ?_⟩
  have a := sr_part (f := fun b => chq M s (bg M s c + b) * (f (tg M s (bg M s c + b)) : Rat)) (a := b) (nb M s c - b) (fun j hj => hnn j (by omega))
  rw [show b + (nb M s c - b) = nb M s c by omega] at a
  have e := cw_le hC hc (f := fun k => (f k : Rat)) (g := fun _ => 1) (fun j hj => by rcases hf (tg M s (bg M s c + j)) with q | q <;> rw [q] <;> decide)
  rw [cw_one hC hc] at e
  exact Rat.le_trans a e
theorem cwp_int (hC : GB M s) (hc : (c : Int) < mI M s 2) {f : Nat → Int} {b : Nat} (hb : b ≤ nb M s c) : (mI M (s + 24) c : Rat) * cwp M s c b f = ((sm (fun b => mI M (s + 27) (bg M s c + b) * (mI M (s + 24) c / mI M (s + 28) (bg M s c + b)) * f (tg M s (bg M s c + b))) b : Int) : Rat) := by
  unfold cwp
  rw [sm_cast, ← sr_mul]
  refine sr_congr _ (fun j hj => ?_)
  have e := hC.chq_int hc (b := j) (by omega)
  rw [Rat.intCast_mul, ← e]
  grind
theorem isU_01 {j k : Nat} : isU M s j k = 0 ∨ isU M s j k = 1 := by unfold isU; split <;> omega
theorem isT_01 {k : Nat} : isT M s k = 0 ∨ isT M s k = 1 := by unfold isT; split <;> omega
theorem p30_56 : (1000000000 : Int) ≤ 16777216 ^ 56 := by decide
theorem cwp_sml (hC : GB M s) (hc : (c : Int) < mI M s 2) {f : Nat → Int} (hf : ∀ k, f k = 0 ∨ f k = 1) {b : Nat} (hb : b ≤ nb M s c) : Sml (cwp M s c b f) ∧ Sml (1 - cwp M s c b f) ∧ Sml (0 - cwp M s c b f) := by
  have a := cwp_01 hC hc hf hb
  have e := cwp_int hC hc (f := f) hb
  have m1 := (hC c hc).1
  have p := p30_56
  refine ⟨⟨mI M (s + 24) c, _, by omega, by omega, by rw [Rat.mul_comm]; exact e, a.2, by grind⟩, ⟨mI M (s + 24) c, mI M (s + 24) c - sm (fun b => mI M (s + 27) (bg M s c + b) * (mI M (s + 24) c / mI M (s + 28) (bg M s c + b)) * f (tg M s (bg M s c + b))) b, by omega, by omega, ?_, by grind, by grind⟩, ⟨mI M (s + 24) c, - sm (fun b => mI M (s + 27) (bg M s c + b) * (mI M (s + 24) c / mI M (s + 28) (bg M s c + b)) * f (tg M s (bg M s c + b))) b, by omega, by omega, ?_, by grind, by grind⟩⟩
  · rw [Rat.intCast_sub, ← e]
    grind
  · rw [Rat.intCast_neg, ← e]
    grind
theorem wrA_sml (hC : GB M s) {m i b j : Nat} (hc : (rwc M s i : Int) < mI M s 2) (hb : b ≤ nb M s (rwc M s i)) : Sml (wrA M s m i b i j) := by
  unfold wrA
  rw [if_pos rfl]
  by_cases q : j = m
  · rw [if_pos q]; exact (cwp_sml hC hc (fun k => isT_01) hb).1
  · rw [if_neg q]
    have w := (cwp_sml hC hc (f := isU M s j) (fun k => isU_01) hb).2
    by_cases z : i = j
    · rw [if_pos z]; exact w.1
    · rw [if_neg z]; exact w.2
theorem wrA_end {m i : Nat} (hm : m ≤ 40) {a j : Nat} : wrA M s m i (nb M s (rwc M s i)) a j = tA (rowp M s m) m 0 a j := by
  unfold wrA
  by_cases q : a = i
  · subst q
    rw [if_pos rfl]
    by_cases z : j = m
    · rw [if_pos z, z, tA_m]
      show _ = rowp M s m a m
      unfold rowp
      rw [if_pos rfl]
      rfl
    · rw [if_neg z, tA_ge (by omega) z]
      show _ = (if a = j then (1 : Rat) else 0) - rowp M s m a j
      unfold rowp
      rw [if_neg z]
      rfl
  · rw [if_neg q]
end CP
end
section
/-! The solver: writeRows. -/
theorem alg3 {a b c : Rat} : a - (b + c * 1) = a - b + -c := by grind
theorem alg4 {a b c : Rat} : a - (b + c * 0) = a - b := by grind
section VS
variable {G : mG} {d s m : Nat} {M : mM}
/-- what is known while row i is written -/
def wrI (M : mM) (s : Nat) (P : Nat → Nat → Prop) (A : Nat → Nat → Rat) (M2 : mM) : Prop := mOk M2 ∧ FI (rS s) M M2 ∧ Wk M2 s ∧ Ct M2 s ∧ Tp M2 s P A
theorem s_wr77 {i : Nat} {Q : mM → Prop} (hm : m ≤ 40) (hi : i < m) (hV : Vk M s) (hG : GW M s) (hC : GB M s) (h24 : mI M s 24 = m) (hE : Enu M s m)
    (hQ : ∀ M', wrI M s (fun a j => a < i + 1 ∧ j ≤ m) (tA (rowp M s m) m 0) M' → h_MS_writeRows_2 G (d + 4) s ((i : Int) + 1) M' Q) :
    ∀ (r b : Nat) (M2 : mM), b + r = nb M s (rwc M s i) → wrI M s (fun a j => a < i + 1 ∧ j ≤ m) (wrA M s m i b) M2 → h_MS_writeRows_77 G (d + 4) s i (rwc M s i) (mI M (s + 25) (rwc M s i) + b) M2 Q := by
  obtain ⟨u1, u2, u3, u4⟩ := hE.1 i hi
  have u5 := hE.2.2.1 i hi
  have huu : (uu M s i : Int) = mI M (s + 39) i := by unfold uu; omega
  have hc := hG.cmd (i := uu M s i) (by omega)
  have hi' := u5.2
  unfold mny at hi'
  have hcx : (rwc M s i : Int) = mI M (s + 23) (uu M s i) + mI M (s + 35) (uu M s i) := by unfold rwc cx pl; omega
  have hc2 : (rwc M s i : Int) < mI M s 2 := by omega
  have hb := hG.brn hc2
  have h2 := hG.2.1
  have h3 := hG.2.2.1
  have h4 := hG.2.2.2.1
  have ht := hG.2.2.2.2.2.2.2.2.2.2
  have ebg : (bg M s (rwc M s i) : Int) = mI M (s + 25) (rwc M s i) := by unfold bg; omega
  have enb : (nb M s (rwc M s i) : Int) = mI M (s + 25) (rwc M s i + 1) - mI M (s + 25) (rwc M s i) := by unfold nb; omega
  have hm1 := (hC _ hc2).1
  have hbr := (hC _ hc2).2.1
  have hsml : ∀ b j, b ≤ nb M s (rwc M s i) → Sml (wrA M s m i b i j) := fun b j hb => wrA_sml hC hc2 hb
  have hend : ∀ a j, wrA M s m i (nb M s (rwc M s i)) a j = tA (rowp M s m) m 0 a j := fun a j => wrA_end hm
  have hwr : ∀ b a j, wrA M s m i b a j = if a = i then (if j = m then cwp M s (rwc M s i) b (isT M s) else (if i = j then 1 else 0) - cwp M s (rwc M s i) b (isU M s j)) else tA (rowp M s m) m 0 a j := fun b a j => rfl
  clear hi' u1 u2 u3 u4 u5 huu hc hcx
  generalize hcc : rwc M s i = c at *
  have htg : ∀ b, b < nb M s c → (tg M s (bg M s c + b) : Int) < mI M s 1 ∧ (tg M s (bg M s c + b) : Int) = mI M (s + 26) (bg M s c + b) := fun b hb => by
    have := ht (bg M s c + b) (by omega)
    unfold tg
    omega
  intro r
  induction r with
  | zero =>
    intro b M2 hr hw
    have f2 := hw.2.1
    have o2 := hw.1
    have V2 := hV.fi f2
    have G2 : sameG M M2 s := sameG.of f2 (by omega) (fun y _ _ => by omega)
    have eb : b = nb M s c := by omega
    subst eb
    refine k_MS_writeRows_77 o2 ⟨by omega, by omega⟩ ⟨by omega, by omega⟩ ⟨by omega, by omega⟩ ?_
    rw [V2.r7, V2.n25, G2.2.2.2 (s + 25) (by omega) (by omega), show ((c : Int) + 1).toNat = c + 1 by omega]
    exact ⟨V2.k0, V2.k25, by omega, fun _ => hQ M2 ⟨hw.1, hw.2.1, hw.2.2.1, hw.2.2.2.1, hw.2.2.2.2.congr (fun a j _ _ q => ⟨q, (hend a j).symm⟩)⟩, fun q => by omega⟩
  | succ r ih =>
    intro b M2 hr hw
    have hbn : b < nb M s c := by omega
    have hlast : ∀ M7, wrI M s (fun a j => a < i + 1 ∧ j ≤ m) (wrA M s m i (b + 1)) M7 → h_MS_writeRows_207 G (d + 4) s i c (mI M (s + 25) c + b) M7 Q := fun M7 w7 => by
      have a := ih (b + 1) M7 (by omega) w7
      rw [show mI M (s + 25) c + ((b + 1 : Nat) : Int) = mI M (s + 25) c + (b : Int) + 1 by omega] at a
      exact k_MS_writeRows_207 w7.1 ⟨by omega, by omega⟩ ⟨by omega, by omega⟩ ⟨by omega, by omega⟩ a
    obtain ⟨o2, f2, W2, T2, P2⟩ := hw
    have V2 := hV.fi f2
    have G2 : sameG M M2 s := sameG.of f2 (by omega) (fun y _ _ => by omega)
    have fe := f2.2.2.2.2.2.2
    obtain ⟨v0, v1, v2⟩ := hbr b hbn
    have v3 : mI M (s + 28) (bg M s c + b) ≤ mI M (s + 24) c := Int.le_of_dvd (by omega) v2
    have v4 : mI M (s + 27) (bg M s c + b) < 9000000000000 := by
      have q := (hsml 0 0 (by omega))
      have := (o2 (s + 27) (bg M s c + b)).1.2
      rw [fe (s + 27) (by omega)] at this
      omega
    have ebb : (mI M (s + 25) c + (b : Int)).toNat = bg M s c + b := by omega
    obtain ⟨t1, t2⟩ := htg b hbn
    have ett : (mI M (s + 26) (bg M s c + b)).toNat = tg M s (bg M s c + b) := rfl
    generalize htt : tg M s (bg M s c + b) = t at *
    have hch : (mI M (s + 27) (bg M s c + b) : Rat) * (mI M (s + 28) (bg M s c + b) : Rat)⁻¹ = chq M s (bg M s c + b) := rfl
    have hstep : ∀ f : Nat → Int, cwp M s c (b + 1) f = cwp M s c b f + chq M s (bg M s c + b) * (f t : Rat) := fun f => by rw [cwp_succ, htt]
    refine k_MS_writeRows_77 o2 ⟨by omega, by omega⟩ ⟨by omega, by omega⟩ ⟨by omega, by omega⟩ ?_
    rw [V2.r7, V2.r8, V2.r19, V2.r4, V2.r23, V2.n22, V2.n25, V2.n26, V2.n36, V2.n40, fe (s + 25) (by omega), fe (s + 26) (by omega), fe (s + 36) (by omega), fe (s + 22) (by omega), fe (s + 40) (by omega), fe s (by omega), h24, show ((c : Int) + 1).toNat = c + 1 by omega, ebb, ← t2, Int.toNat_natCast]
    refine ⟨V2.k0, V2.k25, by omega, fun q => by omega, fun _ => ⟨V2.k26, by omega, V2.k36, by omega, fun hin => ?_, fun hin => ⟨V2.k22, by omega, fun v hv => ⟨fun _ => ⟨V2.k40, by omega⟩, fun w hw => ?_⟩⟩⟩⟩
    · refine hlast M2 ⟨o2, f2, W2, T2, P2.congr (fun a j ha hj q => ⟨q, ?_⟩)⟩
      have e1 : isT M s t = 0 := if_neg (fun y => hE.2.2.2 t t1 y hin)
      have e2 : ∀ j, j < m → isU M s j t = 0 := fun j hj => if_neg (fun y => by
        have := (hE.1 j hj).2.2.1.1
        rw [← y] at this
        exact this hin)
      have z0 : ((0 : Int) : Rat) = 0 := rfl
      rw [hwr, hwr]
      by_cases qa : a = i
      · rw [if_pos qa, if_pos qa]
        by_cases qj : j = m
        · rw [if_pos qj, if_pos qj, hstep, e1, z0]; grind
        · rw [if_neg qj, if_neg qj, hstep, e2 j (by omega), z0]; grind
      · rw [if_neg qa, if_neg qa]
    · have hkey : ∃ j : Nat, w = j ∧ j ≤ m ∧ (∀ a l, a < i + 1 → l ≤ m → wrA M s m i (b + 1) a l = if a = i ∧ l = j then wrA M s m i b i j + (if v = 0 then - chq M s (bg M s c + b) else chq M s (bg M s c + b)) else wrA M s m i b a l) := by
        have z0 : ((0 : Int) : Rat) = 0 := rfl
        have z1 : ((1 : Int) : Rat) = 1 := rfl
        by_cases q3 : mI M (s + 22) t = 3
        · rw [if_pos q3] at hv
          rw [if_neg (by omega)] at hw
          refine ⟨m, hw, by omega, fun a l ha hl => ?_⟩
          have e1 : isT M s t = 1 := if_pos q3
          have e2 : ∀ j, j < m → isU M s j t = 0 := fun j hj => if_neg (fun y => by
            have := (hE.1 j hj).2.2.1.2
            rw [← y] at this
            exact this q3)
          rw [if_neg (show ¬ v = 0 by omega), hwr, hwr, hwr, if_pos rfl, if_pos rfl]
          by_cases qa : a = i
          · rw [if_pos qa]
            by_cases qj : l = m
            · rw [if_pos qj, if_pos ⟨qa, qj⟩, hstep, e1, z1]; grind
            · rw [if_neg qj, if_neg (show ¬ (a = i ∧ l = m) from fun y => qj y.2), if_pos qa, if_neg qj, hstep, e2 l (by omega), z0]; exact alg4
          · rw [if_neg qa, if_neg (fun y => qa y.1), if_neg qa]
        · rw [if_neg q3] at hv
          rw [if_pos hv] at hw
          obtain ⟨r1, r2, r3⟩ := hE.2.1 t t1 ⟨hin, q3⟩
          have e1 : isT M s t = 0 := if_neg q3
          have er : (mI M (s + 40) t).toNat < m ∧ ((mI M (s + 40) t).toNat : Int) = mI M (s + 40) t := by omega
          have euj : uu M s (mI M (s + 40) t).toNat = t := by unfold uu; omega
          refine ⟨(mI M (s + 40) t).toNat, by omega, by omega, fun a l ha hl => ?_⟩
          have e2 : ∀ j, j < m → isU M s j t = if j = (mI M (s + 40) t).toNat then 1 else 0 := fun j hj => by
            unfold isU
            by_cases y : j = (mI M (s + 40) t).toNat
            · rw [if_pos y, if_pos (by rw [y, euj])]
            · rw [if_neg y, if_neg (fun z => y (by
                have q := (hE.1 j hj).2.2.2
                rw [← z] at q
                omega))]
          rw [if_pos hv, hwr, hwr, hwr, if_pos rfl, if_neg (show ¬ (mI M (s + 40) t).toNat = m by omega)]
          by_cases qa : a = i
          · rw [if_pos qa]
            by_cases qj : l = m
            · rw [if_pos qj, if_neg (by omega), if_pos qa, if_pos qj, hstep, e1, z0]; grind
            · rw [if_neg qj, hstep, e2 l (by omega)]
              by_cases y : l = (mI M (s + 40) t).toNat
              · rw [if_pos y, if_pos (show a = i ∧ l = (mI M (s + 40) t).toNat from ⟨qa, y⟩), z1, ← y]; exact alg3
              · rw [if_neg y, if_neg (show ¬ (a = i ∧ l = (mI M (s + 40) t).toNat) from fun z => y z.2), if_pos qa, if_neg qj, z0]; exact alg4
          · rw [if_neg qa, if_neg (fun y => qa y.1), if_neg qa]
      obtain ⟨j, ew, hj, hA⟩ := hkey
      have hv01 : v = 0 ∨ v = 1 := by split at hv <;> omega
      clear hin hv hw
      subst ew
      refine (s_MS_cell (by omega) (by omega) o2 V2).mono (fun x M3 h3' => ?_)
      obtain ⟨e3, hx⟩ := h3'
      subst e3 hx
      rw [V2.r9, V2.r10, V2.r26, V2.n27, V2.n28, fe (s + 27) (by omega), fe (s + 28) (by omega)]
      refine ⟨o2, V2.k0, V2.k27, by omega, V2.k28, by omega, W2.2.1.1.1, (s_MF_set ⟨by omega, by omega⟩ (by omega) ⟨by omega, by omega⟩ (by omega) o2 W2.2.1 (by omega)).mono (fun M4 h4' => ?_)⟩
      obtain ⟨o4, f4, F4, y1, y2, -⟩ := h4'
      have f4' : FI (fun y => s + 42 ≤ y ∧ y ≤ s + 46) M3 M4 := f4.mono (fun y q => by have : s + 42 ≤ y ∧ y ≤ s + 42 + 4 := q; omega)
      have V4 := V2.fi f4
      have W4 : Wk M4 s := W2.put f4 F4.ft (by omega)
      have T4 := T2.out f4' (fun y q => by omega)
      have P4 := P2.out f4' (fun y q => by omega)
      have c4 := P4 i j (by omega) (by omega) ⟨by omega, hj⟩
      have z1 := F4.2.1.1.2.2.2.2.2.2
      have z2 := F4.2.2.1.1.2.2.2.2.2.2
      have z3 := c4.1.2.1.1.2.2.2.2.2.2
      have z4 := c4.1.2.2.1.1.2.2.2.2.2.2
      refine ⟨o4, V4.k0, fun x84 h84 => ?_⟩
      have h84' : x84 = 0 ∨ x84 = 1 := by split at h84 <;> omega
      rw [V4.r0, V4.r26]
      refine ⟨W4.1.1.1, (s_MU_add (d := d) h84' o4 W4.1 c4.1 F4 (by unfold suO cel; omega) (by unfold suO; omega) (by omega) (by omega) (by omega)).mono (fun M5 h5 => ?_)⟩
      have v5 := fv_add h84' c4.1 F4 h5
      rw [c4.2.2, fv_set y1 y2, hch] at v5
      have v6 : fv M5 (s + 1 + 1) = wrA M s m i (b + 1) i j := by
        rw [v5, hA i j (by omega) hj, if_pos (show i = i ∧ j = j from ⟨rfl, rfl⟩)]
        rcases hv01 with q | q
        · rw [if_pos q] at h84
          rw [if_pos h84, if_pos q]
          exact Rat.sub_eq_add_neg ..
        · rw [if_neg (by omega)] at h84
          rw [if_neg (show ¬ x84 = 1 by omega), if_neg (show ¬ v = 0 by omega)]
      obtain ⟨o5, f5, Z5, F5, C5, -⟩ := h5
      have f5' : FI (fun y => s + 2 ≤ y ∧ y ≤ s + 21) M4 M5 := f5.mono (fun y q => by omega)
      have V5 := V4.fi f5
      have W5 : Wk M5 s := W4.out f5' Z5 (fun y q => by omega)
      have T5 := T4.out f5' (fun y q => by omega)
      have P5 := P4.out f5' (fun y q => by omega)
      have hsm := sml_size F5 C5 (by rw [v6]; exact hsml (b + 1) j (by omega))
      have c5 := P5 i j (by omega) (by omega) ⟨by omega, hj⟩
      rw [V5.r0, Z5.1.2.1]
      refine ⟨o5, V5.k0, Z5.1.1, c5.1.1.1, (s_MF_copy o5 c5.1.ft F5 (by unfold cel; omega) hsm.1 hsm.2).mono (fun M6 h6 => ?_)⟩
      obtain ⟨o6, f6, F6, w4, w5, w6⟩ := h6
      have C6 := fc_copy C5 w4 w5 w6
      have f6' : FI (fun y => s + 12868 ≤ y ∧ y ≤ s + 21067) M5 M6 := f6.mono (fun x q => by have q' : cel s i j ≤ x ∧ x ≤ cel s i j + 4 := q; unfold cel at q'; omega)
      have P6 := P5.put (Q := fun a j => a < i + 1 ∧ j ≤ m) (B := wrA M s m i (b + 1)) (by omega) (by omega) f6 F6 C6.1 (C6.2.trans v6) (fun a l q => by
        by_cases z : a = i ∧ l = j
        · exact Or.inl z
        · exact Or.inr ⟨q, by rw [hA a l q.1 q.2, if_neg z]⟩)
      exact ⟨o6, hlast M6 ⟨o6, ((f2.trans (f4'.mono (fun y q => by omega))).trans (f5'.mono (fun y q => by omega))).trans (f6'.mono (fun y q => by omega)), W5.far f6' (fun y q => by omega), T5.put (by omega) (by omega) f6 F6.ft, P6⟩⟩
theorem s_MS_writeRows (hm : m ≤ 40) (hO : mOk M) (hV : Vk M s) (hG : GW M s) (hC : GB M s) (h24 : mI M s 24 = m) (hE : Enu M s m) (hW : Wk M s) (hT : Ct M s) :
    Cv G y_MS_writeRows (d + 5) [vr s] M (fun M' => mOk M' ∧ FI (rS s) M M' ∧ Wk M' s ∧ Ct M' s ∧ Tb M' s m (tA (rowp M s m) m 0)) := by
  refine k_MS_writeRows hO ?_
  suffices H : ∀ (n i : Nat) (M2 : mM), i + n = m → wrI M s (fun a j => a < i ∧ j ≤ m) (tA (rowp M s m) m 0) M2 → h_MS_writeRows_2 G (d + 4) s i M2 (fun M' => mOk M' ∧ FI (rS s) M M' ∧ Wk M' s ∧ Ct M' s ∧ Tb M' s m (tA (rowp M s m) m 0)) from
    H m 0 M (by omega) ⟨hO, FI.refl, hW, hT, fun i j _ _ q => by omega⟩
  intro n
  induction n with
  | zero =>
    intro i M2 hn hw
    have ei : i = m := by omega
    subst ei
    have fe := hw.2.1.2.2.2.2.2.2
    refine k_MS_writeRows_2 hw.1 ⟨by omega, by omega⟩ ?_
    rw [fe s (by omega), h24]
    exact ⟨(hV.fi hw.2.1).k0, fun _ => ⟨hw.1, hw.2.1, hw.2.2.1, hw.2.2.2.1, fun a j ha hj => hw.2.2.2.2 a j (by omega) (by omega) ⟨ha, hj⟩⟩, fun q => by omega⟩
  | succ n ih =>
    intro i M2 hn hw
    have hi : i < m := by omega
    have fe := hw.2.1.2.2.2.2.2.2
    refine k_MS_writeRows_2 hw.1 ⟨by omega, by omega⟩ ?_
    rw [fe s (by omega), h24]
    refine ⟨(hV.fi hw.2.1).k0, fun q => by omega, fun _ => ?_⟩
    have h77 := s_wr77 (G := G) (d := d) hm hi hV hG hC h24 hE (fun M' w => ih (i + 1) M' (by omega) w)
    suffices H : ∀ (t l : Nat) (M3 : mM), l + t = m + 1 → wrI M s (fun a j => (a < i ∧ j ≤ m) ∨ (a = i ∧ j < l)) (wrA M s m i 0) M3 → h_MS_writeRows_12 G (d + 4) s i l M3 (fun M' => mOk M' ∧ FI (rS s) M M' ∧ Wk M' s ∧ Ct M' s ∧ Tb M' s m (tA (rowp M s m) m 0)) from
      H (m + 1) 0 M2 (by omega) ⟨hw.1, hw.2.1, hw.2.2.1, hw.2.2.2.1, hw.2.2.2.2.congr (fun a j ha hj q => ⟨by omega, by
        unfold wrA
        rw [if_neg (by omega)]⟩)⟩
    clear hw fe M2
    obtain ⟨u1, u2, u3, u4⟩ := hE.1 i hi
    have u5 := hE.2.2.1 i hi
    have huu : (uu M s i : Int) = mI M (s + 39) i := by unfold uu; omega
    have hc := hG.cmd (i := uu M s i) (by omega)
    have hi' := u5.2
    unfold mny at hi'
    have hcx : (rwc M s i : Int) = mI M (s + 23) (uu M s i) + mI M (s + 35) (uu M s i) := by unfold rwc cx pl; omega
    have hc2 : (rwc M s i : Int) < mI M s 2 := by omega
    have h2 := hG.2.1
    have h3 := hG.2.2.1
    intro t
    induction t with
    | zero =>
      intro l M3 hl hw
      have fe := hw.2.1.2.2.2.2.2.2
      have V3 := hV.fi hw.2.1
      have el : l = m + 1 := by omega
      subst el
      refine k_MS_writeRows_12 hw.1 ⟨by omega, by omega⟩ ⟨by omega, by omega⟩ ?_
      rw [V3.r22, V3.r5, V3.r18, V3.r7, V3.n39, V3.n23, V3.n35, V3.n25, fe s (by omega), h24, fe (s + 39) (by omega), fe (s + 23) (by omega), fe (s + 35) (by omega), fe (s + 25) (by omega), Int.toNat_natCast]
      have ef : (mI M (s + 39) i).toNat = uu M s i := rfl
      rw [ef, ← hcx, Int.toNat_natCast]
      refine ⟨V3.k0, fun _ => ⟨V3.k39, by omega, V3.k23, by omega, by omega, V3.k35, by omega, V3.k25, by omega, ?_⟩, fun q => by omega⟩
      have a := h77 (nb M s (rwc M s i)) 0 M3 (by omega) ⟨hw.1, hw.2.1, hw.2.2.1, hw.2.2.2.1, hw.2.2.2.2.congr (fun a j ha hj q => ⟨by omega, rfl⟩)⟩
      rw [show mI M (s + 25) (rwc M s i) + ((0 : Nat) : Int) = mI M (s + 25) (rwc M s i) by omega] at a
      exact a
    | succ t iht =>
      intro l M3 hl hw
      obtain ⟨o3, f3, W3, T3, P3⟩ := hw
      have fe := f3.2.2.2.2.2.2
      have V3 := hV.fi f3
      refine k_MS_writeRows_12 o3 ⟨by omega, by omega⟩ ⟨by omega, by omega⟩ ?_
      rw [fe s (by omega), h24]
      refine ⟨V3.k0, fun q => by omega, fun _ => (s_MS_cell (by omega) (by omega) o3 V3).mono (fun x M4 h4 => ?_)⟩
      obtain ⟨e4, hx⟩ := h4
      subst e4 hx
      have cf := T3 i l (by omega) (by omega)
      refine ⟨o3, fun v hv => ⟨cf.1.1, (s_MF_set ⟨by split at hv <;> omega, by split at hv <;> omega⟩ (by split at hv <;> omega) ⟨by omega, by omega⟩ (by omega) o3 cf (by omega)).mono (fun M5 h5 => ?_)⟩⟩
      obtain ⟨o5, f5, F5, y1, y2, y3⟩ := h5
      have C5 := fc_one F5 y2 (fun q => y3 (by omega))
      have e5 : fv M5 (cel s i l) = wrA M s m i 0 i l := by
        rw [fv_set y1 y2]
        unfold wrA
        rw [if_pos rfl]
        have z0 : ((0 : Int) : Rat) = 0 := rfl
        have z1 : ((1 : Int) : Rat) = 1 := rfl
        have c0 : ∀ f, cwp M s (rwc M s i) 0 f = 0 := fun f => rfl
        rw [c0, c0, z1]
        by_cases q : l = m
        · rw [if_pos q]
          rw [if_neg (by omega)] at hv
          rw [hv, z0]; grind
        · rw [if_neg q]
          by_cases z : i = l
          · rw [if_pos z]
            rw [if_pos (by omega)] at hv
            rw [hv, z1]; grind
          · rw [if_neg z]
            rw [if_neg (by omega)] at hv
            rw [hv, z0]; grind
      have f5' : FI (fun y => s + 12868 ≤ y ∧ y ≤ s + 21067) M4 M5 := f5.mono (fun x q => by have q' : cel s i l ≤ x ∧ x ≤ cel s i l + 4 := q; unfold cel at q'; omega)
      have P5 := P3.put (Q := fun a j => (a < i ∧ j ≤ m) ∨ (a = i ∧ j < l + 1)) (B := wrA M s m i 0) (by omega) (by omega) f5 F5 C5 e5 (fun a j q => by
        by_cases z : a = i ∧ j = l
        · exact Or.inl z
        · exact Or.inr ⟨by omega, rfl⟩)
      exact ⟨o5, iht (l + 1) M5 (by omega) ⟨o5, f3.trans (f5'.mono (fun y q => by omega)), W3.far f5' (fun y q => by omega), T3.put (by omega) (by omega) f5 F5.ft, P5⟩⟩
end VS
end
section
/-! The equations that are written down have one small answer. -/
theorem cw_sr {M : mM} {s c : Nat} {f : Nat → Nat → Rat} : ∀ (n : Nat), sr (fun j => cw M s c (f j)) n = cw M s c (fun k => sr (fun j => f j k) n)
  | 0 => by
    show (0 : Rat) = cw M s c (fun _ => 0)
    have e := cw_mul (M := M) (s := s) (c := c) (x := 0) (f := fun _ => 0)
    have e1 : cw M s c (fun _ => 0) = cw M s c (fun _ => 0 * 0) := cw_congr (fun b hb => by grind)
    rw [e1, e]
    grind
  | n + 1 => by
    rw [sr, cw_sr n, ← cw_add]
    rfl
theorem pr_pow {f w : Nat → Int} : ∀ (k : Nat), (∀ r, r < k → 0 ≤ f r ∧ f r ≤ 2 ^ (w r).toNat ∧ 0 ≤ w r) → pr f k ≤ 2 ^ (sm w k).toNat ∧ 0 ≤ pr f k ∧ 0 ≤ sm w k
  | 0, _ => ⟨by show (1 : Int) ≤ 2 ^ (0 : Int).toNat; decide, by show (0 : Int) ≤ 1; decide, by show (0 : Int) ≤ 0; decide⟩
  | k + 1, h => by
    obtain ⟨a, b, c⟩ := pr_pow k (fun r hr => h r (by omega))
    obtain ⟨h1, h2, h3⟩ := h k (by omega)
    rw [pr, sm]
    refine ⟨?_, Int.mul_nonneg b h1, by omega⟩
    rw [show (sm w k + w k).toNat = (sm w k).toNat + (w k).toNat by omega, Int.pow_add]
    exact Int.mul_le_mul a h2 h1 (Int.pow_nonneg (by omega))
theorem sm_part {f : Nat → Int} {a : Nat} : ∀ (n : Nat), (∀ c, c < a + n → 0 ≤ f c) → sm f a ≤ sm f (a + n)
  | 0, _ => Int.le_refl _
  | n + 1, h => by
    have h1 := sm_part (f := f) (a := a) n (fun c hc => h c (by omega))
    have h2 := h (a + n) (by omega)
    have e : sm f (a + (n + 1)) = sm f (a + n) + f (a + n) := rfl
    omega
theorem two_pow_le {a b : Nat} (h : a ≤ b) : (2 : Int) ^ a ≤ 2 ^ b := by
  obtain ⟨c, rfl⟩ := Nat.le.dest h
  rw [Int.pow_add]
  have h1 : (0 : Int) < 2 ^ a := Int.pow_pos (by omega)
  have h2 : (0 : Int) < 2 ^ c := Int.pow_pos (by omega)
  have := Int.mul_le_mul_of_nonneg_left (a := 1) (b := 2 ^ c) (c := 2 ^ a) (by omega) (by omega)
  omega
theorem ic_mono {x y : Int} (h : x ≤ y) : (x : Rat) ≤ (y : Rat) := by exact_mod_cast h
theorem p480 : (2 : Int) ^ 480 < 16777216 ^ 21 := by decide
theorem p510 : (1000000000 : Int) * 2 ^ 480 < 16777216 ^ 56 := by decide
/-- a state's row, as a function of states -/
def eU (M : mM) (s : Nat) (g : Nat → Rat) : Nat → Rat := fun k => if mI M (s + 36) k ≠ 0 ∧ mI M (s + 22) k ≠ 3 then g (mI M (s + 40) k).toNat else 0
def rowD (M : mM) (s : Nat) : Nat → Int := fun r => mI M (s + 24) (rwc M s r)
def rowN (M : mM) (s m : Nat) : Nat → Nat → Int := fun r c => sm (fun b => mI M (s + 27) (bg M s (rwc M s r) + b) * (mI M (s + 24) (rwc M s r) / mI M (s + 28) (bg M s (rwc M s r) + b)) * (if c = m then isT M s else isU M s c) (tg M s (bg M s (rwc M s r) + b))) (nb M s (rwc M s r))
/-- each row's command may lead nearer to the end -/
def Lds (M : mM) (s m : Nat) (ρ : Nat → Nat) : Prop := ∀ r, r < m → ∃ b, b < nb M s (rwc M s r) ∧ mI M (s + 36) (tg M s (bg M s (rwc M s r) + b)) ≠ 0 ∧ ρ (tg M s (bg M s (rwc M s r) + b)) < ρ (uu M s r)
section SY
variable {M : mM} {s m : Nat}
theorem Enu.pick (hE : Enu M s m) {k : Nat} (hk : (k : Int) < mI M s 1) (g : Nat → Rat) : sr (fun j => (isU M s j k : Rat) * g j) m = eU M s g k := by
  have z0 : ((0 : Int) : Rat) = 0 := rfl
  have z1 : ((1 : Int) : Rat) = 1 := rfl
  unfold eU
  by_cases q : mI M (s + 36) k ≠ 0 ∧ mI M (s + 22) k ≠ 3
  · rw [if_pos q]
    obtain ⟨r1, r2, r3⟩ := hE.2.1 k hk q
    rw [sr_congr (g := fun j => if (mI M (s + 40) k).toNat = j then 1 * g j else 0) m (fun j hj => ?_), sr_pick, if_pos (by omega)]
    · grind
    · unfold isU
      by_cases y : (mI M (s + 40) k).toNat = j
      · rw [if_pos y, if_pos (by unfold uu; rw [← y]; omega), z1]
      · rw [if_neg y, if_neg (fun z => y (by
          have w := (hE.1 j hj).2.2.2
          rw [← z] at w
          omega)), z0]
        grind
  · rw [if_neg q]
    rw [sr_congr (g := fun j => 0 * (fun _ => 0) j) m (fun j hj => ?_), sr_mul]
    · grind
    · unfold isU
      rw [if_neg (fun z => q (by
        have w := (hE.1 j hj).2.2.1
        rw [← z] at w
        exact w)), z0]
      grind
theorem Enu.cmd (hE : Enu M s m) (hG : GW M s) {i : Nat} (hi : i < m) : (uu M s i : Int) < mI M s 1 ∧ (rwc M s i : Int) < mI M s 2 ∧ (pl M s (uu M s i) : Int) < mny M s (uu M s i) ∧ (pl M s (uu M s i) : Int) = mI M (s + 35) (uu M s i) := by
  obtain ⟨u1, u2, u3, u4⟩ := hE.1 i hi
  have u5 := hE.2.2.1 i hi
  have huu : (uu M s i : Int) = mI M (s + 39) i := by unfold uu; omega
  have hc := hG.cmd (i := uu M s i) (by omega)
  have hi' := u5.2
  unfold mny at hi' ⊢
  have hcx : (rwc M s i : Int) = mI M (s + 23) (uu M s i) + mI M (s + 35) (uu M s i) := by unfold rwc cx pl; omega
  unfold pl
  omega
theorem tg_lt (hG : GW M s) {c b : Nat} (hc : (c : Int) < mI M s 2) (hb : b < nb M s c) : (tg M s (bg M s c + b) : Int) < mI M s 1 := by
  have h := hG.brn hc
  have ht := hG.2.2.2.2.2.2.2.2.2.2 (bg M s c + b) (by unfold bg nb at *; omega)
  unfold tg
  omega
/-- a row, as a sum over branches -/
theorem rowp_sum (hE : Enu M s m) (hG : GW M s) {i : Nat} (hi : i < m) (g : Nat → Rat) : sr (fun j => rowp M s m i j * g j) m = cw M s (rwc M s i) (eU M s g) := by
  have hc := (hE.cmd hG hi).2.1
  rw [sr_congr (g := fun j => cw M s (rwc M s i) (fun k => (isU M s j k : Rat) * g j)) m (fun j hj => ?_), cw_sr]
  · refine cw_congr (fun b hb => ?_)
    exact hE.pick (tg_lt hG hc hb) g
  · unfold rowp
    rw [if_neg (by omega), Rat.mul_comm, ← cw_mul]
    exact cw_congr (fun b hb => by grind)
theorem rowp_m {i : Nat} : rowp M s m i m = cw M s (rwc M s i) (fun k => (isT M s k : Rat)) := by
  unfold rowp
  rw [if_pos rfl]
theorem rowp_nn (hE : Enu M s m) (hG : GW M s) (hC : GB M s) {i j : Nat} (hi : i < m) : 0 ≤ rowp M s m i j := by
  have hc := (hE.cmd hG hi).2.1
  unfold rowp cw
  refine sr_nonneg _ (fun b hb => Rat.mul_nonneg (Rat.le_of_lt (hC.chq_pos hc hb)) ?_)
  by_cases q : j = m
  · rw [if_pos q]
    show (0 : Rat) ≤ ((isT M s (tg M s (bg M s (rwc M s i) + b)) : Int) : Rat)
    rcases isT_01 (M := M) (s := s) (k := tg M s (bg M s (rwc M s i) + b)) with w | w <;> rw [w] <;> decide
  · rw [if_neg q]
    show (0 : Rat) ≤ ((isU M s j (tg M s (bg M s (rwc M s i) + b)) : Int) : Rat)
    rcases isU_01 (M := M) (s := s) (j := j) (k := tg M s (bg M s (rwc M s i) + b)) with w | w <;> rw [w] <;> decide
theorem rowp_le (hE : Enu M s m) (hG : GW M s) (hC : GB M s) {i : Nat} (hi : i < m) : sr (rowp M s m i) (m + 1) ≤ 1 := by
  have hc := (hE.cmd hG hi).2.1
  have e1 : sr (rowp M s m i) m = cw M s (rwc M s i) (eU M s (fun _ => 1)) := by
    rw [← rowp_sum hE hG hi]
    exact sr_congr m (fun j hj => by grind)
  rw [sr, e1, rowp_m, ← cw_add]
  have a := cw_le hC hc (f := fun k => eU M s (fun _ => 1) k + (isT M s k : Rat)) (g := fun _ => 1) (fun b hb => by
    unfold eU isT
    by_cases q : mI M (s + 22) (tg M s (bg M s (rwc M s i) + b)) = 3
    · rw [if_neg (fun w => w.2 q), if_pos q, show ((1 : Int) : Rat) = 1 from rfl]; grind
    · rw [if_neg q, show ((0 : Int) : Rat) = 0 from rfl]
      split
      · show (1 : Rat) + 0 ≤ 1; grind
      · grind)
  rw [cw_one hC hc] at a
  exact a
theorem chq_ge (hC : GB M s) {c b : Nat} (hc : (c : Int) < mI M s 2) (hb : b < nb M s c) : ((1000000000 : Int) : Rat)⁻¹ ≤ chq M s (bg M s c + b) := by
  obtain ⟨u0, u1, u2⟩ := (hC c hc).2.1 b hb
  have h1 := (hC c hc).1
  have u3 : mI M (s + 28) (bg M s c + b) ≤ mI M (s + 24) c := Int.le_of_dvd (by omega) u2
  unfold chq
  have p1 : (0 : Rat) < (mI M (s + 28) (bg M s c + b) : Rat) := Rat.intCast_pos.2 u1
  have q1 := Rat.mul_inv_cancel _ (ic_ne u1)
  have q2 := Rat.mul_inv_cancel _ (ic_ne (x := 1000000000) (by omega))
  have i1 : (0 : Rat) < (mI M (s + 28) (bg M s c + b) : Rat)⁻¹ := Rat.inv_pos.2 p1
  have i2 : (0 : Rat) < ((1000000000 : Int) : Rat)⁻¹ := Rat.inv_pos.2 (Rat.intCast_pos.2 (by omega))
  have k1 : (1 : Rat) ≤ (mI M (s + 27) (bg M s c + b) : Rat) := by
    have : ((1 : Int) : Rat) ≤ (mI M (s + 27) (bg M s c + b) : Rat) := ic_mono (by omega)
    exact this
  have k2 : (mI M (s + 28) (bg M s c + b) : Rat) ≤ ((1000000000 : Int) : Rat) := ic_mono (by omega)
  generalize ((1000000000 : Int) : Rat) = Z at *
  generalize (mI M (s + 28) (bg M s c + b) : Rat) = v at *
  generalize (mI M (s + 27) (bg M s c + b) : Rat) = y at *
  have a := Rat.mul_nonneg (a := (Z - v) * Z⁻¹) (b := v⁻¹) (Rat.mul_nonneg (by grind) (Rat.le_of_lt i2)) (Rat.le_of_lt i1)
  have b := Rat.mul_nonneg (a := y - 1) (b := v⁻¹) (by grind) (Rat.le_of_lt i1)
  generalize Z⁻¹ = z at *
  generalize v⁻¹ = w at *
  have e : (Z - v) * z * w = (Z * z) * w - (v * w) * z := by grind
  rw [q1, q2] at e
  grind
theorem rowp_sy {ρ : Nat → Nat} {w : Nat → Int} (hE : Enu M s m) (hG : GW M s) (hC : GB M s) (hL : Lds M s m ρ) (hw : ∀ r, r < m → 0 ≤ w r ∧ 2 * rowD M s r ≤ 2 ^ (w r).toNat) (hw2 : sm w m ≤ 480) : Sy m (rowp M s m) (rowN M s m) (rowD M s) := by
  have hint : ∀ r c, r < m → c ≤ m → (rowD M s r : Rat) * rowp M s m r c = (rowN M s m r c : Rat) := fun r c hr _ => by
    have hc := (hE.cmd hG hr).2.1
    unfold rowD rowp rowN
    exact cw_int hC hc
  have hD1 : ∀ r, r < m → 1 ≤ rowD M s r ∧ rowD M s r < 1000000000 := fun r hr => by
    have h := (hC _ (hE.cmd hG hr).2.1).1
    unfold rowD
    omega
  obtain ⟨h, g⟩ : ∃ h, gok m 0 (rowp M s m) h := by
    have hu : (0 : Rat) < ((1000000000 : Int) : Rat)⁻¹ := Rat.inv_pos.2 (Rat.intCast_pos.2 (by omega))
    have hu1 : ((1000000000 : Int) : Rat)⁻¹ ≤ 1 := by
      have q2 := Rat.mul_inv_cancel _ (ic_ne (x := 1000000000) (by omega))
      have k : (1 : Rat) ≤ ((1000000000 : Int) : Rat) := by decide
      generalize ((1000000000 : Int) : Rat) = Z at *
      have a := Rat.mul_nonneg (a := Z - 1) (b := Z⁻¹) (by grind) (Rat.le_of_lt hu)
      grind
    refine cert (ρ := fun r => ρ (uu M s r)) hu hu1 (fun i j hi hj => rowp_nn hE hG hC hi) (fun i hi => rowp_le hE hG hC hi) (fun i hi => ?_)
    obtain ⟨b, hb, hb1, hb2⟩ := hL i hi
    have hc := (hE.cmd hG hi).2.1
    have hge := chq_ge hC hc hb
    have htl := tg_lt hG hc hb
    have hone : ∀ f : Nat → Int, (∀ k, f k = 0 ∨ f k = 1) → f (tg M s (bg M s (rwc M s i) + b)) = 1 → ((1000000000 : Int) : Rat)⁻¹ ≤ cw M s (rwc M s i) (fun k => (f k : Rat)) := fun f hf h1 => by
      have a := sr_one (f := fun b => chq M s (bg M s (rwc M s i) + b) * (f (tg M s (bg M s (rwc M s i) + b)) : Rat)) (nb M s (rwc M s i)) hb (fun j hj => Rat.mul_nonneg (Rat.le_of_lt (hC.chq_pos hc hj)) (by
        rcases hf (tg M s (bg M s (rwc M s i) + j)) with q | q <;> rw [q] <;> decide))
      have a1 : chq M s (bg M s (rwc M s i) + b) * (f (tg M s (bg M s (rwc M s i) + b)) : Rat) ≤ cw M s (rwc M s i) (fun k => (f k : Rat)) := a
      rw [h1] at a1
      have z1 : ((1 : Int) : Rat) = 1 := rfl
      rw [z1] at a1
      grind
    by_cases q : mI M (s + 22) (tg M s (bg M s (rwc M s i) + b)) = 3
    · left
      have a := hone (isT M s) (fun k => isT_01) (if_pos q)
      rw [← rowp_m (m := m)] at a
      have b := rowp_le hE hG hC hi
      rw [sr] at b
      grind
    · right
      obtain ⟨r1, r2, r3⟩ := hE.2.1 _ htl ⟨hb1, q⟩
      have euj : uu M s (mI M (s + 40) (tg M s (bg M s (rwc M s i) + b))).toNat = tg M s (bg M s (rwc M s i) + b) := by unfold uu; omega
      refine ⟨(mI M (s + 40) (tg M s (bg M s (rwc M s i) + b))).toNat, by omega, by rw [euj]; exact hb2, ?_⟩
      have a := hone (isU M s (mI M (s + 40) (tg M s (bg M s (rwc M s i) + b))).toNat) (fun k => isU_01) (if_pos euj.symm)
      unfold rowp
      rw [if_neg (by omega)]
      exact a
  refine ⟨⟨h, g⟩, hint, fun r hr => by have := hD1 r hr; omega, fun i k hi hk => ?_⟩
  have hp := det_pos g hint (fun r hr => by have := hD1 r hr; omega) k hk
  have hN : ∀ r c, r < m → c ≤ m → 0 ≤ rowN M s m r c := fun r c hr hc => by
    have a : (0 : Rat) ≤ (rowN M s m r c : Rat) := by
      rw [← hint r c hr hc]
      exact Rat.mul_nonneg (Rat.le_of_lt (Rat.intCast_pos.2 (by have := hD1 r hr; omega))) (rowp_nn hE hG hC hr)
    exact ic_le (by have : ((0 : Int) : Rat) = 0 := rfl; rw [this]; exact a)
  have hs := det_small (k := k) (N := rowN M s m) (D := rowD M s) (fun r c hr hc => hN r c (by omega) (by omega)) (fun r hr => by
    refine ⟨by have := hD1 r (by omega); omega, ?_⟩
    refine ic_le ?_
    have e1 : ((sm (fun c => rowN M s m r c) k : Int) : Rat) = (rowD M s r : Rat) * sr (rowp M s m r) k := by
      rw [sm_cast, ← sr_mul]
      exact sr_congr k (fun c hc => (hint r c (by omega) (by omega)).symm)
    rw [e1]
    have a := rowp_le hE hG hC (i := r) (by omega)
    have b := sr_part (f := rowp M s m r) (a := k) (m + 1 - k) (fun c hc => rowp_nn hE hG hC (by omega))
    rw [show k + (m + 1 - k) = m + 1 by omega] at b
    have c := Rat.mul_nonneg (a := (rowD M s r : Rat)) (b := 1 - sr (rowp M s m r) k) (Rat.le_of_lt (Rat.intCast_pos.2 (by have := hD1 r (by omega); omega))) (by grind)
    grind)
  have hpw := pr_pow (f := fun r => 2 * rowD M s r) (w := w) k (fun r hr => ⟨by have := hD1 r (by omega); omega, (hw r (by omega)).2, (hw r (by omega)).1⟩)
  have hsp := sm_part (f := w) (a := k) (m - k) (fun c hc => (hw c (by omega)).1)
  rw [show k + (m - k) = m by omega] at hsp
  have h480 : (2 : Int) ^ (sm w k).toNat ≤ 2 ^ 480 := two_pow_le (by omega)
  have hdi := hD1 i hi
  have hfin : rowD M s i * det k (bm (rowN M s m) (rowD M s)) ≤ 1000000000 * 2 ^ 480 := Int.mul_le_mul (by omega) (by omega) (by omega) (by omega)
  have := p510
  have := p480
  exact ⟨by omega, by omega⟩
end SY
end
section
/-! The solver: settle. -/
/-- 512 fractions have room -/
def Rm (M : mM) (s e : Nat) : Prop := ∀ i, i < 512 → Ft M (s + e + 25 * i) 56
abbrev eS (s e : Nat) : Nat → Prop := fun x => s + e ≤ x ∧ x < s + e + 12800 ∧ (x - (s + e)) % 25 ≤ 4
theorem Rm.out {S : Nat → Prop} {M M' : mM} {s e : Nat} (h : Rm M s e) (k : FI S M M') (hs : ∀ y, S y → y < s + e ∨ s + e + 12780 ≤ y) : Rm M' s e :=
  fun i hi => (h i hi).out k (fun y q => by have := hs y q; omega)
theorem Rm.put {M M' : mM} {s e i : Nat} (h : Rm M s e) (hi : i < 512) (k : FI (fS (s + e + 25 * i)) M M') (h1 : Ft M' (s + e + 25 * i) 56) : Rm M' s e := by
  intro j hj
  by_cases q : j = i
  · rw [q]; exact h1
  · exact (h j hj).out k (fun y w => by have w' : s + e + 25 * i ≤ y ∧ y ≤ s + e + 25 * i + 4 := w; omega)
theorem Xt.put {M M' : mM} {s e n i n' : Nat} {x x' : Nat → Rat} (h : Xt M s e n x) (k : FI (fS (s + e + 25 * i)) M M') (h1 : Fq M' (s + e + 25 * i) 56) (h2 : Fc M' (s + e + 25 * i)) (h3 : fv M' (s + e + 25 * i) = x' i) (hq : ∀ j, j < n' → j = i ∨ (j < n ∧ x' j = x j)) : Xt M' s e n' x' := by
  intro j hj
  by_cases q : j = i
  · rw [q]; exact ⟨h1, h2, h3⟩
  · have w : j < n ∧ x' j = x j := by
      rcases hq j hj with w | w
      · exact absurd w q
      · exact w
    obtain ⟨g1, g2, g3⟩ := h j w.1
    have hs' : ∀ y, fS (s + e + 25 * i) y → y < s + e + 25 * j ∨ s + e + 25 * j + 4 < y := fun y z => by have z' : s + e + 25 * i ≤ y ∧ y ≤ s + e + 25 * i + 4 := z; omega
    exact ⟨(g1.out k hs').1, g2.out g1 k hs', by rw [fv_out g1 k hs', g3, w.2]⟩
theorem Xt.congr {M : mM} {s e n : Nat} {x x' : Nat → Rat} (h : Xt M s e n x) (hq : ∀ j, j < n → x' j = x j) : Xt M s e n x' := fun j hj => by
  obtain ⟨g1, g2, g3⟩ := h j hj
  exact ⟨g1, g2, g3.trans (hq j hj).symm⟩
/-- the values -/
def valx (M : mM) (s m : Nat) : Nat → Rat := fun k => if mI M (s + 36) k ≠ 0 ∧ mI M (s + 22) k ≠ 3 then gq (rowp M s m) m (mI M (s + 40) k).toNat m else if mI M (s + 22) k = 3 then 1 else 0
/-- the values while they are copied -/
def valr (M : mM) (s m r : Nat) : Nat → Rat := fun k => if (mI M (s + 36) k ≠ 0 ∧ mI M (s + 22) k ≠ 3) ∧ (mI M (s + 40) k).toNat < r then gq (rowp M s m) m (mI M (s + 40) k).toNat m else if mI M (s + 22) k = 3 then 1 else 0
theorem valx_y {M : mM} {s m k : Nat} (h : mI M (s + 36) k ≠ 0 ∧ mI M (s + 22) k ≠ 3) : valx M s m k = gq (rowp M s m) m (mI M (s + 40) k).toNat m := if_pos h
theorem valx_n {M : mM} {s m k : Nat} (h : ¬ (mI M (s + 36) k ≠ 0 ∧ mI M (s + 22) k ≠ 3)) : valx M s m k = if mI M (s + 22) k = 3 then 1 else 0 := if_neg h
theorem valr_y {M : mM} {s m k r : Nat} (h : mI M (s + 36) k ≠ 0 ∧ mI M (s + 22) k ≠ 3) (h2 : (mI M (s + 40) k).toNat < r) : valr M s m r k = gq (rowp M s m) m (mI M (s + 40) k).toNat m := if_pos ⟨h, h2⟩
theorem valr_n {M : mM} {s m k r : Nat} (h : ¬ ((mI M (s + 36) k ≠ 0 ∧ mI M (s + 22) k ≠ 3) ∧ (mI M (s + 40) k).toNat < r)) : valr M s m r k = if mI M (s + 22) k = 3 then 1 else 0 := if_neg h
section VX
variable {M : mM} {s m : Nat} {N : Nat → Nat → Int} {D : Nat → Int}
theorem valx_01 (hE : Enu M s m) (hS : Sy m (rowp M s m) N D) {k : Nat} (hk : (k : Int) < mI M s 1) : 0 ≤ valx M s m k ∧ valx M s m k ≤ 1 := by
  unfold valx
  by_cases q : mI M (s + 36) k ≠ 0 ∧ mI M (s + 22) k ≠ 3
  · rw [if_pos q]
    obtain ⟨r1, r2, r3⟩ := hE.2.1 k hk q
    exact hS.q01 (by omega) (by omega) (by omega)
  · rw [if_neg q]
    split <;> exact ⟨by decide, by decide⟩
theorem valx_eq (hE : Enu M s m) (hG : GW M s) (hS : Sy m (rowp M s m) N D) {k : Nat} (hk : (k : Int) < mI M s 1) (hu : unk M s k) : valx M s m k = cw M s (cx M s k (pl M s k)) (valx M s m) := by
  obtain ⟨r1, r2, r3⟩ := hE.2.1 k hk hu
  have hi : (mI M (s + 40) k).toNat < m := by omega
  have euj : uu M s (mI M (s + 40) k).toNat = k := by unfold uu; omega
  obtain ⟨⟨h, g⟩, -⟩ := hS
  have e := gq_eq g m (by omega) (mI M (s + 40) k).toNat m
  have e1 : valx M s m k = gq (rowp M s m) m (mI M (s + 40) k).toNat m := if_pos hu
  rw [rowp_sum hE hG hi (fun t => gq (rowp M s m) m t m), rowp_m, ← cw_add] at e
  rw [e1, e]
  have e2 : rwc M s (mI M (s + 40) k).toNat = cx M s k (pl M s k) := by unfold rwc; rw [euj]
  rw [e2]
  refine cw_congr (fun b hb => ?_)
  generalize tg M s (bg M s (cx M s k (pl M s k)) + b) = t
  show (isT M s t : Rat) + eU M s (fun t => gq (rowp M s m) m t m) t = valx M s m t
  unfold isT eU valx
  have z0 : ((0 : Int) : Rat) = 0 := rfl
  have z1 : ((1 : Int) : Rat) = 1 := rfl
  by_cases q : mI M (s + 22) t = 3
  · rw [if_pos q, if_neg (fun w => w.2 q), if_neg (fun w => w.2 q), if_pos q, z1]; grind
  · rw [if_neg q, if_neg q, z0]
    by_cases z : mI M (s + 36) t ≠ 0 ∧ mI M (s + 22) t ≠ 3
    · rw [if_pos z]; exact Rat.zero_add _
    · rw [if_neg z]; exact Rat.zero_add _
end VX
abbrev tS (s : Nat) : Nat → Prop := fun x => (s + 2 ≤ x ∧ x ≤ s + 21) ∨ (s + 42 ≤ x ∧ x ≤ s + 51) ∨ (s + 57 ≤ x ∧ x ≤ s + 61) ∨ eS s 88 x ∨ (s + 12868 ≤ x ∧ x ≤ s + 21067)
section VS
variable {G : mG} {d s m n : Nat} {M : mM} {N : Nat → Nat → Int} {D : Nat → Int}
theorem s_MS_settle (hm : m ≤ 40) (hO : mOk M) (hV : Vk M s) (hG : GW M s) (hC : GB M s) (hn : mI M s 1 = n) (h24 : mI M s 24 = m) (hE : Enu M s m) (hS : Sy m (rowp M s m) N D) (hW : Wk M s) (hT : Ct M s) (hR : Rm M s 88) :
    Cv G y_MS_settle (d + 7) [vr s] M (fun M' => mOk M' ∧ FI (tS s) M M' ∧ Wk M' s ∧ Ct M' s ∧ Rm M' s 88 ∧ Xt M' s 88 n (valx M s m)) := by
  have h2 := hG.2.1
  have h1 := hG.1
  refine k_MS_settle hO ⟨hV.k0, (s_MS_writeRows (d := d + 1) hm hO hV hG hC h24 hE hW hT).mono (fun M1 g1 => ?_)⟩
  obtain ⟨o1, f1, W1, T1, B1⟩ := g1
  have V1 := hV.fi f1
  have fe1 := f1.2.2.2.2.2.2
  refine ⟨o1, V1.k0, (s_MS_solveRows (d := d) hm o1 V1 (by rw [fe1 s (by omega), h24]) W1 hS B1).mono (fun M2 g2 => ?_)⟩
  obtain ⟨o2, f2, W2, B2⟩ := g2
  have V2 := V1.fi f2
  have f12 : FI (tS s) M M2 := (f1.mono (fun y q => by omega)).trans (f2.mono (fun y q => by omega))
  have R2 : Rm M2 s 88 := (hR.out f1 (fun y q => by omega)).out f2 (fun y q => by omega)
  have T2 : Ct M2 s := fun i j hi hj => by
    by_cases q : i < m ∧ j ≤ m
    · exact (B2 i j q.1 q.2).1.ft
    · exact (T1 i j hi hj).out f2 (fun x w => by unfold cel; omega)
  refine ⟨o2, ?_⟩
  suffices H : ∀ (t i : Nat) (M3 : mM), i + t = n → mOk M3 → FI (tS s) M M3 → Wk M3 s → Ct M3 s → Tb M3 s m (tA (rowp M s m) m m) → Rm M3 s 88 → Xt M3 s 88 i (valr M s m 0) → h_MS_settle_10 G (d + 6) s i M3 (fun M' => mOk M' ∧ FI (tS s) M M' ∧ Wk M' s ∧ Ct M' s ∧ Rm M' s 88 ∧ Xt M' s 88 n (valx M s m)) from
    H n 0 M2 (by omega) o2 f12 W2 T2 B2 R2 (fun k hk => by omega)
  clear T2 R2 f12 V2 B2 W2 f2 o2 M2 fe1 V1 B1 T1 W1 f1 o1 M1
  intro t
  induction t with
  | zero =>
    intro i M3 hi o3 f3 W3 T3 B3 R3 X3
    have ei : i = n := by omega
    subst ei
    have V3 := hV.fi f3
    have fe := f3.2.2.2.2.2.2
    refine k_MS_settle_10 o3 ⟨by omega, by omega⟩ ?_
    rw [fe s (by omega), hn]
    refine ⟨V3.k0, fun _ => ?_, fun q => by omega⟩
    suffices H : ∀ (t r : Nat) (M3 : mM), r + t = m → mOk M3 → FI (tS s) M M3 → Wk M3 s → Ct M3 s → Tb M3 s m (tA (rowp M s m) m m) → Rm M3 s 88 → Xt M3 s 88 i (valr M s m r) → h_MS_settle_51 G (d + 6) s r M3 (fun M' => mOk M' ∧ FI (tS s) M M' ∧ Wk M' s ∧ Ct M' s ∧ Rm M' s 88 ∧ Xt M' s 88 i (valx M s m)) from
      H m 0 M3 (by omega) o3 f3 W3 T3 B3 R3 X3
    clear fe V3 X3 R3 B3 T3 W3 f3 o3 M3
    intro t
    induction t with
    | zero =>
      intro r M3 hr o3 f3 W3 T3 B3 R3 X3
      have er : r = m := by omega
      subst er
      have V3 := hV.fi f3
      have fe := f3.2.2.2.2.2.2
      refine k_MS_settle_51 o3 ⟨by omega, by omega⟩ ?_
      rw [fe s (by omega), h24]
      refine ⟨V3.k0, fun _ => ⟨o3, f3, W3, T3, R3, X3.congr (fun k hk => ?_)⟩, fun q => by omega⟩
      by_cases q : mI M (s + 36) k ≠ 0 ∧ mI M (s + 22) k ≠ 3
      · obtain ⟨r1, r2, r3⟩ := hE.2.1 k (by omega) q
        rw [valx_y q, valr_y q (by omega)]
      · rw [valx_n q, valr_n (fun w => q w.1)]
    | succ t ih =>
      intro r M3 hr o3 f3 W3 T3 B3 R3 X3
      have hrm : r < m := by omega
      have V3 := hV.fi f3
      have fe := f3.2.2.2.2.2.2
      obtain ⟨u1, u2, u3, u4⟩ := hE.1 r hrm
      have huu : (mI M (s + 39) r).toNat = uu M s r := rfl
      have huu2 : (uu M s r : Int) = mI M (s + 39) r := by unfold uu; omega
      refine k_MS_settle_51 o3 ⟨by omega, by omega⟩ ?_
      rw [V3.r22, V3.r21, V3.n39, V3.n38, fe s (by omega), h24, fe (s + 39) (by omega), Int.toNat_natCast, huu, V3.f38 _ (by omega)]
      refine ⟨V3.k0, fun q => by omega, fun _ => ⟨V3.k39, by omega, V3.k38, by omega, (s_MS_cell (by omega) (by omega) o3 V3).mono (fun x M4 h4 => ?_)⟩⟩
      obtain ⟨e4, hx⟩ := h4
      subst e4 hx
      have cr := B3 r m hrm (by omega)
      have rk := R3 (uu M s r) (by omega)
      refine ⟨o3, rk.1.1, (s_MF_copy o3 rk cr.1 (by unfold cel; omega) cr.1.2.1.1.2.2.2.2.2.2 cr.1.2.2.1.1.2.2.2.2.2.2).mono (fun M5 h5 => ?_)⟩
      obtain ⟨o5, f5, F5, w4, w5, w6⟩ := h5
      have C5 := fc_copy cr.2.1 w4 w5 w6
      have f5' : FI (eS s 88) M4 M5 := f5.mono (fun y q => by have q' : s + 88 + 25 * uu M s r ≤ y ∧ y ≤ s + 88 + 25 * uu M s r + 4 := q; omega)
      have e5 : fv M5 (s + 88 + 25 * uu M s r) = valr M s m (r + 1) (uu M s r) := by
        rw [C5.2, cr.2.2]
        unfold valr
        rw [if_pos ⟨u3, by omega⟩, u4, Int.toNat_natCast]
        unfold tA
        rw [if_pos rfl]
      have X5 := X3.put (x' := valr M s m (r + 1)) (n' := i) f5 F5 C5.1 e5 (fun j hj => by
        by_cases z : j = uu M s r
        · exact Or.inl z
        · refine Or.inr ⟨hj, ?_⟩
          by_cases q : mI M (s + 36) j ≠ 0 ∧ mI M (s + 22) j ≠ 3
          · obtain ⟨r1, r2, r3⟩ := hE.2.1 j (by omega) q
            have hne : (mI M (s + 40) j).toNat ≠ r := fun y => z (by unfold uu; rw [y] at r3; omega)
            by_cases y : (mI M (s + 40) j).toNat < r
            · rw [valr_y q (by omega), valr_y q y]
            · rw [valr_n (fun w => y (by have := w.2; omega)), valr_n (fun w => y w.2)]
          · rw [valr_n (fun w => q w.1), valr_n (fun w => q w.1)])
      exact ⟨o5, ih (r + 1) M5 (by omega) o5 (f3.trans (f5'.mono (fun y q => Or.inr (Or.inr (Or.inr (Or.inl q)))))) (W3.far f5' (fun y q => by have := q.1; omega)) (T3.out f5' (fun y q => by have := q.2.1; have := q.1; have := q.2.2; omega)) (B3.out f5' (fun y q => by have := q.2.1; have := q.1; have := q.2.2; omega)) (R3.put (by omega) f5 F5.ft) X5⟩
  | succ t ih =>
    intro i M3 hi o3 f3 W3 T3 B3 R3 X3
    have V3 := hV.fi f3
    have fe := f3.2.2.2.2.2.2
    have rk := R3 i (by omega)
    refine k_MS_settle_10 o3 ⟨by omega, by omega⟩ ?_
    rw [V3.r21, V3.r4, V3.n38, V3.n22, fe s (by omega), hn, fe (s + 22) (by omega), Int.toNat_natCast, V3.f38 _ (by omega)]
    refine ⟨V3.k0, fun q => by omega, fun _ => ⟨V3.k38, by omega, V3.k22, by omega, fun v hv => ⟨rk.1.1, (s_MF_set ⟨by split at hv <;> omega, by split at hv <;> omega⟩ (by split at hv <;> omega) ⟨by omega, by omega⟩ (by omega) o3 rk (by omega)).mono (fun M5 h5 => ?_)⟩⟩⟩
    obtain ⟨o5, f5, F5, y1, y2, y3⟩ := h5
    have C5 := fc_one F5 y2 (fun q => y3 (by omega))
    have f5' : FI (eS s 88) M3 M5 := f5.mono (fun y q => by have q' : s + 88 + 25 * i ≤ y ∧ y ≤ s + 88 + 25 * i + 4 := q; omega)
    have e5 : fv M5 (s + 88 + 25 * i) = valr M s m 0 i := by
      rw [fv_set y1 y2]
      have z0 : ((0 : Int) : Rat) = 0 := rfl
      have z1 : ((1 : Int) : Rat) = 1 := rfl
      unfold valr
      rw [if_neg (fun w => by have := w.2; omega), z1]
      by_cases q : mI M (s + 22) i = 3
      · rw [if_pos q] at hv ⊢
        rw [hv, z1]; grind
      · rw [if_neg q] at hv ⊢
        rw [hv, z0]; grind
    have X5 := X3.put (x' := valr M s m 0) (n' := i + 1) f5 F5 C5 e5 (fun j hj => by
      by_cases z : j = i
      · exact Or.inl z
      · exact Or.inr ⟨by omega, rfl⟩)
    exact ⟨o5, ih (i + 1) M5 (by omega) o5 (f3.trans (f5'.mono (fun y q => Or.inr (Or.inr (Or.inr (Or.inl q)))))) (W3.far f5' (fun y q => by have := q.1; omega)) (T3.out f5' (fun y q => by have := q.2.1; have := q.1; have := q.2.2; omega)) (B3.out f5' (fun y q => by have := q.2.1; have := q.1; have := q.2.2; omega)) (R3.put (by omega) f5 F5.ft) X5⟩
end VS
end
section
/-! The solver: improve. -/
theorem exF : ∀ n : Nat, ∃ F : Int, 0 < F ∧ ∀ e : Int, 0 < e → e < n → e ∣ F
  | 0 => ⟨1, by omega, fun e h1 h2 => by omega⟩
  | n + 1 => by
    obtain ⟨F, h0, h⟩ := exF n
    by_cases q : n = 0
    · exact ⟨F, h0, fun e h1 h2 => by omega⟩
    · refine ⟨F * n, Int.mul_pos h0 (by omega), fun e h1 h2 => ?_⟩
      by_cases z : e = n
      · rw [z]; exact Int.dvd_mul_left _ _
      · exact Int.dvd_trans (h e h1 (by omega)) (Int.dvd_mul_right _ _)
/-- F makes whole numbers of all small values -/
def Fall (F : Int) : Prop := 0 < F ∧ ∀ e : Int, 0 < e → e < 16777216 ^ 56 → e ∣ F
theorem fall_ex : ∃ F, Fall F := by
  obtain ⟨F, h0, h⟩ := exF ((16777216 : Int) ^ 56).toNat
  refine ⟨F, h0, fun e h1 h2 => h e h1 ?_⟩
  rw [Int.toNat_of_nonneg (Int.pow_nonneg (by omega))]
  exact h2
theorem Fall.int {F : Int} (h : Fall F) {x : Rat} (hx : Sml x) : ∃ z : Int, x * (F : Rat) = (z : Rat) := by
  obtain ⟨E, z, h0, h1, h2, -, -⟩ := hx
  obtain ⟨t, ht⟩ := h.2 E h0 h1
  refine ⟨z * t, ?_⟩
  rw [ht, Rat.intCast_mul, Rat.intCast_mul, ← h2]
  grind
theorem fv_wv {M : mM} {f r : Nat} (hF : Fq M f r) (h : 0 ≤ fv M f) : sn M f = wv M (f + 1) := by
  have p : 0 < sd M f := hF.2.2.2.2
  have e := fv_sd hF
  have a := Rat.mul_nonneg h (Rat.le_of_lt (Rat.intCast_pos.2 p))
  rw [e] at a
  have b : 0 ≤ sn M f := ic_le (by have : ((0 : Int) : Rat) = 0 := rfl; rw [this]; exact a)
  have hn := hF.2.1.nonneg
  unfold sn at b ⊢
  split at b <;> (try rw [if_pos (by assumption)]) <;> (try rw [if_neg (by assumption)]) <;> omega
theorem ic_lt {x y : Int} : (x : Rat) < (y : Rat) ↔ x < y := by exact_mod_cast Iff.rfl
theorem fv_cmp {M : mM} {a b ra rb : Nat} (hA : Fq M a ra) (hB : Fq M b rb) (ha : 0 ≤ fv M a) (hb : 0 ≤ fv M b) : (wv M (a + 1) * wv M (b + 3) < wv M (b + 1) * wv M (a + 3) ↔ fv M a < fv M b) ∧ (wv M (a + 1) * wv M (b + 3) = wv M (b + 1) * wv M (a + 3) ↔ fv M a = fv M b) := by
  have p1 : 0 < sd M a := hA.2.2.2.2
  have p2 : 0 < sd M b := hB.2.2.2.2
  have e1 := fv_sd hA
  have e2 := fv_sd hB
  rw [fv_wv hA ha] at e1
  rw [fv_wv hB hb] at e2
  have q1 : (0 : Rat) < (sd M a : Rat) := Rat.intCast_pos.2 p1
  have q2 : (0 : Rat) < (sd M b : Rat) := Rat.intCast_pos.2 p2
  have s1 : sd M a = wv M (a + 3) := rfl
  have s2 : sd M b = wv M (b + 3) := rfl
  rw [s1] at e1 q1
  rw [s2] at e2 q2
  have c1 : ((wv M (a + 1) * wv M (b + 3) : Int) : Rat) = fv M a * ((wv M (a + 3) : Rat) * (wv M (b + 3) : Rat)) := by rw [Rat.intCast_mul, ← e1]; grind
  have c2 : ((wv M (b + 1) * wv M (a + 3) : Int) : Rat) = fv M b * ((wv M (a + 3) : Rat) * (wv M (b + 3) : Rat)) := by rw [Rat.intCast_mul, ← e2]; grind
  have hp := Rat.mul_pos q1 q2
  generalize (wv M (a + 3) : Rat) * (wv M (b + 3) : Rat) = P at *
  generalize fv M a = x at *
  generalize fv M b = y at *
  clear e1 e2 q1 q2
  refine ⟨⟨fun h => ?_, fun h => ?_⟩, ⟨fun h => ?_, fun h => ?_⟩⟩
  · have h' := ic_lt.2 h
    rw [c1, c2] at h'
    refine Classical.byContradiction (fun w => ?_)
    have a := Rat.mul_nonneg (a := x - y) (b := P) (by grind) (Rat.le_of_lt hp)
    grind
  · refine ic_lt.1 ?_
    rw [c1, c2]
    have a := Rat.mul_pos (a := y - x) (b := P) (by grind) hp
    grind
  · have h' : ((wv M (a + 1) * wv M (b + 3) : Int) : Rat) = ((wv M (b + 1) * wv M (a + 3) : Int) : Rat) := by rw [h]
    rw [c1, c2] at h'
    have i := Rat.mul_inv_cancel P (by grind)
    have e : x * P * P⁻¹ = y * P * P⁻¹ := by rw [h']
    grind
  · have h' : ((wv M (a + 1) * wv M (b + 3) : Int) : Rat) = ((wv M (b + 1) * wv M (a + 3) : Int) : Rat) := by rw [c1, c2, h]
    exact_mod_cast h'
/-- command i of state k is better for the player -/
def betP (M : mM) (s : Nat) (x : Nat → Rat) (q : Int) (k i : Nat) : Prop := if q = 1 then x k < cw M s (cx M s k i) x else cw M s (cx M s k i) x < x k
abbrev iS (s : Nat) : Nat → Prop := fun x => wS s x ∨ x = s + 35
/-- what improve leaves behind -/
def imQ (M : mM) (s : Nat) (x : Nat → Rat) (q : Int) (k : Nat) (r : Int) (M' : mM) : Prop := mOk M' ∧ Wk M' s ∧ FI (iS s) M M' ∧ ((r = 0 ∧ mI M' (s + 35) = mI M (s + 35) ∧ (mI M (s + 22) k = q → ∀ i : Nat, (i : Int) < mny M s k → mayP M s k i → ¬ betP M s x q k i)) ∨ (r = 1 ∧ mI M (s + 22) k = q ∧ ∃ i : Nat, (i : Int) < mny M s k ∧ mayP M s k i ∧ betP M s x q k i ∧ ∀ j, mI M' (s + 35) j = if j = k then (i : Int) else mI M (s + 35) j))
section VS
variable {G : mG} {d s n : Nat} {M : mM} {x : Nat → Rat}
theorem s_MS_improve {k : Nat} {q : Int} (hq : q = 1 ∨ q = 2) (hO : mOk M) (hV : Vk M s) (hG : GW M s) (hC : GB M s) (hn : mI M s 1 = n) (hk : (k : Int) < mI M s 1) (hW : Wk M s) (hX : Xt M s 88 n x) (h01 : ∀ t, t < n → 0 ≤ x t ∧ x t ≤ 1) :
    Ci G y_MS_improve (d + 6) [vr s, vi k, vi q] M (fun r M' => imQ M s x q k r M') := by
  have h2 := hG.2.1
  have h3 := hG.2.2.1
  have hc := hG.cmd hk
  have hm0 : 0 ≤ mny M s k ∧ mny M s k ≤ 4200 := by unfold mny; omega
  refine k_MS_improve hO ⟨by omega, by omega⟩ ⟨by omega, by omega⟩ ?_
  suffices H : ∀ (r i : Nat) (M2 : mM), r = (mny M s k).toNat - i → mOk M2 → FI (wS s) M M2 → Wk M2 s → (mI M (s + 22) k = q → ∀ i' : Nat, i' < i → (i' : Int) < mny M s k → mayP M s k i' → ¬ betP M s x q k i') → (i : Int) ≤ mny M s k → h_MS_improve_2 G (d + 5) s k q i M2 (fun r M' => imQ M s x q k r M') from
    H _ 0 M rfl hO FI.refl hW (fun _ i' hi' => by omega) (by omega)
  intro r
  induction r with
  | zero =>
    intro i M2 hr o2 f2 W2 hB hi
    have V2 := hV.fi f2
    have G2 : sameG M M2 s := sameG.of f2 (by omega) (fun y _ _ => by omega)
    have fe := f2.2.2.2.2.2.2
    refine k_MS_improve_2 o2 ⟨by omega, by omega⟩ ⟨by omega, by omega⟩ ⟨by omega, by omega⟩ ?_
    rw [V2.r4, V2.n22, fe (s + 22) (by omega), Int.toNat_natCast]
    refine ⟨V2.k0, V2.k22, by omega, fun e => (s_MS_many o2 V2 (G2.gw hG) (by rw [G2.1]; exact hk)).mono (fun y M3 h3' => ?_), fun e => ⟨o2, W2, f2.mono (fun y w => Or.inl w), Or.inl ⟨rfl, fe (s + 35) (by omega), fun w => absurd w e⟩⟩⟩
    obtain ⟨e3, hy⟩ := h3'
    subst e3
    rw [G2.hm] at hy
    exact ⟨⟨by omega, by omega⟩, o2, fun _ => ⟨o2, W2, f2.mono (fun y w => Or.inl w), Or.inl ⟨rfl, fe (s + 35) (by omega), fun w i' hi' => hB w i' (by omega) hi'⟩⟩, fun w => by omega⟩
  | succ r ih =>
    intro i M2 hr o2 f2 W2 hB hi
    have V2 := hV.fi f2
    have G2 : sameG M M2 s := sameG.of f2 (by omega) (fun y _ _ => by omega)
    have fe := f2.2.2.2.2.2.2
    have GG := G2.gw hG
    have hk2 : (k : Int) < mI M2 s 1 := by rw [G2.1]; exact hk
    have him : (i : Int) < mny M s k := by omega
    have hmay : mayP M2 s k i ↔ mayP M s k i := by
      unfold mayP
      rw [fe s (by omega), fe (s + 22) (by omega), fe (s + 32) (by omega)]
    refine k_MS_improve_2 o2 ⟨by omega, by omega⟩ ⟨by omega, by omega⟩ ⟨by omega, by omega⟩ ?_
    rw [V2.r4, V2.n22, fe (s + 22) (by omega), Int.toNat_natCast]
    refine ⟨V2.k0, V2.k22, by omega, fun e => (s_MS_many o2 V2 GG hk2).mono (fun y M3 h3' => ?_), fun e => ⟨o2, W2, f2.mono (fun y w => Or.inl w), Or.inl ⟨rfl, fe (s + 35) (by omega), fun w => absurd w e⟩⟩⟩
    obtain ⟨e3, hy⟩ := h3'
    subst e3
    rw [G2.hm] at hy
    refine ⟨⟨by omega, by omega⟩, o2, fun w => by omega, fun _ => ⟨V2.k0, (s_MS_may (by omega) o2 V2 GG hk2).mono (fun z M4 h4 => ?_)⟩⟩
    obtain ⟨e4, hz, hzq⟩ := h4
    subst e4
    refine ⟨⟨by omega, by omega⟩, o2, fun w => ?_, fun w => ?_⟩
    · refine ih (i + 1) M4 (by omega) o2 f2 W2 (fun w' i' hi' hi2 hm => ?_) (by omega)
      by_cases z' : i' = i
      · subst z'
        exact absurd w (hzq.2 (hmay.2 hm))
      · exact hB w' i' (by omega) hi2 hm
    · have hmi : mayP M s k i := hmay.1 (hzq.1 w)
      have X2 := hX.out f2 (fun y w => by omega)
      rw [V2.r21]
      refine ⟨V2.k0, (s_MS_worthOf (d := d) (n := n) (Or.inl ⟨rfl, rfl, rfl⟩) o2 V2 GG (G2.gb hC) (by rw [G2.1]; exact hn) hk2 (by rw [G2.hm]; exact him) W2 X2 h01).mono (fun M5 h5 => ?_)⟩
      obtain ⟨o5, f5, W5, F5, C5, v5, s5⟩ := h5
      rw [G2.hw, G2.hx] at v5 s5
      have V5 := V2.fi f5
      have f25 := f2.trans f5
      have fe5 := f25.2.2.2.2.2.2
      have X5 := X2.out f5 (fun y w => by omega)
      have xk := X5 k (by omega)
      have sz := smp_size F5 C5 (by rw [v5]; exact s5)
      have z3 := xk.1.2.1.1.2.2.2.2.2.2
      have z4 := xk.1.2.2.1.1.2.2.2.2.2.2
      have hx0 := h01 k (by omega)
      have hcx : (cx M s k i : Int) < mI M s 2 := by
        have := him
        unfold mny at this
        unfold cx
        omega
      have hw0 : 0 ≤ cw M s (cx M s k i) x := by
        have a := cw_le hC hcx (f := fun _ => 0) (g := x) (fun b hb => (h01 _ (by have := tg_lt hG hcx hb; omega)).1)
        rw [cw_const hC hcx] at a
        exact a
      rw [V5.r21, V5.r0, V5.r28, V5.n38, V5.f38 k (by omega)]
      refine ⟨o5, V5.k0, V5.k38, by omega, W5.1.1.1, (s_MU_compare (d := d + 3) o5 W5.1 F5 xk.1 (by unfold suO; omega) (by unfold suO; omega) (by omega) (by omega)).mono (fun c M6 h6 => ?_)⟩
      obtain ⟨o6, f6, Z6, hcv⟩ := h6
      have hcm := fv_cmp F5 xk.1 (by rw [v5]; exact hw0) (by rw [xk.2.2]; exact hx0.1)
      rw [v5, xk.2.2] at hcm
      have f6' : FI (wS s) M5 M6 := f6.mono (fun y w => by omega)
      have V6 := V5.fi f6
      have W6 : Wk M6 s := W5.out f6 Z6 (fun y w => by omega)
      have f26 := f25.trans f6'
      have fe6 := f26.2.2.2.2.2.2
      have hnext : ¬ betP M s x q k i → h_MS_improve_2 G (d + 5) s k q ((i : Int) + 1) M6 (fun r M' => imQ M s x q k r M') := fun hb => by
        refine ih (i + 1) M6 (by omega) o6 f26 W6 (fun w' i' hi' hi2 hm => ?_) (by omega)
        by_cases z' : i' = i
        · subst z'; exact hb
        · exact hB w' i' (by omega) hi2 hm
      have hend : betP M s x q k i → ∀ M7, M7 = mUI M6 (s + 35) k i → imQ M s x q k 1 M7 := fun hb M7 e7 => by
        have f7 : FI (fun y => y = s + 35) M6 M7 := by rw [e7]; exact FI.ui rfl
        have o7 : mOk M7 := by rw [e7]; exact mOk_UI o6 ⟨by omega, by omega⟩
        refine ⟨o7, W6.far f7 (fun y w => by omega), (f26.mono (fun y w => Or.inl w)).trans (f7.mono (fun y w => Or.inr w)), Or.inr ⟨rfl, e, i, him, hmi, hb, fun j => ?_⟩⟩
        rw [e7, mI_UI, fe6 (s + 35) (by omega)]
        by_cases z' : j = k
        · rw [if_pos ⟨rfl, z'⟩, if_pos z']
        · rw [if_neg (fun w => z' w.2), if_neg z']
      have hc3 : c = -1 ∨ c = 0 ∨ c = 1 := by split at hcv <;> (try split at hcv) <;> omega
      rw [V6.r18, V6.n35]
      refine ⟨⟨by omega, by omega⟩, o6, fun w1 => ⟨fun w2 => hnext ?_, fun w2 => ⟨V6.k0, V6.k35, by omega, hend ?_⟩⟩, fun w1 => ⟨fun w2 => hnext ?_, fun w2 => ⟨V6.k0, V6.k35, by omega, hend ?_⟩⟩⟩
      · unfold betP
        rw [if_pos w1]
        by_cases y1 : wv M5 (s + 52 + 1) * wv M5 (s + 88 + 25 * k + 3) < wv M5 (s + 88 + 25 * k + 1) * wv M5 (s + 52 + 3)
        · have := hcm.1.1 y1; grind
        · rw [if_neg y1] at hcv
          by_cases y2 : wv M5 (s + 52 + 1) * wv M5 (s + 88 + 25 * k + 3) = wv M5 (s + 88 + 25 * k + 1) * wv M5 (s + 52 + 3)
          · have := hcm.2.1 y2; grind
          · rw [if_neg y2] at hcv; omega
      · unfold betP
        rw [if_pos w1]
        by_cases y1 : wv M5 (s + 52 + 1) * wv M5 (s + 88 + 25 * k + 3) < wv M5 (s + 88 + 25 * k + 1) * wv M5 (s + 52 + 3)
        · rw [if_pos y1] at hcv; omega
        · rw [if_neg y1] at hcv
          by_cases y2 : wv M5 (s + 52 + 1) * wv M5 (s + 88 + 25 * k + 3) = wv M5 (s + 88 + 25 * k + 1) * wv M5 (s + 52 + 3)
          · rw [if_pos y2] at hcv; omega
          · have a1 : ¬ cw M s (cx M s k i) x < x k := fun y => y1 (hcm.1.2 y)
            have a2 : ¬ cw M s (cx M s k i) x = x k := fun y => y2 (hcm.2.2 y)
            grind
      · unfold betP
        rw [if_neg w1]
        by_cases y1 : wv M5 (s + 52 + 1) * wv M5 (s + 88 + 25 * k + 3) < wv M5 (s + 88 + 25 * k + 1) * wv M5 (s + 52 + 3)
        · rw [if_pos y1] at hcv; omega
        · exact fun y => y1 (hcm.1.2 y)
      · unfold betP
        rw [if_neg w1]
        by_cases y1 : wv M5 (s + 52 + 1) * wv M5 (s + 88 + 25 * k + 3) < wv M5 (s + 88 + 25 * k + 1) * wv M5 (s + 52 + 3)
        · exact hcm.1.1 y1
        · rw [if_neg y1] at hcv
          split at hcv <;> omega
end VS
end
section
/-! Better choices move the values one way. -/
theorem argmaxP {P : Nat → Prop} {f : Nat → Rat} : ∀ n, (∃ k, k < n ∧ P k) → ∃ k, k < n ∧ P k ∧ ∀ j, j < n → P j → f j ≤ f k
  | 0, h => by obtain ⟨k, h, _⟩ := h; omega
  | n + 1, h => by
    by_cases q : ∃ k, k < n ∧ P k
    · obtain ⟨k, k1, k2, k3⟩ := argmaxP n q
      by_cases z : P n ∧ f k ≤ f n
      · refine ⟨n, by omega, z.1, fun j hj hp => ?_⟩
        by_cases y : j = n
        · rw [y]; exact Rat.le_refl
        · exact Rat.le_trans (k3 j (by omega) hp) z.2
      · refine ⟨k, by omega, k2, fun j hj hp => ?_⟩
        by_cases y : j = n
        · subst y
          have : ¬ f k ≤ f j := fun w => z ⟨hp, w⟩
          grind
        · exact k3 j (by omega) hp
    · obtain ⟨k, k1, k2⟩ := h
      have : k = n := Classical.byContradiction (fun w => q ⟨k, by omega, k2⟩)
      subst this
      refine ⟨k, by omega, k2, fun j hj hp => ?_⟩
      have : j = k := Classical.byContradiction (fun w => q ⟨j, by omega, hp⟩)
      rw [this]; exact Rat.le_refl
theorem argminN {P : Nat → Prop} {f : Nat → Nat} {n : Nat} : ∀ t k, f k = t → k < n → P k → ∃ k, k < n ∧ P k ∧ ∀ j, j < n → P j → f k ≤ f j := by
  intro t
  induction t using Nat.strongRecOn with
  | ind t ih =>
    intro k e hk hp
    by_cases q : ∃ j, j < n ∧ P j ∧ f j < t
    · obtain ⟨j, j1, j2, j3⟩ := q
      exact ih (f j) j3 j rfl j1 j2
    · exact ⟨k, hk, hp, fun j hj hpj => Classical.byContradiction (fun w => q ⟨j, hj, hpj, by omega⟩)⟩
/-- command i of state k may lead into T -/
def LD (M : mM) (s k i : Nat) (T : Nat → Prop) : Prop := ∃ b, b < nb M s (cx M s k i) ∧ T (tg M s (bg M s (cx M s k i) + b))
section UP
variable {M : mM} {s n : Nat} {x : Nat → Rat}
theorem leadQ_LD {T : Nat → Prop} (hG : GW M s) {k i : Nat} (hk : (k : Int) < mI M s 1) (hi : (i : Int) < mny M s k) : leadQ T M s k i ↔ LD M s k i T := by
  have hc := hG.cmd hk
  have hi' := hi
  unfold mny at hi'
  have hcx : (cx M s k i : Int) = mI M (s + 23) k + i := by unfold cx; omega
  have hb := hG.brn (c := cx M s k i) (by omega)
  have e : (mI M (s + 23) k).toNat + i = cx M s k i := rfl
  unfold leadQ LD
  rw [e]
  constructor
  · rintro ⟨b, b1, b2, b3⟩
    refine ⟨b - bg M s (cx M s k i), by unfold nb bg; omega, ?_⟩
    rw [show bg M s (cx M s k i) + (b - bg M s (cx M s k i)) = b by unfold bg; omega]
    exact b3
  · rintro ⟨b, b1, b2⟩
    exact ⟨bg M s (cx M s k i) + b, by unfold bg; omega, by unfold nb bg at *; omega, b2⟩
theorem cx_lt (hG : GW M s) {k i : Nat} (hk : (k : Int) < mI M s 1) (hi : (i : Int) < mny M s k) : (cx M s k i : Int) < mI M s 2 := by
  have hc := hG.cmd hk
  unfold mny at hi
  unfold cx
  omega
/-- all branches of a command lead to where x is at most c; one leads to where it is less -/
theorem cw_below (hG : GW M s) (hC : GB M s) {k i : Nat} (hk : (k : Int) < mI M s 1) (hi : (i : Int) < mny M s k) {c : Rat} {T : Nat → Prop} (hT : ∀ t : Nat, (t : Int) < mI M s 1 → T t → x t ≤ c) (hn : ¬ LD M s k i (fun t => ¬ T t)) : cw M s (cx M s k i) x ≤ c ∧ (LD M s k i (fun t => x t < c) → cw M s (cx M s k i) x < c) := by
  have hcx := cx_lt hG hk hi
  have hb : ∀ b, b < nb M s (cx M s k i) → x (tg M s (bg M s (cx M s k i) + b)) ≤ c := fun b hb => hT _ (tg_lt hG hcx hb) (Classical.byContradiction (fun w => hn ⟨b, hb, w⟩))
  refine ⟨?_, fun hl => ?_⟩
  · have a := cw_le hC hcx (f := x) (g := fun _ => c) hb
    rw [cw_const hC hcx] at a
    exact a
  · obtain ⟨b, b1, b2⟩ := hl
    have a := cw_lt hC hcx (f := x) (g := fun _ => c) hb ⟨b, b1, b2⟩
    rw [cw_const hC hcx] at a
    exact a
theorem up0 (hG : GW M s) (hC : GB M s) (hn : mI M s 1 = n) {A A' : Nat → Prop} {ρ σ σ' : Nat → Nat}
    (hA : ∀ k, k < n → A k → mI M (s + 22) k ≠ 3 → (mI M (s + 22) k = 1 ∧ (σ k : Int) < mny M s k ∧ LD M s k (σ k) (fun t => A t ∧ ρ t < ρ k)) ∨ (mI M (s + 22) k = 2 ∧ 0 < mny M s k ∧ ∀ i : Nat, (i : Int) < mny M s k → mayP M s k i → LD M s k i (fun t => A t ∧ ρ t < ρ k)))
    (hA3 : ∀ k, k < n → mI M (s + 22) k = 3 → A' k)
    (hA' : ∀ k, k < n → ¬ A' k → (mI M (s + 22) k = 1 → (σ' k : Int) < mny M s k → ¬ LD M s k (σ' k) A') ∧ (mI M (s + 22) k = 2 → 0 < mny M s k → ∃ i : Nat, (i : Int) < mny M s k ∧ mayP M s k i ∧ ¬ LD M s k i A'))
    (hx0 : ∀ k, k < n → ¬ A k → mI M (s + 22) k ≠ 3 → x k = 0)
    (hx1 : ∀ k, k < n → A k → mI M (s + 22) k = 1 → x k = cw M s (cx M s k (σ k)) x)
    (hx2 : ∀ k, k < n → A k → mI M (s + 22) k = 2 → ∀ i : Nat, (i : Int) < mny M s k → mayP M s k i → x k ≤ cw M s (cx M s k i) x)
    (hσ : ∀ k, k < n → mI M (s + 22) k = 1 → σ' k = σ k ∨ ((σ' k : Int) < mny M s k ∧ x k < cw M s (cx M s k (σ' k)) x)) :
    ∀ k, k < n → ¬ A' k → x k ≤ 0 := by
  intro k0 hk0 hu0
  refine Classical.byContradiction (fun hpos => ?_)
  obtain ⟨k1, a1, a2, a3⟩ := argmaxP (P := fun k => ¬ A' k) (f := x) n ⟨k0, hk0, hu0⟩
  have hc0 : 0 < x k1 := by have := a3 k0 hk0 hu0; grind
  obtain ⟨k, b1, b2, b3⟩ := argminN (P := fun k => ¬ A' k ∧ x k = x k1) (f := ρ) (n := n) (ρ k1) k1 rfl a1 ⟨a2, rfl⟩
  generalize x k1 = c at *
  obtain ⟨b2, b4⟩ := b2
  have hK3 : mI M (s + 22) k ≠ 3 := fun w => b2 (hA3 k b1 w)
  have hAk : A k := Classical.byContradiction (fun w => by have := hx0 k b1 w hK3; grind)
  have hkI : (k : Int) < mI M s 1 := by omega
  have key : ∀ i : Nat, (i : Int) < mny M s k → ¬ LD M s k i A' → LD M s k i (fun t => A t ∧ ρ t < ρ k) → cw M s (cx M s k i) x < c := fun i hi h1 h2 => by
    have hcx := cx_lt hG hkI hi
    have hb := cw_below (x := x) hG hC hkI hi (c := c) (T := fun t => ¬ A' t) (fun t ht ha => a3 t (by omega) ha) (fun ⟨b, w1, w2⟩ => h1 ⟨b, w1, Classical.byContradiction (fun w3 => w2 w3)⟩)
    refine hb.2 ?_
    obtain ⟨b, w1, w2, w3⟩ := h2
    have htl := tg_lt hG hcx w1
    have hnt : ¬ A' (tg M s (bg M s (cx M s k i) + b)) := fun w => h1 ⟨b, w1, w⟩
    refine ⟨b, w1, ?_⟩
    have h3 := a3 _ (by omega) hnt
    refine Classical.byContradiction (fun w => ?_)
    have h4 := b3 (tg M s (bg M s (cx M s k i) + b)) (by omega) ⟨hnt, by grind⟩
    omega
  rcases hA k b1 hAk hK3 with ⟨c1, c2, c3⟩ | ⟨c1, c2, c3⟩
  · rcases hσ k b1 c1 with e | ⟨e1, e2⟩
    · have h1 := (hA' k b1 b2).1 c1 (by rw [e]; exact c2)
      rw [e] at h1
      have h2 := key (σ k) c2 h1 c3
      have h3 := hx1 k b1 hAk c1
      grind
    · have h1 := (hA' k b1 b2).1 c1 e1
      have hb := cw_below (x := x) hG hC hkI e1 (c := c) (T := fun t => ¬ A' t) (fun t ht ha => a3 t (by omega) ha) (fun ⟨b, w1, w2⟩ => h1 ⟨b, w1, Classical.byContradiction (fun w3 => w2 w3)⟩)
      have := hb.1
      grind
  · obtain ⟨i, d1, d2, d3⟩ := (hA' k b1 b2).2 c1 c2
    have h2 := key i d1 d3 (c3 i d1 d2)
    have h3 := hx2 k b1 hAk c1 i d1 d2
    grind
end UP
section SB
variable {M : mM} {s m n : Nat} {N : Nat → Nat → Int} {D : Nat → Int} {x : Nat → Rat}
theorem cw_sub {f g : Nat → Rat} {c : Nat} : cw M s c (fun k => f k - g k) = cw M s c f - cw M s c g := by
  have e : cw M s c (fun k => f k - g k) = cw M s c (fun k => f k + (-1) * g k) := cw_congr (fun b hb => by grind)
  rw [e, cw_add, cw_mul]
  grind
theorem sub_le (hE : Enu M s m) (hG : GW M s) (hC : GB M s) (hS : Sy m (rowp M s m) N D) (h1 : ∀ k : Nat, (k : Int) < mI M s 1 → unk M s k → x k ≤ cw M s (cx M s k (pl M s k)) x) (h2 : ∀ k : Nat, (k : Int) < mI M s 1 → ¬ unk M s k → x k ≤ valx M s m k) : ∀ k : Nat, (k : Int) < mI M s 1 → x k ≤ valx M s m k := by
  obtain ⟨⟨h, g⟩, -⟩ := id hS
  have hz : ∀ r, r < m → x (uu M s r) - valx M s m (uu M s r) ≤ 0 := by
    refine maxp g (z := fun r => x (uu M s r) - valx M s m (uu M s r)) (fun r hr => ?_)
    obtain ⟨c1, c2, -⟩ := hE.cmd hG hr
    have hu := (hE.1 r hr).2.2.1
    rw [rowp_sum hE hG hr]
    have e1 := h1 _ c1 hu
    have e2 := valx_eq hE hG hS c1 hu
    have e3 : cx M s (uu M s r) (pl M s (uu M s r)) = rwc M s r := rfl
    rw [e3] at e1 e2
    have e4 := cw_le hC c2 (f := fun k => x k - valx M s m k) (g := eU M s (fun r => x (uu M s r) - valx M s m (uu M s r))) (fun b hb => by
      have ht := tg_lt hG c2 hb
      generalize tg M s (bg M s (rwc M s r) + b) = t at *
      unfold eU
      by_cases q : mI M (s + 36) t ≠ 0 ∧ mI M (s + 22) t ≠ 3
      · rw [if_pos q]
        have r3 := (hE.2.1 t ht q).2.2
        have euj : uu M s (mI M (s + 40) t).toNat = t := by unfold uu; omega
        show x t - valx M s m t ≤ x (uu M s (mI M (s + 40) t).toNat) - valx M s m (uu M s (mI M (s + 40) t).toNat)
        rw [euj]
        exact Rat.le_refl
      · rw [if_neg q]
        have := h2 t ht q
        grind)
    rw [cw_sub] at e4
    grind
  intro k hk
  by_cases q : unk M s k
  · obtain ⟨r1, r2, r3⟩ := hE.2.1 k hk q
    have euj : uu M s (mI M (s + 40) k).toNat = k := by unfold uu; omega
    have a := hz (mI M (s + 40) k).toNat (by omega)
    rw [euj] at a
    grind
  · exact h2 k hk q
theorem sup_ge (hE : Enu M s m) (hG : GW M s) (hC : GB M s) (hS : Sy m (rowp M s m) N D) (h1 : ∀ k : Nat, (k : Int) < mI M s 1 → unk M s k → cw M s (cx M s k (pl M s k)) x ≤ x k) (h2 : ∀ k : Nat, (k : Int) < mI M s 1 → ¬ unk M s k → valx M s m k ≤ x k) : ∀ k : Nat, (k : Int) < mI M s 1 → valx M s m k ≤ x k := by
  obtain ⟨⟨h, g⟩, -⟩ := id hS
  have hz : ∀ r, r < m → valx M s m (uu M s r) - x (uu M s r) ≤ 0 := by
    refine maxp g (z := fun r => valx M s m (uu M s r) - x (uu M s r)) (fun r hr => ?_)
    obtain ⟨c1, c2, -⟩ := hE.cmd hG hr
    have hu := (hE.1 r hr).2.2.1
    rw [rowp_sum hE hG hr]
    have e1 := h1 _ c1 hu
    have e2 := valx_eq hE hG hS c1 hu
    have e3 : cx M s (uu M s r) (pl M s (uu M s r)) = rwc M s r := rfl
    rw [e3] at e1 e2
    have e4 := cw_le hC c2 (f := fun k => valx M s m k - x k) (g := eU M s (fun r => valx M s m (uu M s r) - x (uu M s r))) (fun b hb => by
      have ht := tg_lt hG c2 hb
      generalize tg M s (bg M s (rwc M s r) + b) = t at *
      unfold eU
      by_cases q : mI M (s + 36) t ≠ 0 ∧ mI M (s + 22) t ≠ 3
      · rw [if_pos q]
        have r3 := (hE.2.1 t ht q).2.2
        have euj : uu M s (mI M (s + 40) t).toNat = t := by unfold uu; omega
        show valx M s m t - x t ≤ valx M s m (uu M s (mI M (s + 40) t).toNat) - x (uu M s (mI M (s + 40) t).toNat)
        rw [euj]
        exact Rat.le_refl
      · rw [if_neg q]
        have := h2 t ht q
        grind)
    rw [cw_sub] at e4
    grind
  intro k hk
  by_cases q : unk M s k
  · obtain ⟨r1, r2, r3⟩ := hE.2.1 k hk q
    have euj : uu M s (mI M (s + 40) k).toNat = k := by unfold uu; omega
    have a := hz (mI M (s + 40) k).toNat (by omega)
    rw [euj] at a
    grind
  · exact h2 k hk q
end SB
end
section
/-! The solver: the states that come to the end, and their rows. -/
/-- what is played is a command that may be taken -/
def PLo (M : mM) (s : Nat) : Prop := ∀ k : Nat, (k : Int) < mI M s 1 → 0 < mny M s k → 0 ≤ mI M (s + 35) k ∧ mI M (s + 35) k < mny M s k ∧ mayP M s k (pl M s k)
def sameW (M M' : mM) (s : Nat) : Prop := sameG M M' s ∧ mI M' s 17 = mI M s 17 ∧ mI M' (s + 32) = mI M (s + 32)
theorem sameW.refl {M : mM} {s : Nat} : sameW M M s := ⟨sameG.refl, rfl, rfl⟩
theorem sameW.trans {M M' M'' : mM} {s : Nat} (h : sameW M M' s) (h' : sameW M' M'' s) : sameW M M'' s := ⟨h.1.trans h'.1, h'.2.1.trans h.2.1, h'.2.2.trans h.2.2⟩
theorem sameW.of {S : Nat → Prop} {M M' : mM} {s : Nat} (f : FI S M M') (h0 : ¬ S s) (h1 : ∀ x, s + 22 ≤ x → x ≤ s + 28 → ¬ S x) (h2 : ¬ S (s + 32)) : sameW M M' s :=
  ⟨sameG.of f h0 h1, by rw [f.2.2.2.2.2.2 s h0], f.2.2.2.2.2.2 _ h2⟩
theorem sameW.may {M M' : mM} {s : Nat} (h : sameW M M' s) : mayP M' s = mayP M s := by
  funext k i
  unfold mayP
  rw [h.2.1, h.2.2, h.1.2.2.2 (s + 22) (by omega) (by omega)]
theorem sameG.hld {M M' : mM} {s : Nat} (h : sameG M M' s) : LD M' s = LD M s := by
  funext k i T
  unfold LD
  rw [h.hn, h.hx, h.ht, h.hb]
def Rnk (M : mM) (s n : Nat) (A : Nat → Prop) (ρ σ : Nat → Nat) : Prop := ∀ k, k < n → A k → mI M (s + 22) k ≠ 3 → (mI M (s + 22) k = 1 ∧ (σ k : Int) < mny M s k ∧ LD M s k (σ k) (fun t => A t ∧ ρ t < ρ k)) ∨ (mI M (s + 22) k = 2 ∧ 0 < mny M s k ∧ ∀ i : Nat, (i : Int) < mny M s k → mayP M s k i → LD M s k i (fun t => A t ∧ ρ t < ρ k))
def Fix (M : mM) (s n : Nat) (A : Nat → Prop) (σ : Nat → Nat) : Prop := (∀ k, k < n → mI M (s + 22) k = 3 → A k) ∧ ∀ k, k < n → ¬ A k → (mI M (s + 22) k = 1 → (σ k : Int) < mny M s k → ¬ LD M s k (σ k) A) ∧ (mI M (s + 22) k = 2 → 0 < mny M s k → ∃ i : Nat, (i : Int) < mny M s k ∧ mayP M s k i ∧ ¬ LD M s k i A)
/-- look has found at most 40 unknown states, not too heavy -/
def LQ (M : mM) (s n : Nat) : Prop := ∃ τ w : Nat → Int, (∀ k, k < n → mI M (s + 22) k = 3 → τ k ≠ 0) ∧ (∀ k, k < n → τ k = 0 → (mI M (s + 22) k = 1 → ∀ i : Nat, (i : Int) < mny M s k → mayP M s k i → ¬ LD M s k i (fun t => τ t ≠ 0)) ∧ (mI M (s + 22) k = 2 → 0 < mny M s k → ∃ i : Nat, (i : Int) < mny M s k ∧ mayP M s k i ∧ ¬ LD M s k i (fun t => τ t ≠ 0)))
  ∧ (∀ k, k < n → τ k ≠ 0 → mI M (s + 22) k ≠ 3 → 0 ≤ w k ∧ ∀ i : Nat, (i : Int) < mny M s k → mayP M s k i → 2 * mI M (s + 24) (cx M s k i) ≤ 2 ^ (w k).toNat) ∧ (∀ k, k < n → 0 ≤ w k) ∧ sm w n ≤ 480 ∧ sm (fun k => if τ k ≠ 0 ∧ mI M (s + 22) k ≠ 3 then 1 else 0) n ≤ 40
theorem sameW.lq {M M' : mM} {s n : Nat} (h : sameW M M' s) (r : LQ M s n) : LQ M' s n := by
  unfold LQ at r ⊢
  rw [h.1.hm, h.may, h.1.hld, h.1.hx, h.1.2.2.2 (s + 22) (by omega) (by omega), h.1.2.2.2 (s + 24) (by omega) (by omega)]
  exact r
theorem LD.mono {M : mM} {s k i : Nat} {T T' : Nat → Prop} (h : LD M s k i T) (hG : GW M s) (hk : (k : Int) < mI M s 1) (hi : (i : Int) < mny M s k) (ht : ∀ t : Nat, (t : Int) < mI M s 1 → T t → T' t) : LD M s k i T' := by
  obtain ⟨b, h1, h2⟩ := h
  exact ⟨b, h1, ht _ (tg_lt hG (cx_lt hG hk hi) h1) h2⟩
section RK
variable {M M1 : mM} {s n t : Nat} {ρ : Nat → Nat}
theorem gv_rnk (hG : GW M s) (hn : mI M s 1 = n) (h : gvI M s 1 M1 ρ t) : Rnk M s n (mkd M1 s) ρ (pl M s) := by
  intro k hk hA h3
  have hkI : (k : Int) < mI M s 1 := by omega
  obtain ⟨a1, a2, a3⟩ := h.2.2 k hkI
  have hA' : mI M1 (s + 36) k ≠ 0 := hA
  obtain ⟨-, c⟩ := a3 (by omega)
  rcases c with c | ⟨c1, i, c2, c3, c4⟩ | ⟨c1, c2, c3⟩
  · exact absurd c h3
  · left
    have e : mI M (s + 35) k = i := by
      rcases c3 with w | w
      · rcases w.1 with w | w
        · exact absurd c1 w
        · omega
      · exact w.2
    have ep : pl M s k = i := by unfold pl; omega
    rw [ep]
    exact ⟨c1, c2, (leadQ_LD hG hkI c2).1 c4⟩
  · right
    exact ⟨c1, c2, fun i hi hm => (leadQ_LD hG hkI hi).1 (c3 i hi (Or.inl ⟨Or.inl (by omega), hm⟩))⟩
theorem gv_fix (hG : GW M s) (hn : mI M s 1 = n) (hP : PLo M s) (h : gvQ M s 1 M1) : Fix M s n (mkd M1 s) (pl M s) := by
  obtain ⟨⟨ρ, t, h1⟩, h2⟩ := h
  refine ⟨fun k hk h3 => ?_, fun k hk hA => ⟨fun c1 hp hl => ?_, fun c1 hp => ?_⟩⟩
  · have a := (h1.2.2 k (by omega)).2.1 h3
    show mI M1 (s + 36) k ≠ 0
    omega
  · have hkI : (k : Int) < mI M s 1 := by omega
    have h0 : mI M1 (s + 36) k = 0 := Classical.byContradiction (fun w => hA w)
    have pk := hP k hkI (by omega)
    exact h2 k hkI h0 (Or.inl ⟨c1, pl M s k, hp, Or.inr ⟨fun w => by omega, by unfold pl; omega⟩, (leadQ_LD hG hkI hp).2 hl⟩)
  · have hkI : (k : Int) < mI M s 1 := by omega
    have h0 : mI M1 (s + 36) k = 0 := Classical.byContradiction (fun w => hA w)
    refine Classical.byContradiction (fun w => ?_)
    refine h2 k hkI h0 (Or.inr ⟨c1, hp, fun i hi hu => ?_⟩)
    have hm : mayP M s k i := by
      rcases hu with u | u
      · exact u.2
      · exact absurd (Or.inl (by omega)) u.1
    exact (leadQ_LD hG hkI hi).2 (Classical.byContradiction (fun w2 => w ⟨i, hi, hm, w2⟩))
/-- whoever comes to the end so, is seen by look -/
theorem ins_sub {A : Nat → Prop} {τ : Nat → Int} (hG : GW M s) (hn : mI M s 1 = n) (hP : PLo M s) (hR : Rnk M s n A ρ (pl M s)) (h3 : ∀ k, k < n → mI M (s + 22) k = 3 → τ k ≠ 0) (hτ : ∀ k, k < n → τ k = 0 → (mI M (s + 22) k = 1 → ∀ i : Nat, (i : Int) < mny M s k → mayP M s k i → ¬ LD M s k i (fun t => τ t ≠ 0)) ∧ (mI M (s + 22) k = 2 → 0 < mny M s k → ∃ i : Nat, (i : Int) < mny M s k ∧ mayP M s k i ∧ ¬ LD M s k i (fun t => τ t ≠ 0))) : ∀ k, k < n → A k → τ k ≠ 0 := by
  suffices H : ∀ r k, ρ k = r → k < n → A k → τ k ≠ 0 from fun k => H (ρ k) k rfl
  intro r
  induction r using Nat.strongRecOn with
  | ind r ih =>
    intro k er hk hA h0
    have hkI : (k : Int) < mI M s 1 := by omega
    have hK : mI M (s + 22) k ≠ 3 := fun w => h3 k hk w h0
    have key : ∀ t : Nat, (t : Int) < mI M s 1 → (A t ∧ ρ t < ρ k) → τ t ≠ 0 := fun t ht w => ih (ρ t) (by omega) t rfl (by omega) w.1
    rcases hR k hk hA hK with ⟨c1, c2, c3⟩ | ⟨c1, c2, c3⟩
    · exact (hτ k hk h0).1 c1 (pl M s k) c2 (hP k hkI (by omega)).2.2 (c3.mono hG hkI c2 key)
    · obtain ⟨i, i1, i2, i3⟩ := (hτ k hk h0).2 c1 c2
      exact i3 ((c3 i i1 i2).mono hG hkI i1 key)
end RK
/-- the unknown states up to i have their rows -/
abbrev nS (s : Nat) : Nat → Prop := fun x => x = s ∨ x = s + 39 ∨ x = s + 40
def EnI (M : mM) (s i c : Nat) (M2 : mM) : Prop := (mOk M2 ∧ FI (nS s) M M2 ∧ (∀ j, j ≠ 24 → mI M2 s j = mI M s j) ∧ mI M2 s 24 = c) ∧ (∀ r, r < c → 0 ≤ mI M2 (s + 39) r ∧ mI M2 (s + 39) r < i ∧ unk M s (mI M2 (s + 39) r).toNat ∧ mI M2 (s + 40) (mI M2 (s + 39) r).toNat = r)
  ∧ (∀ k, k < i → unk M s k → 0 ≤ mI M2 (s + 40) k ∧ mI M2 (s + 40) k < c ∧ mI M2 (s + 39) (mI M2 (s + 40) k).toNat = k) ∧ ∀ f : Nat → Int, sm (fun r => f (mI M2 (s + 39) r).toNat) c = sm (fun k => if unk M s k then f k else 0) i
section VS
variable {G : mG} {d s n : Nat} {M : mM}
theorem en_step {i c : Nat} {M2 M5 : mM} (h : EnI M s i c M2) (hu : unk M s i) (o5 : mOk M5) (f5 : FI (nS s) M2 M5) (h5 : ∀ j, j ≠ 24 → mI M5 s j = mI M2 s j) (h24 : mI M5 s 24 = (c : Int) + 1) (h39 : ∀ r, mI M5 (s + 39) r = if r = c then (i : Int) else mI M2 (s + 39) r) (h40 : ∀ k, mI M5 (s + 40) k = if k = i then (c : Int) else mI M2 (s + 40) k) : EnI M s (i + 1) (c + 1) M5 := by
  obtain ⟨⟨a1, a2, a3, a4⟩, a5, a6, a7⟩ := h
  refine ⟨⟨o5, a2.trans f5, fun j hj => (h5 j hj).trans (a3 j hj), by omega⟩, fun r hr => ?_, fun k hk hk2 => ?_, fun f => ?_⟩
  · rw [h39]
    by_cases q : r = c
    · rw [if_pos q, Int.toNat_natCast, h40, if_pos rfl]
      exact ⟨by omega, by omega, hu, by omega⟩
    · rw [if_neg q]
      obtain ⟨b1, b2, b3, b4⟩ := a5 r (by omega)
      rw [h40, if_neg (by omega)]
      exact ⟨b1, by omega, b3, b4⟩
  · rw [h40]
    by_cases q : k = i
    · rw [if_pos q, Int.toNat_natCast, h39, if_pos rfl]
      omega
    · rw [if_neg q]
      obtain ⟨b1, b2, b3⟩ := a6 k (by omega) hk2
      rw [h39, if_neg (by omega)]
      exact ⟨b1, by omega, b3⟩
  · rw [sm, sm, if_pos hu, ← a7 f, h39, if_pos rfl, Int.toNat_natCast]
    rw [sm_congr (g := fun r => f (mI M2 (s + 39) r).toNat) c (fun r hr => by rw [h39, if_neg (by omega)])]
theorem s_an12 {Q : mM → Prop} (hV : Vk M s) (hn : mI M s 1 = n) (hn5 : n ≤ 512) (h40 : sm (fun k => if unk M s k then 1 else 0) n ≤ 40) (hQ : ∀ m M', m ≤ 40 → EnI M s n m M' → h_MS_answer_77 G d s 1 M' Q) :
    ∀ (t i c : Nat) (M2 : mM), i + t = n → EnI M s i c M2 → h_MS_answer_12 G d s i M2 Q := by
  have hcnt : ∀ i c (M2 : mM), EnI M s i c M2 → i ≤ n → (c : Int) = sm (fun k => if unk M s k then 1 else 0) i ∧ (c : Int) ≤ 40 := fun i c M2 h hi => by
    have e := h.2.2.2 (fun _ => 1)
    have e1 : ∀ c : Nat, sm (fun _ => (1 : Int)) c = c := fun c => by
      induction c with
      | zero => rfl
      | succ c ih => rw [sm, ih]; omega
    have e2 : sm (fun r => (fun _ => (1 : Int)) (mI M2 (s + 39) r).toNat) c = c := e1 c
    rw [e2] at e
    have p := sm_part (f := fun k => if unk M s k then (1 : Int) else 0) (a := i) (n - i) (fun k _ => by show (0 : Int) ≤ if unk M s k then 1 else 0; split <;> omega)
    rw [show i + (n - i) = n by omega] at p
    exact ⟨e, by omega⟩
  intro t
  induction t with
  | zero =>
    intro i c M2 hi h
    have ei : i = n := by omega
    subst ei
    have hc := hcnt i c M2 h (by omega)
    obtain ⟨a1, a2, a3, a4⟩ := h.1
    refine k_MS_answer_12 a1 ⟨by omega, by omega⟩ ?_
    rw [a3 1 (by omega), hn]
    exact ⟨(hV.fi a2).k0, fun _ => hQ c M2 (by omega) h, fun w => by omega⟩
  | succ t ih =>
    intro i c M2 hi h
    have hc := hcnt i c M2 h (by omega)
    obtain ⟨a1, a2, a3, a4⟩ := h.1
    have V2 := hV.fi a2
    have fe := a2.2.2.2.2.2.2
    refine k_MS_answer_12 a1 ⟨by omega, by omega⟩ ?_
    rw [a3 1 (by omega), hn, V2.r19, V2.r4, V2.r22, V2.n36, V2.n22, V2.n39, fe (s + 36) (by omega), fe (s + 22) (by omega), a4, Int.toNat_natCast, Int.toNat_natCast]
    refine ⟨V2.k0, fun w => by omega, fun _ => ⟨V2.k36, by omega, fun _ => ⟨V2.k22, by omega⟩, fun w => ?_, fun w => ?_⟩⟩
    · have hnu : ¬ unk M s i := fun u => by rcases w with w | w; exact u.1 w; exact u.2 w
      refine ih (i + 1) c M2 (by omega) ⟨h.1, fun r hr => ?_, fun k hk hu => ?_, fun f => ?_⟩
      · obtain ⟨b1, b2, b3⟩ := h.2.1 r hr
        exact ⟨b1, by omega, b3⟩
      · have : k ≠ i := fun z => hnu (by rw [← z]; exact hu)
        exact h.2.2.1 k (by omega) hu
      · rw [h.2.2.2 f, sm, if_neg hnu]
        omega
    · have hu : unk M s i := ⟨fun z => w (Or.inl z), fun z => w (Or.inr z)⟩
      have hc1 := hcnt i c M2 h (by omega)
      have hlt : (c : Int) < 40 := by
        have p := sm_part (f := fun k => if unk M s k then (1 : Int) else 0) (a := i + 1) (n - (i + 1)) (fun k _ => by show (0 : Int) ≤ if unk M s k then 1 else 0; split <;> omega)
        rw [show i + 1 + (n - (i + 1)) = n by omega, sm, if_pos hu] at p
        omega
      refine ⟨V2.k39, by omega, fun M3 e3 => ?_⟩
      have f3 : FI (nS s) M2 M3 := by rw [e3]; exact FI.ui (Or.inr (Or.inl rfl))
      have V3 := V2.fi f3
      have s3 : mI M3 s = mI M2 s := by rw [e3]; funext j; rw [mI_UI, if_neg (by omega)]
      rw [V3.r23, V3.n40, s3, a4]
      refine ⟨V3.k40, by omega, fun M4 e4 => ?_⟩
      have f4 : FI (nS s) M3 M4 := by rw [e4]; exact FI.ui (Or.inr (Or.inr rfl))
      have s4 : mI M4 s = mI M2 s := by rw [e4]; funext j; rw [mI_UI, if_neg (by omega), s3]
      rw [s4, a4]
      refine ⟨⟨by omega, by omega⟩, fun M5 e5 => ?_⟩
      have f5 : FI (nS s) M4 M5 := by rw [e5]; exact FI.ui (Or.inl rfl)
      have o5 : mOk M5 := by
        rw [e5]
        refine mOk_UI ?_ ⟨by omega, by omega⟩
        rw [e4]
        refine mOk_UI ?_ ⟨by omega, by omega⟩
        rw [e3]
        exact mOk_UI a1 ⟨by omega, by omega⟩
      refine ih (i + 1) (c + 1) M5 (by omega) (en_step h hu o5 ((f3.trans f4).trans f5) (fun j hj => ?_) ?_ (fun r => ?_) (fun k => ?_))
      · rw [e5, mI_UI, if_neg (fun w => hj w.2), s4]
      · rw [e5, mI_UI, if_pos ⟨rfl, rfl⟩]
      · rw [e5, mI_UI, if_neg (by omega), e4, mI_UI, if_neg (by omega), e3, mI_UI]
        by_cases q : r = c
        · rw [if_pos ⟨rfl, q⟩, if_pos q]
        · rw [if_neg (fun w => q w.2), if_neg q]
      · rw [e5, mI_UI, if_neg (by omega), e4, mI_UI]
        by_cases q : k = i
        · rw [if_pos ⟨rfl, q⟩, if_pos q]
        · rw [if_neg (fun w => q w.2), if_neg q, e3, mI_UI, if_neg (by omega)]
end VS
end
section
/-! The solver: min's best answer. -/
theorem smp_sml {x : Rat} (h : Smp 21 x) : Sml x := by
  obtain ⟨E, z, h0, h1, h2⟩ := h
  exact ⟨E, z, h0, Int.lt_of_lt_of_le h1 (pow_mono (by omega)), h2⟩
theorem smp_b {x : Rat} {k : Nat} (h : Smp k x) : x ≤ 1 ∧ -1 ≤ x := by
  obtain ⟨E, z, -, -, -, h1, h2⟩ := h
  exact ⟨h1, h2⟩
theorem smp_one : Smp 21 1 := ⟨1, 1, by omega, by decide, by grind, by grind, by grind⟩
theorem smp_zero : Smp 21 0 := ⟨1, 0, by omega, by decide, by grind, by grind, by grind⟩
theorem Sy.val {m i : Nat} {p : Nat → Nat → Rat} {N : Nat → Nat → Int} {D : Nat → Int} (h : Sy m p N D) (hi : i < m) : Smp 21 (gq p m i m) := by
  have a := h.q01 hi (k := m) (j := m) (by omega) (by omega)
  obtain ⟨⟨h', g⟩, hp, hD, hE⟩ := h
  obtain ⟨z, hz⟩ := gq_int g hp (k := m) (j := m) (by omega) (by omega) hi
  exact ⟨_, z, det_pos g hp hD m (by omega), (hE i m hi (by omega)).2, hz, a.2, by grind⟩
section MS
variable {n : Nat} {x x' : Nat → Rat} {F : Int}
theorem ms_ex (hF : Fall F) : ∀ (n : Nat), (∀ k, k < n → Smp 21 (x k) ∧ 0 ≤ x k) → ∃ t : Nat, sr x n * (F : Rat) = ((t : Int) : Rat)
  | 0, _ => ⟨0, by show (0 : Rat) * (F : Rat) = 0; grind⟩
  | n + 1, h => by
    obtain ⟨t, ht⟩ := ms_ex hF n (fun k hk => h k (by omega))
    obtain ⟨z, hz⟩ := hF.int (smp_sml (h n (by omega)).1)
    have h0 : (0 : Rat) ≤ (z : Rat) := by
      rw [← hz]
      exact Rat.mul_nonneg (h n (by omega)).2 (Rat.le_of_lt (Rat.intCast_pos.2 hF.1))
    have hz0 : 0 ≤ z := ic_le (by have : ((0 : Int) : Rat) = 0 := rfl; rw [this]; exact h0)
    refine ⟨t + z.toNat, ?_⟩
    rw [sr, show ((t + z.toNat : Nat) : Int) = (t : Int) + z by omega, Rat.intCast_add, ← ht, ← hz]
    grind
theorem ms_lt (hF : Fall F) {t t' : Nat} (h : sr x n * (F : Rat) = ((t : Int) : Rat)) (h' : sr x' n * (F : Rat) = ((t' : Int) : Rat)) (hl : sr x' n < sr x n) : t' < t := by
  have p : (0 : Rat) < (F : Rat) := Rat.intCast_pos.2 hF.1
  have a := Rat.mul_pos (a := sr x n - sr x' n) (b := (F : Rat)) (by grind) p
  have b : ((t' : Int) : Rat) < ((t : Int) : Rat) := by
    rw [← h, ← h']
    grind
  have := ic_lt.1 b
  omega
end MS
abbrev aS (s : Nat) : Nat → Prop := fun x => x = s ∨ (s + 2 ≤ x ∧ x ≤ s + 21) ∨ (s + 35 ≤ x ∧ x ≤ s + 36) ∨ (s + 39 ≤ x ∧ x ≤ s + 40) ∨ (s + 42 ≤ x ∧ x ≤ s + 61) ∨ eS s 88 x ∨ (s + 12868 ≤ x ∧ x ≤ s + 21067)
abbrev bS (s : Nat) : Nat → Prop := fun x => (s + 2 ≤ x ∧ x ≤ s + 21) ∨ x = s + 35 ∨ (s + 42 ≤ x ∧ x ≤ s + 61) ∨ eS s 88 x ∨ (s + 12868 ≤ x ∧ x ≤ s + 21067)
/-- the values that the choices σ give -/
def VL (M : mM) (s n : Nat) (A : Nat → Prop) (σ : Nat → Nat) (x : Nat → Rat) : Prop := (∀ k, k < n → Smp 21 (x k) ∧ 0 ≤ x k) ∧ (∀ k, k < n → mI M (s + 22) k = 3 → x k = 1) ∧ (∀ k, k < n → ¬ A k → mI M (s + 22) k ≠ 3 → x k = 0) ∧ (∀ k, k < n → A k → mI M (s + 22) k ≠ 3 → x k = cw M s (cx M s k (σ k)) x)
  ∧ (∀ z : Nat → Rat, (∀ k, k < n → A k → mI M (s + 22) k ≠ 3 → z k ≤ cw M s (cx M s k (σ k)) z) → (∀ k, k < n → ¬ (A k ∧ mI M (s + 22) k ≠ 3) → z k ≤ x k) → ∀ k, k < n → z k ≤ x k)
  ∧ (∀ z : Nat → Rat, (∀ k, k < n → A k → mI M (s + 22) k ≠ 3 → cw M s (cx M s k (σ k)) z ≤ z k) → (∀ k, k < n → ¬ (A k ∧ mI M (s + 22) k ≠ 3) → x k ≤ z k) → ∀ k, k < n → x k ≤ z k)
/-- the values that max's choices σ give against min's best -/
def Res (M : mM) (s n : Nat) (A : Nat → Prop) (ρ σ : Nat → Nat) (x : Nat → Rat) : Prop := (∀ k, k < n → Smp 21 (x k) ∧ 0 ≤ x k) ∧ (∀ k, k < n → mI M (s + 22) k = 3 → x k = 1) ∧ (∀ k, k < n → ¬ A k → mI M (s + 22) k ≠ 3 → x k = 0) ∧ (∀ k, k < n → A k → mI M (s + 22) k = 1 → x k = cw M s (cx M s k (σ k)) x) ∧ (∀ k, k < n → A k → mI M (s + 22) k = 2 → ∀ i : Nat, (i : Int) < mny M s k → mayP M s k i → x k ≤ cw M s (cx M s k i) x)
  ∧ Rnk M s n A ρ σ ∧ Fix M s n A σ
  ∧ (∀ z : Nat → Rat, (∀ k, k < n → A k → mI M (s + 22) k = 1 → z k ≤ cw M s (cx M s k (σ k)) z) → (∀ k, k < n → A k → mI M (s + 22) k = 2 → ∀ i : Nat, (i : Int) < mny M s k → mayP M s k i → z k ≤ cw M s (cx M s k i) z) → (∀ k, k < n → ¬ A k → z k ≤ 0) → (∀ k, k < n → mI M (s + 22) k = 3 → z k ≤ 1) → ∀ k, k < n → z k ≤ x k)
/-- what stands while min's choices are bettered -/
def AC (M : mM) (s n m : Nat) (ρ : Nat → Nat) (M3 : mM) : Prop := GW M s ∧ GB M s ∧ mI M s 1 = n ∧ m ≤ 40 ∧ LQ M s n ∧ Rnk M s n (mkd M3 s) ρ (pl M s) ∧ Fix M s n (mkd M3 s) (pl M s) ∧ PLo M s ∧ sameW M M3 s ∧ mI M3 s 24 = m ∧ (∀ r, r < m → 0 ≤ mI M3 (s + 39) r ∧ mI M3 (s + 39) r < n ∧ unk M3 s (uu M3 s r) ∧ mI M3 (s + 40) (uu M3 s r) = r) ∧ (∀ k, k < n → unk M3 s k → 0 ≤ mI M3 (s + 40) k ∧ mI M3 (s + 40) k < m ∧ mI M3 (s + 39) (mI M3 (s + 40) k).toNat = k) ∧ ∀ f : Nat → Int, sm (fun r => f (uu M3 s r)) m = sm (fun k => if unk M3 s k then f k else 0) n
def AH (M : mM) (s : Nat) (M3 M2 : mM) : Prop := mOk M2 ∧ Vk M2 s ∧ FI (bS s) M3 M2 ∧ Wk M2 s ∧ Ct M2 s ∧ Rm M2 s 88 ∧ PLo M2 s ∧ ∀ k, mI M (s + 22) k ≠ 2 → mI M2 (s + 35) k = mI M (s + 35) k
section AN
variable {M M3 M2 : mM} {s n m : Nat} {ρ : Nat → Nat}
theorem AH.sw (hA : AC M s n m ρ M3) (h : AH M s M3 M2) : sameW M M2 s :=
  hA.2.2.2.2.2.2.2.2.1.trans (sameW.of h.2.2.1 (by omega) (fun x _ _ => by omega) (by omega))
theorem AH.sy (hA : AC M s n m ρ M3) (h : AH M s M3 M2) : Enu M2 s m ∧ Sy m (rowp M2 s m) (rowN M2 s m) (rowD M2 s) := by
  have hw := AH.sw hA h
  obtain ⟨hG, hC, hn, hm, hL, hR, hF, hP, -, h24, e1, e2, e3⟩ := hA
  obtain ⟨o2, V2, f2, W2, T2, R2, P2, h2⟩ := h
  have fe := f2.2.2.2.2.2.2
  have i36 : mI M2 (s + 36) = mI M3 (s + 36) := fe _ (by omega)
  have i39 : mI M2 (s + 39) = mI M3 (s + 39) := fe _ (by omega)
  have i40 : mI M2 (s + 40) = mI M3 (s + 40) := fe _ (by omega)
  have i22 : mI M2 (s + 22) = mI M3 (s + 22) := fe _ (by omega)
  have i22' : mI M2 (s + 22) = mI M (s + 22) := hw.1.2.2.2 _ (by omega) (by omega)
  have hu : ∀ k, unk M2 s k ↔ unk M3 s k := fun k => by unfold unk; rw [i36, i22]
  have huu : uu M2 s = uu M3 s := by funext r; unfold uu; rw [i39]
  have hG2 := hw.1.gw hG
  have hC2 := hw.1.gb hC
  have hn2 : mI M2 s 1 = n := by rw [hw.1.1]; exact hn
  have hcmd : ∀ k, k < n → unk M3 s k → (mI M (s + 22) k = 1 ∨ mI M (s + 22) k = 2) ∧ 0 < mny M s k := fun k hk hk2 => by
    rcases hR k hk hk2.1 (by rw [← i22', i22]; exact hk2.2) with ⟨c1, c2, -⟩ | ⟨c1, c2, -⟩
    · exact ⟨Or.inl c1, by omega⟩
    · exact ⟨Or.inr c1, c2⟩
  have hE : Enu M2 s m := by
    refine ⟨fun r hr => ?_, fun k hk hk2 => ?_, fun r hr => ?_, fun k hk h3 => ?_⟩
    · obtain ⟨a1, a2, a3, a4⟩ := e1 r hr
      rw [huu, i39, i40, hn2]
      exact ⟨a1, a2, (hu _).2 a3, a4⟩
    · rw [i40, i39]
      exact e2 k (by omega) ((hu k).1 hk2)
    · obtain ⟨a1, a2, a3, a4⟩ := e1 r hr
      rw [huu]
      have hk : uu M3 s r < n := by unfold uu; omega
      have a := hcmd _ hk a3
      have b := P2 (uu M3 s r) (by omega) (by rw [hw.1.hm]; exact a.2)
      exact ⟨b.1, b.2.1⟩
    · rw [i36]
      exact hF.1 k (by omega) (by rw [← i22']; exact h3)
  obtain ⟨τ, w, l1, l2, l3, l4, l5, l6⟩ := hL
  have hsub := ins_sub hG hn hP hR l1 l2
  have hrow : ∀ r, r < m → uu M2 s r < n ∧ mkd M3 s (uu M2 s r) ∧ mI M (s + 22) (uu M2 s r) ≠ 3 ∧ (pl M2 s (uu M2 s r) : Int) < mny M s (uu M2 s r) ∧ mayP M s (uu M2 s r) (pl M2 s (uu M2 s r)) ∧ LD M s (uu M2 s r) (pl M2 s (uu M2 s r)) (fun t => mkd M3 s t ∧ ρ t < ρ (uu M2 s r)) := fun r hr => by
    obtain ⟨c1, c2, c3, c4⟩ := hE.cmd hG2 hr
    have hk : uu M2 s r < n := by omega
    have hk2 := (hu _).1 (hE.1 r hr).2.2.1
    have h3 : mI M (s + 22) (uu M2 s r) ≠ 3 := by rw [← i22', i22]; exact hk2.2
    rw [hw.1.hm] at c3
    have hmy := (P2 _ c1 (by rw [hw.1.hm]; omega)).2.2
    rw [hw.may] at hmy
    refine ⟨hk, hk2.1, h3, c3, hmy, ?_⟩
    rcases hR _ hk hk2.1 h3 with ⟨d1, d2, d3⟩ | ⟨d1, d2, d3⟩
    · have e : pl M2 s (uu M2 s r) = pl M s (uu M2 s r) := by unfold pl; rw [h2 _ (by omega)]
      rw [e]
      exact d3
    · exact d3 _ c3 hmy
  refine ⟨hE, rowp_sy (ρ := ρ) (w := fun r => w (uu M2 s r)) hE hG2 hC2 (fun r hr => ?_) (fun r hr => ?_) ?_⟩
  · obtain ⟨b, b1, b2, b3⟩ := (hrow r hr).2.2.2.2.2
    have e : rwc M2 s r = cx M s (uu M2 s r) (pl M2 s (uu M2 s r)) := by unfold rwc; rw [hw.1.hx]
    rw [e, hw.1.hn, hw.1.ht, hw.1.hb, i36]
    exact ⟨b, b1, b2, b3⟩
  · obtain ⟨g1, g2, g3, g4, g5, -⟩ := hrow r hr
    have a := l3 _ g1 (hsub _ g1 g2) g3
    refine ⟨a.1, ?_⟩
    have e : rowD M2 s r = mI M (s + 24) (cx M s (uu M2 s r) (pl M2 s (uu M2 s r))) := by unfold rowD rwc; rw [hw.1.hx, hw.1.2.2.2 (s + 24) (by omega) (by omega)]
    rw [e]
    exact a.2 _ g4 g5
  · rw [huu, e3 w]
    refine Int.le_trans (sm_le n (fun k hk => ?_)) l5
    have := l4 k hk
    split <;> omega
theorem AH.vl (hA : AC M s n m ρ M3) (h : AH M s M3 M2) : VL M s n (mkd M3 s) (pl M2 s) (valx M2 s m) := by
  have hw := AH.sw hA h
  obtain ⟨hE, hS⟩ := AH.sy hA h
  obtain ⟨hG, hC, hn, hm, -⟩ := hA
  have f2 := h.2.2.1
  have fe := f2.2.2.2.2.2.2
  have i36 : mI M2 (s + 36) = mI M3 (s + 36) := fe _ (by omega)
  have i22 : mI M2 (s + 22) = mI M (s + 22) := hw.1.2.2.2 _ (by omega) (by omega)
  have hG2 := hw.1.gw hG
  have hC2 := hw.1.gb hC
  have hn2 : mI M2 s 1 = n := by rw [hw.1.1]; exact hn
  have hu : ∀ k, unk M2 s k ↔ (mkd M3 s k ∧ mI M (s + 22) k ≠ 3) := fun k => by unfold unk; rw [i36, i22]
  refine ⟨fun k hk => ⟨?_, (valx_01 hE hS (by omega)).1⟩, fun k hk h3 => ?_, fun k hk hnA h3 => ?_, fun k hk hAk h3 => ?_, fun z h1 h2 k hk => ?_, fun z h1 h2 k hk => ?_⟩
  · by_cases q : mI M2 (s + 36) k ≠ 0 ∧ mI M2 (s + 22) k ≠ 3
    · rw [valx_y q]
      obtain ⟨r1, r2, r3⟩ := hE.2.1 k (by omega) q
      exact hS.val (by omega)
    · rw [valx_n q]
      split
      · exact smp_one
      · exact smp_zero
  · rw [valx_n (fun w => w.2 (by rw [i22]; exact h3)), i22, if_pos h3]
  · rw [valx_n (fun w => hnA (by have := w.1; rw [i36] at this; exact this)), i22, if_neg h3]
  · have e := valx_eq hE hG2 hS (k := k) (by omega) ((hu k).2 ⟨hAk, h3⟩)
    rw [hw.1.hw, hw.1.hx] at e
    exact e
  · refine sub_le hE hG2 hC2 hS (x := z) (fun j hj hj2 => ?_) (fun j hj hj2 => ?_) k (by omega)
    · have a := (hu j).1 hj2
      rw [hw.1.hw, hw.1.hx]
      exact h1 j (by omega) a.1 a.2
    · exact h2 j (by omega) (fun w => hj2 ((hu j).2 w))
  · refine sup_ge hE hG2 hC2 hS (x := z) (fun j hj hj2 => ?_) (fun j hj hj2 => ?_) k (by omega)
    · have a := (hu j).1 hj2
      rw [hw.1.hw, hw.1.hx]
      exact h1 j (by omega) a.1 a.2
    · exact h2 j (by omega) (fun w => hj2 ((hu j).2 w))
end AN
end
