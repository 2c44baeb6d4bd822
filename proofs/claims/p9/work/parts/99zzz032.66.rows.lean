section
/-! The solver: the equations are written down. -/
/-- some cells hold A -/
def Tp (M : mM) (s : Nat) (P : Nat → Nat → Prop) (A : Nat → Nat → Rat) : Prop := ∀ i j, i < 40 → j < 41 → P i j → Fq M (cel s i j) 56 ∧ Fc M (cel s i j) ∧ fv M (cel s i j) = A i j
/-- all cells have room -/
def Ct (M : mM) (s : Nat) : Prop := ∀ i j, i < 40 → j < 41 → Ft M (cel s i j) 56
theorem Ct.out {S : Nat → Prop} {M M' : mM} {s : Nat} (h : Ct M s) (k : FI S M M') (hs : ∀ x, S x → x < s + 12868) : Ct M' s :=
  fun i j hi hj => (h i j hi hj).out k (fun x q => Or.inl (by have := hs x q; unfold cel; omega))
theorem Ct.put {M M' : mM} {s i j : Nat} (h : Ct M s) (hi : i < 40) (hj : j < 41) (k : FI (fS (cel s i j)) M M') (h1 : Ft M' (cel s i j) 56) : Ct M' s := by
  intro a b ha hb
  by_cases q : a = i ∧ b = j
  · rw [q.1, q.2]; exact h1
  · refine (h a b ha hb).out k (fun x w => ?_)
    have w' : cel s i j ≤ x ∧ x ≤ cel s i j + 4 := w
    unfold cel at w' ⊢
    by_cases z : a = i
    · subst z
      have : b ≠ j := fun y => q ⟨rfl, y⟩
      omega
    · omega
theorem Tp.out {S : Nat → Prop} {M M' : mM} {s : Nat} {P : Nat → Nat → Prop} {A : Nat → Nat → Rat} (h : Tp M s P A) (k : FI S M M') (hs : ∀ x, S x → x < s + 12868) : Tp M' s P A := by
  intro i j hi hj hp
  obtain ⟨h1, h2, h3⟩ := h i j hi hj hp
  have hs' : ∀ x, S x → x < cel s i j ∨ cel s i j + 4 < x := fun x q => Or.inl (by have := hs x q; unfold cel; omega)
  exact ⟨(h1.out k hs').1, h2.out h1 k hs', by rw [fv_out h1 k hs', h3]⟩
theorem Tp.put {M M' : mM} {s i j : Nat} {P Q : Nat → Nat → Prop} {A B : Nat → Nat → Rat} (h : Tp M s P A) (hi : i < 40) (hj : j < 41) (k : FI (fS (cel s i j)) M M') (h1 : Fq M' (cel s i j) 56) (h2 : Fc M' (cel s i j)) (h3 : fv M' (cel s i j) = B i j) (hq : ∀ a b, Q a b → (a = i ∧ b = j) ∨ (P a b ∧ B a b = A a b)) : Tp M' s Q B := by
  intro a b ha hb hp
  by_cases q : a = i ∧ b = j
  · obtain ⟨q1, q2⟩ := q
    subst q1 q2
    exact ⟨h1, h2, h3⟩
  · have hp2 : P a b ∧ B a b = A a b := by
      rcases hq a b hp with w | w
      · exact absurd w q
      · exact w
    obtain ⟨g1, g2, g3⟩ := h a b ha hb hp2.1
    have hs' : ∀ x, fS (cel s i j) x → x < cel s a b ∨ cel s a b + 4 < x := fun x w => by
      have w' : cel s i j ≤ x ∧ x ≤ cel s i j + 4 := w
      unfold cel at w' ⊢
      by_cases z : a = i
      · subst z
        have : b ≠ j := fun y => q ⟨rfl, y⟩
        omega
      · omega
    refine ⟨(g1.out k hs').1, g2.out g1 k hs', ?_⟩
    rw [fv_out g1 k hs', g3, hp2.2]
theorem Tp.congr {M : mM} {s : Nat} {P Q : Nat → Nat → Prop} {A B : Nat → Nat → Rat} (h : Tp M s P A) (hq : ∀ a b, a < 40 → b < 41 → Q a b → P a b ∧ B a b = A a b) : Tp M s Q B := by
  intro a b ha hb hp
  have w := hq a b ha hb hp
  obtain ⟨g1, g2, g3⟩ := h a b ha hb w.1
  exact ⟨g1, g2, g3.trans w.2.symm⟩
/-- the states of the rows, the commands played there -/
def uu (M : mM) (s r : Nat) : Nat := (mI M (s + 39) r).toNat
def pl (M : mM) (s k : Nat) : Nat := (mI M (s + 35) k).toNat
def rwc (M : mM) (s r : Nat) : Nat := cx M s (uu M s r) (pl M s (uu M s r))
/-- the rows are the unknown states, each once; what is played there is a command -/
def Enu (M : mM) (s m : Nat) : Prop := (∀ r, r < m → 0 ≤ mI M (s + 39) r ∧ mI M (s + 39) r < mI M s 1 ∧ unk M s (uu M s r) ∧ mI M (s + 40) (uu M s r) = r) ∧ (∀ k : Nat, (k : Int) < mI M s 1 → unk M s k → 0 ≤ mI M (s + 40) k ∧ mI M (s + 40) k < m ∧ mI M (s + 39) (mI M (s + 40) k).toNat = k)
  ∧ (∀ r, r < m → 0 ≤ mI M (s + 35) (uu M s r) ∧ mI M (s + 35) (uu M s r) < mny M s (uu M s r)) ∧ (∀ k : Nat, (k : Int) < mI M s 1 → mI M (s + 22) k = 3 → mI M (s + 36) k ≠ 0)
theorem Enu.out {S : Nat → Prop} {M M' : mM} {s m : Nat} (h : Enu M s m) (f : FI S M M') (h0 : ¬ S s) (h1 : ∀ x, s + 22 ≤ x → x ≤ s + 40 → ¬ S x) : Enu M' s m := by
  have f := f.2.2.2.2.2.2
  unfold Enu unk uu mny at h ⊢
  rw [f s h0, f (s + 22) (h1 _ (by omega) (by omega)), f (s + 23) (h1 _ (by omega) (by omega)), f (s + 35) (h1 _ (by omega) (by omega)), f (s + 36) (h1 _ (by omega) (by omega)), f (s + 39) (h1 _ (by omega) (by omega)), f (s + 40) (h1 _ (by omega) (by omega))]
  exact h
/-- the first b branches of command c -/
def cwp (M : mM) (s c b : Nat) (f : Nat → Int) : Rat := sr (fun b => chq M s (bg M s c + b) * (f (tg M s (bg M s c + b)) : Rat)) b
def isU (M : mM) (s j : Nat) : Nat → Int := fun k => if k = uu M s j then 1 else 0
def isT (M : mM) (s : Nat) : Nat → Int := fun k => if mI M (s + 22) k = 3 then 1 else 0
/-- the equations -/
def rowp (M : mM) (s m : Nat) : Nat → Nat → Rat := fun i j => cw M s (rwc M s i) (fun k => ((if j = m then isT M s else isU M s j) k : Rat))
def wrA (M : mM) (s m i b : Nat) : Nat → Nat → Rat := fun a j => if a = i then (if j = m then cwp M s (rwc M s i) b (isT M s) else (if i = j then 1 else 0) - cwp M s (rwc M s i) b (isU M s j)) else tA (rowp M s m) m 0 a j
abbrev rS (s : Nat) : Nat → Prop := fun x => (s + 2 ≤ x ∧ x ≤ s + 21) ∨ (s + 42 ≤ x ∧ x ≤ s + 46) ∨ (s + 12868 ≤ x ∧ x ≤ s + 21067)
section CP
variable {M : mM} {s c : Nat}
theorem cwp_succ {b : Nat} {f : Nat → Int} : cwp M s c (b + 1) f = cwp M s c b f + chq M s (bg M s c + b) * (f (tg M s (bg M s c + b)) : Rat) := rfl
theorem cwp_01 (hC : GB M s) (hc : (c : Int) < mI M s 2) {f : Nat → Int} (hf : ∀ k, f k = 0 ∨ f k = 1) {b : Nat} (hb : b ≤ nb M s c) : 0 ≤ cwp M s c b f ∧ cwp M s c b f ≤ 1 := by
  have hnn : ∀ j, j < nb M s c → 0 ≤ chq M s (bg M s c + j) * (f (tg M s (bg M s c + j)) : Rat) := fun j hj => Rat.mul_nonneg (Rat.le_of_lt (hC.chq_pos hc hj)) (by
    rcases hf (tg M s (bg M s c + j)) with q | q <;> rw [q] <;> decide)
  refine ⟨sr_nonneg b (fun j hj => hnn j (by omega)), ?_⟩
  have a := sr_part (f := fun b => chq M s (bg M s c + b) * (f (tg M s (bg M s c + b)) : Rat)) (a := b) (nb M s c - b) (fun j hj => hnn j (by omega))
  rw [show b + (nb M s c - b) = nb M s c by omega] at a
  have e := cw_le hC hc (f := fun k => (f k : Rat)) (g := fun _ => 1) (fun j hj => by rcases hf (tg M s (bg M s c + j)) with q | q <;> rw [q] <;> decide)
  rw [cw_one hC hc] at e
  exact Rat.le_trans a e
theorem cwp_int (hC : GB M s) (hc : (c : Int) < mI M s 2) {f : Nat → Int} {b : Nat} (hb : b ≤ nb M s c) : (mI M (s + 24) c : Rat) * cwp M s c b f = ((sm (fun b => mI M (s + 27) (bg M s c + b) * (mI M (s + 24) c / mI M (s + 28) (bg M s c + b)) * f (tg M s (bg M s c + b))) b : Int) : Rat) := by
  unfold cwp
  rw [sm_cast, ← sr_mul]
  refine sr_congr _ (fun j hj => ?_)
  have e := hC.chq_int hc (b := j) (by omega)
  rw [Rat.intCast_mul, ← e]
  grind
theorem isU_01 {j k : Nat} : isU M s j k = 0 ∨ isU M s j k = 1 := by unfold isU; split <;> omega
theorem isT_01 {k : Nat} : isT M s k = 0 ∨ isT M s k = 1 := by unfold isT; split <;> omega
theorem p30_56 : (1000000000 : Int) ≤ 16777216 ^ 56 := by decide
theorem cwp_sml (hC : GB M s) (hc : (c : Int) < mI M s 2) {f : Nat → Int} (hf : ∀ k, f k = 0 ∨ f k = 1) {b : Nat} (hb : b ≤ nb M s c) : Sml (cwp M s c b f) ∧ Sml (1 - cwp M s c b f) ∧ Sml (0 - cwp M s c b f) := by
  have a := cwp_01 hC hc hf hb
  have e := cwp_int hC hc (f := f) hb
  have m1 := (hC c hc).1
  have p := p30_56
  refine ⟨⟨mI M (s + 24) c, _, by omega, by omega, by rw [Rat.mul_comm]; exact e, a.2, by grind⟩, ⟨mI M (s + 24) c, mI M (s + 24) c - sm (fun b => mI M (s + 27) (bg M s c + b) * (mI M (s + 24) c / mI M (s + 28) (bg M s c + b)) * f (tg M s (bg M s c + b))) b, by omega, by omega, ?_, by grind, by grind⟩, ⟨mI M (s + 24) c, - sm (fun b => mI M (s + 27) (bg M s c + b) * (mI M (s + 24) c / mI M (s + 28) (bg M s c + b)) * f (tg M s (bg M s c + b))) b, by omega, by omega, ?_, by grind, by grind⟩⟩
  · rw [Rat.intCast_sub, ← e]
    grind
  · rw [Rat.intCast_neg, ← e]
    grind
theorem wrA_sml (hC : GB M s) {m i b j : Nat} (hc : (rwc M s i : Int) < mI M s 2) (hb : b ≤ nb M s (rwc M s i)) : Sml (wrA M s m i b i j) := by
  unfold wrA
  rw [if_pos rfl]
  by_cases q : j = m
  · rw [if_pos q]; exact (cwp_sml hC hc (fun k => isT_01) hb).1
  · rw [if_neg q]
    have w := (cwp_sml hC hc (f := isU M s j) (fun k => isU_01) hb).2
    by_cases z : i = j
    · rw [if_pos z]; exact w.1
    · rw [if_neg z]; exact w.2
theorem wrA_end {m i : Nat} (hm : m ≤ 40) {a j : Nat} : wrA M s m i (nb M s (rwc M s i)) a j = tA (rowp M s m) m 0 a j := by
  unfold wrA
  by_cases q : a = i
  · subst q
    rw [if_pos rfl]
    by_cases z : j = m
    · rw [if_pos z, z, tA_m]
      show _ = rowp M s m a m
      unfold rowp
      rw [if_pos rfl]
      rfl
    · rw [if_neg z, tA_ge (by omega) z]
      show _ = (if a = j then (1 : Rat) else 0) - rowp M s m a j
      unfold rowp
      rw [if_neg z]
      rfl
  · rw [if_neg q]
end CP
end
section
/-! The solver: writeRows. -/
theorem alg3 {a b c : Rat} : a - (b + c * 1) = a - b + -c := by grind
theorem alg4 {a b c : Rat} : a - (b + c * 0) = a - b := by grind
section VS
variable {G : mG} {d s m : Nat} {M : mM}
/-- what is known while row i is written -/
def wrI (M : mM) (s : Nat) (P : Nat → Nat → Prop) (A : Nat → Nat → Rat) (M2 : mM) : Prop := mOk M2 ∧ FI (rS s) M M2 ∧ Wk M2 s ∧ Ct M2 s ∧ Tp M2 s P A
theorem s_wr77 {i : Nat} {Q : mM → Prop} (hm : m ≤ 40) (hi : i < m) (hV : Vk M s) (hG : GW M s) (hC : GB M s) (h24 : mI M s 24 = m) (hE : Enu M s m)
    (hQ : ∀ M', wrI M s (fun a j => a < i + 1 ∧ j ≤ m) (tA (rowp M s m) m 0) M' → h_MS_writeRows_2 G (d + 4) s ((i : Int) + 1) M' Q) :
    ∀ (r b : Nat) (M2 : mM), b + r = nb M s (rwc M s i) → wrI M s (fun a j => a < i + 1 ∧ j ≤ m) (wrA M s m i b) M2 → h_MS_writeRows_77 G (d + 4) s i (rwc M s i) (mI M (s + 25) (rwc M s i) + b) M2 Q := by
  obtain ⟨u1, u2, u3, u4⟩ := hE.1 i hi
  have u5 := hE.2.2.1 i hi
  have huu : (uu M s i : Int) = mI M (s + 39) i := by unfold uu; omega
  have hc := hG.cmd (i := uu M s i) (by omega)
  have hi' := u5.2
  unfold mny at hi'
  have hcx : (rwc M s i : Int) = mI M (s + 23) (uu M s i) + mI M (s + 35) (uu M s i) := by unfold rwc cx pl; omega
  have hc2 : (rwc M s i : Int) < mI M s 2 := by omega
  have hb := hG.brn hc2
  have h2 := hG.2.1
  have h3 := hG.2.2.1
  have h4 := hG.2.2.2.1
  have ht := hG.2.2.2.2.2.2.2.2.2.2
  have ebg : (bg M s (rwc M s i) : Int) = mI M (s + 25) (rwc M s i) := by unfold bg; omega
  have enb : (nb M s (rwc M s i) : Int) = mI M (s + 25) (rwc M s i + 1) - mI M (s + 25) (rwc M s i) := by unfold nb; omega
  have hm1 := (hC _ hc2).1
  have hbr := (hC _ hc2).2.1
  have hsml : ∀ b j, b ≤ nb M s (rwc M s i) → Sml (wrA M s m i b i j) := fun b j hb => wrA_sml hC hc2 hb
  have hend : ∀ a j, wrA M s m i (nb M s (rwc M s i)) a j = tA (rowp M s m) m 0 a j := fun a j => wrA_end hm
  have hwr : ∀ b a j, wrA M s m i b a j = if a = i then (if j = m then cwp M s (rwc M s i) b (isT M s) else (if i = j then 1 else 0) - cwp M s (rwc M s i) b (isU M s j)) else tA (rowp M s m) m 0 a j := fun b a j => rfl
  clear hi' u1 u2 u3 u4 u5 huu hc hcx
  generalize hcc : rwc M s i = c at *
  have htg : ∀ b, b < nb M s c → (tg M s (bg M s c + b) : Int) < mI M s 1 ∧ (tg M s (bg M s c + b) : Int) = mI M (s + 26) (bg M s c + b) := fun b hb => by
    have := ht (bg M s c + b) (by omega)
    unfold tg
    omega
  intro r
  induction r with
  | zero =>
    intro b M2 hr hw
    have f2 := hw.2.1
    have o2 := hw.1
    have V2 := hV.fi f2
    have G2 : sameG M M2 s := sameG.of f2 (by omega) (fun y _ _ => by omega)
    have eb : b = nb M s c := by omega
    subst eb
    refine k_MS_writeRows_77 o2 ⟨by omega, by omega⟩ ⟨by omega, by omega⟩ ⟨by omega, by omega⟩ ?_
    rw [V2.r7, V2.n25, G2.2.2.2 (s + 25) (by omega) (by omega), show ((c : Int) + 1).toNat = c + 1 by omega]
    exact ⟨V2.k0, V2.k25, by omega, fun _ => hQ M2 ⟨hw.1, hw.2.1, hw.2.2.1, hw.2.2.2.1, hw.2.2.2.2.congr (fun a j _ _ q => ⟨q, (hend a j).symm⟩)⟩, fun q => by omega⟩
  | succ r ih =>
    intro b M2 hr hw
    have hbn : b < nb M s c := by omega
    have hlast : ∀ M7, wrI M s (fun a j => a < i + 1 ∧ j ≤ m) (wrA M s m i (b + 1)) M7 → h_MS_writeRows_207 G (d + 4) s i c (mI M (s + 25) c + b) M7 Q := fun M7 w7 => by
      have a := ih (b + 1) M7 (by omega) w7
      rw [show mI M (s + 25) c + ((b + 1 : Nat) : Int) = mI M (s + 25) c + (b : Int) + 1 by omega] at a
      exact k_MS_writeRows_207 w7.1 ⟨by omega, by omega⟩ ⟨by omega, by omega⟩ ⟨by omega, by omega⟩ a
    obtain ⟨o2, f2, W2, T2, P2⟩ := hw
    have V2 := hV.fi f2
    have G2 : sameG M M2 s := sameG.of f2 (by omega) (fun y _ _ => by omega)
    have fe := f2.2.2.2.2.2.2
    obtain ⟨v0, v1, v2⟩ := hbr b hbn
    have v3 : mI M (s + 28) (bg M s c + b) ≤ mI M (s + 24) c := Int.le_of_dvd (by omega) v2
    have v4 : mI M (s + 27) (bg M s c + b) < 9000000000000 := by
      have q := (hsml 0 0 (by omega))
      have := (o2 (s + 27) (bg M s c + b)).1.2
      rw [fe (s + 27) (by omega)] at this
      omega
    have ebb : (mI M (s + 25) c + (b : Int)).toNat = bg M s c + b := by omega
    obtain ⟨t1, t2⟩ := htg b hbn
    have ett : (mI M (s + 26) (bg M s c + b)).toNat = tg M s (bg M s c + b) := rfl
    generalize htt : tg M s (bg M s c + b) = t at *
    have hch : (mI M (s + 27) (bg M s c + b) : Rat) * (mI M (s + 28) (bg M s c + b) : Rat)⁻¹ = chq M s (bg M s c + b) := rfl
    have hstep : ∀ f : Nat → Int, cwp M s c (b + 1) f = cwp M s c b f + chq M s (bg M s c + b) * (f t : Rat) := fun f => by rw [cwp_succ, htt]
    refine k_MS_writeRows_77 o2 ⟨by omega, by omega⟩ ⟨by omega, by omega⟩ ⟨by omega, by omega⟩ ?_
    rw [V2.r7, V2.r8, V2.r19, V2.r4, V2.r23, V2.n22, V2.n25, V2.n26, V2.n36, V2.n40, fe (s + 25) (by omega), fe (s + 26) (by omega), fe (s + 36) (by omega), fe (s + 22) (by omega), fe (s + 40) (by omega), fe s (by omega), h24, show ((c : Int) + 1).toNat = c + 1 by omega, ebb, ← t2, Int.toNat_natCast]
    refine ⟨V2.k0, V2.k25, by omega, fun q => by omega, fun _ => ⟨V2.k26, by omega, V2.k36, by omega, fun hin => ?_, fun hin => ⟨V2.k22, by omega, fun v hv => ⟨fun _ => ⟨V2.k40, by omega⟩, fun w hw => ?_⟩⟩⟩⟩
    · refine hlast M2 ⟨o2, f2, W2, T2, P2.congr (fun a j ha hj q => ⟨q, ?_⟩)⟩
      have e1 : isT M s t = 0 := if_neg (fun y => hE.2.2.2 t t1 y hin)
      have e2 : ∀ j, j < m → isU M s j t = 0 := fun j hj => if_neg (fun y => by
        have := (hE.1 j hj).2.2.1.1
        rw [← y] at this
        exact this hin)
      have z0 : ((0 : Int) : Rat) = 0 := rfl
      rw [hwr, hwr]
      by_cases qa : a = i
      · rw [if_pos qa, if_pos qa]
        by_cases qj : j = m
        · rw [if_pos qj, if_pos qj, hstep, e1, z0]; grind
        · rw [if_neg qj, if_neg qj, hstep, e2 j (by omega), z0]; grind
      · rw [if_neg qa, if_neg qa]
    · have hkey : ∃ j : Nat, w = j ∧ j ≤ m ∧ (∀ a l, a < i + 1 → l ≤ m → wrA M s m i (b + 1) a l = if a = i ∧ l = j then wrA M s m i b i j + (if v = 0 then - chq M s (bg M s c + b) else chq M s (bg M s c + b)) else wrA M s m i b a l) := by
        have z0 : ((0 : Int) : Rat) = 0 := rfl
        have z1 : ((1 : Int) : Rat) = 1 := rfl
        by_cases q3 : mI M (s + 22) t = 3
        · rw [if_pos q3] at hv
          rw [if_neg (by omega)] at hw
          refine ⟨m, hw, by omega, fun a l ha hl => ?_⟩
          have e1 : isT M s t = 1 := if_pos q3
          have e2 : ∀ j, j < m → isU M s j t = 0 := fun j hj => if_neg (fun y => by
            have := (hE.1 j hj).2.2.1.2
            rw [← y] at this
            exact this q3)
          rw [if_neg (show ¬ v = 0 by omega), hwr, hwr, hwr, if_pos rfl, if_pos rfl]
          by_cases qa : a = i
          · rw [if_pos qa]
            by_cases qj : l = m
            · rw [if_pos qj, if_pos ⟨qa, qj⟩, hstep, e1, z1]; grind
            · rw [if_neg qj, if_neg (show ¬ (a = i ∧ l = m) from fun y => qj y.2), if_pos qa, if_neg qj, hstep, e2 l (by omega), z0]; exact alg4
          · rw [if_neg qa, if_neg (fun y => qa y.1), if_neg qa]
        · rw [if_neg q3] at hv
          rw [if_pos hv] at hw
          obtain ⟨r1, r2, r3⟩ := hE.2.1 t t1 ⟨hin, q3⟩
          have e1 : isT M s t = 0 := if_neg q3
          have er : (mI M (s + 40) t).toNat < m ∧ ((mI M (s + 40) t).toNat : Int) = mI M (s + 40) t := by omega
          have euj : uu M s (mI M (s + 40) t).toNat = t := by unfold uu; omega
          refine ⟨(mI M (s + 40) t).toNat, by omega, by omega, fun a l ha hl => ?_⟩
          have e2 : ∀ j, j < m → isU M s j t = if j = (mI M (s + 40) t).toNat then 1 else 0 := fun j hj => by
            unfold isU
            by_cases y : j = (mI M (s + 40) t).toNat
            · rw [if_pos y, if_pos (by rw [y, euj])]
            · rw [if_neg y, if_neg (fun z => y (by
                have q := (hE.1 j hj).2.2.2
                rw [← z] at q
                omega))]
          rw [if_pos hv, hwr, hwr, hwr, if_pos rfl, if_neg (show ¬ (mI M (s + 40) t).toNat = m by omega)]
          by_cases qa : a = i
          · rw [if_pos qa]
            by_cases qj : l = m
            · rw [if_pos qj, if_neg (by omega), if_pos qa, if_pos qj, hstep, e1, z0]; grind
            · rw [if_neg qj, hstep, e2 l (by omega)]
              by_cases y : l = (mI M (s + 40) t).toNat
              · rw [if_pos y, if_pos (show a = i ∧ l = (mI M (s + 40) t).toNat from ⟨qa, y⟩), z1, ← y]; exact alg3
              · rw [if_neg y, if_neg (show ¬ (a = i ∧ l = (mI M (s + 40) t).toNat) from fun z => y z.2), if_pos qa, if_neg qj, z0]; exact alg4
          · rw [if_neg qa, if_neg (fun y => qa y.1), if_neg qa]
      obtain ⟨j, ew, hj, hA⟩ := hkey
      have hv01 : v = 0 ∨ v = 1 := by split at hv <;> omega
      clear hin hv hw
      subst ew
      refine (s_MS_cell (by omega) (by omega) o2 V2).mono (fun x M3 h3' => ?_)
      obtain ⟨e3, hx⟩ := h3'
      subst e3 hx
      rw [V2.r9, V2.r10, V2.r26, V2.n27, V2.n28, fe (s + 27) (by omega), fe (s + 28) (by omega)]
      refine ⟨o2, V2.k0, V2.k27, by omega, V2.k28, by omega, W2.2.1.1.1, (s_MF_set ⟨by omega, by omega⟩ (by omega) ⟨by omega, by omega⟩ (by omega) o2 W2.2.1 (by omega)).mono (fun M4 h4' => ?_)⟩
      obtain ⟨o4, f4, F4, y1, y2, -⟩ := h4'
      have f4' : FI (fun y => s + 42 ≤ y ∧ y ≤ s + 46) M3 M4 := f4.mono (fun y q => by have : s + 42 ≤ y ∧ y ≤ s + 42 + 4 := q; omega)
      have V4 := V2.fi f4
      have W4 : Wk M4 s := W2.put f4 F4.ft (by omega)
      have T4 := T2.out f4' (fun y q => by omega)
      have P4 := P2.out f4' (fun y q => by omega)
      have c4 := P4 i j (by omega) (by omega) ⟨by omega, hj⟩
      have z1 := F4.2.1.1.2.2.2.2.2.2
      have z2 := F4.2.2.1.1.2.2.2.2.2.2
      have z3 := c4.1.2.1.1.2.2.2.2.2.2
      have z4 := c4.1.2.2.1.1.2.2.2.2.2.2
      refine ⟨o4, V4.k0, fun x84 h84 => ?_⟩
      have h84' : x84 = 0 ∨ x84 = 1 := by split at h84 <;> omega
      rw [V4.r0, V4.r26]
      refine ⟨W4.1.1.1, (s_MU_add (d := d) h84' o4 W4.1 c4.1 F4 (by unfold suO cel; omega) (by unfold suO; omega) (by omega) (by omega) (by omega)).mono (fun M5 h5 => ?_)⟩
      have v5 := fv_add h84' c4.1 F4 h5
      rw [c4.2.2, fv_set y1 y2, hch] at v5
      have v6 : fv M5 (s + 1 + 1) = wrA M s m i (b + 1) i j := by
        rw [v5, hA i j (by omega) hj, if_pos (show i = i ∧ j = j from ⟨rfl, rfl⟩)]
        rcases hv01 with q | q
        · rw [if_pos q] at h84
          rw [if_pos h84, if_pos q]
          exact Rat.sub_eq_add_neg ..
        · rw [if_neg (by omega)] at h84
          rw [if_neg (show ¬ x84 = 1 by omega), if_neg (show ¬ v = 0 by omega)]
      obtain ⟨o5, f5, Z5, F5, C5, -⟩ := h5
      have f5' : FI (fun y => s + 2 ≤ y ∧ y ≤ s + 21) M4 M5 := f5.mono (fun y q => by omega)
      have V5 := V4.fi f5
      have W5 : Wk M5 s := W4.out f5' Z5 (fun y q => by omega)
      have T5 := T4.out f5' (fun y q => by omega)
      have P5 := P4.out f5' (fun y q => by omega)
      have hsm := sml_size F5 C5 (by rw [v6]; exact hsml (b + 1) j (by omega))
      have c5 := P5 i j (by omega) (by omega) ⟨by omega, hj⟩
      rw [V5.r0, Z5.1.2.1]
      refine ⟨o5, V5.k0, Z5.1.1, c5.1.1.1, (s_MF_copy o5 c5.1.ft F5 (by unfold cel; omega) hsm.1 hsm.2).mono (fun M6 h6 => ?_)⟩
      obtain ⟨o6, f6, F6, w4, w5, w6⟩ := h6
      have C6 := fc_copy C5 w4 w5 w6
      have f6' : FI (fun y => s + 12868 ≤ y ∧ y ≤ s + 21067) M5 M6 := f6.mono (fun x q => by have q' : cel s i j ≤ x ∧ x ≤ cel s i j + 4 := q; unfold cel at q'; omega)
      have P6 := P5.put (Q := fun a j => a < i + 1 ∧ j ≤ m) (B := wrA M s m i (b + 1)) (by omega) (by omega) f6 F6 C6.1 (C6.2.trans v6) (fun a l q => by
        by_cases z : a = i ∧ l = j
        · exact Or.inl z
        · exact Or.inr ⟨q, by rw [hA a l q.1 q.2, if_neg z]⟩)
      exact ⟨o6, hlast M6 ⟨o6, ((f2.trans (f4'.mono (fun y q => by omega))).trans (f5'.mono (fun y q => by omega))).trans (f6'.mono (fun y q => by omega)), W5.far f6' (fun y q => by omega), T5.put (by omega) (by omega) f6 F6.ft, P6⟩⟩
theorem s_MS_writeRows (hm : m ≤ 40) (hO : mOk M) (hV : Vk M s) (hG : GW M s) (hC : GB M s) (h24 : mI M s 24 = m) (hE : Enu M s m) (hW : Wk M s) (hT : Ct M s) :
    Cv G y_MS_writeRows (d + 5) [vr s] M (fun M' => mOk M' ∧ FI (rS s) M M' ∧ Wk M' s ∧ Ct M' s ∧ Tb M' s m (tA (rowp M s m) m 0)) := by
  refine k_MS_writeRows hO ?_
  suffices H : ∀ (n i : Nat) (M2 : mM), i + n = m → wrI M s (fun a j => a < i ∧ j ≤ m) (tA (rowp M s m) m 0) M2 → h_MS_writeRows_2 G (d + 4) s i M2 (fun M' => mOk M' ∧ FI (rS s) M M' ∧ Wk M' s ∧ Ct M' s ∧ Tb M' s m (tA (rowp M s m) m 0)) from
    H m 0 M (by omega) ⟨hO, FI.refl, hW, hT, fun i j _ _ q => by omega⟩
  intro n
  induction n with
  | zero =>
    intro i M2 hn hw
    have ei : i = m := by omega
    subst ei
    have fe := hw.2.1.2.2.2.2.2.2
    refine k_MS_writeRows_2 hw.1 ⟨by omega, by omega⟩ ?_
    rw [fe s (by omega), h24]
    exact ⟨(hV.fi hw.2.1).k0, fun _ => ⟨hw.1, hw.2.1, hw.2.2.1, hw.2.2.2.1, fun a j ha hj => hw.2.2.2.2 a j (by omega) (by omega) ⟨ha, hj⟩⟩, fun q => by omega⟩
  | succ n ih =>
    intro i M2 hn hw
    have hi : i < m := by omega
    have fe := hw.2.1.2.2.2.2.2.2
    refine k_MS_writeRows_2 hw.1 ⟨by omega, by omega⟩ ?_
    rw [fe s (by omega), h24]
    refine ⟨(hV.fi hw.2.1).k0, fun q => by omega, fun _ => ?_⟩
    have h77 := s_wr77 (G := G) (d := d) hm hi hV hG hC h24 hE (fun M' w => ih (i + 1) M' (by omega) w)
    suffices H : ∀ (t l : Nat) (M3 : mM), l + t = m + 1 → wrI M s (fun a j => (a < i ∧ j ≤ m) ∨ (a = i ∧ j < l)) (wrA M s m i 0) M3 → h_MS_writeRows_12 G (d + 4) s i l M3 (fun M' => mOk M' ∧ FI (rS s) M M' ∧ Wk M' s ∧ Ct M' s ∧ Tb M' s m (tA (rowp M s m) m 0)) from
      H (m + 1) 0 M2 (by omega) ⟨hw.1, hw.2.1, hw.2.2.1, hw.2.2.2.1, hw.2.2.2.2.congr (fun a j ha hj q => ⟨by omega, by
        unfold wrA
        rw [if_neg (by omega)]⟩)⟩
    clear hw fe M2
    obtain ⟨u1, u2, u3, u4⟩ := hE.1 i hi
    have u5 := hE.2.2.1 i hi
    have huu : (uu M s i : Int) = mI M (s + 39) i := by unfold uu; omega
    have hc := hG.cmd (i := uu M s i) (by omega)
    have hi' := u5.2
    unfold mny at hi'
    have hcx : (rwc M s i : Int) = mI M (s + 23) (uu M s i) + mI M (s + 35) (uu M s i) := by unfold rwc cx pl; omega
    have hc2 : (rwc M s i : Int) < mI M s 2 := by omega
    have h2 := hG.2.1
    have h3 := hG.2.2.1
    intro t
    induction t with
    | zero =>
      intro l M3 hl hw
      have fe := hw.2.1.2.2.2.2.2.2
      have V3 := hV.fi hw.2.1
      have el : l = m + 1 := by omega
      subst el
      refine k_MS_writeRows_12 hw.1 ⟨by omega, by omega⟩ ⟨by omega, by omega⟩ ?_
      rw [V3.r22, V3.r5, V3.r18, V3.r7, V3.n39, V3.n23, V3.n35, V3.n25, fe s (by omega), h24, fe (s + 39) (by omega), fe (s + 23) (by omega), fe (s + 35) (by omega), fe (s + 25) (by omega), Int.toNat_natCast]
      have ef : (mI M (s + 39) i).toNat = uu M s i := rfl
      rw [ef, ← hcx, Int.toNat_natCast]
      refine ⟨V3.k0, fun _ => ⟨V3.k39, by omega, V3.k23, by omega, by omega, V3.k35, by omega, V3.k25, by omega, ?_⟩, fun q => by omega⟩
      have a := h77 (nb M s (rwc M s i)) 0 M3 (by omega) ⟨hw.1, hw.2.1, hw.2.2.1, hw.2.2.2.1, hw.2.2.2.2.congr (fun a j ha hj q => ⟨by omega, rfl⟩)⟩
      rw [show mI M (s + 25) (rwc M s i) + ((0 : Nat) : Int) = mI M (s + 25) (rwc M s i) by omega] at a
      exact a
    | succ t iht =>
      intro l M3 hl hw
      obtain ⟨o3, f3, W3, T3, P3⟩ := hw
      have fe := f3.2.2.2.2.2.2
      have V3 := hV.fi f3
      refine k_MS_writeRows_12 o3 ⟨by omega, by omega⟩ ⟨by omega, by omega⟩ ?_
      rw [fe s (by omega), h24]
      refine ⟨V3.k0, fun q => by omega, fun _ => (s_MS_cell (by omega) (by omega) o3 V3).mono (fun x M4 h4 => ?_)⟩
      obtain ⟨e4, hx⟩ := h4
      subst e4 hx
      have cf := T3 i l (by omega) (by omega)
      refine ⟨o3, fun v hv => ⟨cf.1.1, (s_MF_set ⟨by split at hv <;> omega, by split at hv <;> omega⟩ (by split at hv <;> omega) ⟨by omega, by omega⟩ (by omega) o3 cf (by omega)).mono (fun M5 h5 => ?_)⟩⟩
      obtain ⟨o5, f5, F5, y1, y2, y3⟩ := h5
      have C5 := fc_one F5 y2 (fun q => y3 (by omega))
      have e5 : fv M5 (cel s i l) = wrA M s m i 0 i l := by
        rw [fv_set y1 y2]
        unfold wrA
        rw [if_pos rfl]
        have z0 : ((0 : Int) : Rat) = 0 := rfl
        have z1 : ((1 : Int) : Rat) = 1 := rfl
        have c0 : ∀ f, cwp M s (rwc M s i) 0 f = 0 := fun f => rfl
        rw [c0, c0, z1]
        by_cases q : l = m
        · rw [if_pos q]
          rw [if_neg (by omega)] at hv
          rw [hv, z0]; grind
        · rw [if_neg q]
          by_cases z : i = l
          · rw [if_pos z]
            rw [if_pos (by omega)] at hv
            rw [hv, z1]; grind
          · rw [if_neg z]
            rw [if_neg (by omega)] at hv
            rw [hv, z0]; grind
      have f5' : FI (fun y => s + 12868 ≤ y ∧ y ≤ s + 21067) M4 M5 := f5.mono (fun x q => by have q' : cel s i l ≤ x ∧ x ≤ cel s i l + 4 := q; unfold cel at q'; omega)
      have P5 := P3.put (Q := fun a j => (a < i ∧ j ≤ m) ∨ (a = i ∧ j < l + 1)) (B := wrA M s m i 0) (by omega) (by omega) f5 F5 C5 e5 (fun a j q => by
        by_cases z : a = i ∧ j = l
        · exact Or.inl z
        · exact Or.inr ⟨by omega, rfl⟩)
      exact ⟨o5, iht (l + 1) M5 (by omega) ⟨o5, f3.trans (f5'.mono (fun y q => by omega)), W3.far f5' (fun y q => by omega), T3.put (by omega) (by omega) f5 F5.ft, P5⟩⟩
end VS
end
section
/-! The equations that are written down have one small answer. -/
theorem cw_sr {M : mM} {s c : Nat} {f : Nat → Nat → Rat} : ∀ (n : Nat), sr (fun j => cw M s c (f j)) n = cw M s c (fun k => sr (fun j => f j k) n)
  | 0 => by
    show (0 : Rat) = cw M s c (fun _ => 0)
    have e := cw_mul (M := M) (s := s) (c := c) (x := 0) (f := fun _ => 0)
    have e1 : cw M s c (fun _ => 0) = cw M s c (fun _ => 0 * 0) := cw_congr (fun b hb => by grind)
    rw [e1, e]
    grind
  | n + 1 => by
    rw [sr, cw_sr n, ← cw_add]
    rfl
theorem pr_pow {f w : Nat → Int} : ∀ (k : Nat), (∀ r, r < k → 0 ≤ f r ∧ f r ≤ 2 ^ (w r).toNat ∧ 0 ≤ w r) → pr f k ≤ 2 ^ (sm w k).toNat ∧ 0 ≤ pr f k ∧ 0 ≤ sm w k
  | 0, _ => ⟨by show (1 : Int) ≤ 2 ^ (0 : Int).toNat; decide, by show (0 : Int) ≤ 1; decide, by show (0 : Int) ≤ 0; decide⟩
  | k + 1, h => by
    obtain ⟨a, b, c⟩ := pr_pow k (fun r hr => h r (by omega))
    obtain ⟨h1, h2, h3⟩ := h k (by omega)
    rw [pr, sm]
    refine ⟨?_, Int.mul_nonneg b h1, by omega⟩
    rw [show (sm w k + w k).toNat = (sm w k).toNat + (w k).toNat by omega, Int.pow_add]
    exact Int.mul_le_mul a h2 h1 (Int.pow_nonneg (by omega))
theorem sm_part {f : Nat → Int} {a : Nat} : ∀ (n : Nat), (∀ c, c < a + n → 0 ≤ f c) → sm f a ≤ sm f (a + n)
  | 0, _ => Int.le_refl _
  | n + 1, h => by
    have h1 := sm_part (f := f) (a := a) n (fun c hc => h c (by omega))
    have h2 := h (a + n) (by omega)
    have e : sm f (a + (n + 1)) = sm f (a + n) + f (a + n) := rfl
    omega
theorem two_pow_le {a b : Nat} (h : a ≤ b) : (2 : Int) ^ a ≤ 2 ^ b := by
  obtain ⟨c, rfl⟩ := Nat.le.dest h
  rw [Int.pow_add]
  have h1 : (0 : Int) < 2 ^ a := Int.pow_pos (by omega)
  have h2 : (0 : Int) < 2 ^ c := Int.pow_pos (by omega)
  have := Int.mul_le_mul_of_nonneg_left (a := 1) (b := 2 ^ c) (c := 2 ^ a) (by omega) (by omega)
  omega
theorem ic_mono {x y : Int} (h : x ≤ y) : (x : Rat) ≤ (y : Rat) := by exact_mod_cast h
theorem p480 : (2 : Int) ^ 480 < 16777216 ^ 21 := by decide
theorem p510 : (1000000000 : Int) * 2 ^ 480 < 16777216 ^ 56 := by decide
/-- a state's row, as a function of states -/
def eU (M : mM) (s : Nat) (g : Nat → Rat) : Nat → Rat := fun k => if mI M (s + 36) k ≠ 0 ∧ mI M (s + 22) k ≠ 3 then g (mI M (s + 40) k).toNat else 0
def rowD (M : mM) (s : Nat) : Nat → Int := fun r => mI M (s + 24) (rwc M s r)
def rowN (M : mM) (s m : Nat) : Nat → Nat → Int := fun r c => sm (fun b => mI M (s + 27) (bg M s (rwc M s r) + b) * (mI M (s + 24) (rwc M s r) / mI M (s + 28) (bg M s (rwc M s r) + b)) * (if c = m then isT M s else isU M s c) (tg M s (bg M s (rwc M s r) + b))) (nb M s (rwc M s r))
/-- each row's command may lead nearer to the end -/
def Lds (M : mM) (s m : Nat) (ρ : Nat → Nat) : Prop := ∀ r, r < m → ∃ b, b < nb M s (rwc M s r) ∧ mI M (s + 36) (tg M s (bg M s (rwc M s r) + b)) ≠ 0 ∧ ρ (tg M s (bg M s (rwc M s r) + b)) < ρ (uu M s r)
section SY
variable {M : mM} {s m : Nat}
theorem Enu.pick (hE : Enu M s m) {k : Nat} (hk : (k : Int) < mI M s 1) (g : Nat → Rat) : sr (fun j => (isU M s j k : Rat) * g j) m = eU M s g k := by
  have z0 : ((0 : Int) : Rat) = 0 := rfl
  have z1 : ((1 : Int) : Rat) = 1 := rfl
  unfold eU
  by_cases q : mI M (s + 36) k ≠ 0 ∧ mI M (s + 22) k ≠ 3
  · rw [if_pos q]
    obtain ⟨r1, r2, r3⟩ := hE.2.1 k hk q
    rw [sr_congr (g := fun j => if (mI M (s + 40) k).toNat = j then 1 * g j else 0) m (fun j hj => ?_), sr_pick, if_pos (by omega)]
    · grind
    · unfold isU
      by_cases y : (mI M (s + 40) k).toNat = j
      · rw [if_pos y, if_pos (by unfold uu; rw [← y]; omega), z1]
      · rw [if_neg y, if_neg (fun z => y (by
          have w := (hE.1 j hj).2.2.2
          rw [← z] at w
          omega)), z0]
        grind
  · rw [if_neg q]
    rw [sr_congr (g := fun j => 0 * (fun _ => 0) j) m (fun j hj => ?_), sr_mul]
    · grind
    · unfold isU
      rw [if_neg (fun z => q (by
        have w := (hE.1 j hj).2.2.1
        rw [← z] at w
        exact w)), z0]
      grind
theorem Enu.cmd (hE : Enu M s m) (hG : GW M s) {i : Nat} (hi : i < m) : (uu M s i : Int) < mI M s 1 ∧ (rwc M s i : Int) < mI M s 2 ∧ (pl M s (uu M s i) : Int) < mny M s (uu M s i) ∧ (pl M s (uu M s i) : Int) = mI M (s + 35) (uu M s i) := by
  obtain ⟨u1, u2, u3, u4⟩ := hE.1 i hi
  have u5 := hE.2.2.1 i hi
  have huu : (uu M s i : Int) = mI M (s + 39) i := by unfold uu; omega
  have hc := hG.cmd (i := uu M s i) (by omega)
  have hi' := u5.2
  unfold mny at hi' ⊢
  have hcx : (rwc M s i : Int) = mI M (s + 23) (uu M s i) + mI M (s + 35) (uu M s i) := by unfold rwc cx pl; omega
  unfold pl
  omega
theorem tg_lt (hG : GW M s) {c b : Nat} (hc : (c : Int) < mI M s 2) (hb : b < nb M s c) : (tg M s (bg M s c + b) : Int) < mI M s 1 := by
  have h := hG.brn hc
  have ht := hG.2.2.2.2.2.2.2.2.2.2 (bg M s c + b) (by unfold bg nb at *; omega)
  unfold tg
  omega
/-- a row, as a sum over branches -/
theorem rowp_sum (hE : Enu M s m) (hG : GW M s) {i : Nat} (hi : i < m) (g : Nat → Rat) : sr (fun j => rowp M s m i j * g j) m = cw M s (rwc M s i) (eU M s g) := by
  have hc := (hE.cmd hG hi).2.1
  rw [sr_congr (g := fun j => cw M s (rwc M s i) (fun k => (isU M s j k : Rat) * g j)) m (fun j hj => ?_), cw_sr]
  · refine cw_congr (fun b hb => ?_)
    exact hE.pick (tg_lt hG hc hb) g
  · unfold rowp
    rw [if_neg (by omega), Rat.mul_comm, ← cw_mul]
    exact cw_congr (fun b hb => by grind)
theorem rowp_m {i : Nat} : rowp M s m i m = cw M s (rwc M s i) (fun k => (isT M s k : Rat)) := by
  unfold rowp
  rw [if_pos rfl]
theorem rowp_nn (hE : Enu M s m) (hG : GW M s) (hC : GB M s) {i j : Nat} (hi : i < m) : 0 ≤ rowp M s m i j := by
  have hc := (hE.cmd hG hi).2.1
  unfold rowp cw
  refine sr_nonneg _ (fun b hb => Rat.mul_nonneg (Rat.le_of_lt (hC.chq_pos hc hb)) ?_)
  by_cases q : j = m
  · rw [if_pos q]
    show (0 : Rat) ≤ ((isT M s (tg M s (bg M s (rwc M s i) + b)) : Int) : Rat)
    rcases isT_01 (M := M) (s := s) (k := tg M s (bg M s (rwc M s i) + b)) with w | w <;> rw [w] <;> decide
  · rw [if_neg q]
    show (0 : Rat) ≤ ((isU M s j (tg M s (bg M s (rwc M s i) + b)) : Int) : Rat)
    rcases isU_01 (M := M) (s := s) (j := j) (k := tg M s (bg M s (rwc M s i) + b)) with w | w <;> rw [w] <;> decide
theorem rowp_le (hE : Enu M s m) (hG : GW M s) (hC : GB M s) {i : Nat} (hi : i < m) : sr (rowp M s m i) (m + 1) ≤ 1 := by
  have hc := (hE.cmd hG hi).2.1
  have e1 : sr (rowp M s m i) m = cw M s (rwc M s i) (eU M s (fun _ => 1)) := by
    rw [← rowp_sum hE hG hi]
    exact sr_congr m (fun j hj => by grind)
  rw [sr, e1, rowp_m, ← cw_add]
  have a := cw_le hC hc (f := fun k => eU M s (fun _ => 1) k + (isT M s k : Rat)) (g := fun _ => 1) (fun b hb => by
    unfold eU isT
    by_cases q : mI M (s + 22) (tg M s (bg M s (rwc M s i) + b)) = 3
    · rw [if_neg (fun w => w.2 q), if_pos q, show ((1 : Int) : Rat) = 1 from rfl]; grind
    · rw [if_neg q, show ((0 : Int) : Rat) = 0 from rfl]
      split
      · show (1 : Rat) + 0 ≤ 1; grind
      · grind)
  rw [cw_one hC hc] at a
  exact a
theorem chq_ge (hC : GB M s) {c b : Nat} (hc : (c : Int) < mI M s 2) (hb : b < nb M s c) : ((1000000000 : Int) : Rat)⁻¹ ≤ chq M s (bg M s c + b) := by
  obtain ⟨u0, u1, u2⟩ := (hC c hc).2.1 b hb
  have h1 := (hC c hc).1
  have u3 : mI M (s + 28) (bg M s c + b) ≤ mI M (s + 24) c := Int.le_of_dvd (by omega) u2
  unfold chq
  have p1 : (0 : Rat) < (mI M (s + 28) (bg M s c + b) : Rat) := Rat.intCast_pos.2 u1
  have q1 := Rat.mul_inv_cancel _ (ic_ne u1)
  have q2 := Rat.mul_inv_cancel _ (ic_ne (x := 1000000000) (by omega))
  have i1 : (0 : Rat) < (mI M (s + 28) (bg M s c + b) : Rat)⁻¹ := Rat.inv_pos.2 p1
  have i2 : (0 : Rat) < ((1000000000 : Int) : Rat)⁻¹ := Rat.inv_pos.2 (Rat.intCast_pos.2 (by omega))
  have k1 : (1 : Rat) ≤ (mI M (s + 27) (bg M s c + b) : Rat) := by
    have : ((1 : Int) : Rat) ≤ (mI M (s + 27) (bg M s c + b) : Rat) := ic_mono (by omega)
    exact this
  have k2 : (mI M (s + 28) (bg M s c + b) : Rat) ≤ ((1000000000 : Int) : Rat) := ic_mono (by omega)
  generalize ((1000000000 : Int) : Rat) = Z at *
  generalize (mI M (s + 28) (bg M s c + b) : Rat) = v at *
  generalize (mI M (s + 27) (bg M s c + b) : Rat) = y at *
  have a := Rat.mul_nonneg (a := (Z - v) * Z⁻¹) (b := v⁻¹) (Rat.mul_nonneg (by grind) (Rat.le_of_lt i2)) (Rat.le_of_lt i1)
  have b := Rat.mul_nonneg (a := y - 1) (b := v⁻¹) (by grind) (Rat.le_of_lt i1)
  generalize Z⁻¹ = z at *
  generalize v⁻¹ = w at *
  have e : (Z - v) * z * w = (Z * z) * w - (v * w) * z := by grind
  rw [q1, q2] at e
  grind
theorem rowp_sy {ρ : Nat → Nat} {w : Nat → Int} (hE : Enu M s m) (hG : GW M s) (hC : GB M s) (hL : Lds M s m ρ) (hw : ∀ r, r < m → 0 ≤ w r ∧ 2 * rowD M s r ≤ 2 ^ (w r).toNat) (hw2 : sm w m ≤ 480) : Sy m (rowp M s m) (rowN M s m) (rowD M s) := by
  have hint : ∀ r c, r < m → c ≤ m → (rowD M s r : Rat) * rowp M s m r c = (rowN M s m r c : Rat) := fun r c hr _ => by
    have hc := (hE.cmd hG hr).2.1
    unfold rowD rowp rowN
    exact cw_int hC hc
  have hD1 : ∀ r, r < m → 1 ≤ rowD M s r ∧ rowD M s r < 1000000000 := fun r hr => by
    have h := (hC _ (hE.cmd hG hr).2.1).1
    unfold rowD
    omega
  obtain ⟨h, g⟩ : ∃ h, gok m 0 (rowp M s m) h := by
    have hu : (0 : Rat) < ((1000000000 : Int) : Rat)⁻¹ := Rat.inv_pos.2 (Rat.intCast_pos.2 (by omega))
    have hu1 : ((1000000000 : Int) : Rat)⁻¹ ≤ 1 := by
      have q2 := Rat.mul_inv_cancel _ (ic_ne (x := 1000000000) (by omega))
      have k : (1 : Rat) ≤ ((1000000000 : Int) : Rat) := by decide
      generalize ((1000000000 : Int) : Rat) = Z at *
      have a := Rat.mul_nonneg (a := Z - 1) (b := Z⁻¹) (by grind) (Rat.le_of_lt hu)
      grind
    refine cert (ρ := fun r => ρ (uu M s r)) hu hu1 (fun i j hi hj => rowp_nn hE hG hC hi) (fun i hi => rowp_le hE hG hC hi) (fun i hi => ?_)
    obtain ⟨b, hb, hb1, hb2⟩ := hL i hi
    have hc := (hE.cmd hG hi).2.1
    have hge := chq_ge hC hc hb
    have htl := tg_lt hG hc hb
    have hone : ∀ f : Nat → Int, (∀ k, f k = 0 ∨ f k = 1) → f (tg M s (bg M s (rwc M s i) + b)) = 1 → ((1000000000 : Int) : Rat)⁻¹ ≤ cw M s (rwc M s i) (fun k => (f k : Rat)) := fun f hf h1 => by
      have a := sr_one (f := fun b => chq M s (bg M s (rwc M s i) + b) * (f (tg M s (bg M s (rwc M s i) + b)) : Rat)) (nb M s (rwc M s i)) hb (fun j hj => Rat.mul_nonneg (Rat.le_of_lt (hC.chq_pos hc hj)) (by
        rcases hf (tg M s (bg M s (rwc M s i) + j)) with q | q <;> rw [q] <;> decide))
      have a1 : chq M s (bg M s (rwc M s i) + b) * (f (tg M s (bg M s (rwc M s i) + b)) : Rat) ≤ cw M s (rwc M s i) (fun k => (f k : Rat)) := a
      rw [h1] at a1
      have z1 : ((1 : Int) : Rat) = 1 := rfl
      rw [z1] at a1
      grind
    by_cases q : mI M (s + 22) (tg M s (bg M s (rwc M s i) + b)) = 3
    · left
      have a := hone (isT M s) (fun k => isT_01) (if_pos q)
      rw [← rowp_m (m := m)] at a
      have b := rowp_le hE hG hC hi
      rw [sr] at b
      grind
    · right
      obtain ⟨r1, r2, r3⟩ := hE.2.1 _ htl ⟨hb1, q⟩
      have euj : uu M s (mI M (s + 40) (tg M s (bg M s (rwc M s i) + b))).toNat = tg M s (bg M s (rwc M s i) + b) := by unfold uu; omega
      refine ⟨(mI M (s + 40) (tg M s (bg M s (rwc M s i) + b))).toNat, by omega, by rw [euj]; exact hb2, ?_⟩
      have a := hone (isU M s (mI M (s + 40) (tg M s (bg M s (rwc M s i) + b))).toNat) (fun k => isU_01) (if_pos euj.symm)
      unfold rowp
      rw [if_neg (by omega)]
      exact a
  refine ⟨⟨h, g⟩, hint, fun r hr => by have := hD1 r hr; omega, fun i k hi hk => ?_⟩
  have hp := det_pos g hint (fun r hr => by have := hD1 r hr; omega) k hk
  have hN : ∀ r c, r < m → c ≤ m → 0 ≤ rowN M s m r c := fun r c hr hc => by
    have a : (0 : Rat) ≤ (rowN M s m r c : Rat) := by
      rw [← hint r c hr hc]
      exact Rat.mul_nonneg (Rat.le_of_lt (Rat.intCast_pos.2 (by have := hD1 r hr; omega))) (rowp_nn hE hG hC hr)
    exact ic_le (by have : ((0 : Int) : Rat) = 0 := rfl; rw [this]; exact a)
  have hs := det_small (k := k) (N := rowN M s m) (D := rowD M s) (fun r c hr hc => hN r c (by omega) (by omega)) (fun r hr => by
    refine ⟨by have := hD1 r (by omega); omega, ?_⟩
    refine ic_le ?_
    have e1 : ((sm (fun c => rowN M s m r c) k : Int) : Rat) = (rowD M s r : Rat) * sr (rowp M s m r) k := by
      rw [sm_cast, ← sr_mul]
      exact sr_congr k (fun c hc => (hint r c (by omega) (by omega)).symm)
    rw [e1]
    have a := rowp_le hE hG hC (i := r) (by omega)
    have b := sr_part (f := rowp M s m r) (a := k) (m + 1 - k) (fun c hc => rowp_nn hE hG hC (by omega))
    rw [show k + (m + 1 - k) = m + 1 by omega] at b
    have c := Rat.mul_nonneg (a := (rowD M s r : Rat)) (b := 1 - sr (rowp M s m r) k) (Rat.le_of_lt (Rat.intCast_pos.2 (by have := hD1 r (by omega); omega))) (by grind)
    grind)
  have hpw := pr_pow (f := fun r => 2 * rowD M s r) (w := w) k (fun r hr => ⟨by have := hD1 r (by omega); omega, (hw r (by omega)).2, (hw r (by omega)).1⟩)
  have hsp := sm_part (f := w) (a := k) (m - k) (fun c hc => (hw c (by omega)).1)
  rw [show k + (m - k) = m by omega] at hsp
  have h480 : (2 : Int) ^ (sm w k).toNat ≤ 2 ^ 480 := two_pow_le (by omega)
  have hdi := hD1 i hi
  have hfin : rowD M s i * det k (bm (rowN M s m) (rowD M s)) ≤ 1000000000 * 2 ^ 480 := Int.mul_le_mul (by omega) (by omega) (by omega) (by omega)
  have := p510
  have := p480
  exact ⟨by omega, by omega⟩
end SY
end
