/-! The reference: jobs, and joining a part to its parent. -/
section JO
variable {G : mG} {d a N g T : Nat} {M M2 : mM}
theorem n91 : a + 91 ∈ nums a := nums_o (by decide)
/-- the lists that tree changes -/
abbrev trP (a g : Nat) : Nat → Prop := fun x => tL g x ∨ x = a + 91
theorem trP_in {q : Nat} (hg : g = a + 13 ∨ g = a + 49) (h : trP a g q) : q ∈ nums a := by
  rcases h with h | h
  · exact tL_in hg h
  · rw [h]; exact n91
theorem trP_lt {M3 : mM} (hg : g = a + 13 ∨ g = a + 49) (w : Wd M3 a) : ∀ q, trP a g q → q < mZ M3 := fun q hq => w.lt (trP_in hg hq)
/-- while a tree is made: T nodes, jobs st -/
def TI (M : mM) (a g N T : Nat) (st : List Int) (M2 : mM) : Prop := Mv (trP a g) (fun _ => False) M a M2 ∧ Wx M2 a N ∧ mR M2 a 10 = g ∧ nd M2 g T ∧ St M2 (a + 91) st ∧ (g = a + 13 ∨ g = a + 49)
theorem TI.wx {st : List Int} {M3 : mM} {P : Nat → Prop} (h : TI M a g N T st M2) (m : Mv P (fun _ => False) M2 a M3) (hP : ∀ q, P q → trP a g q) : Mv (trP a g) (fun _ => False) M a M3 ∧ Wx M3 a N ∧ mR M3 a 10 = g := by
  obtain ⟨h1, h2, h3, h4, h5, hg⟩ := h
  have w := h2.1.1
  have no := tL_no hg w
  have hin : ∀ q, P q → q ∈ nums a := fun q hq => trP_in hg (hP q hq)
  refine ⟨h1.trans (m.mono hP (fun x hx => hx) (trP_lt hg w)), h2.mv m hin (fun q => ?_) (fun q => ?_) (fun q => ?_) (fun q => ?_), by rw [m.rfl_a w hin]; exact h3⟩
  · rcases hP _ q with z | z
    · exact no.1 z
    · omega
  · rcases hP _ q with z | z
    · exact no.2.1 z
    · omega
  · rcases hP _ q with z | z
    · exact no.2.2.1 z
    · omega
  · rcases hP _ q with z | z
    · exact no.2.2.2.1 z
    · rcases w.1.2.1 with y | y <;> rw [y.2] at z <;> omega
/-- a job more -/
theorem s_MM_job {st : List Int} {p i j : Int} (h : TI M a g N T st M2) (hl : st.length ≤ 65000) (hp : i32 p) (hi : i32 i) (hj : i32 j) : Cv G y_MM_job (d + 1) [vr a, vi p, vi i, vi j] M2 (fun M3 => TI M a g N T (j :: i :: p :: st) M3 ∧ ∀ n, so M3 g n = so M2 g n ∧ va M3 g n = va M2 g n ∧ fp M3 g n = fp M2 g n ∧ np M3 g n = np M2 g n) := by
  have hg := h.2.2.2.2.2
  have push : ∀ (st : List Int) (v : Int) (M4 : mM), TI M a g N T st M4 → st.length ≤ 65010 → i32 v → Cv G y_MN_add d [vr (a + 91), vi v] M4 (fun M5 => TI M a g N T (v :: st) M5 ∧ (∀ q, tL g q → sameN M4 M5 q)) := fun st v M4 h4 hl hv => by
    have w := h4.2.1.1.1
    refine (s_MN_addB (B := 65536) hv h4.1.1 (w.nu n91) (by rw [h4.2.2.2.2.1.1]; omega) (by decide)).mono (fun M5 t => ?_)
    have m5 := mv_addB w n91 (Or.inl rfl) t
    obtain ⟨k1, k2, k3⟩ := h4.wx m5 (fun q hq => Or.inr hq)
    have sm : ∀ q, tL g q → sameN M4 M5 q := fun q hq => m5.lst (tL_in hg hq) (fun z => by rw [z] at hq; exact (tL_no hg w).2.2.2.2 hq)
    exact ⟨⟨k1, k2, k3, fun q hq => by rw [(sm q hq).1]; exact h4.2.2.2.1 q hq, h4.2.2.2.2.1.add t, hg⟩, sm⟩
  have r18 : ∀ (st : List Int) (M4 : mM), TI M a g N T st M4 → mR M4 a 18 = a + 91 ∧ mK M4 a = 14 ∧ mK M4 (a + 91) = 15 ∧ mOk M4 := fun st M4 h4 => by
    have w := h4.2.1.1.1
    exact ⟨w.1.2.2.2.2.1.2.2.2.1, w.1.1, (w.nu n91).1, h4.1.1⟩
  have q0 := r18 _ _ h
  refine k_MM_job q0.2.2.2 hp hi hj ?_
  rw [q0.1]
  refine ⟨q0.2.1, q0.2.2.1, (push st p M2 h (by omega) hp).mono (fun M3 h3 => ?_)⟩
  obtain ⟨h3, s3⟩ := h3
  have q3 := r18 _ _ h3
  rw [q3.1]
  refine ⟨q3.2.2.2, q3.2.1, q3.2.2.1, (push _ i M3 h3 (by rw [List.length_cons]; omega) hi).mono (fun M4 h4 => ?_)⟩
  obtain ⟨h4, s4⟩ := h4
  have q4 := r18 _ _ h4
  rw [q4.1]
  refine ⟨q4.2.2.2, q4.2.1, q4.2.2.1, (push _ j M4 h4 (by simp only [List.length_cons]; omega) hj).mono (fun M5 h5 => ?_)⟩
  obtain ⟨h5, s5⟩ := h5
  refine ⟨h5.1.1, h5, fun n => ?_⟩
  have k : ∀ q, tL g q → nt M5 q n = nt M2 q n := fun q hq => by rw [(s5 q hq).2.1, (s4 q hq).2.1, (s3 q hq).2.1]
  exact ⟨k _ (by omega), k _ (by omega), k _ (by omega), k _ (by omega)⟩
/-- from x on, the last brother is l -/
def Lk (M : mM) (g T : Nat) : Nat → Nat → Nat → Prop
  | 0, _, _ => False
  | f + 1, x, l => x < T ∧ ((x = l ∧ np M g x = -1) ∨ ∃ y : Nat, np M g x = y ∧ Lk M g T f y l)
theorem Lk.lt {f x l : Nat} (h : Lk M g T f x l) : l < T := by
  induction f generalizing x with
  | zero => exact h.elim
  | succ f ih =>
    obtain ⟨h1, h2⟩ := h
    rcases h2 with ⟨h2, -⟩ | ⟨y, -, h3⟩
    · omega
    · exact ih h3
/-- x has become a part of p -/
def jnQ (M2 : mM) (g T : Nat) (p : Int) (x : Nat) (M3 : mM) : Prop := (∀ n, so M3 g n = so M2 g n ∧ va M3 g n = va M2 g n) ∧ ((p < 0 ∧ ∀ n, fp M3 g n = fp M2 g n ∧ np M3 g n = np M2 g n) ∨ (0 ≤ p ∧ fp M2 g p.toNat = -1 ∧ (∀ n, fp M3 g n = if n = p.toNat then (x : Int) else fp M2 g n) ∧ ∀ n, np M3 g n = np M2 g n) ∨ (0 ≤ p ∧ ∃ f c l : Nat, fp M2 g p.toNat = c ∧ Lk M2 g T f c l ∧ (∀ n, fp M3 g n = fp M2 g n) ∧ ∀ n, np M3 g n = if n = l then (x : Int) else np M2 g n))
theorem s_MM_join {st : List Int} {p : Int} {x : Nat} (h : TI M a g N T st M2) (hp : p < T) (hp2 : i32 p) (hx : x ≤ 100000) (hT : T ≤ 100000) (hc : 0 ≤ p → fp M2 g p.toNat = -1 ∨ ∃ f c l : Nat, fp M2 g p.toNat = c ∧ Lk M2 g T f c l) : Cv G y_MM_join (d + 1) [vr a, vi p, vi x] M2 (fun M3 => TI M a g N T st M3 ∧ jnQ M2 g T p x M3) := by
  have h0 := h
  obtain ⟨m2, wx, hd, hn, hs, hg⟩ := h
  have w := wx.1.1
  have hO := m2.1
  have gp := w.gp hg
  have g9 : tL g (g + 9) := by omega
  have g11 : tL g (g + 11) := by omega
  have i9 := tL_in (a := a) hg g9
  have i11 := tL_in (a := a) hg g11
  have u9 := w.nu i9
  have u11 := w.nu i11
  have l9 := hn _ g9
  have l11 := hn _ g11
  have c9 : (T : Int) ≤ cp M2 (g + 9) := by rw [← l9]; exact u9.2.2.2.1.2
  have c11 : (T : Int) ≤ cp M2 (g + 11) := by rw [← l11]; exact u11.2.2.2.1.2
  have r4 : mR M2 g 4 = g + 9 := gp.2.1.2.2.2.2.1
  have r5 : mR M2 g 5 = g + 11 := gp.2.1.2.2.2.2.2.1
  -- an entry of a list of the game
  have ent : ∀ (q j : Nat) (M3 : mM), tL g q → M3 = mUI M2 (mR M2 q 0) j x → TI M a g N T st M3 ∧ (∀ k, nt M3 q k = if k = j then (x : Int) else nt M2 q k) ∧ ∀ r, tL g r → r ≠ q → ∀ k, nt M3 r k = nt M2 r k := fun q j M3 hq e3 => by
    obtain ⟨m3, k1, k2, k3⟩ := mv_el (v := (x : Int)) (i32s (by omega) (by omega)) hO w (tL_in hg hq) e3
    obtain ⟨t1, t2, t3⟩ := h0.wx m3 (fun r hr => Or.inl (by rw [hr]; exact hq))
    have sm : ∀ r, r ∈ nums a → r ≠ q → sameN M2 M3 r := fun r hr hne => m3.lst hr hne
    refine ⟨⟨t1, t2, t3, fun r hr => ?_, hs.same (sm _ n91 (fun z => by rw [← z] at hq; exact (tL_no hg w).2.2.2.2 hq)), hg⟩, k2, fun r hr hne k => (sm r (tL_in hg hr) hne).2.1 k⟩
    by_cases z : r = q
    · rw [z, k1]; exact hn q hq
    · rw [(sm r (tL_in hg hr) z).1]; exact hn r hr
  refine k_MM_join hO hp2 (i32s (by omega) (by omega)) ⟨fun p0 => ?_, fun p0 => ⟨h0, fun n => ⟨rfl, rfl⟩, Or.inl ⟨by omega, fun n => ⟨rfl, rfl⟩⟩⟩⟩
  rw [hd, r4]
  have ep : p = ((p.toNat : Nat) : Int) := by omega
  have hat : ∀ {Q : Int → mM → Prop}, (∀ y, y = fp M2 g p.toNat → i32 y → Q y M2) → Ci G y_MN_at d [vr (g + 9), vi p] M2 Q := fun hQ => by
    rw [ep]
    refine (s_MN_at hO u9 (by omega)).mono (fun y M3 h3 => ?_)
    obtain ⟨e3, hy⟩ := h3
    subst e3
    exact hQ y hy (by rw [hy]; exact (hO _ _).1)
  refine ⟨w.1.1, gp.1, u9.1, hat (fun y hy hy32 => ⟨hy32, hO, fun y0 => ?_, fun y0 => ?_⟩)⟩
  · rw [hd, r4]
    refine ⟨w.1.1, gp.1, u9.1, hat (fun z hz hz32 => ⟨hz32, hO, ?_⟩)⟩
    rcases hc p0 with q | ⟨f, c, l, q1, q2⟩
    · omega
    · have hzc : z = ((c : Nat) : Int) := hz.trans q1
      rw [hzc]
      suffices H : ∀ (f c' : Nat), Lk M2 g T f c' l → h_MM_join_45 G d a x c' M2 (fun M3 => TI M a g N T st M3 ∧ jnQ M2 g T p x M3) from H f c q2
      intro f'
      induction f' with
      | zero => intro c' hk; exact hk.elim
      | succ f' ih =>
        intro c' hk
        obtain ⟨hk1, hk2⟩ := hk
        have hat2 : ∀ {Q : Int → mM → Prop}, (∀ y, y = np M2 g c' → i32 y → Q y M2) → Ci G y_MN_at d [vr (g + 11), vi c'] M2 Q := fun hQ => by
          refine (s_MN_at hO u11 (by omega)).mono (fun y M3 h3 => ?_)
          obtain ⟨e3, hy⟩ := h3
          subst e3
          exact hQ y hy (by rw [hy]; exact (hO _ _).1)
        refine k_MM_join_45 hO (i32s (by omega) (by omega)) (i32s (by omega) (by omega)) ?_
        rw [hd, r5]
        refine ⟨w.1.1, gp.1, u11.1, hat2 (fun u hu hu32 => ⟨hu32, hO, fun u0 => ?_, fun u0 => ?_⟩)⟩
        · rw [hd, r5]
          refine ⟨w.1.1, gp.1, u11.1, u11.2.1, ⟨by omega, by have : mN M2 (mR M2 (g + 11) 0) = cp M2 (g + 11) := rfl; omega⟩, fun M3 e3 => ?_⟩
          rw [Int.toNat_natCast] at e3
          obtain ⟨k1, k2, k3⟩ := ent (g + 11) c' M3 g11 e3
          have hl : c' = l := by
            rcases hk2 with ⟨z, -⟩ | ⟨y', z, -⟩
            · exact z
            · omega
          refine ⟨k1, fun n => ⟨k3 _ (by omega) (by omega) n, k3 _ (by omega) (by omega) n⟩, Or.inr (Or.inr ⟨p0, f, c, l, q1, q2, fun n => k3 _ g9 (by omega) n, fun n => ?_⟩)⟩
          rw [← hl]
          exact k2 n
        · rw [hd, r5]
          refine ⟨w.1.1, gp.1, u11.1, hat2 (fun v hv hv32 => ⟨hv32, hO, ?_⟩)⟩
          rcases hk2 with ⟨-, z⟩ | ⟨y', z1, z2⟩
          · omega
          · rw [hv, z1]
            exact ih y' z2
  · rw [hd, r4]
    have hf1 : fp M2 g p.toNat = -1 := by
      rcases hc p0 with q | ⟨f, c, l, q1, q2⟩
      · exact q
      · omega
    refine ⟨w.1.1, gp.1, u9.1, u9.2.1, ⟨by omega, by have : mN M2 (mR M2 (g + 9) 0) = cp M2 (g + 9) := rfl; omega⟩, fun M3 e3 => ?_⟩
    obtain ⟨k1, k2, k3⟩ := ent (g + 9) p.toNat M3 g9 e3
    exact ⟨k1, fun n => ⟨k3 _ (by omega) (by omega) n, k3 _ (by omega) (by omega) n⟩, Or.inr (Or.inl ⟨p0, hf1, k2, fun n => k3 _ g11 (by omega) n⟩)⟩
end JO
