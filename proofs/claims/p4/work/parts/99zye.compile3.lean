/-! The reference: compile keeps it sound. -/
section CMP3
variable {G : mG} {d a : Nat} {M : mM} {Nt9 : Int}
theorem s_MM_compile (hWK : WKs G) (h : RI Nt9 M a) : Ci G y_MM_compile (d + 12) [vr a] M (fun r M' => i32 r ∧ RI 0 M' a ∧ FR M a M') := by
  obtain ⟨hO, w, ht, hx⟩ := id h
  have hg := w.g9
  refine k_MM_compile hO ⟨w.1.1, fun M2 e2 M4 e4 M6 e6 => ?_⟩
  have A := fun (M9 : mM) e9 => cmp_a (M9 := M9) h e2 e4 e6 e9
  refine ⟨(A _ rfl).1, fun M9 e9 => ?_⟩
  obtain ⟨-, p9, ⟨r9, r10⟩, l9, t9⟩ := A M9 e9
  clear A e2 e4 e6 e9
  have w9 := p9.2.1
  have s9 : mR M9 a 1 = a + 1 ∧ mR M9 a 2 = a + 3 ∨ mR M9 a 1 = a + 3 ∧ mR M9 a 2 = a + 1 := w9.1.2.1
  have tp := w9.tape
  have s91 : mR M9 a 1 = a + 1 ∨ mR M9 a 1 = a + 3 := by omega
  have s92 : mR M9 a 2 = a + 1 ∨ mR M9 a 2 = a + 3 := by omega
  refine (s_MM_cut (d := d + 5) hWK p9.1 w9 t9).mono (fun M11 q11 => ?_)
  obtain ⟨N, x11, wr11⟩ := cut_wx w9 t9 q11
  have m11 := q11.1
  clear q11
  have hin11 : ∀ q, wP a q → q ∈ nums a := fun q hq => wP_in hq
  have I11 := (m11.fld w9 hin11 (fun z => z)).1
  have p11 := p9.mv hg m11 hin11 (fun q hq => ⟨fun z => by
    have z' : q = mR M a 9 + 1 ∨ q = mR M a 9 + 3 ∨ q = mR M a 9 + 5 ∨ q = mR M a 9 + 7 ∨ q = mR M a 9 + 9 ∨ q = mR M a 9 + 11 ∨ q = mR M a 9 + 30 ∨ q = mR M a 9 + 32 ∨ q = mR M a 9 + 34 := z
    omega, by omega, by omega, by omega⟩) (fun _ z => z.elim) ⟨by rw [I11], by rw [I11], by rw [I11]⟩
  have w11 := p11.2.1
  have R11 := m11.rfl_a w9 hin11
  refine ⟨m11.1, w11.1.1, (s_MM_readText (d := d + 7) m11.1 w11 wr11).mono (fun v M15 q15 => ?_)⟩
  obtain ⟨⟨m15, f15⟩, hv⟩ := q15
  have hin15 : ∀ q, q = a + 11 → q ∈ nums a := fun q hq => by rw [hq]; exact nums_o (by decide)
  have p15 := p11.mv hg m15 hin15 (fun q hq => ⟨fun z => by
    have z' : q = mR M a 9 + 1 ∨ q = mR M a 9 + 3 ∨ q = mR M a 9 + 5 ∨ q = mR M a 9 + 7 ∨ q = mR M a 9 + 9 ∨ q = mR M a 9 + 11 ∨ q = mR M a 9 + 30 ∨ q = mR M a 9 + 32 ∨ q = mR M a 9 + 34 := z
    omega, by omega, by omega, by omega⟩) (fun x z => by omega) ⟨f15 11 (by decide) (by decide), f15 29 (by decide) (by decide), f15 48 (by decide) (by decide)⟩
  have w15 := p15.2.1
  have R15 := m15.rfl_a w11 hin15
  have t2n : ¬ (mR M11 a 2 = a + 11) := by rw [R11]; omega
  have x15 : Wx M15 a N := x11.mv m15 hin15 (by omega) (by omega) (by omega) t2n
  have hN := x15.1.2.2
  have iv : i32 v := by rcases hv with ⟨y, -⟩ | ⟨y, -⟩ <;> rw [y] <;> exact ⟨by decide, by decide⟩
  have l15 : ln M15 (mR M9 a 1) = 0 := by rw [(m15.lst tp.1 (by omega)).1, (m11.lst tp.1 (by omega)).1]; exact l9
  have k15 : ln M15 (mR M9 a 2) ≤ 16384 := by rw [(m15.lst tp.2.1 (by omega)).1, (m11.lst tp.2.1 (by omega)).1]; exact t9
  have RR : mR M15 a = mR M9 a := R15.trans R11
  refine ⟨iv, m15.1, fun z => ⟨w15.1.1, ?_⟩, fun z => ⟨w15.1.1, ?_⟩⟩
  · obtain ⟨b0, b1⟩ : 0 ≤ mI M15 a 8 ∧ mI M15 a 8 < N := by
      rcases hv with ⟨-, y⟩ | ⟨y, -⟩
      · exact y
      · rw [y] at z; exact absurd z (by decide)
    obtain ⟨k, hk⟩ : ∃ k : Nat, mI M15 a 8 = (k : Int) := ⟨(mI M15 a 8).toNat, by omega⟩
    rw [hk]
    refine (s_MM_place0 (d := d + 10) m15.1 x15 (by omega)).mono (fun y M21 h21 => ?_)
    obtain ⟨e21, hy⟩ := h21
    subst e21
    have hy32 : i32 y := by rw [hy]; exact (m15.1 _ _).1
    exact ⟨hy32, m15.1, w15.1.1, fun M25 e25 => cmp_x ⟨by decide, by decide⟩ hg hx p15 (by rw [RR, r9]) (by rw [RR, l15]; exact ⟨rfl, by decide⟩) (by rw [RR]; exact k15) hy32 e25⟩
  · obtain ⟨f, hac⟩ : ∃ f, Ac (nt M11 (a + 5)) N f [50] 0 := by
      rcases hv with ⟨y, -⟩ | ⟨-, -, y⟩
      · exact absurd y z
      · exact y
    have wkE : wk M15 a = nt M11 (a + 5) := by
      funext k
      exact (m15.lst n5 (by omega)).2.1 k
    have g10 := w15.g10
    refine (s_MM_items0 (d := d) m15.1 x15 rfl g10.1 (by rw [wkE]; exact hac)).mono (fun M28 t28 => ?_)
    obtain ⟨o28, I28, q28⟩ := t28
    have hin28 : ∀ q, itP a (mR M15 a 10) q → q ∈ nums a := fun q hq => hq.1
    have g9 : mR M15 a 9 = mR M a 9 := by rw [RR, r9]
    have gne := g10.2
    rw [g9] at gne
    generalize hgd : mR M15 a 10 = gd at *
    have p28 := p15.mv hg I28.1 hin28 (fun q hq => by
      have hq2 := hq.2
      refine ⟨fun z => ?_, by omega, by omega, by omega⟩
      have z' : q = mR M a 9 + 1 ∨ q = mR M a 9 + 3 ∨ q = mR M a 9 + 5 ∨ q = mR M a 9 + 7 ∨ q = mR M a 9 + 9 ∨ q = mR M a 9 + 11 ∨ q = mR M a 9 + 30 ∨ q = mR M a 9 + 32 ∨ q = mR M a 9 + 34 := z
      omega) (fun x hx => by
      have hx' : x = a ∨ (gd ≤ x ∧ x ≤ gd + 29) ∨ (a + 97 ≤ x ∧ x ≤ a + 104) := hx
      omega) ⟨I28.2 11 (by decide) (by decide) (by decide), I28.2 29 (by decide) (by decide) (by decide), I28.2 48 (by decide) (by decide) (by decide)⟩
    have w28 := p28.2.1
    have R28 := I28.1.rfl_a w15 hin28
    have no : ∀ q, (q = a + 1 ∨ q = a + 3) → ¬ itP a gd q := fun q hq z => by
      have := z.2
      omega
    have t1 : ln M28 (mR M28 a 1) = 0 ∧ (0 : Int) ≤ 16384 := by rw [R28, RR, (I28.1.lst tp.1 (no _ s91)).1, l15]; exact ⟨rfl, by decide⟩
    have t2 : ln M28 (mR M28 a 2) ≤ 16384 := by rw [R28, RR, (I28.1.lst tp.2.1 (no _ s92)).1]; exact k15
    have h9 : mR M28 a 9 = mR M a 9 := by rw [R28, g9]
    have h10 : mR M28 a 10 = gd := by rw [R28, hgd]
    refine ⟨o28, w28.1.1, fun z16 => ?_, fun z16 M49 e49 => ?_⟩
    · rcases q28 with y | ⟨-, T, K, R, W, C, Z, E, tg, D, d1, d2, d3⟩
      · exact absurd z16 y
      · exact s_cmp_ok hx hg p28 h9 h10 t1 t2 (D.good (by omega) (by omega) d3)
    · have iv17 : i32 (mI M28 a 17) := (o28 _ _).1
      have o49 : mOk M49 := by rw [e49]; exact mOk_UI o28 iv17
      exact cmp_x (o49 _ _).1 hg hx p28 h9 t1 t2 iv17 e49
end CMP3
