/-! The reference between two calls: what the solver's calls leave; the methods that read. -/
section PUB
variable {G : mG} {d a s n k w : Nat} {M M' M2 : mM} {S : Nat → Prop} {Nt9 : tP9}
/-- the reference between two calls, with what was explored -/
def RI (Nt9 : tP9) (M : mM) (a : Nat) : Prop := mOk M ∧ Wd M a ∧ (Tpl Nt9 M (mR M a 1) ∧ ln M (mR M a 2) ≤ 16384) ∧ (0 ≤ mI M a 29 ∧ mI M a 29 ≤ 512) ∧ Sv M (a + 117) (mI M a 29).toNat ∧ (mI M a 11 ≠ 0 → Gd Nt9.2.2 M (mR M a 9)) ∧ (0 < mI M a 29 → mI M a 11 ≠ 0 ∧ XL M a) ∧ (0 ≤ mI M a 48 ∧ mI M a 48 ≤ 900 ∧ mI M a 11 = Nt9.2.2.1 ∧ XE Nt9.2.2 M a)
theorem RI.r0 (h : RI Nt9 M a) : RI0 Nt9 M a := ⟨h.1, h.2.1, h.2.2.1, h.2.2.2.1, h.2.2.2.2.1, h.2.2.2.2.2.1, h.2.2.2.2.2.2.1, h.2.2.2.2.2.2.2.1, h.2.2.2.2.2.2.2.2.1, h.2.2.2.2.2.2.2.2.2.1⟩
theorem RI.xe (h : RI Nt9 M a) : XE Nt9.2.2 M a := h.2.2.2.2.2.2.2.2.2.2
theorem RI0.ri (h : RI0 Nt9 M a) (x : XE Nt9.2.2 M a) : RI Nt9 M a := ⟨h.1, h.2.1, h.2.2.1, h.2.2.2.1, h.2.2.2.2.1, h.2.2.2.2.2.1, h.2.2.2.2.2.2.1, h.2.2.2.2.2.2.2.1, h.2.2.2.2.2.2.2.2.1, h.2.2.2.2.2.2.2.2.2, x⟩
theorem RI.step {j : Nat} {v : Int} (h : RI Nt9 M a) (hv : i32 v) (hj : j ≠ 11 ∧ j ≠ 29 ∧ j ≠ 48) (e : M' = mUI M a j v) (h0 : j < 12 := by decide) : RI Nt9 M' a ∧ FX M a M' ∧ (∀ i, mI M' a i = if i = j then v else mI M a i) := by
  obtain ⟨a1, a2, a3⟩ := h.r0.step hv hj e h0
  exact ⟨a1.ri (h.xe.fx a2), a2, a3⟩
/-- an answer, and the reference at rest -/
def rQ (Nt9 : tP9) (M : mM) (a : Nat) (r : Int) (M' : mM) : Prop := i32 r ∧ RI Nt9 M' a ∧ FX M a M'
theorem Wd.pl3 (w : Wd M a) : mR M a 31 = a + 105 ∧ mR M a 32 = a + 106 ∧ mR M a 33 = a + 107 ∧ mR M a 34 = a + 108 ∧ mR M a 35 = a + 109 ∧ mR M a 36 = a + 111 ∧ mR M a 37 = a + 113 ∧ mR M a 38 = a + 115 ∧ mR M a 39 = a + 117 := w.1.2.2.2.2.2.1
theorem Wd.pl4 (w : Wd M a) : (mK M (a + 105) = 30 ∧ mN M (a + 105) = 6144) ∧ (mK M (a + 106) = 30 ∧ mN M (a + 106) = 512) ∧ (mK M (a + 107) = 30 ∧ mN M (a + 107) = 512) ∧ (mK M (a + 108) = 30 ∧ mN M (a + 108) = 512) := w.1.2.2.2.2.2.2.2.2.1
theorem Wd.pl5 (w : Wd M a) : (mR M a 41 = a + 21185 ∧ mR M a 42 = a + 21186 ∧ mR M a 43 = a + 21187) ∧ mR M a 47 = a + 21191 := ⟨⟨w.1.2.2.2.2.2.2.1.1, w.1.2.2.2.2.2.2.1.2.1, w.1.2.2.2.2.2.2.1.2.2.1⟩, w.1.2.2.2.2.2.2.1.2.2.2.2.2.2⟩
theorem Wd.pl6 (w : Wd M a) : (mK M (a + 21185) = 30 ∧ mN M (a + 21185) = 4096) ∧ (mK M (a + 21186) = 33 ∧ mN M (a + 21186) = 4096) ∧ (mK M (a + 21187) = 33 ∧ mN M (a + 21187) = 4096) ∧ (mK M (a + 21191) = 30 ∧ mN M (a + 21191) = 900) := ⟨w.1.2.2.2.2.2.2.2.2.2.1.1, w.1.2.2.2.2.2.2.2.2.2.1.2.1, w.1.2.2.2.2.2.2.2.2.2.1.2.2.1, w.1.2.2.2.2.2.2.2.2.2.1.2.2.2.2.2.2⟩
/-- the solver alone has changed, and what is printed -/
theorem RI0.sol (h : RI0 Nt9 M a) (o : mOk M') (f : FI S M M') (hS : ∀ x, S x → vH (a + 117) x ∨ x = a + 21191) (hv : Sv M' (a + 117) (mI M a 29).toNat) : RI0 Nt9 M' a ∧ FX0 M a M' ∧ mI M' a = mI M a := by
  obtain ⟨hO, w, ht, h1, h2, h3, h4, h5⟩ := h
  have hg := w.g9
  have no : ∀ q : Nat, False → q ∈ nums a := fun _ z => z.elim
  have hS' : ∀ x, S x → a + 117 ≤ x ∧ x ≤ a + 21191 ∧ (x < a + 117 + 22 ∨ a + 117 + 28 < x) := fun x z => by
    rcases hS x z with y | y
    · have y' : a + 117 ≤ x ∧ x ≤ a + 117 + 21067 ∧ (x < a + 117 + 22 ∨ a + 117 + 28 < x) := y
      omega
    · omega
  have m : Mv (fun _ => False) S M a M' := mv_fi o w f (fun x z => by
    have z' := hS' x z
    rcases hS x z with y | y
    · have y' : a + 117 ≤ x ∧ x ≤ a + 117 + 21067 ∧ (x < a + 117 + 22 ∨ a + 117 + 28 < x) := y
      exact ⟨by omega, by omega, fun u => by have := nums_in u; omega, fun q hq u => by have := nums_in hq; omega⟩
    · have e := offx (a := a) (o := 21191) (by decide)
      rw [y]
      exact ⟨by omega, by omega, e.2.1, e.2.2⟩)
  have aI := (m.fld w no (fun z => by have := hS' _ z; omega)).1
  have aR := m.rfl_a w no
  have tp := w.tape
  have cI : ∀ x, ¬ S x → mI M' x = mI M x := f.2.2.2.2.2.2
  have xe : xeF M M' a := ⟨by rw [aI]; exact ⟨rfl, rfl, rfl⟩, ⟨cI _ (fun z => by have := hS' _ z; omega), cI _ (fun z => by have := hS' _ z; omega), cI _ (fun z => by have := hS' _ z; omega), cI _ (fun z => by have := hS' _ z; omega), cI _ (fun z => by
    rcases hS _ z with y | y
    · have y' : a + 117 ≤ a + 21185 ∧ a + 21185 ≤ a + 117 + 21067 ∧ (a + 21185 < a + 117 + 22 ∨ a + 117 + 28 < a + 21185) := y
      omega
    · omega)⟩, ⟨by rw [f.2.2.2.1], by rw [f.2.2.2.1]⟩, (m.lst (nums_o (by decide)) (fun z => z)).sl, (m.lst (nums_o (by decide)) (fun z => z)).sl, (m.lst (nums_o (by decide)) (fun z => z)).sl, (m.lst (nums_o (by decide)) (fun z => z)).sl, hv.2.2.2.1.trans h2.2.2.2.1.symm, fun i p q => cI _ (fun z => by have := hS' _ z; omega)⟩
  refine ⟨⟨o, m.2.1, ⟨by rw [aR]; exact ht.1.sm (m.lst tp.1 (fun z => z)), by rw [aR, (m.lst tp.2.1 (fun z => z)).1]; exact ht.2⟩, ?_⟩, ⟨FR.fi f (fun x z => by have := hS' x z; omega), xe, by rw [aI]⟩, aI⟩
  unfold RX
  rw [aR, aI]
  refine ⟨h1, hv, fun q => gd_mv (h3 q) w hg m no (fun _ z => z.elim) (fun x z => by have := hS' x z; omega), fun q => ⟨(h4 q).1, ?_⟩, h5⟩
  obtain ⟨x1, x2, x3, x4⟩ := (h4 q).2
  have s9 := m.lst (q := a + 109) (nums_o (by decide)) (fun z => z)
  have s11 := m.lst (q := a + 111) (nums_o (by decide)) (fun z => z)
  have s13 := m.lst (q := a + 113) (nums_o (by decide)) (fun z => z)
  unfold XL mny
  rw [aI, s9.1, s11.1, s13.1, cI (a + 107) (fun z => by have := hS' _ z; omega), cI (a + 108) (fun z => by have := hS' _ z; omega), cI (a + 117 + 23) (fun z => by have := hS' _ z; omega)]
  refine ⟨x1, x2, x3, fun i hi => ?_⟩
  rw [s11.2.1, s13.2.1]
  exact x4 i hi
theorem RI.sol (h : RI Nt9 M a) (o : mOk M') (f : FI S M M') (hS : ∀ x, S x → vH (a + 117) x ∨ x = a + 21191) (hv : Sv M' (a + 117) (mI M a 29).toNat) (hk : mI M' (a + 117 + 30) 0 = mI M (a + 117 + 30) 0) : RI Nt9 M' a ∧ FX M a M' ∧ mI M' a = mI M a := by
  obtain ⟨a1, a2, a3⟩ := h.r0.sol o f hS hv
  exact ⟨a1.ri (h.xe.fx (a2.fx hk)), a2.fx hk, a3⟩
/-- are values worked out -/
def kn9 (i : tI9) (k : Int) : tI9 := (i.1, i.2.1, i.2.2.1, i.2.2.2.1, i.2.2.2.2.1, (i.2.2.2.2.2.1.1, i.2.2.2.2.2.1.2.1, k), i.2.2.2.2.2.2)
theorem RI0.e8 {l : Int} {c : Nat → Int} {i : tI9} {e : tE9} (h : RI0 (l, c, i) M a) : RI0 (l, c, i.1, i.2.1, i.2.2.1, i.2.2.2.1, i.2.2.2.2.1, e) M a := by
  obtain ⟨h1, h2, h3, h4, h5, h6, h7, h8⟩ := h
  exact ⟨h1, h2, h3, h4, h5, h6, h7, h8⟩
theorem RI.solv {k : Int} (h : RI Nt9 M a) (o : mOk M') (f : FI S M M') (hS : ∀ x, S x → vH (a + 117) x ∨ x = a + 21191) (hv : Sv M' (a + 117) (mI M a 29).toNat) (hk : mI M' (a + 117 + 30) 0 = k) : RI (Nt9.1, Nt9.2.1, kn9 Nt9.2.2 k) M' a ∧ FR M a M' ∧ mI M' a = mI M a := by
  obtain ⟨a1, a2, a3⟩ := h.r0.sol o f hS hv
  obtain ⟨x1, x2, x3, x4, x5⟩ := h.xe
  refine ⟨RI0.ri (RI0.e8 (l := Nt9.1) (c := Nt9.2.1) (i := Nt9.2.2) a1) ⟨by rw [a3]; exact x1, ⟨by rw [a3]; exact x2.1, hk⟩, by rw [a3]; exact x3, x4, fun u => ?_⟩, a2.1, a3⟩
  obtain ⟨W, w1, w2, w3, w4⟩ := x5 u
  exact ⟨W, w1, w2.xe a2.2.1, w3.xe a2.2.1, w4⟩
/-- a step that only touches the tape and the fault -/
theorem RI0.mv {P : Nat → Prop} (h : RI0 Nt9 M a) (m : Mv P S M a M') (hP : ∀ q, P q → q = mR M a 1) (hS : ∀ x, S x → x = a) (hf : ∀ i, i ≠ 0 → mI M' a i = mI M a i) {n1 : tP9} (hl : Tpl n1 M' (mR M a 1)) (hn : n1.2.2 = Nt9.2.2) : RI0 n1 M' a ∧ FX M a M' := by
  obtain ⟨hO, w, ht, hx⟩ := h
  have tp := w.tape
  have hin : ∀ q, P q → q ∈ nums a := fun q z => by rw [hP q z]; exact tp.1
  have aR := m.rfl_a w hin
  have s1 := w.1.2.1
  have hg := w.g9
  have ra := ra_mv w hg m hin (fun q z => by
    have := hP q z
    refine ⟨fun y => ?_, by omega, by omega, by omega, by omega⟩
    have y' : q = mR M a 9 + 1 ∨ q = mR M a 9 + 3 ∨ q = mR M a 9 + 5 ∨ q = mR M a 9 + 7 ∨ q = mR M a 9 + 9 ∨ q = mR M a 9 + 11 ∨ q = mR M a 9 + 30 ∨ q = mR M a 9 + 32 ∨ q = mR M a 9 + 34 := y
    omega) (fun x z => by have := hS x z; omega) ⟨hf 11 (by decide), hf 29 (by decide), hf 48 (by decide), hf 30 (by decide), hf 40 (by decide)⟩
  refine ⟨⟨m.1, m.2.1, ⟨by rw [aR]; exact hl, by rw [aR, (m.lst tp.2.1 (fun z => tp.2.2 (hP _ z).symm)).1]; exact ht.2⟩, by rw [aR, hn]; exact hx.ra ra⟩, FR.mv m hin (fun x z => by have := hS x z; omega), ra.2.2.2.2.2.2.2, hf 12 (by decide), by rw [(ra.2.1 (a + 117 + 30) (by omega) (by omega)).2.2.2]⟩
theorem RI.mv {P : Nat → Prop} (h : RI Nt9 M a) (m : Mv P S M a M') (hP : ∀ q, P q → q = mR M a 1) (hS : ∀ x, S x → x = a) (hf : ∀ i, i ≠ 0 → mI M' a i = mI M a i) {n1 : tP9} (hl : Tpl n1 M' (mR M a 1)) (hn : n1.2.2 = Nt9.2.2) : RI n1 M' a ∧ FX M a M' := by
  obtain ⟨a1, a2⟩ := h.r0.mv m hP hS hf hl hn
  exact ⟨a1.ri (by rw [hn]; exact h.xe.fx a2), a2⟩
theorem r_MM_feed {v : Nat → Int} (hv : ∀ i, i32 (v i)) (h : RI Nt9 M a) : Ci G y_MM_feed (d + 2) [vr a, vi (v 0), vi (v 1), vi (v 2), vi (v 3), vi (v 4)] M (fun r M' => ∃ n1, rQ n1 M a r M' ∧ ((Nt9.1 + 20 ≤ 16384 ∧ r = Nt9.1 + 20 ∧ n1 = (r, fdc Nt9.2.1 Nt9.1.toNat (v 0) (v 1) (v 2) (v 3) (v 4), Nt9.2.2)) ∨ (16384 < Nt9.1 + 20 ∧ r = -1 ∧ n1 = Nt9))) := by
  have bN := h.2.2.1.1
  refine (s_MM_feed hv h.1 h.2.1 (by rw [bN.1]; exact bN.2.1)).mono (fun r M1 q => ?_)
  have b0 : 0 ≤ ln M (mR M a 1) := (h.2.1.nu h.2.1.tape.1).2.2.2.1.1
  obtain ⟨m, hf, f0, hh⟩ := id q
  have e : i32 r ∧ ∃ n1, Tpl n1 M1 (mR M a 1) ∧ ((Nt9.1 + 20 ≤ 16384 ∧ r = Nt9.1 + 20 ∧ n1 = (r, fdc Nt9.2.1 Nt9.1.toNat (v 0) (v 1) (v 2) (v 3) (v 4), Nt9.2.2)) ∨ (16384 < Nt9.1 + 20 ∧ r = -1 ∧ n1 = Nt9)) := by
    obtain ⟨c1, c2, c3⟩ := bN
    rcases hh with ⟨y1, y2, y3, y4, y5⟩ | ⟨y1, y2, y3⟩
    · rw [c1] at y1 y2 y4 y5 b0
      refine ⟨i32s (by omega) (by omega), _, ⟨y3, by show r ≤ 16384; omega, fun j hj => ?_⟩, Or.inl ⟨by omega, by omega, rfl⟩⟩
      have hj : (j : Int) < r := hj
      obtain ⟨m, hm⟩ : ∃ m : Nat, Nt9.1 = m := ⟨Nt9.1.toNat, by omega⟩
      rw [hm] at y4 y5 c3 y2
      rw [Int.toNat_natCast] at y5
      show nt M1 (mR M a 1) j = fdc Nt9.2.1 Nt9.1.toNat (v 0) (v 1) (v 2) (v 3) (v 4) j
      rw [hm, Int.toNat_natCast]
      unfold fdc f4
      by_cases d0 : j < m
      · rw [if_pos (by omega), if_pos (by omega), if_pos (by omega), if_pos (by omega), if_pos d0, y4 j (by omega)]
        exact c3 j (by omega)
      · have key : ∀ i, i < 5 → m + 4 * i ≤ j → j < m + 4 * i + 4 → nt M1 (mR M a 1) j = byt (v i) (j - (m + 4 * i)) := fun i hi h1 h2 => by
          have := y5 i (j - (m + 4 * i)) hi (by omega)
          rw [show m + 4 * i + (j - (m + 4 * i)) = j by omega] at this
          exact this
        by_cases d1 : j < m + 4
        · rw [if_pos (by omega), if_pos (by omega), if_pos (by omega), if_pos (by omega), if_neg d0]
          exact key 0 (by decide) (by omega) (by omega)
        by_cases d2 : j < m + 8
        · rw [if_pos (by omega), if_pos (by omega), if_pos (by omega), if_neg d1]
          exact key 1 (by decide) (by omega) (by omega)
        by_cases d3 : j < m + 12
        · rw [if_pos (by omega), if_pos (by omega), if_neg d2]
          exact key 2 (by decide) (by omega) (by omega)
        by_cases d4 : j < m + 16
        · rw [if_pos (by omega), if_neg d3]
          exact key 3 (by decide) (by omega) (by omega)
        · rw [if_neg d4]
          exact key 4 (by decide) (by omega) (by omega)
    · have y4 := y3.1
      rw [c1] at y1
      exact ⟨i32s (by omega) (by omega), Nt9, (show Tpl Nt9 M (mR M a 1) from ⟨c1, c2, c3⟩).sm y3, Or.inr ⟨by omega, y2, rfl⟩⟩
  obtain ⟨ir, n1, hl, hd⟩ := e
  obtain ⟨r1, F1⟩ := h.mv m (fun q z => z) (fun x z => z) hf hl (by rcases hd with ⟨-, -, y⟩ | ⟨-, -, y⟩ <;> rw [y])
  exact ⟨n1, ⟨ir, r1, F1⟩, hd⟩
theorem r_MM_end {l : Int} (hl : i32 l) (h : RI Nt9 M a) : Ci G y_MM_end d [vr a, vi l] M (fun r M' => ∃ n1, rQ n1 M a r M' ∧ ((0 ≤ l ∧ l ≤ 20 ∧ 20 ≤ Nt9.1 ∧ n1 = (Nt9.1 - 20 + l, Nt9.2)) ∨ (¬ (0 ≤ l ∧ l ≤ 20 ∧ 20 ≤ Nt9.1) ∧ n1 = Nt9))) := by
  have bN := h.2.2.1.1
  refine (s_MM_end hl h.1 h.2.1 (by rw [bN.1]; exact bN.2.1)).mono (fun r M1 q => ?_)
  have b0 : 0 ≤ ln M (mR M a 1) := (h.2.1.nu h.2.1.tape.1).2.2.2.1.1
  obtain ⟨m, hf, hh⟩ := id q
  have e : i32 r ∧ ∃ n1, Tpl n1 M1 (mR M a 1) ∧ ((0 ≤ l ∧ l ≤ 20 ∧ 20 ≤ Nt9.1 ∧ n1 = (Nt9.1 - 20 + l, Nt9.2)) ∨ (¬ (0 ≤ l ∧ l ≤ 20 ∧ 20 ≤ Nt9.1) ∧ n1 = Nt9)) := by
    obtain ⟨c1, c2, c3⟩ := bN
    rcases hh with ⟨y1, y2, y3, y4, y5, y6, y7⟩ | ⟨y1, y2, y3, y4⟩
    · rw [c1] at y3 y5
      exact ⟨i32s (by omega) (by omega), _, ⟨by rw [y6, y5], by show Nt9.1 - 20 + l ≤ 16384; omega, fun j hj => by
        have hj : (j : Int) < Nt9.1 - 20 + l := hj
        rw [y7]
        exact c3 j (by omega)⟩, Or.inl ⟨y1, y2, y3, rfl⟩⟩
    · rw [c1] at y1
      exact ⟨i32s (by omega) (by omega), Nt9, (show Tpl Nt9 M (mR M a 1) from ⟨c1, c2, c3⟩).sm y4, Or.inr ⟨y1, rfl⟩⟩
  obtain ⟨ir, n1, hl', hd⟩ := e
  obtain ⟨r1, F1⟩ := h.mv m (fun q z => z) (fun x z => z) hf hl' (by rcases hd with ⟨-, -, -, y⟩ | ⟨-, y⟩ <;> rw [y])
  exact ⟨n1, ⟨ir, r1, F1⟩, hd⟩
theorem r_MM_place1 (h : RI Nt9 M a) : Ci G y_MM_place1 d [vr a] M (fun r M' => rQ Nt9 M a r M' ∧ r = Nt9.2.2.2.2.2.2.2.1.1) := by
  refine k_MM_place1 h.1 ⟨h.2.1.1.1, fun M2 e2 => ?_⟩
  obtain ⟨r2, F2, -⟩ := h.step ⟨by decide, by decide⟩ ⟨by decide, by decide, by decide⟩ e2
  exact ⟨⟨(r2.1 _ _).1, r2, F2⟩, r2.xe.1⟩
theorem r_MM_state1 (h : RI Nt9 M a) : Ci G y_MM_state1 d [vr a] M (fun r M' => rQ Nt9 M a r M' ∧ r = Nt9.2.2.2.2.2.2.2.1.2.1) := by
  refine k_MM_state1 h.1 ⟨h.2.1.1.1, fun M2 e2 => ?_⟩
  obtain ⟨r2, F2, -⟩ := h.step ⟨by decide, by decide⟩ ⟨by decide, by decide, by decide⟩ e2
  exact ⟨⟨(r2.1 _ _).1, r2, F2⟩, r2.xe.2.1.1⟩
theorem r_MM_states (h : RI Nt9 M a) : Ci G y_MM_states d [vr a] M (fun r M' => rQ Nt9 M a r M' ∧ r = ((Nt9.2.2.2.2.2.2.2.2.1.length : Nat) : Int)) := by
  refine k_MM_states h.1 ⟨h.2.1.1.1, fun M2 e2 => ?_⟩
  obtain ⟨r2, F2, -⟩ := h.step ⟨by decide, by decide⟩ ⟨by decide, by decide, by decide⟩ e2
  exact ⟨⟨(r2.1 _ _).1, r2, F2⟩, r2.xe.2.2.1⟩
/-- what items answers -/
def itq (i : tI9) (l : Int) : Int := if i.1 = 0 then -1 else if l = 0 then i.2.1 else if l = 1 then i.2.2.1 else if l = 2 then i.2.2.2.1 else -1
theorem r_MM_items1 {l : Int} (hl : i32 l) (h : RI Nt9 M a) : Ci G y_MM_items1 d [vr a, vi l] M (fun r M' => rQ Nt9 M a r M' ∧ r = itq Nt9.2.2 l) := by
  refine k_MM_items1 h.1 hl ⟨h.2.1.1.1, fun M2 e2 => ?_⟩
  obtain ⟨r2, F2, -⟩ := h.step ⟨by decide, by decide⟩ ⟨by decide, by decide, by decide⟩ e2
  have k9 := (r2.2.1.gp r2.2.1.g9).1
  refine ⟨fun _ => ⟨fun _ => k9, fun _ => ⟨fun _ => k9, fun _ _ => k9⟩⟩, fun v e => ⟨⟨?_, r2, F2⟩, ?_⟩⟩
  · rw [e]
    (repeat' split) <;> first | exact (r2.1 _ _).1 | exact ⟨by decide, by decide⟩
  · obtain ⟨-, -, -, -, -, x3, -, -, -, fl, -⟩ := r2
    unfold itq
    by_cases z : mI M2 a 11 = 0
    · rw [e, if_pos z, ← fl, if_pos z]
    · obtain ⟨_, _, _, _, _, _, _, -, -, -, -, -, -, q1, q2, q3, -⟩ := x3 z
      rw [e, if_neg z, q1, q2, q3, ← fl, if_neg z]
theorem r_MM_isState {l : Int} (hl : i32 l) (h : RI Nt9 M a) : Ci G y_MM_isState d [vr a, vi l] M (fun r M' => rQ Nt9 M a r M' ∧ (r ≠ 0 → 0 ≤ l ∧ l < mI M' a 29)) := by
  refine k_MM_isState h.1 hl ⟨h.2.1.1.1, fun M2 e2 v e => ?_⟩
  obtain ⟨r2, F2, -⟩ := h.step ⟨by decide, by decide⟩ ⟨by decide, by decide, by decide⟩ e2
  by_cases y : l < 0 ∨ mI M2 a 29 ≤ l
  · rw [if_pos y] at e
    exact ⟨⟨by rw [e]; exact ⟨by decide, by decide⟩, r2, F2⟩, fun z => absurd e z⟩
  · rw [if_neg y] at e
    exact ⟨⟨by rw [e]; exact ⟨by decide, by decide⟩, r2, F2⟩, fun _ => by omega⟩
end PUB
