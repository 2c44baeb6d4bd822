/-! The reference: an enabled command, exactly. -/
section ENX2
variable {G : mG} {d a g T R W C Z n L w w0 k : Nat} {M M' M2 M3 : mM} {E : Eg9} {tg mul : Int} {B : Nat → Nat} {ww pl lo hi : Nat → Int} {XV : List Int → Int → vrs} {ev : List Int → Nat → Nat → vrs} {cvS : List Int → Nat → vrs} {stp : List Int → List (Nat × Nat × Nat × Nat) → (Int × Int) × List Int} {tgI : Nat × Nat} {cms : List cm9} {sg : List Int}
/-- command number i -/
def cmQ (M : mM) (a i : Nat) : sc9 := ((nt M (a + 109) i).toNat, nt M (a + 115) i, brR M a (nt M (a + 111) i).toNat (nt M (a + 115) i) (nt M (a + 113) i).toNat)
/-- m commands from L0 on -/
def cmL (M : mM) (a L0 m : Nat) : List sc9 := (List.range m).map (fun t => cmQ M a (L0 + t))
/-- a state's kind and commands -/
def stR (M : mM) (a k : Nat) : Int × List sc9 := (mI M (a + 106) k, cmL M a (mI M (a + 107) k).toNat (mI M (a + 108) k).toNat)
/-- the first k states -/
def xtR (M : mM) (a k : Nat) : xt9 := (List.range k).map (stR M a)
theorem cmL_s {L0 m : Nat} : cmL M a L0 (m + 1) = cmL M a L0 m ++ [cmQ M a (L0 + m)] := by
  unfold cmL
  rw [List.range_succ, List.map_append]
  rfl
theorem cmL_cg {L0 m : Nat} (h : ∀ i, L0 ≤ i → i < L0 + m → cmQ M' a i = cmQ M a i) : cmL M' a L0 m = cmL M a L0 m := by
  unfold cmL
  exact List.map_congr_left (fun t ht => h (L0 + t) (by first | decide | (simp; done) | omega) (by have := List.mem_range.mp ht; omega))
theorem xtR_s : xtR M a (k + 1) = xtR M a k ++ [stR M a k] := by
  unfold xtR
  rw [List.range_succ, List.map_append]
  rfl
theorem xtR_cg (h6 : ∀ k', k' < k → mI M' (a + 106) k' = mI M (a + 106) k') (h7 : ∀ k', k' < k → mI M' (a + 107) k' = mI M (a + 107) k' ∧ mI M' (a + 108) k' = mI M (a + 108) k') (hb : ∀ k', k' < k → (mI M (a + 107) k').toNat + (mI M (a + 108) k').toNat ≤ L) (hc : ∀ i, i < L → cmQ M' a i = cmQ M a i) : xtR M' a k = xtR M a k := by
  unfold xtR
  refine List.map_congr_left (fun k' hk => ?_)
  have hk' := List.mem_range.mp hk
  unfold stR
  rw [h6 k' hk', (h7 k' hk').1, (h7 k' hk').2, cmL_cg (M := M) (fun i i1 i2 => hc i (by have := hb k' hk'; omega))]
theorem smq_1 {m : Int} {c : Int × Int} : ∀ l : List (Int × Int), smq9 m (l ++ [c]) = smq9 m l + m / c.2 * c.1
  | [] => by
    show m / c.2 * c.1 + 0 = 0 + m / c.2 * c.1
    omega
  | x :: l => by
    show m / x.2 * x.1 + smq9 m (l ++ [c]) = m / x.2 * x.1 + smq9 m l + m / c.2 * c.1
    rw [smq_1 l]
    omega
theorem chq_get {br : br9} : ∀ {l : List br9} {b : Nat}, (chq9 ev sg l).1.1 = 0 → l[b]? = some br → (chq9 ev sg l).2[b]? = some (ev sg br.2.1.1 br.2.1.2).2 ∧ (ev sg br.2.1.1 br.2.1.2).1 = 0
  | [], b, _, h => by simp at h
  | x :: l, b, h0, h => by
    by_cases c1 : (ev sg x.2.1.1 x.2.1.2).1 = 0
    rotate_left
    · rw [chq_f c1] at h0
      exact absurd h0 c1
    by_cases c2 : (ev sg x.2.1.1 x.2.1.2).2.1 < 0 ∨ (ev sg x.2.1.1 x.2.1.2).2.2 < (ev sg x.2.1.1 x.2.1.2).2.1
    · rw [chq_r c1 c2] at h0
      exact absurd (show (11 : Int) = 0 from h0) (by decide)
    rw [chq_s c1 c2] at h0 ⊢
    cases b with
    | zero =>
      have e : x = br := by simpa using h
      subst e
      exact ⟨rfl, c1⟩
    | succ b =>
      have h' : l[b]? = some br := by simpa using h
      have := chq_get (b := b) (l := l) h0 h'
      exact ⟨by simpa using this.1, this.2⟩
/-- chances stand in lowest terms -/
def GOk (ev : List Int → Nat → Nat → vrs) (cms : List cm9) (sg : List Int) : Prop := ∀ (c : Nat) (cm : cm9), cms[c]? = some cm → ∀ (b : Nat) (br : br9), cm.2.2.2[b]? = some br → (ev sg br.2.1.1 br.2.1.2).1 = 0 → Int.gcd (ev sg br.2.1.1 br.2.1.2).2.1 (ev sg br.2.1.1 br.2.1.2).2.2 = 1
/-- tables stay while a command's branches are followed -/
def Tq (M M' : mM) (a L w0 : Nat) : Prop := nt M' (a + 109) = nt M (a + 109) ∧ nt M' (a + 111) = nt M (a + 111) ∧ nt M' (a + 115) = nt M (a + 115) ∧ (∀ i, i < L → nt M' (a + 113) i = nt M (a + 113) i) ∧ mI M' (a + 106) = mI M (a + 106) ∧ Lw M M' a w0
theorem Tq.refl : Tq M M a L w0 := ⟨rfl, rfl, rfl, fun _ _ => rfl, rfl, fun _ _ => ⟨rfl, rfl, rfl⟩⟩
theorem Tq.trans (h : Tq M M2 a L w0) (k : Tq M2 M3 a L w0) : Tq M M3 a L w0 := ⟨k.1.trans h.1, k.2.1.trans h.2.1, k.2.2.1.trans h.2.2.1, fun i hi => (k.2.2.2.1 i hi).trans (h.2.2.2.1 i hi), k.2.2.2.2.1.trans h.2.2.2.2.1, fun j hj => ⟨(k.2.2.2.2.2 j hj).1.trans (h.2.2.2.2.2 j hj).1, (k.2.2.2.2.2 j hj).2.1.trans (h.2.2.2.2.2 j hj).2.1, (k.2.2.2.2.2 j hj).2.2.trans (h.2.2.2.2.2 j hj).2.2⟩⟩
/-- states and branches so far -/
def exS (S : List (List Int)) (Bl : List (Nat × Int)) (M7 : mM) (a W L w0 : Nat) (mul : Int) (xv : Int → vrs) (g R : Nat) (M2 : mM) : Prop := mI M2 a 29 = ((S.length : Nat) : Int) ∧ SmR M2 a W S.length = S ∧ ∃ w9 : Nat, mI M2 a 40 = (w9 : Int) ∧ brR M2 a w0 mul (w9 - w0) = Bl ∧ Wc M2 a w9 ∧ XVq M2 a g R W xv ∧ Tq M7 M2 a L w0
/-- all branches have been followed -/
def enZ9 (fl : (Int × Int) × List (List Int) × List (Nat × Int)) (M7 : mM) (a W L w0 : Nat) (mul : Int) (xv : Int → vrs) (g R : Nat) (sg : List Int) (M' : mM) : Prop := (mI M' a 16 ≠ 0 ∧ fl.1 = (mI M' a 16, mI M' a 17)) ∨ (mI M' a 16 = 0 ∧ ∃ (S : List (List Int)) (Bl : List (Nat × Int)), fl = ((0, 0), S, Bl) ∧ exS S Bl M7 a W L w0 mul xv g R M' ∧ ∀ v, v < W → mI M' (a + 101) v = sg.getD v 0)
/-- between two commands of state k -/
def GQr (M : mM) (a W k L0 : Nat) (T : xt9) (s : sl9) : Prop := s.1 = (0, 0) ∧ mI M a 29 = ((s.2.1.length : Nat) : Int) ∧ SmR M a W s.2.1.length = s.2.1 ∧ xtR M a k = T ∧ mI M (a + 106) k = s.2.2.1 ∧ (∀ k', k' < k → (mI M (a + 107) k').toNat + (mI M (a + 108) k').toNat ≤ L0) ∧ ∃ L w : Nat, mI M (a + 107) k = (L0 : Int) ∧ (L0 ≤ L ∧ mI M (a + 108) k = ((L - L0 : Nat) : Int)) ∧ ln M (a + 109) = (L : Int) ∧ mI M a 40 = (w : Int) ∧ cmL M a L0 (L - L0) = s.2.2.2 ∧ nbx9 T + nbq9 s.2.2.2 = w ∧ Wc M a w
/-- what an enabled command comes to -/
def eyX (RR : sl9) (T9 : xt9) (a W k L0 : Nat) (xv : Int → vrs) (g R : Nat) (sg : List Int) (M' : mM) : Prop := (mI M' a 16 ≠ 0 ∧ RR.1 = (mI M' a 16, mI M' a 17)) ∨ (mI M' a 16 = 0 ∧ GQr M' a W k L0 T9 RR ∧ XVq M' a g R W xv ∧ ∀ v, v < W → mI M' (a + 101) v = sg.getD v 0)
/-- the command is put on the lists -/
theorem en_putx {c : Nat} {M4 M5 M6 M7 : mM} (h : eB M a g T R W C Z E tg n L w B M2) (hw : B L = w) (hk : 0 ≤ mI M (a + 108) k ∧ mI M (a + 108) k ≤ 5000) (hm : 1 ≤ mul ∧ mul < 1000000000) (a3 : adQ M2 (a + 109) c M3) (a4 : adQ M3 (a + 115) mul M4) (a5 : adQ M4 (a + 111) (w : Int) M5) (a6 : adQ M5 (a + 113) 0 M6) (e7 : M7 = mUI M6 (a + 108) k (mI M (a + 108) k + 1)) : (mL M7 = mL M6 ∧ mL M6 (a + 21189) = mL M2 (a + 21189) ∧ mL M6 (a + 21190) = mL M2 (a + 21190)) ∧ mI M7 a = mI M2 a ∧ mOk M7 ∧ xF M a M7 ∧ GG M7 a g T R W C Z E tg ∧ En M7 a g R W ∧ (mI M7 (a + 107) = mI M (a + 107) ∧ (∀ k', k' ≠ k → mI M7 (a + 108) k' = mI M (a + 108) k') ∧ mI M7 (a + 108) k = mI M (a + 108) k + 1) ∧ XD M7 a g n W L w (L + 1) B ∧ Op M7 a L w w mul 0 ∧ (nt M7 (a + 109) L = (c : Int) ∧ ∀ i, i < L → nt M7 (a + 109) i = nt M2 (a + 109) i ∧ nt M7 (a + 111) i = nt M2 (a + 111) i ∧ nt M7 (a + 113) i = nt M2 (a + 113) i ∧ nt M7 (a + 115) i = nt M2 (a + 115) i) ∧ mI M7 (a + 106) = mI M2 (a + 106) ∧ mI M7 (a + 105) = mI M2 (a + 105) ∧ (mI M7 (a + 21185) = mI M2 (a + 21185) ∧ mL M7 (a + 21186) = mL M2 (a + 21186) ∧ mL M7 (a + 21187) = mL M2 (a + 21187)) ∧ Mv (xP a) (fun x => x = a + 108) M2 a M7 ∧ Gs M2 M7 g := by
  obtain ⟨x1, gg, en, xd, t107, t108⟩ := h
  obtain ⟨d1, d2, d3, d4, ⟨l109, l111, l113, l115⟩, d6, d7⟩ := id xd
  have w2 := gg.2.1
  have hg := gg.2.2.1.2
  have m3 := mv_add w2 k109 a3
  have w3 := m3.2.1
  have m4 := mv_add w3 k115 a4
  have w4 := m4.2.1
  have m5 := mv_add w4 k111 a5
  have w5 := m5.2.1
  have m6 := mv_add w5 k113 a6
  have w6 := m6.2.1
  obtain ⟨m7, f7, l7⟩ := mv_cell (v := mI M (a + 108) k + 1) (i32s (by first | decide | (simp; done) | omega) (by first | decide | (simp; done) | omega)) m6.1 w6 (show a ≤ a + 108 by omega) (offx (a := a) (o := 108) (by decide)) e7
  have i1 : ∀ {p q : Nat}, p ∈ nums a → q = p → q ∈ nums a := fun hp hq => by rw [hq]; exact hp
  have up : ∀ {Mx My : mM} {p : Nat}, Wd Mx a → xP a p → Mv (fun x => x = p) (fun _ => False) Mx a My → Mv (xP a) (fun x => x = a + 108) Mx a My := fun wx hp m => m.mono (fun q hq => by rw [hq]; exact hp) (fun _ z => z.elim) (fun q hq => wx.lt (xP_in hq))
  have mm : Mv (xP a) (fun x => x = a + 108) M2 a M7 := ((((up w2 (by show a + 109 = a + 99 ∨ a + 109 = a + 109 ∨ a + 109 = a + 111 ∨ a + 109 = a + 113 ∨ a + 109 = a + 115; omega) m3).trans (up w3 (by show a + 115 = a + 99 ∨ a + 115 = a + 109 ∨ a + 115 = a + 111 ∨ a + 115 = a + 113 ∨ a + 115 = a + 115; omega) m4)).trans (up w4 (by show a + 111 = a + 99 ∨ a + 111 = a + 109 ∨ a + 111 = a + 111 ∨ a + 111 = a + 113 ∨ a + 111 = a + 115; omega) m5)).trans (up w5 (by show a + 113 = a + 99 ∨ a + 113 = a + 109 ∨ a + 113 = a + 111 ∨ a + 113 = a + 113 ∨ a + 113 = a + 115; omega) m6)).trans (m7.mono (fun _ z => z.elim) (fun x z => z) (fun q hq => w6.lt (xP_in hq)))
  have hin : ∀ q, xP a q → q ∈ nums a := fun q hq => xP_in hq
  have aI : mI M7 a = mI M2 a := (mm.fld w2 hin (by first | decide | (simp; done) | omega)).1
  have F27 : xF M2 a M7 := xF.mk w2 mm (fun q hq => hq) (fun x hx => Or.inr (Or.inl (by first | decide | (simp; done) | omega))) (fun i _ _ _ _ _ => by rw [aI])
  have gs := F27.gs w2 hg
  have s7 : ∀ {q}, q ∈ nums a → sameN M6 M7 q := fun hq => m7.lst hq (fun z => z)
  have cl : ∀ o, frO o → o ≠ 108 → mI M7 (a + o) = mI M2 (a + o) ∧ mL M7 (a + o) = mL M2 (a + o) := fun o fo ho => mm.cellL w2 hin (offx fo) (by first | decide | (simp; done) | omega)
  have c86 := cl 21186 (by decide) (by decide)
  have c87 := cl 21187 (by decide) (by decide)
  have c85 := cl 21185 (by decide) (by decide)
  have c105 := cl 105 (by decide) (by decide)
  have c107 := cl 107 (by decide) (by decide)
  have c89 := cl 21189 (by decide) (by decide)
  have c90 := cl 21190 (by decide) (by decide)
  have e108 : mI M6 (a + 108) = mI M (a + 108) := by
    rw [← t108, (m6.cellL w5 (fun q hq => i1 k113 hq) (offx (a := a) (o := 108) (by decide)) (fun z => z)).1, (m5.cellL w4 (fun q hq => i1 k111 hq) (offx (a := a) (o := 108) (by decide)) (fun z => z)).1, (m4.cellL w3 (fun q hq => i1 k115 hq) (offx (a := a) (o := 108) (by decide)) (fun z => z)).1, (m3.cellL w2 (fun q hq => i1 k109 hq) (offx (a := a) (o := 108) (by decide)) (fun z => z)).1]
  -- the lists
  have q109 : ln M7 (a + 109) = (L + 1 : Nat) := by rw [(s7 k109).1, (m6.lst k109 (by first | decide | (simp; done) | omega)).1, (m5.lst k109 (by first | decide | (simp; done) | omega)).1, (m4.lst k109 (by first | decide | (simp; done) | omega)).1, a3.2.2.2.1, l109]; omega
  have z115 : ln M3 (a + 115) = (L : Int) := by rw [(m3.lst k115 (by first | decide | (simp; done) | omega)).1, l115]
  have z111 : ln M4 (a + 111) = (L : Int) := by rw [(m4.lst k111 (by first | decide | (simp; done) | omega)).1, (m3.lst k111 (by first | decide | (simp; done) | omega)).1, l111]
  have z113 : ln M5 (a + 113) = (L : Int) := by rw [(m5.lst k113 (by first | decide | (simp; done) | omega)).1, (m4.lst k113 (by first | decide | (simp; done) | omega)).1, (m3.lst k113 (by first | decide | (simp; done) | omega)).1, l113]
  have q115 : ln M7 (a + 115) = (L + 1 : Nat) := by rw [(s7 k115).1, (m6.lst k115 (by first | decide | (simp; done) | omega)).1, (m5.lst k115 (by first | decide | (simp; done) | omega)).1, a4.2.2.2.1, z115]; omega
  have q111 : ln M7 (a + 111) = (L + 1 : Nat) := by rw [(s7 k111).1, (m6.lst k111 (by first | decide | (simp; done) | omega)).1, a5.2.2.2.1, z111]; omega
  have q113 : ln M7 (a + 113) = (L + 1 : Nat) := by rw [(s7 k113).1, a6.2.2.2.1, z113]; omega
  have v115 : nt M7 (a + 115) L = mul := by
    rw [(s7 k115).2.1, (m6.lst k115 (by first | decide | (simp; done) | omega)).2.1, (m5.lst k115 (by first | decide | (simp; done) | omega)).2.1]
    have := a4.2.2.2.2.2.1
    rw [z115, Int.toNat_natCast] at this
    exact this
  have v111 : nt M7 (a + 111) L = (w : Int) := by
    rw [(s7 k111).2.1, (m6.lst k111 (by first | decide | (simp; done) | omega)).2.1]
    have := a5.2.2.2.2.2.1
    rw [z111, Int.toNat_natCast] at this
    exact this
  have v113 : nt M7 (a + 113) L = 0 := by
    rw [(s7 k113).2.1]
    have := a6.2.2.2.2.2.1
    rw [z113, Int.toNat_natCast] at this
    exact this
  have o115 : ∀ i, i < L → nt M7 (a + 115) i = nt M2 (a + 115) i := fun i hi => by rw [(s7 k115).2.1, (m6.lst k115 (by first | decide | (simp; done) | omega)).2.1, (m5.lst k115 (by first | decide | (simp; done) | omega)).2.1, a4.2.2.2.2.1 i (by rw [z115]; omega), (m3.lst k115 (by first | decide | (simp; done) | omega)).2.1]
  have o111 : ∀ i, i < L → nt M7 (a + 111) i = nt M2 (a + 111) i := fun i hi => by rw [(s7 k111).2.1, (m6.lst k111 (by first | decide | (simp; done) | omega)).2.1, a5.2.2.2.2.1 i (by rw [z111]; omega), (m4.lst k111 (by first | decide | (simp; done) | omega)).2.1, (m3.lst k111 (by first | decide | (simp; done) | omega)).2.1]
  have o113 : ∀ i, i < L → nt M7 (a + 113) i = nt M2 (a + 113) i := fun i hi => by rw [(s7 k113).2.1, a6.2.2.2.2.1 i (by rw [z113]; omega), (m5.lst k113 (by first | decide | (simp; done) | omega)).2.1, (m4.lst k113 (by first | decide | (simp; done) | omega)).2.1, (m3.lst k113 (by first | decide | (simp; done) | omega)).2.1]
  have v109 : nt M7 (a + 109) L = (c : Int) := by
    rw [(s7 k109).2.1, (m6.lst k109 (by first | decide | (simp; done) | omega)).2.1, (m5.lst k109 (by first | decide | (simp; done) | omega)).2.1, (m4.lst k109 (by first | decide | (simp; done) | omega)).2.1]
    have := a3.2.2.2.2.2.1
    rw [l109, Int.toNat_natCast] at this
    exact this
  have o109 : ∀ i, i < L → nt M7 (a + 109) i = nt M2 (a + 109) i := fun i hi => by rw [(s7 k109).2.1, (m6.lst k109 (by first | decide | (simp; done) | omega)).2.1, (m5.lst k109 (by first | decide | (simp; done) | omega)).2.1, (m4.lst k109 (by first | decide | (simp; done) | omega)).2.1, a3.2.2.2.2.1 i (by rw [l109]; omega)]
  have c106 := cl 106 (by decide) (by decide)
  refine ⟨⟨l7, by rw [← l7]; exact c89.2, by rw [← l7]; exact c90.2⟩, aI, m7.1, x1.trans F27, gg.gs m7.1 m7.2.1 (by rw [mm.rfl_a w2 hin]) gs, en.mv w2 mm hin gs (fun x hx => by omega), ⟨by rw [c107.1]; exact t107, fun k' hk' => by rw [f7, if_neg (fun z => hk' z.2), e108], by rw [f7, if_pos ⟨rfl, rfl⟩]⟩, ⟨by rw [aI]; exact d1, by rw [aI]; exact d2, fun k' v hk' hv => ?_, fun j hj => by rw [c85.1, c86.2, c87.2]; exact d4 j hj, ⟨q109, q111, q113, q115⟩, ⟨d6.1, d6.2.1, by omega⟩, fun i hi => (d7 i hi).cg (o111 i hi) (o113 i hi) (o115 i hi) (fun j _ _ => by rw [c86.2, c87.2]; exact ⟨rfl, rfl⟩)⟩, ⟨Nat.le_refl _, ⟨v111, by rw [v113, Nat.sub_self]; rfl, v115⟩, hm, fun j j0 j1 => absurd j1 (by first | decide | (simp; done) | omega), by rw [Nat.sub_self]; rfl⟩, ⟨v109, fun i hi => ⟨o109 i hi, o111 i hi, o113 i hi, o115 i hi⟩⟩, c106.1, c105.1, ⟨c85.1, c86.2, c87.2⟩, mm, gs⟩
  rw [(gs.2.1 19 (by first | decide | (simp; done) | omega) (by first | decide | (simp; done) | omega)).1, (gs.2.1 20 (by first | decide | (simp; done) | omega) (by first | decide | (simp; done) | omega)).1, c105.1]
  exact d3 k' v hk' hv
theorem x_en201 {c nb : Nat} {pc : Int} {cA cD : Nat → Int} {cm : cm9} {zl : List (br9 × (Int × Int))} {S0 : List (List Int)} {M7 : mM} (hev : ∀ sg i j, ev sg i j = vlq ww (cvS sg) pl 0 0 i j) (hstp : ∀ sg l, stp sg l = ((stq9 ww (cvS sg) pl lo hi l (fun v => sg.getD v 0)).1, (List.range W).map (stq9 ww (cvS sg) pl lo hi l (fun v => sg.getD v 0)).2)) (hp : GP ww pl XV ev M g R W C T E tgI cms lo hi) (hcm : RCm ww pl XV ev M g R W T E c cm) (hzl : ∀ b, b < nb → ∃ br, cm.2.2.2[b]? = some br ∧ zl[b]? = some (br, cA b, cD b)) (hzn : zl.length = nb) (hgd : ∀ b', b' < nb → Int.gcd (cA b') (cD b') = 1) (h0 : GG M a g T R W C Z E tg) (ipl : i32 pc) (hc : c < C) (hnb : mI M (g + 25) c = (nb : Int)) (hw0 : B L = w0) (hL : L ≤ 4096) (hch : ∀ b', b' < nb → 0 ≤ cA b' ∧ cA b' ≤ cD b' ∧ 1 ≤ cD b' ∧ cD b' < 1000000000 ∧ cD b' ∣ mul) (hmul : 1 ≤ mul) (hsum : sm (fun b' => cA b' * (mul / cD b')) nb = mul) : ∀ (t b : Nat) (M2 : mM), b + t = nb → eI M a g T R W C Z E tg n L w0 k mul B cA cD b M2 → (mI M2 a 16 = 0 → ∃ (S : List (List Int)) (Bl : List (Nat × Int)), flq9 stp sg pc mul w0 zl S0 [] = flq9 stp sg pc mul w0 (zl.drop b) S Bl ∧ exS S Bl M7 a W L w0 mul (XV sg) g R M2 ∧ ∀ v, v < W → mI M2 (a + 101) v = sg.getD v 0) → (mI M2 a 16 ≠ 0 → (flq9 stp sg pc mul w0 zl S0 []).1 = (mI M2 a 16, mI M2 a 17)) → h_MM_enabled_201 G (d + 7) a c pc b M2 (fun M' => mOk M' ∧ enQ M a g T R W C Z E tg n L k B M' ∧ enZ9 (flq9 stp sg pc mul w0 zl S0 []) M7 a W L w0 mul (XV sg) g R sg M') := by
  have wd0 := h0.2.1
  have hR := h0.2.2.2.2.2.2.2.1.1.1
  have hg := h0.2.2.1.2
  have hBd := h0.2.2.2.2.2.2.2.1.1
  have nb8 : nb ≤ 8 := by
    have := (h0.2.2.2.2.2.2.2.1.2.2.2.2.1 c hc).2.2.1
    omega
  have ic : i32 (c : Int) := i32s (by first | decide | (simp; done) | omega) (by first | decide | (simp; done) | omega)
  have b60 : ((0 : Int) ≤ (c : Int) ∧ (c : Int) < ((60 : Nat) : Int)) := by omega
  have term : ∀ b', b' < nb → 0 ≤ cA b' * (mul / cD b') := fun b' hb' => by
    have := hch b' hb'
    exact Int.mul_nonneg (by first | decide | (simp; done) | omega) (Int.ediv_nonneg (by first | decide | (simp; done) | omega) (by first | decide | (simp; done) | omega))
  have finx : ∀ (b : Nat) (M2 : mM), eI M a g T R W C Z E tg n L w0 k mul B cA cD b M2 → mI M2 a 16 ≠ 0 → (flq9 stp sg pc mul w0 zl S0 []).1 = (mI M2 a 16, mI M2 a 17) → mOk M2 ∧ enQ M a g T R W C Z E tg n L k B M2 ∧ enZ9 (flq9 stp sg pc mul w0 zl S0 []) M7 a W L w0 mul (XV sg) g R sg M2 := fun b M2 h z e => ⟨h.2.1.1, ⟨h.1, h.2.1, h.2.2.1, h.2.2.2.1.1, h.2.2.2.1.2.1, Or.inl z⟩, Or.inl ⟨z, e⟩⟩
  intro t
  induction t with
  | zero =>
    intro b M2 hb h hz hf
    have eb : b = nb := by omega
    subst eb
    obtain ⟨x1, gg, en, tb, hh⟩ := id h
    have w2 := gg.2.1
    have gs := x1.gs wd0 hg
    have r25 : mI M2 (g + 25) c = (b : Int) := by rw [(gs.2.1 25 (by first | decide | (simp; done) | omega) (by first | decide | (simp; done) | omega)).1]; exact hnb
    refine k_MM_enabled_201 gg.1 ic ipl (i32s (by first | decide | (simp; done) | omega) (by first | decide | (simp; done) | omega)) ⟨w2.1.1, ?_⟩
    rw [gg.2.2.1.1, show mR M2 g 22 = g + 25 from (w2.gp hg).2.2.1.2.2.2.2.2.2.2.1, Int.toNat_natCast, r25]
    refine ⟨(w2.gp hg).1, (w2.gp hg).2.2.2.2.2.2.2.2.1.1, by rw [(w2.gp hg).2.2.2.2.2.2.2.2.1.2]; exact b60, fun _ => ?_, fun q => absurd (Or.inl (Int.le_refl _)) q⟩
    by_cases z : mI M2 a 16 = 0
    · obtain ⟨-, n2, w2', y1, y2, y3, y4⟩ := hh z
      rw [hsum] at y3
      obtain ⟨B', u1, u2, u3⟩ := Op.close y2 hw0 y3 (by first | decide | (simp; done) | omega)
      obtain ⟨S, Bl, z1, z2, z3⟩ := hz z
      refine ⟨gg.1, ⟨x1, gg, en, tb.1, tb.2.1, Or.inr ⟨z, tb.2.2, n2, w2', B', y1, u1, u2, u3⟩⟩, Or.inr ⟨z, S, Bl, ?_, z2, z3⟩⟩
      rw [z1, List.drop_eq_nil_of_le (by first | decide | (simp; done) | omega)]
      rfl
    · exact finx b M2 h z (hf z)
  | succ t ih =>
    intro b M2 hb h hz hf
    obtain ⟨x1, gg, en, tb, hh⟩ := id h
    have w2 := gg.2.1
    have gs := x1.gs wd0 hg
    have r25 : mI M2 (g + 25) c = (nb : Int) := by rw [(gs.2.1 25 (by first | decide | (simp; done) | omega) (by first | decide | (simp; done) | omega)).1]; exact hnb
    have b8 : ((0 : Int) ≤ (b : Int) ∧ (b : Int) < ((8 : Nat) : Int)) := by omega
    have hbn : b < nb := by omega
    refine k_MM_enabled_201 gg.1 ic ipl (i32s (by first | decide | (simp; done) | omega) (by first | decide | (simp; done) | omega)) ⟨w2.1.1, ?_⟩
    rw [gg.2.2.1.1, show mR M2 g 22 = g + 25 from (w2.gp hg).2.2.1.2.2.2.2.2.2.2.1, Int.toNat_natCast, r25, (r4546 w2).1.1, Int.toNat_natCast]
    refine ⟨(w2.gp hg).1, (w2.gp hg).2.2.2.2.2.2.2.2.1.1, by rw [(w2.gp hg).2.2.2.2.2.2.2.2.1.2]; exact b60, fun q => finx b M2 h ?_ (hf ?_), fun q => ⟨(r4546 w2).2.1.1, by rw [(r4546 w2).2.1.2]; exact b8, fun q0 => ?_, fun q0 => ?_⟩⟩
    · rcases q with q | q
      · omega
      · exact q
    · rcases q with q | q
      · omega
      · exact q
    · have z : mI M2 a 16 = 0 := Classical.byContradiction (fun z => q (Or.inr z))
      obtain ⟨⟨e1, e2⟩, n2, w2', y1, y2, y3, y4⟩ := hh z
      have c0 : cA b = 0 := by rw [← e1]; exact (cmpz _ _).2.2.2.1.1 q0
      rw [show (b : Int) + 1 = ((b + 1 : Nat) : Int) by omega]
      refine ih (b + 1) M2 (by first | decide | (simp; done) | omega) ⟨x1, gg, en, tb, fun _ => ⟨⟨e1, e2⟩, n2, w2', y1, y2, ?_, by omega⟩⟩ (fun _ => ?_) (fun z' => absurd z z')
      rotate_left
      · obtain ⟨S, Bl, z1, z2, z3⟩ := hz z
        obtain ⟨br, -, hb2⟩ := hzl b hbn
        have dq : zl.drop b = (br, cA b, cD b) :: zl.drop (b + 1) := by
          obtain ⟨hl, he⟩ := List.getElem?_eq_some_iff.mp hb2
          rw [List.drop_eq_getElem_cons hl, he]
        exact ⟨S, Bl, by rw [z1, dq, flq_0 (show cA b = 0 from c0)], z2, z3⟩
      have : sm (fun b' => cA b' * (mul / cD b')) (b + 1) = sm (fun b' => cA b' * (mul / cD b')) b := by
        show sm (fun b' => cA b' * (mul / cD b')) b + cA b * (mul / cD b) = _
        rw [c0, Int.zero_mul]; omega
      rw [this]
      exact y3
    · have z : mI M2 a 16 = 0 := Classical.byContradiction (fun z => q (Or.inr z))
      obtain ⟨⟨e1, e2⟩, n2, w2', y1, y2, y3, y4⟩ := hh z
      have c0 : cA b ≠ 0 := fun y => q0 ((cmpz _ _).2.2.2.1.2 (by rw [e1]; exact y))
      obtain ⟨k1, k2, k3, k4, k5⟩ := hch b hbn
      have wi : wI M2 a g T R W C Z E tg n2 L w2' w0 mul (sm (fun b' => cA b' * (mul / cD b')) b) (cA b) (cD b) B b M2 := ⟨wyF.mk (P := fun _ => False) (S := fun _ => False) w2 (Mv.refl gg.1 w2 (fun _ z => z.elim)) (fun _ z => z.elim) (fun _ z => z.elim) (fun _ _ _ _ _ _ => rfl), gg, en, y2, y3, by rw [e1], by rw [e2]⟩
      have le : sm (fun b' => cA b' * (mul / cD b')) b + cA b * (mul / cD b) ≤ mul := by
        have := sm_part (f := fun b' => cA b' * (mul / cD b')) (a := b + 1) (nb - (b + 1)) (fun c hc => term c (by first | decide | (simp; done) | omega))
        rw [show b + 1 + (nb - (b + 1)) = nb by omega, hsum] at this
        exact this
      obtain ⟨S, Bl, z1, z2, z3⟩ := hz z
      obtain ⟨br, hb1, hb2⟩ := hzl b hbn
      have dq : zl.drop b = (br, cA b, cD b) :: zl.drop (b + 1) := by
        obtain ⟨hl, he⟩ := List.getElem?_eq_some_iff.mp hb2
        rw [List.drop_eq_getElem_cons hl, he]
      rw [dq] at z1
      obtain ⟨q29, qS, w9, q40, qB, qW, qX, qT⟩ := z2
      have ew : w9 = w2' := by
        have := y2.2.1.1
        omega
      subst ew
      have eln : S.length = n2 := by
        have := y2.1.1
        omega
      rw [eln] at qS
      refine (x_MM_way (d := d) hev hstp (hp.gs gs hR) ((hcm.2.2.2.2 b br hb1).gs gs hR) (hgd b hbn) z ⟨eln, qS⟩ qB qW qX z3 wi ipl hc (by rw [r25]; omega) hw0 ⟨by omega, by omega⟩ ⟨by omega, by omega⟩ k5 le hL).mono (fun M3 t3 => ⟨t3.1, ?_⟩)
      obtain ⟨-, ⟨W3, gg3, en3, hq⟩, fo⟩ := t3
      have tab := W3.tab w2
      rw [show (b : Int) + 1 = ((b + 1 : Nat) : Int) by omega]
      refine ih (b + 1) M3 (by first | decide | (simp; done) | omega) ⟨x1.trans (W3.xf w2), gg3, en3, ?_, fun z3 => ?_⟩ (fun z4 => ?_) (fun z4 => ?_)
      · rw [tab.2.1, tab.2.2.1]; exact tb
      · rcases hq with y | ⟨-, n3, w3, u1, u2, u3, u4⟩
        · exact absurd z3 y
        · exact ⟨⟨tab.2.2.2.1.trans e1, tab.2.2.2.2.trans e2⟩, n3, w3, by omega, u3, u4, by omega⟩
      · rcases fo with ⟨f1, -⟩ | ⟨-, S', B', f1, f2, f3, w', f4, f5, f6, f7, f8⟩
        · exact absurd z4 f1
        rcases hq with y | ⟨-, n3, w3, u1, u2, u3, u4⟩
        · exact absurd z4 y
        refine ⟨S', B', by rw [z1, f1], ⟨f2, f3, w', f4, f5, f6, f7, qT.trans ?_⟩, fun v hv => ?_⟩
        · have hin : ∀ q, wyP a q → q ∈ nums a := fun q hq => wyP_in hq
          have ls : ∀ {q}, q ∈ nums a → q ≠ a + 99 → q ≠ a + 113 → nt M3 q = nt M2 q := fun hq n1 n2 => funext (fun j => (W3.1.lst hq (fun z => by
            have z' : _ = a + 99 ∨ _ = a + 113 := z
            omega)).2.1 j)
          exact ⟨ls k109 (by first | decide | (simp; done) | omega) (by first | decide | (simp; done) | omega), ls k111 (by first | decide | (simp; done) | omega) (by first | decide | (simp; done) | omega), ls k115 (by first | decide | (simp; done) | omega) (by first | decide | (simp; done) | omega), fun i hi => by rw [(u3.2.2.2.2.2.2 i hi).2.1.2, (y2.2.2.2.2.2.2 i hi).2.1.2], tab.1, f8⟩
        · have hin : ∀ q, wyP a q → q ∈ nums a := fun q hq => wyP_in hq
          rw [(W3.1.cellL w2 hin (offx (a := a) (o := 101) (by decide)) (fun z => by have := wyS_un z; omega)).1]
          exact z3 v hv
      · rcases fo with ⟨-, f1⟩ | ⟨f1, -⟩
        · rw [z1]
          exact f1 _
        · exact absurd f1 z4
end ENX2
