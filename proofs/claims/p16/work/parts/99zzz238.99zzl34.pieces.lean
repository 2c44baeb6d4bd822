/-! The class's top: its pieces, and what leaves them alone. -/
section NCU
variable {G : mG} {d t z q w x m n cn cc bc T Kt N A B D Cw p O P K p' O' P' K' Ab Be Cm U Ag Bg Cg V F L cnt : Nat} {M M' M1 : mM} {Z Y : Nat → Prop} {ns : Nat → Int} {sf ef : Nat → Nat} {v R k : Nat → Nat} {Ls : List Nat} {W : Nat → Nat} {c9 c8 : Nat → Int}
/-- the same memory with the old longs -/
def noL (M M' : mM) : mM := (mK M', mN M', mI M', (fun x j => if x < mZ M then mL M x j else mL M' x j), mR M', mZ M', mS M')
theorem FC.fa (h : FC Z M M') : FA Z Z M (noL M M') := by
  refine ⟨h.1, fun x hx => ⟨(h.2 x hx).1, (h.2 x hx).2.1, ?_, fun nz => ((h.2 x hx).2.2 nz).2.1, fun nz => ((h.2 x hx).2.2 nz).2.2⟩⟩
  funext j
  show (if x < mZ M then mL M x j else mL M' x j) = _
  rw [if_pos hx]
theorem PK.fc (h : PK M z p O P K) (f : FC Z M M') (np : ¬ Z p) : PK M' z p O P K := by
  have q : PK (noL M M') z p O P K := h.fa f.fa np
  exact q
theorem PW.fc (h : PW M z p O P K V F ns sf ef L cnt) (f : FC Z M M') (hs : ∀ i, i ≤ 15 → ¬ Z (p + i)) (hO : ¬ Z O) (hP : ¬ Z P) : PW M' z p O P K V F ns sf ef L cnt := by
  have q : PW (noL M M') z p O P K V F ns sf ef L cnt := h.fa f.fa (hs 0 (by decide)) hs hO hP
  exact q
theorem Tap.fc (h : Tap c9 M t T Kt N) (f : FC Z M M') (nT : ¬ Z T) (r0 : mR M' t 0 = mR M t 0) (i1 : mI M' t 1 = mI M t 1) : Tap c9 M' t T Kt N := by
  obtain ⟨⟨h1, h2, h3⟩, ⟨h4, h5⟩, ⟨h6, h7, h8⟩, h9, h10⟩ := h
  have e := f.sm h8 nT
  have := f.1.1
  exact ⟨⟨by rw [(f.2 t h7).1]; exact h1, by rw [r0]; exact h2, by rw [i1]; exact h3⟩, ⟨by rw [e.1]; exact h4, by rw [e.2.1]; exact h5⟩, ⟨h6, by omega, by omega⟩, h9, fun j hj => by rw [e.2.2.2]; exact h10 j hj⟩
theorem WB.fc (h : WB M w A B D Cw) (f : FC Z M M') (nw : ¬ Z w) : WB M' w A B D Cw := by
  obtain ⟨h1, h2, ⟨h3, h4, h5⟩, ⟨h6, h7, h8⟩, h9, ⟨z1, z2, z3, z4⟩, h10⟩ := h
  have := f.1.1
  have e := f.sm z1 nw
  exact ⟨by rw [e.1]; exact h1, by rw [e.2.2.1]; exact h2, ⟨by rw [(f.2 A z2).1]; exact h3, by rw [(f.2 B z3).1]; exact h4, by rw [(f.2 D z4).1]; exact h5⟩, ⟨by rw [(f.2 A z2).2.1]; exact h6, by rw [(f.2 B z3).2.1]; exact h7, by rw [(f.2 D z4).2.1]; exact h8⟩, h9, ⟨by omega, by omega, by omega, by omega⟩, h10⟩
theorem MK.fc (h : MK M z m U Ab Be Cm) (f : FC Z M M') (nm : ¬ Z m) : MK M' z m U Ab Be Cm := by
  have mz : m < mZ M := by
    have a := h.2.2.2.2.2.1.2.2.2
    have b := h.2.2.2.2.2.2.1.1
    omega
  have e := f.sm mz nm
  exact h.eq2 (fun x hx => ⟨(f.2 x hx).1, (f.2 x hx).2.1⟩) (fun i _ => by rw [e.2.2.1]) (by rw [e.2.2.2]) f.1.1
theorem TZ.fc (h : TZ M z q p O P K Ab Be Cm) (o : mOk M') (f : FC Z M M') (hq : ∀ x, q ≤ x → x ≤ q + 22 → ¬ Z x) (np : ¬ Z p) : TZ M' z q p O P K Ab Be Cm := by
  obtain ⟨-, h2, h3, h4, h5, h6, h7, h8, h9⟩ := h
  have zz := h6.2.2.2.2.1.1
  have sm : ∀ i, i ≤ 22 → Sm M M' (q + i) := fun i hi => f.sm (by omega) (hq _ (by omega) (by omega))
  have s0 := sm 0 (by decide)
  rw [Nat.add_zero] at s0
  refine ⟨o, h2.eq2 (fun i hi => ?_) (fun i _ => by rw [(sm 1 (by decide)).2.2.1]), by rw [s0.1, s0.2.2.1]; exact h3, by rw [(sm 21 (by decide)).1, (sm 22 (by decide)).1, (sm 21 (by decide)).2.1, (sm 22 (by decide)).2.1]; exact h4, h5.fc f (hq _ (by omega) (by omega)), h6.fc f np, h7, h8, fun j => by rw [(sm 6 (by decide)).2.2.2]; exact h9 j⟩
  have := sm (1 + i) (by omega)
  rw [← Nat.add_assoc] at this
  exact ⟨this.1, this.2.1⟩
/-- the program tells a game, whose exploration comes to X9 -/
def Pgm (X9 : xR9) (M : mM) (p O P : Nat) : Prop := ∃ (γ : gW9) (c4 : Nat × Nat × Nat × Nat) (n : Nat), NqO γ.1 γ.2.2.1 n ∧ CGm M p O P γ.1 γ.2.1 γ.2.2.1 γ.2.2.2.1 γ.2.2.2.2.1 n (γ.2.2.2.2.2.1, c4, ((0 : Int), (0 : Int))) γ.2.2.2.2.2.2 ∧ (mI M p 3 = ((vcn γ.2.2.2.2.2.1 : Nat) : Int) ∧ rcn γ.2.2.2.2.2.1 ≤ 60 ∧ mI M p 12 = ((c4.2.2.1 : Nat) : Int) ∧ c4.2.2.2 ≠ 0) ∧ X9 = XpG γ
theorem CGm.cgm {O P n Nn : Nat} {W pl nq : Nat → Int} {sm : Nat → Nat → Prop} {s : st9} {g : gm9} (h : CGm M p O P W pl nq sm Nn n s g) (ep : mI M' p = mI M p) (ei : ∀ i, 3 ≤ i → i ≤ 15 → mI M' (p + i) = mI M (p + i)) (eO : mI M' O = mI M O) (eP : mI M' P = mI M P) : CGm M' p O P W pl nq sm Nn n s g := by
  obtain ⟨L, ns, sf, ef, h1, h2, h3, h4, ⟨v1, v2, v3⟩, ⟨t1, t2⟩, h7, h8⟩ := h
  have cd : cdE O P L M M' := fun i _ => ⟨by rw [eO], by rw [eP]⟩
  have nn : ∀ x, x < rcn s.1 → ns x = ns x ∧ ef x = ef x := fun _ _ => ⟨rfl, rfl⟩
  refine ⟨L, ns, sf, ef, by rw [ep]; exact h1, h2, h3.cg (ei 6 (by decide) (by decide)) (ei 7 (by decide) (by decide)) (ei 8 (by decide) (by decide)) eO eP, h4, ⟨v1, fun v x hx => ?_, v3⟩, ⟨t1, fun tg htg => ?_⟩, h7, fun c cm hc => ?_⟩
  · rw [ei 3 (by decide) (by decide), ei 4 (by decide) (by decide), ei 5 (by decide) (by decide)]
    exact v2 v x hx
  · obtain ⟨sT, q1, q2⟩ := t2 tg htg
    have := q2.step (l9 := []) (ns' := ns) (ef' := ef) cd (Nat.le_refl L) nn
    rw [List.append_nil] at this
    exact ⟨sT, by rw [ep]; exact q1, this⟩
  · have := (h8 c cm hc).step (l9 := []) (ns' := ns) (ef' := ef) (fun i i1 i2 => ei i (by omega) i2) cd (Nat.le_refl L) (Nat.le_refl _) nn
    rw [List.append_nil] at this
    exact this
theorem Pgm.fc {X9 : xR9} (h : Pgm X9 M p O P) (f : FC Z M M') (pk : PK M z p O P K) (hs : ∀ i, i ≤ 15 → ¬ Z (p + i)) (hO : ¬ Z O) (hP : ¬ Z P) : Pgm X9 M' p O P := by
  have b := pk.2.2.2.1.2.2.2
  have c := pk.2.2.2.2.1
  have ei : ∀ i, i ≤ 15 → mI M' (p + i) = mI M (p + i) := fun i hi => (f.sm (by omega) (hs i hi)).2.2.2
  have ep : mI M' p = mI M p := ei 0 (by decide)
  obtain ⟨γ, c4, n, h1, h2, h3, h4⟩ := h
  exact ⟨γ, c4, n, h1, h2.cgm ep (fun i _ i2 => ei i i2) (f.sm c.2.1 hO).2.2.2 (f.sm c.2.2 hP).2.2.2, by rw [ep]; exact h3, h4⟩
/-- is there a text p, what it counts, what exploring it comes to -/
def Itm (i9 : tI9) (M : mM) (t p O P : Nat) : Prop := mI M t 6 = i9.1 ∧ (mI M t 6 ≠ 0 → mI M p 3 = i9.2.1 ∧ mI M p 7 = i9.2.2.1 ∧ mI M p 12 = i9.2.2.2.1 ∧ Pgm i9.2.2.2.2.1 M p O P)
theorem Itm.fc {i9 : tI9} (h : Itm i9 M t p O P) (f : FC Z M M') (pk : PK M z p O P K) (e6 : mI M' t 6 = mI M t 6) (hs : ∀ i, i ≤ 15 → ¬ Z (p + i)) (hO : ¬ Z O) (hP : ¬ Z P) : Itm i9 M' t p O P := by
  have b := pk.2.2.2.1.2.2.2
  have c := pk.2.2.2.2.1
  have ep : mI M' p = mI M p := (f.sm (show p + 0 < mZ M by omega) (hs 0 (by decide))).2.2.2
  obtain ⟨h1, h2⟩ := h
  refine ⟨by rw [e6]; exact h1, fun u => ?_⟩
  rw [e6] at u
  obtain ⟨a1, a2, a3, a4⟩ := h2 u
  rw [ep]
  exact ⟨a1, a2, a3, a4.fc f pk hs hO hP⟩
theorem PK.lt (h : PK M z p O P K) : p < mZ M := by
  have a := h.2.2.2.1.2.2.2
  have b := h.2.2.2.2.1.1
  omega
/-- the text's side: tape, words, reader, programs -/
def Tx (c9 : tG9) (t T Kt N A B D Cw p O P K p' O' P' K' Ab Be Cm : Nat) (M : mM) : Prop := (mR M t 2 = t + 2 ∧ mR M t 3 = t + 7 ∧ mR M t 4 = p ∧ mR M t 5 = p') ∧ Tap c9.1 M t T Kt N ∧ WB M (t + 2) A B D Cw ∧ TZ M (t + 236) (t + 7) p' O' P' K' Ab Be Cm ∧ PK M (t + 236) p O P K ∧ ((p = t + 30 ∧ p' = t + 46) ∨ (p = t + 46 ∧ p' = t + 30)) ∧ (mI M t 6 ≠ 0 → ∃ (V F : Nat) (ns : Nat → Int) (sf ef : Nat → Nat) (L cnt : Nat), PW M (t + 236) p O P K V F ns sf ef L cnt) ∧ Itm c9.2 M t p O P
theorem Tx.fc {c9 : tG9} (h : Tx c9 t T Kt N A B D Cw p O P K p' O' P' K' Ab Be Cm M) (o : mOk M') (f : FC Z M M') (hz : ∀ x, t + 2 ≤ x → x < t + 62 → ¬ Z x) (nT : ¬ Z T) (nO : ¬ Z O) (nP : ¬ Z P) (hr : ∀ i, i ≤ 5 → mR M' t i = mR M t i) (i1 : mI M' t 1 = mI M t 1) (i6 : mI M' t 6 = mI M t 6) : Tx c9 t T Kt N A B D Cw p O P K p' O' P' K' Ab Be Cm M' := by
  obtain ⟨h1, h2, h3, h4, h5, h6, h7, h8⟩ := h
  refine ⟨by rw [hr 2 (by decide), hr 3 (by decide), hr 4 (by decide), hr 5 (by decide)]; exact h1, h2.fc f nT (hr 0 (by decide)) i1, h3.fc f (hz _ (by omega) (by omega)), h4.fc o f (fun x a b => hz x (by omega) (by omega)) (hz _ (by omega) (by omega)), h5.fc f (hz _ (by omega) (by omega)), h6, fun u => ?_, h8.fc f h5 i6 (fun i hi => hz _ (by omega) (by omega)) nO nP⟩
  rw [i6] at u
  obtain ⟨V, F, ns, sf, ef, L, cnt, hw⟩ := h7 u
  exact ⟨V, F, ns, sf, ef, L, cnt, hw.fc f (fun i hi => hz _ (by omega) (by omega)) nO nP⟩
/-- an empty game has nothing; a state has at most 60 commands -/
def GG0 (M : mM) (g cn cc bc : Nat) : Prop := (cn = 0 → cc = 0 ∧ bc = 0) ∧ ∀ j, j < cn → mI M (g + 4) (j + 1) ≤ mI M (g + 4) j + 60
/-- the game's side -/
def Gm (t U Ag Bg Cg cn cc bc n : Nat) (M : mM) : Prop := GK M (t + 62) ∧ MK M (t + 236) (t + 72) U Ag Bg Cg ∧ (U = t + 63 ∨ U = t + 73) ∧ (∀ x, x < 60 → mI M (t + 77) x ≤ mI M (t + 72) 9) ∧ (0 ≤ mI M (t + 72) 9 ∧ mI M (t + 72) 9 ≤ 512 * (n : Int)) ∧ GR M (t + 62) cn cc bc ∧ (1 ≤ cn → GS M (t + 62) (cn - 1)) ∧ GG0 M (t + 62) cn cc bc
theorem GR.eq {g : Nat} (h : GR M g cn cc bc) (e : ∀ i, i ≤ 9 ∨ (20 ≤ i ∧ i ≤ 22) → mI M' (g + i) = mI M (g + i)) : GR M' g cn cc bc := by
  rcases h with ⟨a, b⟩ | ⟨a, b⟩
  · have e0 := e 0 (by omega)
    rw [Nat.add_zero] at e0
    exact Or.inl ⟨a, by rw [e0]; exact b⟩
  · exact Or.inr ⟨a, b.eq e⟩
theorem Gm.fc (h : Gm t U Ag Bg Cg cn cc bc n M) (f : FC Z M M') (hz : ∀ x, t + 62 ≤ x → x < t + 85 → ¬ Z x) : Gm t U Ag Bg Cg cn cc bc n M' := by
  obtain ⟨h1, h2, h3, h4, h5, h6, h7, h8⟩ := h
  have z0 := h2.2.2.2.2.2.2.1.1
  have sm : ∀ i, i ≤ 22 → Sm M M' (t + 62 + i) := fun i hi => f.sm (by omega) (hz _ (by omega) (by omega))
  have s0 := sm 0 (by decide)
  rw [Nat.add_zero] at s0
  have e : ∀ i, i ≤ 9 ∨ (20 ≤ i ∧ i ≤ 22) → mI M' (t + 62 + i) = mI M (t + 62 + i) := fun i hi => (sm i (by omega)).2.2.2
  have e77 : mI M' (t + 77) = mI M (t + 77) := (sm 15 (by decide)).2.2.2
  have e72 : mI M' (t + 72) = mI M (t + 72) := (sm 10 (by decide)).2.2.2
  exact ⟨h1.eq2 (fun i hi => ⟨(sm i hi).1, (sm i hi).2.1⟩) (fun i _ => by rw [s0.2.2.1]), h2.fc f (hz _ (by omega) (by omega)), h3, by rw [e77, e72]; exact h4, by rw [e72]; exact h5, h6.eq e, fun u => (h7 u).eq e, h8.1, fun j hj => by rw [e 4 (by omega)]; exact h8.2 j hj⟩
theorem Gm.up (h : Gm t U Ag Bg Cg cn cc bc n M) : Gm t U Ag Bg Cg cn cc bc (n + 1) M := by
  obtain ⟨h1, h2, h3, h4, h5, h6⟩ := h
  exact ⟨h1, h2, h3, h4, ⟨h5.1, by have := h5.2; omega⟩, h6⟩
theorem GK.gk9 {g : Nat} (h : GK M g) : GK9 M g ∧ (mR M g 3 = g + 3 ∧ mN M (g + 3) = 512) := by
  obtain ⟨h1, ⟨-, r2, r3, r4, -, r6, r7, r8, r9, -⟩, ⟨k1, k2, k3, k4, k5, k6, k7, k8, k9, -⟩, ⟨-, n2, n3, n4, -, n6, n7, n8, n9, -⟩⟩ := h
  refine ⟨⟨h1, ⟨r2, r4, r6, r7, r8, r9⟩, fun i i1 i2 => ?_, ⟨n2, n4, n6, n7, n8, n9⟩⟩, r3, n3⟩
  have : i = 1 ∨ i = 2 ∨ i = 3 ∨ i = 4 ∨ i = 5 ∨ i = 6 ∨ i = 7 ∨ i = 8 ∨ i = 9 := by omega
  rcases this with e | e | e | e | e | e | e | e | e <;> subst e <;> assumption
theorem GR.gtt {g : Nat} (h : GR M g cn cc bc) (h0 : GG0 M g cn cc bc) : GTT M g cn cc bc := by
  rcases h with ⟨a, b⟩ | ⟨a, ⟨q1, q2, -⟩, -, -, t1, t2, t3, -, -, t6, -⟩
  · obtain ⟨c1, c2⟩ := h0.1 a
    subst a c1 c2
    exact ⟨⟨by omega, by omega, by omega⟩, fun c hc => absurd hc (by omega), fun j hj => absurd hj (by omega), b⟩
  · refine ⟨⟨q2, t1, t2⟩, t3, fun j hj => ?_, q1⟩
    obtain ⟨x, y, f1, f2, f3, f4⟩ := t6 j (by omega)
    have f5 := h0.2 j hj
    rw [f1, f2] at f5
    exact ⟨x, y, f1, f2, f3, f4, by omega⟩
/-- how many limbs a number may want -/
def Wt (t x : Nat) : Nat := if x < t + 236 then 300 else 17
theorem wt_r : ∀ x, t + 236 ≤ x → 17 ≤ Wt t x ∧ Wt t x ≤ 20000 := fun x hx => by unfold Wt; rw [if_neg (by omega)]; decide
theorem wt_s : ∀ x, t + 85 ≤ x → x ≤ t + 85 + 134 → 300 ≤ Wt t x := fun x _ hx => by unfold Wt; rw [if_pos (by omega)]; decide
/-- the numbers' side: Z its cells -/
def Ns (Z : Nat → Prop) (t : Nat) (Ls : List Nat) (v R k : Nat → Nat) (cn cc bc : Nat) (M : mM) : Prop := Nms Ls (Wt t) (t + 85) (t + 62) (t + 236) cn cc bc v R k M ∧ Cnu Z Ls (t + 85) v R k M ∧ Tr t v M ∧ mI M (v 2) 1 = 0 ∧ (mI M (v 0) 1 ≠ 0 → Chs M (t + 85) (t + 62) cn) ∧ (t + 228 ∈ Ls ∧ FrL Ls M (t + 230) ∧ Z (t + 230)) ∧ (mK M (t + 235) = 32 ∧ mN M (t + 235) = 400 ∧ Pch M (t + 235)) ∧ ∃ c : Nat, mI M t 18 = ((c : Nat) : Int) ∧ c ≤ 400
theorem Tr.cg (h : Tr t v M) (hk : mK M' t = mK M t) (hr : ∀ i, 9 ≤ i → mR M' t i = mR M t i) (hz : mZ M ≤ mZ M') : Tr t v M' := by
  obtain ⟨h1, h2, h3, h4, h5⟩ := h
  exact ⟨by rw [hk]; exact h1, by rw [hr 9 (by decide), hr 10 (by decide)]; exact h2, by rw [hr 11 (by decide), hr 12 (by decide), hr 13 (by decide), hr 14 (by decide)]; exact h3, by rw [hr 15 (by decide), hr 16 (by decide), hr 17 (by decide)]; exact h4, by omega⟩
theorem Ns.fc (h : Ns Z t Ls v R k cn cc bc M) (o : mOk M') (f : FC Y M M') (hY : ∀ x, Y x → ¬ Z x) (hg : ∀ i, i ≤ 9 → ¬ Y (t + 62 + i)) (hp : ¬ Y (t + 235)) (zp : t + 235 < mZ M) (hr : ∀ i, 9 ≤ i → mR M' t i = mR M t i) (i18 : mI M' t 18 = mI M t 18) : Ns Z t Ls v R k cn cc bc M' ∧ (Pn Ls k M' = Pn Ls k M ∧ Qn Ls k M' = Qn Ls k M) := by
  obtain ⟨h1, h2, h3, h4, h5, ⟨h6, h6', h6z⟩, h7, h8⟩ := h
  have nz : ∀ x, Z x → ¬ Y x := fun x a b => hY x b a
  obtain ⟨N, ks, cps⟩ := h1.off f o (fun x u => nz x (zm_in h2 x u)) hg
  have vI : ∀ i, i < 4 → mI M' (v i) = mI M (v i) := fun i hi => (f.sm (h1.2.1.1 i hi).1.2.2.2.2.1.1.1 (nz _ (h2.2.2.1 i hi).1)).2.2.2
  have sp := f.sm zp hp
  have s30 := f.sm (h1.1.2.2.1 (t + 85 + 30) st30).1 (nz _ (h2.1 _ (by omega) (by omega)))
  have g4 := f.sm (h1.1.2.2.2 4 (by decide)).1 (hg 4 (by decide))
  refine ⟨⟨N, ks.cnu f h2, h3.cg (f.2 t h3.2.2.2.2).1 hr f.1.1, by rw [vI 2 (by decide)]; exact h4, fun u => ?_, ⟨h6, h6'.sm (f.sm h6'.1.2.2 (nz _ h6z)) f.1.1, h6z⟩, by unfold Pch; rw [sp.1, sp.2.1, sp.2.2.2]; exact h7, by rw [i18]; exact h8⟩, pn_cg cps⟩
  rw [vI 0 (by decide)] at u
  exact chs_same (h5 u) s30.2.2.2 g4.2.2.2
end NCU
