section
/-! The class's top: its pieces, and what leaves them alone. -/
section NCU
variable {G : mG} {d t z q w x m n cn cc bc T Kt N A B D Cw p O P K p' O' P' K' Ab Be Cm U Ag Bg Cg V F L cnt : Nat} {M M' M1 : mM} {Z Y : Nat → Prop} {ns : Nat → Int} {sf ef : Nat → Nat} {v R k : Nat → Nat} {Ls : List Nat} {W : Nat → Nat} {c9 c8 : Nat → Int}
/-- the same memory with the old longs -/
def noL (M M' : mM) : mM := (mK M', mN M', mI M', (fun x j => if x < mZ M then mL M x j else mL M' x j), mR M', mZ M', mS M')
theorem FC.fa (h : FC Z M M') : FA Z Z M (noL M M') := by
  refine ⟨h.1, fun x hx => ⟨(h.2 x hx).1, (h.2 x hx).2.1, ?_, fun nz => ((h.2 x hx).2.2 nz).2.1, fun nz => ((h.2 x hx).2.2 nz).2.2⟩⟩
  funext j
  show (if x < mZ M then mL M x j else mL M' x j) = _
  rw [if_pos hx]
theorem PK.fc (h : PK M z p O P K) (f : FC Z M M') (np : ¬ Z p) : PK M' z p O P K := by
  have q : PK (noL M M') z p O P K := h.fa f.fa np
  exact q
theorem PW.fc (h : PW M z p O P K V F ns sf ef L cnt) (f : FC Z M M') (hs : ∀ i, i ≤ 15 → ¬ Z (p + i)) (hO : ¬ Z O) (hP : ¬ Z P) : PW M' z p O P K V F ns sf ef L cnt := by
  have q : PW (noL M M') z p O P K V F ns sf ef L cnt := h.fa f.fa (hs 0 (by decide)) hs hO hP
  exact q
theorem Tap.fc (h : Tap c9 M t T Kt N) (f : FC Z M M') (nT : ¬ Z T) (r0 : mR M' t 0 = mR M t 0) (i1 : mI M' t 1 = mI M t 1) : Tap c9 M' t T Kt N := by
  obtain ⟨⟨h1, h2, h3⟩, ⟨h4, h5⟩, ⟨h6, h7, h8⟩, h9, h10⟩ := h
  have e := f.sm h8 nT
  have := f.1.1
  exact ⟨⟨by rw [(f.2 t h7).1]; exact h1, by rw [r0]; exact h2, by rw [i1]; exact h3⟩, ⟨by rw [e.1]; exact h4, by rw [e.2.1]; exact h5⟩, ⟨h6, by omega, by omega⟩, h9, fun j hj => by rw [e.2.2.2]; exact h10 j hj⟩
theorem WB.fc (h : WB M w A B D Cw) (f : FC Z M M') (nw : ¬ Z w) : WB M' w A B D Cw := by
  obtain ⟨h1, h2, ⟨h3, h4, h5⟩, ⟨h6, h7, h8⟩, h9, ⟨z1, z2, z3, z4⟩, h10⟩ := h
  have := f.1.1
  have e := f.sm z1 nw
  exact ⟨by rw [e.1]; exact h1, by rw [e.2.2.1]; exact h2, ⟨by rw [(f.2 A z2).1]; exact h3, by rw [(f.2 B z3).1]; exact h4, by rw [(f.2 D z4).1]; exact h5⟩, ⟨by rw [(f.2 A z2).2.1]; exact h6, by rw [(f.2 B z3).2.1]; exact h7, by rw [(f.2 D z4).2.1]; exact h8⟩, h9, ⟨by omega, by omega, by omega, by omega⟩, h10⟩
theorem MK.fc (h : MK M z m U Ab Be Cm) (f : FC Z M M') (nm : ¬ Z m) : MK M' z m U Ab Be Cm := by
  have mz : m < mZ M := by
    have a := h.2.2.2.2.2.1.2.2.2
    have b := h.2.2.2.2.2.2.1.1
    omega
  have e := f.sm mz nm
  exact h.eq2 (fun x hx => ⟨(f.2 x hx).1, (f.2 x hx).2.1⟩) (fun i _ => by rw [e.2.2.1]) (by rw [e.2.2.2]) f.1.1
theorem TZ.fc (h : TZ M z q p O P K Ab Be Cm) (o : mOk M') (f : FC Z M M') (hq : ∀ x, q ≤ x → x ≤ q + 22 → ¬ Z x) (np : ¬ Z p) : TZ M' z q p O P K Ab Be Cm := by
  obtain ⟨-, h2, h3, h4, h5, h6, h7, h8, h9⟩ := h
  have zz := h6.2.2.2.2.1.1
  have sm : ∀ i, i ≤ 22 → Sm M M' (q + i) := fun i hi => f.sm (by omega) (hq _ (by omega) (by omega))
  have s0 := sm 0 (by decide)
  rw [Nat.add_zero] at s0
  refine ⟨o, h2.eq2 (fun i hi => ?_) (fun i _ => by rw [(sm 1 (by decide)).2.2.1]), by rw [s0.1, s0.2.2.1]; exact h3, by rw [(sm 21 (by decide)).1, (sm 22 (by decide)).1, (sm 21 (by decide)).2.1, (sm 22 (by decide)).2.1]; exact h4, h5.fc f (hq _ (by omega) (by omega)), h6.fc f np, h7, h8, fun j => by rw [(sm 6 (by decide)).2.2.2]; exact h9 j⟩
  have := sm (1 + i) (by omega)
  rw [← Nat.add_assoc] at this
  exact ⟨this.1, this.2.1⟩
/-- the program tells a game, whose exploration comes to X9 -/
def Pgm (X9 : xR9) (M : mM) (p O P : Nat) : Prop := ∃ (γ : gW9) (c4 : Nat × Nat × Nat × Nat) (n : Nat), NqO γ.1 γ.2.2.1 n ∧ CGm M p O P γ.1 γ.2.1 γ.2.2.1 γ.2.2.2.1 γ.2.2.2.2.1 n (γ.2.2.2.2.2.1, c4, ((0 : Int), (0 : Int))) γ.2.2.2.2.2.2 ∧ (mI M p 3 = ((vcn γ.2.2.2.2.2.1 : Nat) : Int) ∧ rcn γ.2.2.2.2.2.1 ≤ 60 ∧ mI M p 12 = ((c4.2.2.1 : Nat) : Int) ∧ c4.2.2.2 ≠ 0) ∧ X9 = XpG γ
theorem CGm.cgm {O P n Nn : Nat} {W pl nq : Nat → Int} {sm : Nat → Nat → Prop} {s : st9} {g : gm9} (h : CGm M p O P W pl nq sm Nn n s g) (ep : mI M' p = mI M p) (ei : ∀ i, 3 ≤ i → i ≤ 15 → mI M' (p + i) = mI M (p + i)) (eO : mI M' O = mI M O) (eP : mI M' P = mI M P) : CGm M' p O P W pl nq sm Nn n s g := by
  obtain ⟨L, ns, sf, ef, h1, h2, h3, h4, ⟨v1, v2, v3⟩, ⟨t1, t2⟩, h7, h8⟩ := h
  have cd : cdE O P L M M' := fun i _ => ⟨by rw [eO], by rw [eP]⟩
  have nn : ∀ x, x < rcn s.1 → ns x = ns x ∧ ef x = ef x := fun _ _ => ⟨rfl, rfl⟩
  refine ⟨L, ns, sf, ef, by rw [ep]; exact h1, h2, h3.cg (ei 6 (by decide) (by decide)) (ei 7 (by decide) (by decide)) (ei 8 (by decide) (by decide)) eO eP, h4, ⟨v1, fun v x hx => ?_, v3⟩, ⟨t1, fun tg htg => ?_⟩, h7, fun c cm hc => ?_⟩
  · rw [ei 3 (by decide) (by decide), ei 4 (by decide) (by decide), ei 5 (by decide) (by decide)]
    exact v2 v x hx
  · obtain ⟨sT, q1, q2⟩ := t2 tg htg
    have := q2.step (l9 := []) (ns' := ns) (ef' := ef) cd (Nat.le_refl L) nn
    rw [List.append_nil] at this
    exact ⟨sT, by rw [ep]; exact q1, this⟩
  · have := (h8 c cm hc).step (l9 := []) (ns' := ns) (ef' := ef) (fun i i1 i2 => ei i (by omega) i2) cd (Nat.le_refl L) (Nat.le_refl _) nn
    rw [List.append_nil] at this
    exact this
theorem Pgm.fc {X9 : xR9} (h : Pgm X9 M p O P) (f : FC Z M M') (pk : PK M z p O P K) (hs : ∀ i, i ≤ 15 → ¬ Z (p + i)) (hO : ¬ Z O) (hP : ¬ Z P) : Pgm X9 M' p O P := by
  have b := pk.2.2.2.1.2.2.2
  have c := pk.2.2.2.2.1
  have ei : ∀ i, i ≤ 15 → mI M' (p + i) = mI M (p + i) := fun i hi => (f.sm (by omega) (hs i hi)).2.2.2
  have ep : mI M' p = mI M p := ei 0 (by decide)
  obtain ⟨γ, c4, n, h1, h2, h3, h4⟩ := h
  exact ⟨γ, c4, n, h1, h2.cgm ep (fun i _ i2 => ei i i2) (f.sm c.2.1 hO).2.2.2 (f.sm c.2.2 hP).2.2.2, by rw [ep]; exact h3, h4⟩
/-- is there a text p, what it counts, what exploring it comes to -/
def Itm (i9 : tI9) (M : mM) (t p O P : Nat) : Prop := mI M t 6 = i9.1 ∧ (mI M t 6 ≠ 0 → mI M p 3 = i9.2.1 ∧ mI M p 7 = i9.2.2.1 ∧ mI M p 12 = i9.2.2.2.1 ∧ Pgm i9.2.2.2.2.1 M p O P)
theorem Itm.fc {i9 : tI9} (h : Itm i9 M t p O P) (f : FC Z M M') (pk : PK M z p O P K) (e6 : mI M' t 6 = mI M t 6) (hs : ∀ i, i ≤ 15 → ¬ Z (p + i)) (hO : ¬ Z O) (hP : ¬ Z P) : Itm i9 M' t p O P := by
  have b := pk.2.2.2.1.2.2.2
  have c := pk.2.2.2.2.1
  have ep : mI M' p = mI M p := (f.sm (show p + 0 < mZ M by omega) (hs 0 (by decide))).2.2.2
  obtain ⟨h1, h2⟩ := h
  refine ⟨by rw [e6]; exact h1, fun u => ?_⟩
  rw [e6] at u
  obtain ⟨a1, a2, a3, a4⟩ := h2 u
  rw [ep]
  exact ⟨a1, a2, a3, a4.fc f pk hs hO hP⟩
theorem PK.lt (h : PK M z p O P K) : p < mZ M := by
  have a := h.2.2.2.1.2.2.2
  have b := h.2.2.2.2.1.1
  omega
/-- the text's side: tape, words, reader, programs -/
def Tx (c9 : tG9) (t T Kt N A B D Cw p O P K p' O' P' K' Ab Be Cm : Nat) (M : mM) : Prop := (mR M t 2 = t + 2 ∧ mR M t 3 = t + 7 ∧ mR M t 4 = p ∧ mR M t 5 = p') ∧ Tap c9.1 M t T Kt N ∧ WB M (t + 2) A B D Cw ∧ TZ M (t + 235) (t + 7) p' O' P' K' Ab Be Cm ∧ PK M (t + 235) p O P K ∧ ((p = t + 30 ∧ p' = t + 46) ∨ (p = t + 46 ∧ p' = t + 30)) ∧ (mI M t 6 ≠ 0 → ∃ (V F : Nat) (ns : Nat → Int) (sf ef : Nat → Nat) (L cnt : Nat), PW M (t + 235) p O P K V F ns sf ef L cnt) ∧ Itm c9.2 M t p O P
theorem Tx.fc {c9 : tG9} (h : Tx c9 t T Kt N A B D Cw p O P K p' O' P' K' Ab Be Cm M) (o : mOk M') (f : FC Z M M') (hz : ∀ x, t + 2 ≤ x → x < t + 62 → ¬ Z x) (nT : ¬ Z T) (nO : ¬ Z O) (nP : ¬ Z P) (hr : ∀ i, i ≤ 5 → mR M' t i = mR M t i) (i1 : mI M' t 1 = mI M t 1) (i6 : mI M' t 6 = mI M t 6) : Tx c9 t T Kt N A B D Cw p O P K p' O' P' K' Ab Be Cm M' := by
  obtain ⟨h1, h2, h3, h4, h5, h6, h7, h8⟩ := h
  refine ⟨by rw [hr 2 (by decide), hr 3 (by decide), hr 4 (by decide), hr 5 (by decide)]; exact h1, h2.fc f nT (hr 0 (by decide)) i1, h3.fc f (hz _ (by omega) (by omega)), h4.fc o f (fun x a b => hz x (by omega) (by omega)) (hz _ (by omega) (by omega)), h5.fc f (hz _ (by omega) (by omega)), h6, fun u => ?_, h8.fc f h5 i6 (fun i hi => hz _ (by omega) (by omega)) nO nP⟩
  rw [i6] at u
  obtain ⟨V, F, ns, sf, ef, L, cnt, hw⟩ := h7 u
  exact ⟨V, F, ns, sf, ef, L, cnt, hw.fc f (fun i hi => hz _ (by omega) (by omega)) nO nP⟩
/-- the game's side -/
def Gm (t U Ag Bg Cg cn cc bc n : Nat) (M : mM) : Prop := GK M (t + 62) ∧ MK M (t + 235) (t + 72) U Ag Bg Cg ∧ (U = t + 63 ∨ U = t + 73) ∧ (∀ x, x < 60 → mI M (t + 77) x ≤ mI M (t + 72) 9) ∧ (0 ≤ mI M (t + 72) 9 ∧ mI M (t + 72) 9 ≤ 512 * (n : Int)) ∧ GR M (t + 62) cn cc bc ∧ (1 ≤ cn → GS M (t + 62) (cn - 1)) ∧ (cn = 0 → cc = 0 ∧ bc = 0)
theorem GR.eq {g : Nat} (h : GR M g cn cc bc) (e : ∀ i, i ≤ 9 ∨ (20 ≤ i ∧ i ≤ 22) → mI M' (g + i) = mI M (g + i)) : GR M' g cn cc bc := by
  rcases h with ⟨a, b⟩ | ⟨a, b⟩
  · have e0 := e 0 (by omega)
    rw [Nat.add_zero] at e0
    exact Or.inl ⟨a, by rw [e0]; exact b⟩
  · exact Or.inr ⟨a, b.eq e⟩
theorem Gm.fc (h : Gm t U Ag Bg Cg cn cc bc n M) (f : FC Z M M') (hz : ∀ x, t + 62 ≤ x → x < t + 85 → ¬ Z x) : Gm t U Ag Bg Cg cn cc bc n M' := by
  obtain ⟨h1, h2, h3, h4, h5, h6, h7, h8⟩ := h
  have z0 := h2.2.2.2.2.2.2.1.1
  have sm : ∀ i, i ≤ 22 → Sm M M' (t + 62 + i) := fun i hi => f.sm (by omega) (hz _ (by omega) (by omega))
  have s0 := sm 0 (by decide)
  rw [Nat.add_zero] at s0
  have e : ∀ i, i ≤ 9 ∨ (20 ≤ i ∧ i ≤ 22) → mI M' (t + 62 + i) = mI M (t + 62 + i) := fun i hi => (sm i (by omega)).2.2.2
  have e77 : mI M' (t + 77) = mI M (t + 77) := (sm 15 (by decide)).2.2.2
  have e72 : mI M' (t + 72) = mI M (t + 72) := (sm 10 (by decide)).2.2.2
  exact ⟨h1.eq2 (fun i hi => ⟨(sm i hi).1, (sm i hi).2.1⟩) (fun i _ => by rw [s0.2.2.1]), h2.fc f (hz _ (by omega) (by omega)), h3, by rw [e77, e72]; exact h4, by rw [e72]; exact h5, h6.eq e, fun u => (h7 u).eq e, h8⟩
theorem Gm.up (h : Gm t U Ag Bg Cg cn cc bc n M) : Gm t U Ag Bg Cg cn cc bc (n + 1) M := by
  obtain ⟨h1, h2, h3, h4, h5, h6⟩ := h
  exact ⟨h1, h2, h3, h4, ⟨h5.1, by have := h5.2; omega⟩, h6⟩
theorem GK.gk9 {g : Nat} (h : GK M g) : GK9 M g ∧ (mR M g 3 = g + 3 ∧ mN M (g + 3) = 512) := by
  obtain ⟨h1, ⟨-, r2, r3, r4, -, r6, r7, r8, r9, -⟩, ⟨k1, k2, k3, k4, k5, k6, k7, k8, k9, -⟩, ⟨-, n2, n3, n4, -, n6, n7, n8, n9, -⟩⟩ := h
  refine ⟨⟨h1, ⟨r2, r4, r6, r7, r8, r9⟩, fun i i1 i2 => ?_, ⟨n2, n4, n6, n7, n8, n9⟩⟩, r3, n3⟩
  have : i = 1 ∨ i = 2 ∨ i = 3 ∨ i = 4 ∨ i = 5 ∨ i = 6 ∨ i = 7 ∨ i = 8 ∨ i = 9 := by omega
  rcases this with e | e | e | e | e | e | e | e | e <;> subst e <;> assumption
theorem GR.gtt {g : Nat} (h : GR M g cn cc bc) (h0 : cn = 0 → cc = 0 ∧ bc = 0) : GTT M g cn cc bc := by
  rcases h with ⟨a, b⟩ | ⟨a, ⟨q1, q2, -⟩, -, -, t1, t2, t3, -, -, t6, -⟩
  · obtain ⟨c1, c2⟩ := h0 a
    subst a c1 c2
    exact ⟨⟨by omega, by omega, by omega⟩, fun c hc => absurd hc (by omega), fun j hj => absurd hj (by omega), b⟩
  · exact ⟨⟨q2, t1, t2⟩, t3, fun j hj => t6 j (by omega), q1⟩
/-- how many limbs a number may want -/
def Wt (t x : Nat) : Nat := if x < t + 235 then 300 else 17
theorem wt_r : ∀ x, t + 235 ≤ x → 17 ≤ Wt t x ∧ Wt t x ≤ 20000 := fun x hx => by unfold Wt; rw [if_neg (by omega)]; decide
theorem wt_s : ∀ x, t + 85 ≤ x → x ≤ t + 85 + 133 → 300 ≤ Wt t x := fun x _ hx => by unfold Wt; rw [if_pos (by omega)]; decide
/-- the numbers' side: Z its cells -/
def Ns (Z : Nat → Prop) (t : Nat) (Ls : List Nat) (v R k : Nat → Nat) (cn cc bc : Nat) (M : mM) : Prop := Nms Ls (Wt t) (t + 85) (t + 62) (t + 235) cn cc bc v R k M ∧ Cnu Z Ls (t + 85) v R k M ∧ Tr t v M ∧ mI M (v 2) 1 = 0 ∧ (mI M (v 0) 1 ≠ 0 → Chs M (t + 85) (t + 62) cn) ∧ (t + 227 ∈ Ls ∧ FrL Ls M (t + 229) ∧ Z (t + 229)) ∧ (mK M (t + 234) = 32 ∧ mN M (t + 234) = 400 ∧ Pch M (t + 234)) ∧ ∃ c : Nat, mI M t 18 = ((c : Nat) : Int) ∧ c ≤ 400
theorem Tr.cg (h : Tr t v M) (hk : mK M' t = mK M t) (hr : ∀ i, 9 ≤ i → mR M' t i = mR M t i) (hz : mZ M ≤ mZ M') : Tr t v M' := by
  obtain ⟨h1, h2, h3, h4, h5⟩ := h
  exact ⟨by rw [hk]; exact h1, by rw [hr 9 (by decide), hr 10 (by decide)]; exact h2, by rw [hr 11 (by decide), hr 12 (by decide), hr 13 (by decide), hr 14 (by decide)]; exact h3, by rw [hr 15 (by decide), hr 16 (by decide), hr 17 (by decide)]; exact h4, by omega⟩
theorem Ns.fc (h : Ns Z t Ls v R k cn cc bc M) (o : mOk M') (f : FC Y M M') (hY : ∀ x, Y x → ¬ Z x) (hg : ∀ i, i ≤ 9 → ¬ Y (t + 62 + i)) (hp : ¬ Y (t + 234)) (zp : t + 234 < mZ M) (hr : ∀ i, 9 ≤ i → mR M' t i = mR M t i) (i18 : mI M' t 18 = mI M t 18) : Ns Z t Ls v R k cn cc bc M' ∧ (Pn Ls k M' = Pn Ls k M ∧ Qn Ls k M' = Qn Ls k M) := by
  obtain ⟨h1, h2, h3, h4, h5, ⟨h6, h6', h6z⟩, h7, h8⟩ := h
  have nz : ∀ x, Z x → ¬ Y x := fun x a b => hY x b a
  obtain ⟨N, ks, cps⟩ := h1.off f o (fun x u => nz x (zm_in h2 x u)) hg
  have vI : ∀ i, i < 4 → mI M' (v i) = mI M (v i) := fun i hi => (f.sm (h1.2.1.1 i hi).1.2.2.2.2.1.1.1 (nz _ (h2.2.2 i hi).1)).2.2.2
  have sp := f.sm zp hp
  have s30 := f.sm (h1.1.2.2.1 (t + 85 + 30) st30).1 (nz _ (h2.1 _ (by omega) (by omega)))
  have g4 := f.sm (h1.1.2.2.2 4 (by decide)).1 (hg 4 (by decide))
  refine ⟨⟨N, ks.cnu h2, h3.cg (f.2 t h3.2.2.2.2).1 hr f.1.1, by rw [vI 2 (by decide)]; exact h4, fun u => ?_, ⟨h6, h6'.sm (f.sm h6'.1.2.2 (nz _ h6z)) f.1.1, h6z⟩, by unfold Pch; rw [sp.1, sp.2.1, sp.2.2.2]; exact h7, by rw [i18]; exact h8⟩, pn_cg cps⟩
  rw [vI 0 (by decide)] at u
  exact chs_same (h5 u) s30.2.2.2 g4.2.2.2
end NCU
end
section
/-! The class keeps what was explored. -/
section XCD
variable {t g V : Nat} {M M' : mM} {i9 : tI9} {Nn : tP9}
/-- the place, the state and the tables of the states are the same, and whether values are worked out -/
def knF (M M' : mM) (t : Nat) : Prop := mI M' (mR M' t 11) 1 = mI M (mR M t 11) 1
def xcF (M M' : mM) (t : Nat) : Prop := mI M' t 7 = mI M t 7 ∧ mI M' t 8 = mI M t 8 ∧ (∀ i, i ≤ 9 → i ≠ 3 → mI M' (t + 62 + i) = mI M (t + 62 + i)) ∧ knF M M' t
/-- and the tape is as long as it was -/
def sE (M M' : mM) (t : Nat) : Prop := mI M' t 1 = mI M t 1 ∧ xcF M M' t
theorem sE.refl : sE M M t := ⟨rfl, rfl, rfl, fun _ _ _ => rfl, rfl⟩
/-- the same, but for the values -/
def sE0 (M M' : mM) (t : Nat) : Prop := mI M' t 1 = mI M t 1 ∧ mI M' t 7 = mI M t 7 ∧ mI M' t 8 = mI M t 8 ∧ ∀ i, i ≤ 9 → i ≠ 3 → mI M' (t + 62 + i) = mI M (t + 62 + i)
theorem sE0.kn (h : sE0 M M' t) (k : knF M M' t) : sE M M' t := ⟨h.1, h.2.1, h.2.2.1, h.2.2.2, k⟩
theorem xcF.trans {M2 : mM} (h : xcF M M' t) (k : xcF M' M2 t) : xcF M M2 t := ⟨k.1.trans h.1, k.2.1.trans h.2.1, fun i a b => (k.2.2.1 i a b).trans (h.2.2.1 i a b), k.2.2.2.trans h.2.2.2⟩
theorem brl_eq (e8 : mI M' (g + 8) = mI M (g + 8)) (e9 : mI M' (g + 9) = mI M (g + 9)) {a : Nat} : ∀ m, brl M' g a m = brl M g a m
  | 0 => rfl
  | m + 1 => by
    show brl M' g a m ++ [((mI M' (g + 8) (a + m)).toNat, mI M' (g + 9) (a + m))] = brl M g a m ++ [((mI M (g + 8) (a + m)).toNat, mI M (g + 9) (a + m))]
    rw [brl_eq e8 e9 m, e8, e9]
theorem cmmE (e : ∀ i, i ≤ 9 → i ≠ 3 → mI M' (g + i) = mI M (g + i)) (c : Nat) : cmm M' g c = cmm M g c := by
  unfold cmm
  rw [e 5 (by decide) (by decide), e 6 (by decide) (by decide), e 7 (by decide) (by decide), brl_eq (e 8 (by decide) (by decide)) (e 9 (by decide) (by decide))]
theorem xtmE (e : ∀ i, i ≤ 9 → i ≠ 3 → mI M' (g + i) = mI M (g + i)) : ∀ n, xtm M' g n = xtm M g n
  | 0 => rfl
  | n + 1 => by
    show xtm M' g n ++ [stm M' g n] = xtm M g n ++ [stm M g n]
    rw [xtmE e n]
    unfold stm
    rw [e 2 (by decide) (by decide), e 4 (by decide) (by decide), cml_cg (M' := M') (M := M) _ (fun c _ _ => cmmE e c)]
/-- the latest fault's place, explore's state, and what was explored -/
def XC (i9 : tI9) (M : mM) (t : Nat) : Prop := mI M t 7 = i9.2.2.2.2.2.1.1 ∧ (mI M t 8 = i9.2.2.2.2.2.1.2.1 ∧ mI M (mR M t 11) 1 = i9.2.2.2.2.2.1.2.2) ∧ mI M (t + 62) 0 = ((i9.2.2.2.2.2.2.1.length : Nat) : Int) ∧ (i9.2.2.2.2.2.2.1 = [] → i9.2.2.2.2.2.2.2 = []) ∧ (i9.2.2.2.2.2.2.1 ≠ [] → ∃ V : Nat, (V : Int) = i9.2.1 ∧ Sm9 M (t + 62) V i9.2.2.2.2.2.2.1.length = i9.2.2.2.2.2.2.1 ∧ xtm M (t + 62) i9.2.2.2.2.2.2.1.length = i9.2.2.2.2.2.2.2)
theorem XC.tb {S : List (List Int)} {T : xt9} {n : Nat} (h : ∃ V : Nat, (V : Int) = i9.2.1 ∧ Sm9 M (t + 62) V n = S ∧ xtm M (t + 62) n = T) (k : ∀ i, i ≤ 9 → i ≠ 3 → mI M' (t + 62 + i) = mI M (t + 62 + i)) : ∃ V : Nat, (V : Int) = i9.2.1 ∧ Sm9 M' (t + 62) V n = S ∧ xtm M' (t + 62) n = T := by
  obtain ⟨V, h1, h2, h3⟩ := h
  refine ⟨V, h1, ?_, by rw [xtmE k]; exact h3⟩
  unfold Sm9 lsm at h2 ⊢
  rw [k 1 (by decide) (by decide)]
  exact h2
theorem XC.xc (h : XC i9 M t) (k : xcF M M' t) : XC i9 M' t := by
  obtain ⟨h1, h2, h3, h4, h5⟩ := h
  exact ⟨by rw [k.1]; exact h1, ⟨by rw [k.2.1]; exact h2.1, k.2.2.2.trans h2.2⟩, by have := k.2.2.1 0 (by decide) (by decide); rw [Nat.add_zero] at this; rw [this]; exact h3, h4, fun u => XC.tb (h5 u) k.2.2.1⟩
/-- the tape's length, and what was explored -/
def tE (Nn : tP9) (M : mM) (t : Nat) : Prop := mI M t 1 = Nn.1 ∧ XC Nn.2.2 M t
theorem sE.trans (h : sE M M' t) (k : tE Nn M t) : tE Nn M' t := ⟨h.1.trans k.1, k.2.xc h.2⟩
theorem sE.mi (e : mI M' = mI M) (er : mR M' = mR M) : sE M M' t := by
  unfold sE xcF knF
  rw [e, er]
  exact ⟨rfl, rfl, rfl, fun _ _ _ => rfl, rfl⟩
/-- solving: are values worked out -/
theorem XC.kn {k : Int} (h : XC i9 M t) (e : sE0 M M' t) (hk : mI M' (mR M' t 11) 1 = k) : XC (kn9 i9 k) M' t := by
  obtain ⟨h1, h2, h3, h4, h5⟩ := h
  exact ⟨by rw [e.2.1]; exact h1, ⟨by rw [e.2.2.1]; exact h2.1, hk⟩, by have := e.2.2.2 0 (by decide) (by decide); rw [Nat.add_zero] at this; rw [this]; exact h3, h4, fun u => XC.tb (h5 u) e.2.2.2⟩
end XCD
end
section
/-! The class at rest. -/
section NCV
variable {G : mG} {d t x n cn cc bc T Kt N A B D Cw p O P K p' O' P' K' Ab Be Cm U Ag Bg Cg Ps Pc : Nat} {M M' M1 : mM} {Z Y C : Nat → Prop} {v R k : Nat → Nat} {Ls : List Nat} {c9 c8 : tG9}
/-- its cells lie apart: Z the numbers' cells, C all -/
def Ap (Z C : Nat → Prop) (t T A B D O P O' P' Ab Be Ag Bg : Nat) (M : mM) : Prop := (∀ x, (t ≤ x ∧ x < t + 85) ∨ x = t + 234 ∨ x ∈ [T, A, B, D, O, P, O', P', Ab, Be, Ag, Bg] → ¬ Z x) ∧ [T, A, B, D, O, P, O', P', Ab, Be, Ag, Bg].Nodup ∧ ((T = t + 1 ∨ t + 235 ≤ T) ∧ (A = t + 4 ∨ t + 235 ≤ A) ∧ (B = t + 5 ∨ t + 235 ≤ B) ∧ (D = t + 6 ∨ t + 235 ≤ D)) ∧ (∀ x, (t ≤ x ∧ x < t + 235) ∨ Z x ∨ x ∈ [T, A, B, D, O, P, O', P', Ab, Be, Ag, Bg] → C x) ∧ (∀ x, C x → x < mZ M)
/-- the room that it has taken -/
def Rmc (Kt Cw K K' Cm Cg Ps Pc : Nat) (Ls : List Nat) (k : Nat → Nat) (M : mM) : Prop := Ps = 2 * Kt + 6 * Cw + 4 * K + 4 * K' + 4 * Cm + 4 * Cg + Pn Ls k M ∧ Pc = 4 * Kt + 2 * Cw + K + K' + 2 * Cm + 2 * Cg + 64 * Qn Ls k M ∧ Ls.length ≤ 59 + 2 * (k 0 + k 1 + k 2 + k 3)
def CJ (c9 : tG9) (C : Nat → Prop) (n t Ps Pc T Kt N A B D Cw p O P K p' O' P' K' Ab Be Cm U Ag Bg Cg cn cc bc : Nat) (Ls : List Nat) (v R k : Nat → Nat) (Z : Nat → Prop) (M : mM) : Prop := mOk M ∧ Tx c9 t T Kt N A B D Cw p O P K p' O' P' K' Ab Be Cm M ∧ Gm t U Ag Bg Cg cn cc bc n M ∧ Ns Z t Ls v R k cn cc bc M ∧ Ap Z C t T A B D O P O' P' Ab Be Ag Bg M ∧ Rmc Kt Cw K K' Cm Cg Ps Pc Ls k M ∧ (1 ≤ cn → mI M t 6 ≠ 0)
/-- the class between two calls: n calls so far, C its cells, Ps and Pc its room -/
def CI (c9 : tG9) (C : Nat → Prop) (n t Ps Pc : Nat) (M : mM) : Prop := ∃ (T Kt N A B D Cw p O P K p' O' P' K' Ab Be Cm U Ag Bg Cg cn cc bc : Nat) (Ls : List Nat) (v R k : Nat → Nat) (Z : Nat → Prop), CJ c9 C n t Ps Pc T Kt N A B D Cw p O P K p' O' P' K' Ab Be Cm U Ag Bg Cg cn cc bc Ls v R k Z M
/-- what a call leaves behind -/
def cQ0 (c9 : tG9) (C : Nat → Prop) (n t Ps Pc : Nat) (M M' : mM) : Prop := ∃ (C' : Nat → Prop) (Ps' Pc' : Nat), CI c9 C' (n + 1) t Ps' Pc' M' ∧ FC C M M' ∧ (∀ x, C' x → C x ∨ (mZ M ≤ x ∧ x < mZ M')) ∧ mS M' + Ps ≤ mS M + Ps' ∧ 64 * mZ M' + Pc ≤ 64 * mZ M + Pc'
def cQ (c9 : tG9) (C : Nat → Prop) (n t Ps Pc : Nat) (M M' : mM) : Prop := cQ0 c9 C n t Ps Pc M M' ∧ sE M M' t
/-- the table of values is not among what a step may change -/
theorem CJ.knf (h : CJ c9 C n t Ps Pc T Kt N A B D Cw p O P K p' O' P' K' Ab Be Cm U Ag Bg Cg cn cc bc Ls v R k Z M) (r : mR M' t 11 = mR M t 11) (e : mI M' (v 0) 1 = mI M (v 0) 1) : knF M M' t := by
  unfold knF
  rw [r, h.2.2.2.1.2.2.1.2.2.1.1]
  exact e
theorem CJ.vz (h : CJ c9 C n t Ps Pc T Kt N A B D Cw p O P K p' O' P' K' Ab Be Cm U Ag Bg Cg cn cc bc Ls v R k Z M) : Z (v 0) := (h.2.2.2.1.2.1.2.2 0 (by decide)).1
theorem CJ.vfc (h : CJ c9 C n t Ps Pc T Kt N A B D Cw p O P K p' O' P' K' Ab Be Cm U Ag Bg Cg cn cc bc Ls v R k Z M) (f : FC Y M M') (hy : ∀ x, Y x → ¬ Z x) : mI M' (v 0) = mI M (v 0) := (f.sm (h.2.2.2.2.1.2.2.2.2 _ (h.2.2.2.2.1.2.2.2.1 _ (Or.inr (Or.inl h.vz)))) (fun u => hy _ u h.vz)).2.2.2
theorem CJ.up (h : CJ c9 C n t Ps Pc T Kt N A B D Cw p O P K p' O' P' K' Ab Be Cm U Ag Bg Cg cn cc bc Ls v R k Z M) : CJ c9 C (n + 1) t Ps Pc T Kt N A B D Cw p O P K p' O' P' K' Ab Be Cm U Ag Bg Cg cn cc bc Ls v R k Z M := ⟨h.1, h.2.1, h.2.2.1.up, h.2.2.2⟩
theorem CI.same (h : CI c9 C n t Ps Pc M) : cQ c9 C n t Ps Pc M M := by
  obtain ⟨T, Kt, N, A, B, D, Cw, p, O, P, K, p', O', P', K', Ab, Be, Cm, U, Ag, Bg, Cg, cn, cc, bc, Ls, v, R, k, Z, h⟩ := h
  exact ⟨⟨C, Ps, Pc, ⟨T, Kt, N, A, B, D, Cw, p, O, P, K, p', O', P', K', Ab, Be, Cm, U, Ag, Bg, Cg, cn, cc, bc, Ls, v, R, k, Z, h.up⟩, FC.refl, fun x u => Or.inl u, Nat.le_refl _, Nat.le_refl _⟩, sE.refl⟩
theorem CJ.tg (h : CJ c9 C n t Ps Pc T Kt N A B D Cw p O P K p' O' P' K' Ab Be Cm U Ag Bg Cg cn cc bc Ls v R k Z M) : Tg M t (t + 62) cn cc bc := ⟨h.1, ⟨h.2.2.2.1.2.2.1.1, h.2.2.2.1.2.2.1.2.1.1⟩, h.2.2.1.1, h.2.2.1.2.2.2.2.2.1⟩
theorem CI.tg (h : CI c9 C n t Ps Pc M) : ∃ cn cc bc, Tg M t (t + 62) cn cc bc := by
  obtain ⟨T, Kt, N, A, B, D, Cw, p, O, P, K, p', O', P', K', Ab, Be, Cm, U, Ag, Bg, Cg, cn, cc, bc, Ls, v, R, k, Z, h⟩ := h
  exact ⟨cn, cc, bc, h.tg⟩
/-- an answer, and nothing has changed -/
theorem CI.rd {r : Int} (h : CI c9 C n t Ps Pc M) (q : M' = M ∧ i32 r) : i32 r ∧ cQ c9 C n t Ps Pc M M' := by
  rw [q.1]
  exact ⟨q.2, h.same⟩
theorem c_CA_place (h : CI c9 C n t Ps Pc M) : Ci G y_CA_place d [vr t] M (fun r M' => i32 r ∧ cQ c9 C n t Ps Pc M M' ∧ r = mI M t 7) := by
  obtain ⟨cn, cc, bc, q⟩ := h.tg
  exact (s_CA_place q).mono (fun r M' e => ⟨(h.rd ⟨e.1, e.2.1⟩).1, (h.rd ⟨e.1, e.2.1⟩).2, e.2.2⟩)
theorem c_CA_state (h : CI c9 C n t Ps Pc M) : Ci G y_CA_state d [vr t] M (fun r M' => i32 r ∧ cQ c9 C n t Ps Pc M M' ∧ r = mI M t 8) := by
  obtain ⟨cn, cc, bc, q⟩ := h.tg
  exact (s_CA_state q).mono (fun r M' e => ⟨(h.rd ⟨e.1, e.2.1⟩).1, (h.rd ⟨e.1, e.2.1⟩).2, e.2.2⟩)
theorem c_CA_states (h : CI c9 C n t Ps Pc M) : Ci G y_CA_states d [vr t] M (fun r M' => i32 r ∧ cQ c9 C n t Ps Pc M M' ∧ r = mI M (t + 62) 0) := by
  obtain ⟨cn, cc, bc, q⟩ := h.tg
  have c5 := q.2.2.2.cnt.2
  have c0 := q.2.2.2.cnt.1
  refine (s_CA_states q).mono (fun r M' e => ?_)
  have k := h.rd (r := r) ⟨e.1, by rw [e.2]; exact i32s (by omega) (by omega)⟩
  exact ⟨k.1, k.2, by rw [c0]; exact e.2⟩
theorem c_CA_next {l1 l2 : Int} (i1 : i32 l1) (i2 : i32 l2) (h : CI c9 C n t Ps Pc M) : Ci G y_CA_next (d + 2) [vr t, vi l1, vi l2] M (fun r M' => i32 r ∧ cQ c9 C n t Ps Pc M M') := by
  obtain ⟨cn, cc, bc, q⟩ := h.tg
  exact (s_CA_next i1 i2 q).mono (fun r M' e => h.rd e)
theorem c_CA_items {l : Int} (il : i32 l) (h : CI c9 C n t Ps Pc M) : Ci G y_CA_items d [vr t, vi l] M (fun r M' => i32 r ∧ cQ c9 C n t Ps Pc M M' ∧ r = itq c9.2 l) := by
  obtain ⟨T, Kt, N, A, B, D, Cw, p, O, P, K, p', O', P', K', Ab, Be, Cm, U, Ag, Bg, Cg, cn, cc, bc, Ls, v, R, k, Z, j⟩ := id h
  refine (s_CA_items il j.tg ⟨j.2.1.1.2.2.1, j.2.1.2.2.2.2.1.1⟩).mono (fun r M' e => ⟨(h.rd e.1).1, (h.rd e.1).2, ?_⟩)
  obtain ⟨i1, i2⟩ := j.2.1.2.2.2.2.2.2.2
  have e2 := e.2
  unfold itq
  by_cases z : mI M t 6 = 0
  · rw [e2, if_pos z, ← i1, if_pos z]
  · obtain ⟨y1, y2, y3, -⟩ := i2 z
    rw [e2, if_neg z, ← i1, if_neg z, y1, y2, y3]
theorem c_CA_choice {l : Int} (il : i32 l) (h : CI c9 C n t Ps Pc M) : Ci G y_CA_choice (d + 1) [vr t, vi l] M (fun r M' => i32 r ∧ cQ c9 C n t Ps Pc M M') := by
  obtain ⟨T, Kt, N, A, B, D, Cw, p, O, P, K, p', O', P', K', Ab, Be, Cm, U, Ag, Bg, Cg, cn, cc, bc, Ls, v, R, k, Z, j⟩ := id h
  have jn := j.2.2.2.1
  exact (s_CA_choice il j.tg jn.2.2.1.2.1.2 jn.1.1.1.2.1 ⟨jn.2.2.1.2.2.1.1, (jn.1.2.1.1 0 (by decide)).1.1⟩).mono (fun r M' e => h.rd e)
theorem c_CA_rank {l : Int} (il : i32 l) (h : CI c9 C n t Ps Pc M) : Ci G y_CA_rank (d + 1) [vr t, vi l] M (fun r M' => i32 r ∧ cQ c9 C n t Ps Pc M M') := by
  obtain ⟨T, Kt, N, A, B, D, Cw, p, O, P, K, p', O', P', K', Ab, Be, Cm, U, Ag, Bg, Cg, cn, cc, bc, Ls, v, R, k, Z, j⟩ := id h
  have jn := j.2.2.2.1
  exact (s_CA_rank il j.tg jn.2.2.1.2.1.2 jn.1.1.1.2.1 ⟨jn.2.2.1.2.2.1.1, (jn.1.2.1.1 0 (by decide)).1.1⟩).mono (fun r M' e => h.rd e)
theorem c_CA_character {l : Int} (il : i32 l) (h : CI c9 C n t Ps Pc M) : Ci G y_CA_character d [vr t, vi l] M (fun r M' => i32 r ∧ cQ c9 C n t Ps Pc M M') := by
  obtain ⟨T, Kt, N, A, B, D, Cw, p, O, P, K, p', O', P', K', Ab, Be, Cm, U, Ag, Bg, Cg, cn, cc, bc, Ls, v, R, k, Z, j⟩ := id h
  obtain ⟨n1, n2, n3, n4, n5, n6, n7, c, e18, c4⟩ := j.2.2.2.1
  exact (s_CA_character il j.1 n3.1 n3.2.2.2.1.2.2 ⟨n7.1, n7.2.1⟩ e18 c4).mono (fun r M' e => h.rd e)
end NCV
end
