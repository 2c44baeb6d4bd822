section
/-! The class's reader of texts: translate. -/
section TRR
variable {G : mG} {d z q w T A B D N C n p O P K Ab Be Cm V F c s s' L L' cnt Bn a d0 V1 F1 nw k e s9 S0 wd ix nbr u v i Ab0 Be0 Cm0 Ab1 Be1 Cm1 : Nat} {M0 M M' M1 M2 : mM} {ns ns' ns1 : Nat → Int} {sf ef sf' ef' : Nat → Nat} {H H1 : Nat → Nat} {S R : Nat → Prop}
/-- what translate comes to -/
def tlQ (M0 : mM) (z q w T A B D N C n p O P K Ab0 Be0 Cm0 : Nat) (x : Int) (M' : mM) : Prop := ∃ (Ab Be Cm V F : Nat) (ns : Nat → Int) (sf ef : Nat → Nat) (c cnt L : Nat), TX M' z q w T A B D N C n p O P K Ab Be Cm V F ns sf ef c cnt L ∧ trF M0 q p O P Ab0 Be0 Cm0 M' Ab Be Cm ∧ x = mI M' (q + 1) 3 ∧ (x = 0 → mI M' p 11 ≠ -1 ∧ mI M' p 2 = ((L : Nat) : Int) ∧ L ≤ n)
end TRR
end
section
/-! The class's reader of texts: translate, the whole. -/
section TRS
variable {G : mG} {d z q w T A B D N C n p O P K Ab Be Cm V F c s s' L L' cnt Bn a d0 V1 F1 nw k e s9 S0 wd ix nbr u v i Ab0 Be0 Cm0 Ab1 Be1 Cm1 : Nat} {M0 M M' M1 M2 : mM} {ns ns' ns1 : Nat → Int} {sf ef sf' ef' : Nat → Nat} {H H1 : Nat → Nat} {S R : Nat → Prop}
/-- the reader of texts at rest -/
def TZ (M : mM) (z q p O P K Ab Be Cm : Nat) : Prop := mOk M ∧ RK M (q + 1) ∧ (mK M q = 3 ∧ mR M q 0 = q + 1 ∧ mR M q 1 = q + 11 ∧ mR M q 5 = q + 21 ∧ mR M q 6 = q + 22) ∧ (mK M (q + 21) = 30 ∧ mK M (q + 22) = 30 ∧ mN M (q + 21) = 3 ∧ mN M (q + 22) = 3) ∧ MK M z (q + 11) (q + 12) Ab Be Cm ∧ PK M z p O P K ∧ (q + 23 ≤ z ∧ (q + 22 < p ∨ p + 15 < q)) ∧ (O ≠ Ab ∧ O ≠ Be ∧ P ≠ Ab ∧ P ≠ Be) ∧ (∀ j, mI M (q + 6) j = 0 ∨ mI M (q + 6) j = 1)
/-- the words lie apart from it -/
def TZw (M : mM) (q w T A B D p O P Ab Be : Nat) : Prop := ∀ x, (x = w ∨ x = T ∨ x = A ∨ x = B ∨ x = D) → ¬ (q ≤ x ∧ x ≤ q + 22) ∧ ¬ (p ≤ x ∧ x ≤ p + 15) ∧ x ≠ O ∧ x ≠ P ∧ x ≠ Ab ∧ x ≠ Be ∧ x < mZ M
def tzS (q p O P Ab Be : Nat) : Nat → Prop := fun x => (q ≤ x ∧ x ≤ q + 22) ∨ (p ≤ x ∧ x ≤ p + 15) ∨ x = O ∨ x = P ∨ x = Ab ∨ x = Be
def tzR (q p : Nat) : Nat → Prop := fun x => x = q ∨ x = q + 1 ∨ x = q + 11 ∨ x = p
/-- what translate comes to -/
def tzQ (M0 : mM) (z q w T A B D N C n p O0 P0 K0 Ab0 Be0 Cm0 : Nat) (x : Int) (M' : mM) : Prop := ∃ (O P K Ab Be Cm V F : Nat) (ns : Nat → Int) (sf ef : Nat → Nat) (c cnt L : Nat), TX M' z q w T A B D N C n p O P K Ab Be Cm V F ns sf ef c cnt L ∧ FA (tzS q p O0 P0 Ab0 Be0) (tzR q p) M0 M' ∧ (((O = O0 ∧ P = P0) ∨ (mZ M0 ≤ O ∧ mZ M0 ≤ P)) ∧ (Ab = Ab0 ∨ mZ M0 ≤ Ab) ∧ (Be = Be0 ∨ mZ M0 ≤ Be)) ∧ (mS M' + 4 * Cm0 + 4 * K0 ≤ mS M0 + 4 * Cm + 4 * K ∧ 64 * mZ M' + 2 * Cm0 + K0 ≤ 64 * mZ M0 + 2 * Cm + K) ∧ x = mI M' (q + 1) 3 ∧ (x = 0 → mI M' p 11 ≠ -1 ∧ mI M' p 2 = ((L : Nat) : Int) ∧ L ≤ n)
theorem RK.eq2 {r : Nat} (h : RK M r) (v : ∀ i, i ≤ 9 → mK M' (r + i) = mK M (r + i) ∧ mN M' (r + i) = mN M (r + i)) (hr : ∀ i, 8 ≤ i → mR M' r i = mR M r i) : RK M' r := by
  unfold RK at h ⊢
  have v0 := v 0 (by omega)
  rw [Nat.add_zero] at v0
  rw [v0.1, (v 1 (by omega)).1, (v 2 (by omega)).1, (v 3 (by omega)).1, (v 4 (by omega)).1, (v 5 (by omega)).1, (v 6 (by omega)).1, (v 7 (by omega)).1, (v 8 (by omega)).1, (v 9 (by omega)).1, (v 1 (by omega)).2, (v 2 (by omega)).2, (v 3 (by omega)).2, (v 4 (by omega)).2, (v 5 (by omega)).2, (v 6 (by omega)).2, (v 7 (by omega)).2, (v 8 (by omega)).2, (v 9 (by omega)).2, hr 8 (by omega), hr 9 (by omega), hr 10 (by omega), hr 11 (by omega), hr 13 (by omega), hr 15 (by omega), hr 16 (by omega), hr 17 (by omega), hr 18 (by omega)]
  exact h
theorem MK.eq2 {m U : Nat} (h : MK M z m U Ab Be Cm) (hc : ∀ x, x < mZ M → mK M' x = mK M x ∧ mN M' x = mN M x) (hr : ∀ i, 3 ≤ i → mR M' m i = mR M m i) (h4 : mI M' m 4 = mI M m 4) (hz : mZ M ≤ mZ M') : MK M' z m U Ab Be Cm := by
  obtain ⟨e1, e2, e3, e4, e5, ⟨e61, e62, e63, e64⟩, ⟨e7, e8, e9, e10⟩, e11⟩ := h
  have v : ∀ i, i ≤ 9 → mK M' (m + i) = mK M (m + i) ∧ mN M' (m + i) = mN M (m + i) := fun i hi => hc _ (by omega)
  have v0 := v 0 (by omega)
  rw [Nat.add_zero] at v0
  unfold MK
  rw [v0.1, (v 2 (by omega)).1, (v 5 (by omega)).1, (v 6 (by omega)).1, (v 7 (by omega)).1, (v 8 (by omega)).1, (v 9 (by omega)).1, (v 2 (by omega)).2, (v 5 (by omega)).2, (v 6 (by omega)).2, (v 7 (by omega)).2, (v 8 (by omega)).2, (v 9 (by omega)).2, (hc U e10).1, (hc U e10).2, (hc Ab e8).1, (hc Ab e8).2, (hc Be e9).1, (hc Be e9).2, hr 3 (by omega), hr 5 (by omega), hr 6 (by omega), hr 7 (by omega), hr 10 (by omega), hr 11 (by omega), hr 12 (by omega), hr 13 (by omega), hr 14 (by omega), h4]
  exact ⟨e1, e2, e3, e4, e5, ⟨e61, e62, e63, e64⟩, ⟨by omega, by omega, by omega, by omega⟩, e11⟩
theorem tz1 {q p z : Nat} (s1 : q + 23 ≤ z) (s2 : q + 22 < p ∨ p + 15 < q) : q + 1 + 9 < z ∧ (q + 1 + 9 < p ∨ p + 15 < q + 1) := by omega
theorem tz2 {q x : Nat} (y1 : q + 1 ≤ x) (y2 : x ≤ q + 1 + 9) : q ≤ x ∧ x ≤ q + 22 := by omega
theorem tz3 {q p O P O' P' Ab Be x Z : Nat} (hx : x < Z) (hOP : (O' = O ∧ P' = P) ∨ (Z ≤ O' ∧ Z ≤ P')) (y : trS q p O' P' Ab Be x) : tzS q p O P Ab Be x := by
  show (q ≤ x ∧ x ≤ q + 22) ∨ (p ≤ x ∧ x ≤ p + 15) ∨ x = O ∨ x = P ∨ x = Ab ∨ x = Be
  rcases y with y | y
  · rcases y with y | y | y | y | y | y | y
    · omega
    · omega
    · omega
    · omega
    · omega
    · omega
    · omega
  · rcases y with y | y | y | y | y
    · omega
    · omega
    · omega
    · omega
    · omega
theorem tz4 {q p O P Ab Be x : Nat} (y : x = p ∨ x = p + 12 ∨ x = q + 1) : tzS q p O P Ab Be x := by
  show (q ≤ x ∧ x ≤ q + 22) ∨ (p ≤ x ∧ x ≤ p + 15) ∨ x = O ∨ x = P ∨ x = Ab ∨ x = Be
  omega
/-- the start: cells of the reader after begin -/
theorem tz_start {O' P' K' : Nat} (h : TZ M z q p O P K Ab Be Cm) (hw : TZw M q w T A B D p O P Ab Be) (hW : Wf M w T A B D N C n) (ok : mOk M') (f : FA (fun x => x = p ∨ x = p + 12 ∨ x = q + 1) (tzR q p) M M') (pk : PK M' z p O' P' K') (nK : n + 1 ≤ K') (hOP : (O' = O ∧ P' = P) ∨ (mZ M ≤ O' ∧ mZ M ≤ P')) (rr : ∀ i, mR M' (q + 1) i = if i = 1 then p else if i = 0 then w else mR M (q + 1) i) (rq : ∀ i, mR M' q i = if i = 2 then p else mR M q i) (rm : ∀ i, mR M' (q + 11) i = if i = 0 then p else mR M (q + 11) i) (ip : mI M' p 2 = 0 ∧ mI M' p 3 = 0 ∧ mI M' p 7 = 0 ∧ mI M' p 12 = 0 ∧ mI M' p 11 = -1) (i12 : mI M' (p + 12) 0 = 0) (ir : mI M' (q + 1) 2 = 0 ∧ mI M' (q + 1) 3 = 0 ∧ mI M' (q + 1) 5 = 0 ∧ mI M' (q + 1) 19 = 0) : TX M' z q w T A B D N C n p O' P' K' Ab Be Cm 0 0 (fun _ => 0) (fun _ => 0) (fun _ => 0) 0 0 0 := by
  obtain ⟨h1, h2, ⟨q0, q1, q2, q5, q6⟩, h4, h5, h6, ⟨s1, s2⟩, s3, h9⟩ := h
  have zz := f.1.1
  obtain ⟨z0, zA, zB, zU⟩ := h5.2.2.2.2.2.2.1
  obtain ⟨sA, sB, sne, sz⟩ := h5.2.2.2.2.2.1
  obtain ⟨-, -, -, ⟨o1, o2, o3, o4⟩, ⟨pz0, pz1, pz2⟩, -⟩ := id h6
  have bq : ∀ i, i ≤ 22 → q + i < mZ M := fun i hi => by omega
  have bq0 : q < mZ M := by omega
  have nq : ∀ i, i ≤ 22 → q + i ≠ p ∧ q + i ≠ p + 12 := fun i hi => by omega
  have cell : ∀ x, x < mZ M → mK M' x = mK M x ∧ mN M' x = mN M x := fun x hx => ⟨(f.2 x hx).1, (f.2 x hx).2.1⟩
  have iI : ∀ x, x < mZ M → x ≠ p → x ≠ p + 12 → x ≠ q + 1 → mI M' x = mI M x := fun x hx b1 b2 b3 => (f.2 x hx).2.2.2.2 (fun y => y.elim b1 (fun y => y.elim b2 b3))
  have sw : ∀ x, (x = w ∨ x = T ∨ x = A ∨ x = B ∨ x = D) → sm4 M M' x := fun x hx => by
    obtain ⟨u1, u2, u3, u4, u5, u6, u7⟩ := hw x hx
    clear hw hW h5 h6 pk rr rq rm hOP o1 o2 sA sB s2 s3 nq bq
    refine ⟨(cell x u7).1, (cell x u7).2, (f.2 x u7).2.2.2.1 (fun y => ?_), iI x u7 (by omega) (by omega) (by omega)⟩
    have y' : x = q ∨ x = q + 1 ∨ x = q + 11 ∨ x = p := y
    omega
  have rk : RK M' (q + 1) := h2.eq2 (fun i hi => cell _ (by rw [show q + 1 + i = q + (1 + i) by omega]; exact bq _ (by omega))) (fun i hi => by rw [rr, if_neg (by omega), if_neg (by omega)])
  have mk : MK M' z (q + 11) (q + 12) Ab Be Cm := h5.eq2 cell (fun i hi => by rw [rm, if_neg (by omega)]) (by rw [iI (q + 11) (bq 11 (by omega)) (nq 11 (by omega)).1 (nq 11 (by omega)).2 (by omega)]) zz
  have sO : (O' ≠ Ab ∧ O' ≠ Be ∧ P' ≠ Ab ∧ P' ≠ Be) := by
    rcases hOP with ⟨e1, e2⟩ | ⟨e1, e2⟩
    · rw [e1, e2]; exact s3
    · exact ⟨fun u => absurd zA (Nat.not_lt.mpr (by rw [← u]; exact e1)), fun u => absurd zB (Nat.not_lt.mpr (by rw [← u]; exact e1)), fun u => absurd zA (Nat.not_lt.mpr (by rw [← u]; exact e2)), fun u => absurd zB (Nat.not_lt.mpr (by rw [← u]; exact e2))⟩
  have sX := tz1 s1 s2
  refine ⟨⟨⟨ok, rk, ⟨by rw [rr 0]; rfl, by rw [rr 1]; rfl⟩, hW.eq sw, pk, ⟨sX.1, sX.2, fun x hx => ?_⟩, nK⟩, ⟨by rw [(cell q bq0).1]; exact q0, by rw [rq 0]; exact q1, by rw [rq 1]; exact q2, by rw [rq 2]; rfl, by rw [rq 5]; exact q5, by rw [rq 6]; exact q6⟩, by rw [(cell (q + 21) (bq 21 (by decide))).1, (cell (q + 22) (bq 22 (by decide))).1, (cell (q + 21) (bq 21 (by decide))).2, (cell (q + 22) (bq 22 (by decide))).2]; exact h4, mk, by rw [rm 0]; rfl, ⟨s1, s2, fun x hx => ?_⟩, sO⟩, ⟨⟨ip.2.1, Nat.zero_le _⟩, ⟨ip.2.2.1, Nat.zero_le _⟩, ⟨ir.2.2.2, Nat.zero_le _, fun i hi => absurd hi (Nat.not_lt_zero _)⟩, fun j => by rw [iI (q + 6) (bq 6 (by decide)) (nq 6 (by decide)).1 (nq 6 (by decide)).2 (by omega)]; exact h9 j⟩, ⟨ip.2.2.2.1, Nat.zero_le _⟩, fun _ => ⟨0, i12, fun x hx => absurd hx (Nat.not_lt_zero _), Or.inl ip.2.2.2.2, fun j hj => absurd hj (Nat.not_lt_zero _), i12, fun j hj => absurd hj (Nat.not_lt_zero _), ⟨0, i12, Nat.le_refl _, Nat.zero_le _⟩, fun b hb => absurd hb (Nat.not_lt_zero _)⟩⟩
  · obtain ⟨u1, u2, u3, u4, u5, u6, u7⟩ := hw x hx
    intro y
    rcases y with ⟨y1, y2⟩ | y | y | y
    · exact u1 (tz2 y1 y2)
    · exact u2 y
    · rcases hOP with ⟨e1, -⟩ | ⟨e1, -⟩
      · exact u3 (y.trans e1)
      · exact absurd u7 (Nat.not_lt.mpr (by rw [y]; exact e1))
    · rcases hOP with ⟨-, e1⟩ | ⟨-, e1⟩
      · exact u4 (y.trans e1)
      · exact absurd u7 (Nat.not_lt.mpr (by rw [y]; exact e1))
  · obtain ⟨u1, u2, u3, u4, u5, u6, u7⟩ := hw x hx
    exact ⟨u1, u5, u6, Nat.lt_of_lt_of_le u7 zz⟩
theorem hmono_41 {l3 : Int} {Q Q' : Int → mM → Prop} (h : h_TR_translate_41 G d q w l3 M Q) (hq : ∀ x M', Q x M' → Q' x M') : h_TR_translate_41 G d q w l3 M Q' := by
  unfold h_TR_translate_41 at h ⊢
  exact mWm.mono h (fun r M' k => by
    obtain ⟨x, e, t⟩ := k
    exact ⟨x, e, hq x M' t⟩)
end TRS
end
