/-! The class's reader of texts: translate. -/
section TRR
variable {G : mG} {d z q w T A B D N C n p O P K Ab Be Cm V F c s s' L L' cnt Bn a d0 V1 F1 nw k e s9 S0 wd ix nbr u v i Ab0 Be0 Cm0 Ab1 Be1 Cm1 : Nat} {M0 M M' M1 M2 : mM} {ns ns' ns1 : Nat → Int} {sf ef sf' ef' : Nat → Nat} {H H1 : Nat → Nat} {S R : Nat → Prop}
/-- what translate comes to -/
def tlQ (M0 : mM) (z q w T A B D N C n p O P K Ab0 Be0 Cm0 : Nat) (x : Int) (M' : mM) : Prop := ∃ (Ab Be Cm V F : Nat) (ns : Nat → Int) (sf ef : Nat → Nat) (c cnt L : Nat), TX M' z q w T A B D N C n p O P K Ab Be Cm V F ns sf ef c cnt L ∧ trF M0 q p O P Ab0 Be0 Cm0 M' Ab Be Cm ∧ x = mI M' (q + 1) 3 ∧ (x = 0 → mI M' p 11 ≠ -1 ∧ mI M' p 2 = ((L : Nat) : Int) ∧ L ≤ n)
/-- an item does not stand -/
theorem s_tl_not (h : nstQ z q w T A B D N C n p O P K Ab Be Cm V F ns sf ef c cnt L M) (hf : trF M0 q p O P Ab0 Be0 Cm0 M Ab Be Cm) : mK M q = 3 ∧ mK M (mR M q 0) = 4 ∧ ∀ M93, M93 = mUI M (mR M q 0) 3 1 → mK M93 (mR M93 q 0) = 4 ∧ Ci G y_RR_here d [vr (mR M93 q 0)] M93 (fun x97 M96 => i32 x97 ∧ mOk M96 ∧ (mK M96 (mR M93 q 0) = 4 ∧ ∀ M100, M100 = mUI M96 (mR M93 q 0) 4 x97 → tlQ M0 z q w T A B D N C n p O P K Ab0 Be0 Cm0 1 M100)) := by
  obtain ⟨h1, a, a1, a2⟩ := h
  obtain ⟨t0, t1, t2, t3, t4, t5⟩ := h1.1.2.1
  have ap := h1.1.apart
  have qp := h1.1.2.2.2.2.2.1.2.1
  have ne1 : O ≠ q + 1 ∧ P ≠ q + 1 ∧ p ≠ q + 1 ∧ ∀ i, 3 ≤ i → i ≤ 15 → p + i ≠ q + 1 := by
    refine ⟨by omega, by omega, by omega, fun i _ _ => by omega⟩
  clear ap qp
  rw [t1]
  have gen : ∀ {Mx My : mM} {j : Nat} {x : Int}, TX Mx z q w T A B D N C n p O P K Ab Be Cm V F ns sf ef c cnt L → i32 x → My = mUI Mx (q + 1) j x → (j = 3 ∧ x ≠ 0) ∨ j = 4 → TX My z q w T A B D N C n p O P K Ab Be Cm V F ns sf ef c cnt L ∧ FI (txS q p O P) Mx My ∧ (∀ i, mI My (q + 1) i = if i = j then x else mI Mx (q + 1) i) := fun {Mx My j x} hx ix e hj => by
    have f : FI (fun y => y = q + 1) Mx My := by rw [e]; exact FI.ui rfl
    have nb : ∀ y, y ≠ q + 1 → mI My y = mI Mx y := fun y hy => f.2.2.2.2.2.2 y hy
    have ir : ∀ i, mI My (q + 1) i = if i = j then x else mI Mx (q + 1) i := fun i => by
      rw [mI_ui _ i e]
      by_cases y : i = j
      · rw [if_pos ⟨rfl, y⟩, if_pos y]
      · rw [if_neg (fun t => y t.2), if_neg y]
    have fx : FI (txS q p O P) Mx My := f.mono (fun y hy => Or.inl (by have hy' : y = q + 1 := hy; omega))
    have o : mOk My := by rw [e]; exact mOk_UI hx.1.1.1 ix
    refine ⟨hx.tx o ⟨fx, fun i _ i3 i4 _ _ _ _ _ => by rw [ir, if_neg (by omega)], fun y => ?_, fun i _ _ => nb _ (by omega), fun i _ => by rw [nb p ne1.2.2.1], fun i h3 h15 => nb _ (ne1.2.2.2 i h3 h15), fun i _ => ⟨by rw [nb O ne1.1], by rw [nb P ne1.2.1]⟩⟩ (fun y => by rw [nb _ (by omega)]; exact hx.2.1.2.2.2 y), fx, ir⟩
    rw [ir]
    rcases hj with ⟨j3, x0⟩ | j4
    · rw [if_pos j3.symm]; exact x0
    · rw [if_neg (by omega)]; exact y
  refine ⟨t0, h1.1.1.2.1.1, fun M93 e93 => ?_⟩
  obtain ⟨h93, f93, i93⟩ := gen h1 ⟨by decide, by decide⟩ e93 (Or.inl ⟨rfl, by decide⟩)
  rw [h93.1.2.1.2.1]
  refine ⟨h93.1.1.2.1.1, (s_RR_here h93.1.1 (a := a) (by rw [i93, if_neg (by decide)]; exact a1) a2).mono (fun x97 M96 k => ?_)⟩
  obtain ⟨e96, -, x0, x1⟩ := k
  subst e96
  refine ⟨i32s (by omega) (by omega), h93.1.1.1, h93.1.1.2.1.1, fun M100 e100 => ?_⟩
  obtain ⟨h100, f100, i100⟩ := gen h93 (i32s (by omega) (by omega)) e100 (Or.inr rfl)
  exact ⟨Ab, Be, Cm, V, F, ns, sf, ef, c, cnt, L, h100, (hf.trans (trF.fi f93)).trans (trF.fi f100), by rw [i100, if_neg (by decide), i93, if_pos rfl], fun u => absurd u (by decide)⟩
/-- the loop over the items -/
theorem s_tl41 (hF : FMs G) : ∀ (t i : Nat) (M : mM) (Ab Be Cm V F : Nat) (ns : Nat → Int) (sf ef : Nat → Nat) (c cnt L a : Nat), n + 1 ≤ i + t → i ≤ n + 1 → TX M z q w T A B D N C n p O P K Ab Be Cm V F ns sf ef c cnt L → mI M p 2 = ((L : Nat) : Int) → mI M (q + 1) 2 = ((a : Nat) : Int) → a ≤ n → L ≤ a → mI M (q + 1) 5 = 0 → trF M0 q p O P Ab0 Be0 Cm0 M Ab Be Cm → h_TR_translate_41 G (d + 7) q w i M (tlQ M0 z q w T A B D N C n p O P K Ab0 Be0 Cm0) := by
  intro t
  induction t with
  | zero =>
    intro i M Ab Be Cm V F ns sf ef c cnt L a ht hi h hp ha han hLa hd hf
    have hN : n ≤ 16384 := by have := h.1.1.2.2.2.1.2.2.1; have := h.1.1.2.2.2.1.1.2.2.2.2.2.2.1; omega
    obtain ⟨t0, t1, t2, t3, t4, t5⟩ := h.1.2.1
    obtain ⟨⟨w1, ⟨p0, p3, -⟩, -, ⟨kA, -⟩, ⟨cA, -⟩, w6, w7, w8, -⟩, w2, hnN, hw, hA, -⟩ := id h.1.1.2.2.2.1
    refine k_TR_translate_41 h.1.1.1 (i32s (by omega) (by omega)) ?_
    rw [w2, t1, t3, w6]
    refine ⟨w1, fun y => absurd y (by omega), fun _ => ⟨t0, h.1.1.2.2.2.2.1.1, fun y => ⟨h.1.1.2.1.1, (s_tx_note (x := 10) (i32s (by omega) (by omega)) (by omega) (i32s (by omega) (by omega)) h).mono (fun M32 k => ?_)⟩, fun y => ?_⟩, fun y => absurd (Or.inl (by omega)) y⟩
    · obtain ⟨o32, h32, x32, u3, u4, u5⟩ := k
      refine ⟨o32, k_TR_translate_248 o32 ⟨h32.1.2.1.1, by rw [h32.1.2.1.2.1]; exact h32.1.1.2.1.1, ?_⟩⟩
      rw [h32.1.2.1.2.1]
      exact ⟨Ab, Be, Cm, V, F, ns, sf, ef, c, cnt, L, h32, hf.trans (trF.fi x32.1), rfl, fun u => absurd u u3⟩
    · refine k_TR_translate_248 h.1.1.1 ⟨t0, by rw [t1]; exact h.1.1.2.1.1, ?_⟩
      rw [t1]
      exact ⟨Ab, Be, Cm, V, F, ns, sf, ef, c, cnt, L, h, hf, rfl, fun _ => ⟨y, hp, by omega⟩⟩
  | succ t ih =>
    intro i M Ab Be Cm V F ns sf ef c cnt L a ht hi h hp ha han hLa hd hf
    have hN : n ≤ 16384 := by have := h.1.1.2.2.2.1.2.2.1; have := h.1.1.2.2.2.1.1.2.2.2.2.2.2.1; omega
    obtain ⟨t0, t1, t2, t3, t4, t5⟩ := h.1.2.1
    obtain ⟨⟨w1, ⟨p0, p3, -⟩, -, ⟨kA, -⟩, ⟨cA, -⟩, w6, w7, w8, -⟩, w2, hnN, hw, hA, -⟩ := id h.1.1.2.2.2.1
    refine k_TR_translate_41 h.1.1.1 (i32s (by omega) (by omega)) ?_
    rw [w2, t1, t3, w6, p3, cA, ha, Int.toNat_natCast]
    have fin : i < n + 1 → ∀ {M1 : mM}, itE M0 z q w T A B D N C n p O P K Ab0 Be0 Cm0 M1 → h_TR_translate_218 G (d + 7) q w i M1 (tlQ M0 z q w T A B D N C n p O P K Ab0 Be0 Cm0) := fun hi1 {M1} hE => by
      obtain ⟨Ab1, Be1, Cm1, V1, F1, ns1, sf1, ef1, c1, cnt1, L1, a1, e1, e2, e3, e4, e5, e6, e7⟩ := hE
      refine k_TR_translate_218 e1.1.1.1 (i32s (by omega) (by omega)) ?_
      rw [show ((i : Int) + 1) = ((i + 1 : Nat) : Int) by omega]
      exact ih (i + 1) M1 Ab1 Be1 Cm1 V1 F1 ns1 sf1 ef1 c1 cnt1 L1 a1 (by omega) (by omega) e1 e2 e3 e4 e5 e6 e7
    have nst : ∀ {l4 : Int} {M1 : mM} {cnt1 L1 : Nat}, i32 l4 → nstQ z q w T A B D N C n p O P K Ab Be Cm V F ns sf ef c cnt1 L1 M1 → FI (txS q p O P) M M1 → h_TR_translate_155 G (d + 7) q w i l4 0 M1 (tlQ M0 z q w T A B D N C n p O P K Ab0 Be0 Cm0) := fun {l4 M1 cnt1 L1} il hn fi => k_TR_translate_155 hn.1.1.1.1 (i32s (by omega) (by omega)) il (i32s (by omega) (by omega)) ⟨fun _ => s_tl_not hn (hf.trans (trF.fi fi)), fun y => absurd rfl y⟩
    have itr : ∀ {M1 M2 : mM}, FI (txS q p O P) M M1 → itE M1 z q w T A B D N C n p O P K Ab Be Cm M2 → itE M0 z q w T A B D N C n p O P K Ab0 Be0 Cm0 M2 := fun {M1 M2} fi hE => by
      obtain ⟨Ab1, Be1, Cm1, V1, F1, ns1, sf1, ef1, c1, cnt1, L1, a1, e1, e2, e3, e4, e5, e6, e7⟩ := hE
      exact ⟨Ab1, Be1, Cm1, V1, F1, ns1, sf1, ef1, c1, cnt1, L1, a1, e1, e2, e3, e4, e5, e6, (hf.trans (trF.fi fi)).trans e7⟩
    refine ⟨w1, fun _ => ⟨t0, h.1.1.2.1.1, kA, by omega⟩, fun _ => ⟨t0, h.1.1.2.2.2.2.1.1, fun y => ⟨h.1.1.2.1.1, (s_tx_note (x := 10) (i32s (by omega) (by omega)) (by omega) (i32s (by omega) (by omega)) h).mono (fun M32 k => ?_)⟩, fun y => ?_⟩, fun y => ?_⟩
    · obtain ⟨o32, h32, x32, u3, u4, u5⟩ := k
      refine ⟨o32, k_TR_translate_248 o32 ⟨h32.1.2.1.1, by rw [h32.1.2.1.2.1]; exact h32.1.1.2.1.1, ?_⟩⟩
      rw [h32.1.2.1.2.1]
      exact ⟨Ab, Be, Cm, V, F, ns, sf, ef, c, cnt, L, h32, hf.trans (trF.fi x32.1), rfl, fun u => absurd u u3⟩
    · refine k_TR_translate_248 h.1.1.1 ⟨t0, by rw [t1]; exact h.1.1.2.1.1, ?_⟩
      rw [t1]
      exact ⟨Ab, Be, Cm, V, F, ns, sf, ef, c, cnt, L, h, hf, rfl, fun _ => ⟨y, hp, by omega⟩⟩
    · have i1n : i < n + 1 := by
        by_cases u : ((n : Int) + 1 ≤ i)
        · exact absurd (Or.inl u) y
        · omega
      have y0 : mI M A a ≠ 0 := fun u => y (Or.inr u)
      have an : a < n := by
        have : a ≠ n := fun u => y0 (by rw [u]; exact hA)
        omega
      have il := (h.1.1.1 A a).1
      have fin' := fun {M1 : mM} => fin i1n (M1 := M1)
      clear fin y
      refine ⟨t0, h.1.1.2.1.1, kA, by omega, fun y5 => ?_, fun y5 => ⟨fun y12 => ?_, fun y12 => ⟨fun y8 => ?_, fun y8 => ⟨fun y4 => ?_, fun y4 => ?_⟩⟩⟩⟩
      · refine (s_TR_readVar h ha an hp hLa hd).mono (fun x M1 k => ?_)
        obtain ⟨f1, k1⟩ := k
        rcases k1 with ⟨e, u⟩ | ⟨e, h1, s, a', nw, u1, u2, u3⟩
        · rw [e]
          exact ⟨⟨by decide, by decide⟩, u.1.1.1.1, nst il u f1⟩
        · rw [e]
          refine ⟨⟨by decide, by decide⟩, h1.1.1.1, k_TR_translate_155 h1.1.1.1 (i32s (by omega) (by omega)) il (i32s (by omega) (by omega)) ⟨fun t => absurd t (by decide), fun _ => ⟨fun _ => ⟨h1.1.2.1.1, (s_TR_settleVar hF h1 u1 u2 u3).mono (fun M2 k => ?_)⟩, fun t => absurd y5 t⟩⟩⟩
          have hE := itr f1 k
          exact ⟨by obtain ⟨_, _, _, _, _, _, _, _, _, _, _, _, e1, -⟩ := hE; exact e1.1.1.1, fin' hE⟩
      · refine (s_TR_readTarget h ha an hp hLa hd).mono (fun x M1 k => ?_)
        obtain ⟨f1, k1⟩ := k
        rcases k1 with ⟨e, L1, u⟩ | ⟨e, L1, a', h1, u1, u2, u3, u4, u5⟩
        · rw [e]
          exact ⟨⟨by decide, by decide⟩, u.1.1.1.1, nst il u f1⟩
        · rw [e]
          exact ⟨⟨by decide, by decide⟩, h1.1.1.1, k_TR_translate_155 h1.1.1.1 (i32s (by omega) (by omega)) il (i32s (by omega) (by omega)) ⟨fun t => absurd t (by decide), fun _ => ⟨fun t => absurd t y5, fun _ => ⟨fun t => absurd t (by omega), fun _ => fin' ⟨Ab, Be, Cm, V, F, ns, sf, ef, c, cnt, L1, a', h1, u1, u2, u3, u4, u5, hf.trans (trF.fi f1)⟩⟩⟩⟩⟩
      · refine (s_TR_readCommand il h ha an hp hLa hd).mono (fun x M1 k => ?_)
        obtain ⟨f1, k1⟩ := k
        rcases k1 with ⟨e, L1, cnt1, u⟩ | ⟨e, L1, cnt1, a', h1, u1, u2, u3, u4, u5⟩
        · rw [e]
          exact ⟨⟨by decide, by decide⟩, u.1.1.1.1, nst il u f1⟩
        · rw [e]
          exact ⟨⟨by decide, by decide⟩, h1.1.1.1, k_TR_translate_155 h1.1.1.1 (i32s (by omega) (by omega)) il (i32s (by omega) (by omega)) ⟨fun t => absurd t (by decide), fun _ => ⟨fun t => absurd t y5, fun _ => ⟨fun t => absurd t (by omega), fun _ => fin' ⟨Ab, Be, Cm, V, F, ns, sf, ef, c, cnt1, L1, a', h1, u1, u2, u3, u4, u5, hf.trans (trF.fi f1)⟩⟩⟩⟩⟩
      · refine (s_TR_readNamed y4 h ha an hp hLa hd).mono (fun x M1 k => ?_)
        obtain ⟨f1, k1⟩ := k
        rcases k1 with ⟨e, u⟩ | ⟨e, h1, u0, e', a', nw, H, u1, u2, u3, u4, u5, u6, u7, u8, u9, u10, u11⟩
        · rw [e]
          exact ⟨⟨by decide, by decide⟩, u.1.1.1.1, fun _ => nst il u f1, fun t => absurd rfl t⟩
        · rw [e]
          refine ⟨⟨by decide, by decide⟩, h1.1.1.1, fun t => absurd t (by decide), fun _ => k_TR_translate_155 h1.1.1.1 (i32s (by omega) (by omega)) il (i32s (by omega) (by omega)) ⟨fun t => absurd t (by decide), fun _ => ⟨fun t => absurd t y5, fun _ => ⟨fun _ => ⟨h1.1.2.1.1, (s_TR_settleNamed hF y4 h1 u0 u1 u2 u3 u4 u5 u6 ⟨u7, u8, u9⟩ u10 u11).mono (fun M2 k => ?_)⟩, fun t => absurd y4 t⟩⟩⟩⟩
          have hE := itr f1 k
          exact ⟨by obtain ⟨_, _, _, _, _, _, _, _, _, _, _, _, e1, -⟩ := hE; exact e1.1.1.1, fin' hE⟩
      · exact nst il ⟨h, a, ha, han⟩ FI.refl
end TRR
