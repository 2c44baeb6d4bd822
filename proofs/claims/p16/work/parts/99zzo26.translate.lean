/-! The class's reader of texts, exactly: translate. -/
section TYA
variable {G : mG} {d z q w T A B D N C n p O P K Ab Be Cm V F c s0 L cnt a k e i f Nn Ab0 Be0 Cm0 : Nat} {M0 M M' M1 M2 : mM} {ns : Nat → Int} {sf ef : Nat → Nat} {W pl nq : Nat → Int} {sm : Nat → Nat → Prop} {s s' R : st9} {g Rg : gm9}
theorem TP.wtr (h : TP M z q w T A B D N C n p O P K Ab Be Cm) (f : FA (trS q p O P Ab Be) (fun x => x = q + 11) M M') (wt : WTq M T A B D n W pl nq sm) : WTq M' T A B D n W pl nq sm := by
  have key : ∀ x, (x = w ∨ x = T ∨ x = A ∨ x = B ∨ x = D) → mI M' x = mI M x := fun x hx => by
    have ap := h.apart
    obtain ⟨⟨-, -, -, -, -, b6, -⟩, -, -, -, -, ⟨-, -, s3⟩, -⟩ := h
    obtain ⟨u1, u2, u3, u4⟩ := s3 x hx
    have v := b6.2.2 x hx
    refine (f.2 x u4).2.2.2.2 (fun y => ?_)
    rcases y with y | y
    · exact t6a u1 v y
    · exact u7e u1 u2 u3 y
  exact wt.cg (key T (Or.inr (Or.inl rfl))) (key A (Or.inr (Or.inr (Or.inl rfl)))) (key B (Or.inr (Or.inr (Or.inr (Or.inl rfl))))) (key D (Or.inr (Or.inr (Or.inr (Or.inr rfl)))))
theorem itE.fa (h : itE M0 z q w T A B D N C n p O P K Ab0 Be0 Cm0 M') : FA (trS q p O P Ab0 Be0) (fun x => x = q + 11) M0 M' := by
  obtain ⟨_, _, _, _, _, _, _, _, _, _, _, _, -, -, -, -, -, -, h⟩ := h
  exact h.1
theorem rc50 (h : W a = 0) : Rc W [50] a [] (a + 1) := Rc.one (mst_n (by decide) (by decide) (ys := []) (t := 1) (by
  show ex50 (W a) = _
  unfold ex50
  rw [if_pos h]) (Or.inl (by decide)))
theorem rf50 (h : 0 ≤ W a ∧ W a ≤ 39) (h0 : W a ≠ 0) (h4 : W a ≠ 4) (h11 : W a ≠ 11) (h7 : ¬ (W a = 7 ∨ W a = 8)) (h3 : ¬ (W a = 3 ∨ W a = 6)) : Rf W [50] a a := Rf.of (mst_no (by decide) (by decide) (by
  show ex50 (W a) = _
  unfold ex50
  rw [if_neg h0, if_neg h3, if_neg h4, if_neg h7, if_neg h11]))
/-- the items so far: i of them, the next begins at a -/
def tlJ (T A B D n O P : Nat) (W pl nq : Nat → Int) (sm : Nat → Nat → Prop) (Nn q p : Nat) (R : st9) (Rg : gm9) (i a : Nat) (M : mM) : Prop := WTq M T A B D n W pl nq sm ∧ Rc W [50] 0 [50] a ∧ i ≤ a ∧ ∃ (s : st9) (g : gm9), itZ q p s M ∧ (s.2.2.1 = 0 → R = its9 W pl nq sm Nn 60 (Nn - i) a s) ∧ (s.2.2.1 ≠ 0 → R.2.2 = s.2.2) ∧ (s.2.2.1 = 0 → CGm M p O P W pl nq sm Nn n s g) ∧ (s.2.2.1 = 0 → Rg = igs9 W pl nq sm Nn 60 (Nn - i) a s g)
theorem igs_next (f0 : s.2.2.1 = 0) (h1 : s.2.2.1 = 0 → Rg = igs9 W pl nq sm Nn 60 (Nn - i) a s g) (wa : W a ≠ 0) (nx : nxq W 34 Nn a = e) (hi : i < Nn) (hz : (sN W pl nq sm Nn a s).2.2.1 = 0) : Rg = igs9 W pl nq sm Nn 60 (Nn - (i + 1)) (e + 1) (sN W pl nq sm Nn a s) (igm9 W pl nq sm Nn s.1 a g) := by
  have r := h1 f0
  obtain ⟨f, hf⟩ : ∃ f, Nn - i = f + 1 := ⟨Nn - i - 1, by omega⟩
  have hf2 : Nn - (i + 1) = f := by omega
  have es : sN W pl nq sm Nn a s = ite9 W pl nq sm Nn 60 a s := if_neg (fun u => u f0)
  rw [hf, igs9, if_neg (fun u => u f0), if_neg wa, nx, ← es, if_neg (fun u => u hz)] at r
  rw [hf2]
  exact r
theorem igs_over (h1 : s.2.2.1 = 0 → Rg = igs9 W pl nq sm Nn 60 (Nn - i) a s g) (f0 : s.2.2.1 = 0) (wa : W a = 0) (hi : i < Nn) : Rg = g := by
  have r := h1 f0
  obtain ⟨f, hf⟩ : ∃ f, Nn - i = f + 1 := ⟨Nn - i - 1, by omega⟩
  rw [hf, igs9, if_neg (fun u => u f0), if_pos wa] at r
  exact r
theorem its_next (h1 : s.2.2.1 = 0 → R = its9 W pl nq sm Nn 60 (Nn - i) a s) (h2 : s.2.2.1 ≠ 0 → R.2.2 = s.2.2) (wa : W a ≠ 0) (nx : nxq W 34 Nn a = e) (hi : i < Nn) : ((sN W pl nq sm Nn a s).2.2.1 = 0 → R = its9 W pl nq sm Nn 60 (Nn - (i + 1)) (e + 1) (sN W pl nq sm Nn a s)) ∧ ((sN W pl nq sm Nn a s).2.2.1 ≠ 0 → R.2.2 = (sN W pl nq sm Nn a s).2.2) := by
  by_cases f0 : s.2.2.1 = 0
  · have r := h1 f0
    obtain ⟨f, hf⟩ : ∃ f, Nn - i = f + 1 := ⟨Nn - i - 1, by omega⟩
    have hf2 : Nn - (i + 1) = f := by omega
    have es : sN W pl nq sm Nn a s = ite9 W pl nq sm Nn 60 a s := if_neg (fun u => u f0)
    rw [hf, its9, if_neg (fun u => u f0), if_neg wa, nx, ← es] at r
    rw [hf2]
    refine ⟨fun _ => r, fun u => ?_⟩
    have r2 : its9 W pl nq sm Nn 60 f (e + 1) (sN W pl nq sm Nn a s) = sN W pl nq sm Nn a s := by
      cases f with
      | zero => rfl
      | succ f => rw [its9, if_pos u]
    rw [r, r2]
  · rw [sN_n f0]
    exact ⟨fun u => absurd u f0, fun _ => h2 f0⟩
theorem its_over (h1 : s.2.2.1 = 0 → R = its9 W pl nq sm Nn 60 (Nn - i) a s) (f0 : s.2.2.1 = 0) (wa : W a = 0) (hi : i < Nn) : R = if s.2.1.2.2.2 = 0 then (s.1, s.2.1, (10, pl a)) else s := by
  have r := h1 f0
  obtain ⟨f, hf⟩ : ∃ f, Nn - i = f + 1 := ⟨Nn - i - 1, by omega⟩
  rw [hf, its9, if_neg (fun u => u f0), if_pos wa] at r
  exact r
/-- what translate comes to, exactly -/
def tlV (W pl nq : Nat → Int) (sm : Nat → Nat → Prop) (Nn n q p : Nat) (R : st9) (Rg : gm9) (x : Int) (M' : mM) : Prop := (x = 1 ∧ ∃ q9 : Nat, Rf W [50] 0 q9 ∧ q9 ≤ n ∧ mI M' (q + 1) 4 = pl q9) ∨ ((∃ a, Rc W [50] 0 [] (a + 1)) ∧ FT M' (q + 1) R.2.2 ∧ (R.2.2.1 = 0 → CSm M' q p R ∧ CGm M' p (mR M' p 0) (mR M' p 1) W pl nq sm Nn n R Rg))
/-- an item does not stand -/
theorem x_tl_not (h : nstQ z q w T A B D N C n p O P K Ab Be Cm V F ns sf ef c cnt L M) (hf : trF M0 q p O P Ab0 Be0 Cm0 M Ab Be Cm) (wt : WTq M T A B D n W pl nq sm) {q9 : Nat} (e9 : mI M (q + 1) 2 = ((q9 : Nat) : Int)) (rf : Rf W [50] 0 q9) : mK M q = 3 ∧ mK M (mR M q 0) = 4 ∧ ∀ M93, M93 = mUI M (mR M q 0) 3 1 → mK M93 (mR M93 q 0) = 4 ∧ Ci G y_RR_here d [vr (mR M93 q 0)] M93 (fun x97 M96 => i32 x97 ∧ mOk M96 ∧ (mK M96 (mR M93 q 0) = 4 ∧ ∀ M100, M100 = mUI M96 (mR M93 q 0) 4 x97 → (tlQ M0 z q w T A B D N C n p O P K Ab0 Be0 Cm0 1 M100 ∧ tlV W pl nq sm Nn n q p R Rg 1 M100))) := by
  obtain ⟨h1, a, a1, a2⟩ := h
  obtain ⟨t0, t1, t2, t3, t4, t5⟩ := h1.1.2.1
  have ap := h1.1.apart
  have qp := h1.1.2.2.2.2.2.1.2.1
  have ne1 : O ≠ q + 1 ∧ P ≠ q + 1 ∧ p ≠ q + 1 ∧ ∀ i, 3 ≤ i → i ≤ 15 → p + i ≠ q + 1 := by
    exact ⟨u7c ap.2.1 (by decide), u7c ap.2.2.1 (by decide), fun e => u7d (i := 0) qp (x := q + 1) (by omega) (by omega) (by decide) e.symm, fun i _ i15 e => u7d qp (x := q + 1) (by omega) (by omega) i15 e.symm⟩
  clear ap qp
  rw [t1]
  have gen : ∀ {Mx My : mM} {j : Nat} {x : Int}, TX Mx z q w T A B D N C n p O P K Ab Be Cm V F ns sf ef c cnt L → i32 x → My = mUI Mx (q + 1) j x → (j = 3 ∧ x ≠ 0) ∨ j = 4 → TX My z q w T A B D N C n p O P K Ab Be Cm V F ns sf ef c cnt L ∧ FI (txS q p O P) Mx My ∧ (∀ i, mI My (q + 1) i = if i = j then x else mI Mx (q + 1) i) := fun {Mx My j x} hx ix e hj => by
    have f : FI (fun y => y = q + 1) Mx My := by rw [e]; exact FI.ui rfl
    have nb : ∀ y, y ≠ q + 1 → mI My y = mI Mx y := fun y hy => f.2.2.2.2.2.2 y hy
    have ir : ∀ i, mI My (q + 1) i = if i = j then x else mI Mx (q + 1) i := fun i => by
      rw [mI_ui _ i e]
      by_cases y : i = j
      · rw [if_pos ⟨rfl, y⟩, if_pos y]
      · rw [if_neg (fun t => y t.2), if_neg y]
    have fx : FI (txS q p O P) Mx My := f.mono (fun y hy => Or.inl (by have hy' : y = q + 1 := hy; omega))
    have o : mOk My := by rw [e]; exact mOk_UI hx.1.1.1 ix
    refine ⟨hx.tx o ⟨fx, fun i _ i3 i4 _ _ _ _ _ => by rw [ir, if_neg (by omega)], fun y => ?_, fun i _ _ => nb _ (by omega), fun i _ => by rw [nb p ne1.2.2.1], fun i h3 h15 => nb _ (ne1.2.2.2 i h3 h15), fun i _ => ⟨by rw [nb O ne1.1], by rw [nb P ne1.2.1]⟩⟩ (fun y => by rw [nb _ (by omega)]; exact hx.2.1.2.2.2 y), fx, ir⟩
    rw [ir]
    rcases hj with ⟨j3, x0⟩ | j4
    · rw [if_pos j3.symm]; exact x0
    · rw [if_neg (by omega)]; exact y
  refine ⟨t0, h1.1.1.2.1.1, fun M93 e93 => ?_⟩
  obtain ⟨h93, f93, i93⟩ := gen h1 ⟨by decide, by decide⟩ e93 (Or.inl ⟨rfl, by decide⟩)
  rw [h93.1.2.1.2.1]
  refine ⟨h93.1.1.2.1.1, (s_RR_here h93.1.1 (a := a) (by rw [i93, if_neg (by decide)]; exact a1) a2).mono (fun x97 M96 k => ?_)⟩
  obtain ⟨e96, ex97, x0, x1⟩ := k
  have a9 : a = q9 := by
    rw [a1] at e9
    omega
  have eB : x97 = pl q9 := by rw [ex97, ((wt.fi h1.1 f93).1 a a2).2.2, a9]
  subst e96
  refine ⟨i32s (by omega) (by omega), h93.1.1.1, h93.1.1.2.1.1, fun M100 e100 => ?_⟩
  obtain ⟨h100, f100, i100⟩ := gen h93 (i32s (by omega) (by omega)) e100 (Or.inr rfl)
  exact ⟨⟨Ab, Be, Cm, V, F, ns, sf, ef, c, cnt, L, h100, (hf.trans (trF.fi f93)).trans (trF.fi f100), by rw [i100, if_neg (by decide), i93, if_pos rfl], fun u => absurd u (by first | decide | simp)⟩, Or.inl ⟨rfl, q9, rf, by omega, by rw [i100, if_pos rfl]; exact eB⟩⟩
/-- the loop over the items -/
theorem x_tl41 (hF : FMx G) (hNn : n + 1 ≤ Nn) : ∀ (t i : Nat) (M : mM) (Ab Be Cm V F : Nat) (ns : Nat → Int) (sf ef : Nat → Nat) (c cnt L a : Nat), n + 1 ≤ i + t → i ≤ n + 1 → TX M z q w T A B D N C n p O P K Ab Be Cm V F ns sf ef c cnt L → mI M p 2 = ((L : Nat) : Int) → mI M (q + 1) 2 = ((a : Nat) : Int) → a ≤ n → L ≤ a → mI M (q + 1) 5 = 0 → trF M0 q p O P Ab0 Be0 Cm0 M Ab Be Cm → tlJ T A B D n O P W pl nq sm Nn q p R Rg i a M → h_TR_translate_41 G (d + 7) q w i M (fun x M' => tlQ M0 z q w T A B D N C n p O P K Ab0 Be0 Cm0 x M' ∧ tlV W pl nq sm Nn n q p R Rg x M') := by
  intro t
  induction t with
  | zero =>
    intro i M Ab Be Cm V F ns sf ef c cnt L a ht hi h hp ha han hLa hd hf J
    exact absurd J.2.2.1 (by omega)
  | succ t ih =>
    intro i M Ab Be Cm V F ns sf ef c cnt L a ht hi h hp ha han hLa hd hf J
    obtain ⟨wt, hR, hia, s, g, zs, js1, js2, cg, jg⟩ := J
    have hN : n ≤ 16384 := by have := h.1.1.2.2.2.1.2.2.1; have := h.1.1.2.2.2.1.1.2.2.2.2.2.2.1; omega
    obtain ⟨t0, t1, t2, t3, t4, t5⟩ := h.1.2.1
    obtain ⟨⟨w1, ⟨p0, p3, -⟩, -, ⟨kA, -⟩, ⟨cA, -⟩, w6, w7, w8, -⟩, w2, hnN, hw, hA, hB⟩ := id h.1.1.2.2.2.1
    refine k_TR_translate_41 h.1.1.1 (i32s (by omega) (by omega)) ?_
    rw [w2, t1, t3, w6, p3, cA, ha, Int.toNat_natCast]
    have fin : i < n + 1 → ∀ {M1 : mM}, itE M0 z q w T A B D N C n p O P K Ab0 Be0 Cm0 M1 → (∃ a', mI M1 (q + 1) 2 = ((a' : Nat) : Int) ∧ tlJ T A B D n O P W pl nq sm Nn q p R Rg (i + 1) a' M1) → h_TR_translate_218 G (d + 7) q w i M1 (fun x M' => tlQ M0 z q w T A B D N C n p O P K Ab0 Be0 Cm0 x M' ∧ tlV W pl nq sm Nn n q p R Rg x M') := fun hi1 {M1} hE hJ => by
      obtain ⟨Ab1, Be1, Cm1, V1, F1, ns1, sf1, ef1, c1, cnt1, L1, a1, e1, e2, e3, e4, e5, e6, e7⟩ := hE
      obtain ⟨a', ea', hJ⟩ := hJ
      have eaa : a' = a1 := by
        rw [e3] at ea'
        omega
      subst eaa
      refine k_TR_translate_218 e1.1.1.1 (i32s (by omega) (by omega)) ?_
      rw [show ((i : Int) + 1) = ((i + 1 : Nat) : Int) by omega]
      exact ih (i + 1) M1 Ab1 Be1 Cm1 V1 F1 ns1 sf1 ef1 c1 cnt1 L1 a' (by omega) (by omega) e1 e2 e3 e4 e5 e6 e7 hJ
    have nst : ∀ {l4 : Int} {M1 : mM} {cnt1 L1 : Nat}, i32 l4 → nstQ z q w T A B D N C n p O P K Ab Be Cm V F ns sf ef c cnt1 L1 M1 → FI (txS q p O P) M M1 → (∃ q9 : Nat, mI M1 (q + 1) 2 = q9 ∧ Rf W [50] 0 q9) → h_TR_translate_155 G (d + 7) q w i l4 0 M1 (fun x M' => tlQ M0 z q w T A B D N C n p O P K Ab0 Be0 Cm0 x M' ∧ tlV W pl nq sm Nn n q p R Rg x M') := fun {l4 M1 cnt1 L1} il hn fi ⟨q9, e9, rf9'⟩ => k_TR_translate_155 hn.1.1.1.1 (i32s (by omega) (by omega)) il (i32s (by omega) (by omega)) ⟨fun _ => x_tl_not hn (hf.trans (trF.fi fi)) (wt.fi h.1 fi) e9 rf9', fun y => absurd rfl y⟩
    have itr' : ∀ {M1 M2 : mM}, FI (txS q p O P) M M1 → itE M1 z q w T A B D N C n p O P K Ab Be Cm M2 → itE M0 z q w T A B D N C n p O P K Ab0 Be0 Cm0 M2 := fun {M1 M2} fi hE => by
      obtain ⟨Ab1, Be1, Cm1, V1, F1, ns1, sf1, ef1, c1, cnt1, L1, a1, e1, e2, e3, e4, e5, e6, e7⟩ := hE
      exact ⟨Ab1, Be1, Cm1, V1, F1, ns1, sf1, ef1, c1, cnt1, L1, a1, e1, e2, e3, e4, e5, e6, (hf.trans (trF.fi fi)).trans e7⟩
    have wE : mI M A a = 0 → a = n ∧ W a = 0 := fun u => by
      refine ⟨?_, ?_⟩
      · by_cases c1 : a = n
        · exact c1
        · have := (hw a (by omega)).1.1
          omega
      · obtain ⟨v1, v2, -⟩ := wt.1 a han
        exact (csq_w v1).2.1.mp (by rw [← v2]; exact u)
    have nxt : ∀ {e : Nat} {M2 : mM}, W a ≠ 0 → nxq W 34 Nn a = e → a ≤ e → Rc W [50] 0 [50] (e + 1) → WTq M2 T A B D n W pl nq sm → itZ q p (sN W pl nq sm Nn a s) M2 → ((sN W pl nq sm Nn a s).2.2.1 = 0 → CGm M2 p O P W pl nq sm Nn n (sN W pl nq sm Nn a s) (igm9 W pl nq sm Nn s.1 a g)) → tlJ T A B D n O P W pl nq sm Nn q p R Rg (i + 1) (e + 1) M2 := fun {e M2} wa nx ae rc wt2 z2 cg2 => by
      obtain ⟨g1, g2⟩ := its_next (pl := pl) (nq := nq) (sm := sm) js1 js2 wa nx (show i < Nn by omega)
      refine ⟨wt2, rc, by omega, _, igm9 W pl nq sm Nn s.1 a g, z2, g1, g2, cg2, fun hz => ?_⟩
      have f0 : s.2.2.1 = 0 := Classical.byContradiction (fun u => u (by rw [sN_n u] at hz; exact hz))
      exact igs_next f0 jg wa nx (show i < Nn by omega) hz
    refine ⟨w1, fun _ => ⟨t0, h.1.1.2.1.1, kA, by omega⟩, fun yE => ⟨t0, h.1.1.2.2.2.2.1.1, fun y => ⟨h.1.1.2.1.1, (x_tx_note (x := 10) (i32s (by omega) (by omega)) (by omega) (i32s (by omega) (by omega)) h).mono (fun M32 k => ?_)⟩, fun y => ?_⟩, fun y => ?_⟩
    · obtain ⟨o32, h32, x32, u3, u4, u5, u6⟩ := k
      obtain ⟨an, wa⟩ := wE (yE.resolve_left (by omega))
      have F32 := u6 _ zs.1
      rw [show ((N : Nat) : Int) = pl a by rw [← (wt.1 a han).2.2, an]; exact hB.symm] at F32
      have Rf9 : FT M32 (q + 1) R.2.2 ∧ R.2.2.1 ≠ 0 := by
        by_cases f0 : s.2.2.1 = 0
        · have ct := (zs.2 f0).2.2.2.2.1.mp y
          have r := its_over js1 f0 wa (show i < Nn by omega)
          rw [if_pos ct] at r
          rw [fst9_zr f0] at F32
          rw [r]
          exact ⟨F32, by simp⟩
        · rw [fst9_n f0] at F32
          rw [js2 f0]
          exact ⟨F32, f0⟩
      refine ⟨o32, k_TR_translate_248 o32 ⟨h32.1.2.1.1, by rw [h32.1.2.1.2.1]; exact h32.1.1.2.1.1, ?_⟩⟩
      rw [h32.1.2.1.2.1]
      exact ⟨⟨Ab, Be, Cm, V, F, ns, sf, ef, c, cnt, L, h32, hf.trans (trF.fi x32.1), rfl, fun u => absurd u u3⟩, Or.inr ⟨⟨a, hR.trans (rc50 wa)⟩, Rf9.1, fun u => absurd u Rf9.2⟩⟩
    · obtain ⟨an, wa⟩ := wE (yE.resolve_left (by omega))
      refine k_TR_translate_248 h.1.1.1 ⟨t0, by rw [t1]; exact h.1.1.2.1.1, ?_⟩
      rw [t1]
      refine ⟨⟨Ab, Be, Cm, V, F, ns, sf, ef, c, cnt, L, h, hf, rfl, fun _ => ⟨y, hp, by omega⟩⟩, Or.inr ⟨⟨a, hR.trans (rc50 wa)⟩, ?_⟩⟩
      by_cases f0 : s.2.2.1 = 0
      · have r := its_over js1 f0 wa (show i < Nn by omega)
        rw [if_neg (fun u => y ((zs.2 f0).2.2.2.2.1.mpr u))] at r
        rw [r, igs_over jg f0 wa (show i < Nn by omega)]
        have ro := h.1.1.2.2.2.2.1.2.1
        rw [ro.1, ro.2]
        exact ⟨zs.1, fun u => ⟨zs.2 u, cg u⟩⟩
      · rw [js2 f0]
        exact ⟨zs.1, fun u => absurd u f0⟩
    · have i1n : i < n + 1 := by
        by_cases u : ((n : Int) + 1 ≤ i)
        · exact absurd (Or.inl u) y
        · omega
      have y0 : mI M A a ≠ 0 := fun u => y (Or.inr u)
      have wA := wt.1 a han
      have wa : W a ≠ 0 := fun u => y0 (by rw [wA.2.1, u]; rfl)
      have an : a < n := by
        have : a ≠ n := fun u => y0 (by rw [u]; exact hA)
        omega
      have il := (h.1.1.1 A a).1
      have fin' := fun {M1 : mM} => fin i1n (M1 := M1)
      clear fin y
      have eS : ∀ {y : Int}, 1 ≤ y → y ≤ 38 → mI M A a = y + 1 → W a = y := fun h1 h2 u => (wt.is han h1 h2).mp u
      refine ⟨t0, h.1.1.2.1.1, kA, by omega, fun y5 => ?_, fun y5 => ⟨fun y12 => ?_, fun y12 => ⟨fun y8 => ?_, fun y8 => ⟨fun y4 => ?_, fun y4 => ?_⟩⟩⟩⟩
      · have w4 : W a = 4 := eS (by decide) (by decide) y5
        refine (x_TR_readVar (nms := s.1) h ha an hp hLa hd wt zs.1 w4 hR).mono (fun x M1 k => ?_)
        obtain ⟨⟨f1, k1⟩, va⟩ := k
        have wt1 : WTq M1 T A B D n W pl nq sm := wt.fi h.1 f1
        rcases k1 with ⟨e, u⟩ | ⟨e, h1, sl, a', nw, u1, u2, u3⟩
        · rw [e] at va ⊢
          exact ⟨⟨by decide, by decide⟩, u.1.1.1.1, nst il u f1 (by obtain ⟨b, eb, v⟩ := va; exact ⟨b, eb, (v.resolve_right (fun t => absurd t.1 (by first | decide | simp))).2⟩)⟩
        · rw [e] at va ⊢
          obtain ⟨e9, ee9, rc9, ae9, nx9, cv9'⟩ := x_st_var (G := G) (d := d + 1) hF h h1 u1 u2 u3 zs wt1 w4 (show n ≤ Nn by omega) va hp cg
          have ea9 : a' = e9 + 1 := by
            have t := u1.2.2.2.1
            rw [ee9] at t
            omega
          refine ⟨⟨by decide, by decide⟩, h1.1.1.1, k_TR_translate_155 h1.1.1.1 (i32s (by omega) (by omega)) il (i32s (by omega) (by omega)) ⟨fun t => absurd t (by first | decide | simp), fun _ => ⟨fun _ => ⟨h1.1.2.1.1, cv9'.mono (fun M2 k => ?_)⟩, fun t => absurd y5 t⟩⟩⟩
          have hE := itr' f1 k.1
          exact ⟨by obtain ⟨_, _, _, _, _, _, _, _, _, _, _, _, e1, -⟩ := hE; exact e1.1.1.1, fin' hE ⟨e9 + 1, by rw [← ea9]; exact k.2.2.1, nxt wa nx9 ae9 rc9 (h1.1.wtr k.1.fa wt1) k.2.1 k.2.2.2⟩⟩
      · have w11 : W a = 11 := eS (by decide) (by decide) y12
        refine (x_TR_readTarget (nms := s.1) h ha an hp hLa hd wt zs.1 w11 hR).mono (fun x M1 k => ?_)
        obtain ⟨⟨f1, k1⟩, tv⟩ := k
        have wt1 : WTq M1 T A B D n W pl nq sm := wt.fi h.1 f1
        rcases k1 with ⟨e, L1, u⟩ | ⟨e, L1, a', h1, u1, u2, u3, u4, u5⟩
        · rw [e] at tv ⊢
          exact ⟨⟨by decide, by decide⟩, u.1.1.1.1, nst il u f1 (by obtain ⟨b, eb, v⟩ := tv; exact ⟨b, eb, (v.resolve_right (fun t => absurd t.1 (by first | decide | simp))).2⟩)⟩
        · rw [e] at tv ⊢
          obtain ⟨e9, ee9, rc9, ae9, nx9, z9, c9⟩ := x_st_target (nq := nq) h zs w11 (show n ≤ Nn by omega) u2 u3 tv hp cg
          exact ⟨⟨by decide, by decide⟩, h1.1.1.1, k_TR_translate_155 h1.1.1.1 (i32s (by omega) (by omega)) il (i32s (by omega) (by omega)) ⟨fun t => absurd t (by first | decide | simp), fun _ => ⟨fun t => absurd t y5, fun _ => ⟨fun t => absurd t (by omega), fun _ => fin' ⟨Ab, Be, Cm, V, F, ns, sf, ef, c, cnt, L1, a', h1, u1, u2, u3, u4, u5, hf.trans (trF.fi f1)⟩ ⟨e9 + 1, ee9, nxt wa nx9 ae9 rc9 wt1 z9 c9⟩⟩⟩⟩⟩
      · have w7 : W a = 7 ∨ W a = 8 := y8.imp (fun u => eS (by decide) (by decide) u) (fun u => eS (by decide) (by decide) u)
        refine (x_TR_readCommand (Nn := Nn) (nms := s.1) ⟨fun u => eS (y := 7) (by decide) (by decide) u, fun u => by rw [wA.2.1, u]; rfl⟩ il h ha an hp hLa hd (show n ≤ Nn by omega) wt zs.1 w7 hR).mono (fun x M1 k => ?_)
        obtain ⟨⟨f1, k1⟩, tv⟩ := k
        have wt1 : WTq M1 T A B D n W pl nq sm := wt.fi h.1 f1
        rcases k1 with ⟨e, L1, cnt1, u⟩ | ⟨e, L1, cnt1, a', h1, u1, u2, u3, u4, u5⟩
        · rw [e] at tv ⊢
          exact ⟨⟨by decide, by decide⟩, u.1.1.1.1, nst il u f1 (by obtain ⟨b, eb, v⟩ := tv; exact ⟨b, eb, (v.resolve_right (fun t => absurd t.1 (by first | decide | simp))).2⟩)⟩
        · rw [e] at tv ⊢
          obtain ⟨e9, ee9, rc9, ae9, nx9, z9, c9⟩ := x_st_cmd h zs w7 (show n ≤ Nn by omega) u2 u3 tv hp h1 cg
          exact ⟨⟨by decide, by decide⟩, h1.1.1.1, k_TR_translate_155 h1.1.1.1 (i32s (by omega) (by omega)) il (i32s (by omega) (by omega)) ⟨fun t => absurd t (by first | decide | simp), fun _ => ⟨fun t => absurd t y5, fun _ => ⟨fun t => absurd t (by omega), fun _ => fin' ⟨Ab, Be, Cm, V, F, ns, sf, ef, c, cnt1, L1, a', h1, u1, u2, u3, u4, u5, hf.trans (trF.fi f1)⟩ ⟨e9 + 1, ee9, nxt wa nx9 ae9 rc9 wt1 z9 c9⟩⟩⟩⟩⟩
      · have w36 : W a = 3 ∨ W a = 6 := y4.imp (fun u => eS (by decide) (by decide) u) (fun u => eS (by decide) (by decide) u)
        have hl1 : mI M A a = W a + 1 := by
          rcases y4 with u | u
          · rw [u, eS (y := 3) (by decide) (by decide) u]; rfl
          · rw [u, eS (y := 6) (by decide) (by decide) u]; rfl
        refine (x_TR_readNamed (nms := s.1) y4 h ha an hp hLa hd wt zs.1 w36 hR).mono (fun x M1 k => ?_)
        obtain ⟨⟨f1, k1⟩, nv⟩ := k
        have wt1 : WTq M1 T A B D n W pl nq sm := wt.fi h.1 f1
        rcases k1 with ⟨e, u⟩ | ⟨e, h1, u0, e', a', nw, H, u1, u2, u3, u4, u5, u6, u7, u8, u9, u10, u11⟩
        · rw [e] at nv ⊢
          exact ⟨⟨by decide, by decide⟩, u.1.1.1.1, fun _ => nst il u f1 (by obtain ⟨b, eb, v⟩ := nv; exact ⟨b, eb, (v.resolve_right (fun t => absurd t.1 (by first | decide | simp))).2⟩), fun t => absurd rfl t⟩
        · rw [e] at nv ⊢
          obtain ⟨b9, eb9, nv⟩ := nv
          obtain ⟨-, nw2, e9, E9', C9, L9, f9, v1, v2, v3, v4, v5, v6, v7, v8, v9, v10, v11, v12, v13⟩ := nv.resolve_left (fun t => absurd t.1 (by first | decide | simp))
          clear nv
          have ea9 : a' = e9 + 1 := by
            rw [u3, v1] at eb9
            omega
          obtain ⟨nx9, cv9'⟩ := x_st_named (G := G) (d := d + 1) hF y4 hl1 h h1 u0 u1 u2 u3 u4 u5 u6 ⟨u7, u8, u9⟩ u10 u11 zs wt1 nw2 v2 v3 (by omega) (show n ≤ Nn by omega) v5 v6 v7 v8 v9 v10 v11 v12 v13 hp cg
          have ae9 : a ≤ e9 := by
            have := v2.pr.1
            omega
          refine ⟨⟨by decide, by decide⟩, h1.1.1.1, fun t => absurd t (by first | decide | simp), fun _ => k_TR_translate_155 h1.1.1.1 (i32s (by omega) (by omega)) il (i32s (by omega) (by omega)) ⟨fun t => absurd t (by first | decide | simp), fun _ => ⟨fun t => absurd t y5, fun _ => ⟨fun _ => ⟨h1.1.2.1.1, cv9'.mono (fun M2 k => ?_)⟩, fun t => absurd y4 t⟩⟩⟩⟩
          have hE := itr' f1 k.1
          exact ⟨by obtain ⟨_, _, _, _, _, _, _, _, _, _, _, _, e1, -⟩ := hE; exact e1.1.1.1, fin' hE ⟨e9 + 1, by rw [← ea9]; exact k.2.2.1, nxt wa nx9 ae9 v4 (h1.1.wtr k.1.fa wt1) k.2.1 (fun z => by
            have ig : igm9 W pl nq sm Nn s.1 a g = g := if_pos w36
            rw [ig]
            exact k.2.2.2 z)⟩⟩
      · exact nst il ⟨h, a, ha, han⟩ FI.refl ⟨a, ha, hR.rf (rf50 wA.1 wa (fun u => y5 (by rw [wA.2.1, u]; rfl)) (fun u => y12 (by rw [wA.2.1, u]; rfl)) (fun u => y8 (u.imp (fun v => by rw [wA.2.1, v]; rfl) (fun v => by rw [wA.2.1, v]; rfl))) (fun u => y4 (u.imp (fun v => by rw [wA.2.1, v]; rfl) (fun v => by rw [wA.2.1, v]; rfl))))⟩
end TYA
