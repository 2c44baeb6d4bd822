section
/-! The reference's items, exactly. -/
section IXP
variable {w pl nq : Nat → Int} {sm : Nat → Nat → Prop} {N k e mc f : Nat} {s : st9}
theorem its_x (h : s.2.2.1 ≠ 0) : its9 w pl nq sm N mc f k s = s := by
  cases f with
  | zero => rfl
  | succ f => rw [its9, if_pos h]
theorem its_end (h : s.2.2.1 = 0) (hw : w k = 0) : its9 w pl nq sm N mc (f + 1) k s = if s.2.1.2.2.2 = 0 then (s.1, s.2.1, (10, pl k)) else s := by
  rw [its9, if_neg (fun z => z h), if_pos hw]
theorem its_s (h : s.2.2.1 = 0) (hw : w k ≠ 0) (he : nxq w 34 N k = e) : its9 w pl nq sm N mc (f + 1) k s = its9 w pl nq sm N mc f (e + 1) (if w k = 3 ∨ w k = 6 then itr w pl nq sm k e s else if w k = 4 then itv w pl nq sm N k e s else if w k = 11 then itt w pl sm k e s else itc w pl sm N mc k e s) := by
  rw [its9, if_neg (fun z => z h), if_neg hw, he]
  unfold ite9
  simp only [he]
theorem itt_2 (h : s.2.1.2.2.2 ≠ 0) : (itt w pl sm k e s).2.2 = (4, pl k) := by
  unfold itt
  simp only []
  rw [if_pos h]
theorem itt_f (h : s.2.1.2.2.2 = 0) (h3 : (rf9 w pl sm s.1 0 1 (k + 1) e).1 ≠ 0) : (itt w pl sm k e s).2.2 = rf9 w pl sm s.1 0 1 (k + 1) e := by
  unfold itt
  simp only []
  rw [if_neg (fun z => z h), if_pos h3]
theorem itt_ok (h : s.2.1.2.2.2 = 0) (h3 : (rf9 w pl sm s.1 0 1 (k + 1) e).1 = 0) : itt w pl sm k e s = (s.1, (s.2.1.1, s.2.1.2.1, s.2.1.2.2.1, 1), (0, 0)) := by
  unfold itt
  simp only []
  rw [if_neg (fun z => z h), if_neg (fun z => z h3)]
end IXP
section IXA
variable {G : mG} {d a g R W C T Z T2 T3 N K : Nat} {M M2 M3 : mM} {E : Nat → Nat} {tg : Int} {s s' sF : st9}
/-- all items have been read, exactly -/
def itmX (M : mM) (a g N : Nat) (sF : st9) (M' : mM) : Prop := iF M a g M' ∧ ((sF.2.2.1 ≠ 0 ∧ fpw M' a sF.2.2) ∨ (sF.2.2.1 = 0 ∧ mI M' a 16 = 0 ∧ ∃ (T K R W C Z : Nat) (E : Nat → Nat) (tg : Int), Df M' a g N T K R W C Z E tg ∧ T < N ∧ Z < N ∧ 0 ≤ tg ∧ RSq M' a g K sF.1 ∧ sF.2.1 = (W, R, C, 1)))
theorem x_it_x {k : Int} (ik : i32 k) (w2 : Wd M2 a) (o2 : mOk M2) (hI : iF M a g M2) (z : mI M2 a 16 ≠ 0) (fl : sF.2.2.1 ≠ 0 ∧ fpw M2 a sF.2.2) : h_MM_items0_38 G (d + 10) a k M2 (fun M' => mOk M' ∧ itmX M a g N sF M') :=
  k_MM_items0_38 o2 ik ⟨w2.1.1, fun y => absurd y z, fun _ => ⟨fun y => absurd y z, fun _ => k_MM_items0_218 o2 ⟨o2, hI, Or.inl fl⟩, fun y => absurd (Or.inl z) y⟩⟩
theorem x_it_run (wM : Wd M a) (hN : N ≤ 16385) (hg : g = a + 13 ∨ g = a + 49) : ∀ (f f' k : Nat) (M2 : mM) (s : st9), N ≤ k + f' → Ac (wk M a) N f [50] k → iF M a g M2 → mI M2 a 16 = 0 → s.2.2.1 = 0 → DfS M2 a g N k s → sF = its9 (wk M a) (nt M (a + 7)) (nuq M a) (smx M a) N 60 f' k s → h_MM_items0_38 G (d + 10) a k M2 (fun M' => mOk M' ∧ itmX M a g N sF M') := by
  intro f
  induction f using Nat.strongRecOn with
  | ind f ih =>
    intro f' k M2 s hf' hac hI z2 hs0 hDf eF
    obtain ⟨T, K, R, W, C, Z, E, tg, h, ⟨hT, hZ⟩, hS, hst⟩ := hDf
    have sx2 := hI.sx wM hg
    have tgz : tg = -1 ∨ 0 ≤ tg := by
      rcases h.2.2.2.2.2.2.2.2.2.2 with y | ⟨n', -, -, -, y, -⟩
      · exact Or.inl y
      · exact Or.inr (by omega)
    have hL := h.1
    have w2 := hL.2.1.1.1
    have wkE := hI.wk hg
    have hkN := ac_le hac
    have h17 := h.2.1.2.2.2
    have ik : i32 (k : Int) := i32s (by omega) (by omega)
    -- after an item
    have nxt : ∀ (e g' f2 : Nat) (M3 : mM) (s' : st9), N ≤ e + 1 + f2 → g' < f → e < N → Ac (wk M a) N g' [50] (e + 1) → sF = its9 (wk M a) (nt M (a + 7)) (nuq M a) (smx M a) N 60 f2 (e + 1) s' → itX M2 a g N (e + 1) s' M3 → h_MM_items0_183 G (d + 10) a e M3 (fun M' => mOk M' ∧ itmX M a g N sF M') := fun e g' f2 M3 s' hf2 hg' he hac' eF hq => by
      obtain ⟨I3, hq⟩ := hq
      have I03 := hI.trans I3
      refine k_MM_items0_183 I3.1.1 (i32s (by omega) (by omega)) ?_
      rw [show (e : Int) + 1 = ((e + 1 : Nat) : Int) by omega]
      rcases hq with ⟨y, yf⟩ | ⟨y0, y1, y2⟩
      · rw [its_x y] at eF
        exact x_it_x (i32s (by omega) (by omega)) I3.1.2.1 I3.1.1 I03 (by rw [yf.1]; exact y) (by rw [eF]; exact ⟨y, yf⟩)
      · exact ih g' hg' f2 (e + 1) M3 s' hf2 hac' I03 y1 y0 y2 eF
    rcases ac_item hac with ⟨c0, c1⟩ | ⟨c0, e, g', hg', hit, hac'⟩
    · have kN : k < N := by omega
      obtain ⟨f', rfl⟩ : ∃ f2, f' = f2 + 1 := ⟨f' - 1, by omega⟩
      rw [its_end hs0 c0, hst] at eF
      simp only [] at eF
      refine k_MM_items0_38 hL.1 ik ⟨w2.1.1, fun _ => hL.wd (d := d + 9) kN (fun x hx ix => ⟨ix, hL.1, fun _ => ⟨w2.1.1, ?_⟩, fun q => absurd (hx.trans (by rw [wkE]; exact c0)) q⟩), fun y => absurd z2 y⟩
      rw [show mR M2 a 10 = g from hL.2.2.2.2.1, h17]
      refine ⟨fun _ => (w2.gp hg).1, fun q => k_MM_items0_218 hL.1 ⟨hL.1, hI, Or.inr ?_⟩, fun q => ?_⟩
      · have tg0 : 0 ≤ tg := by
          rcases q with q | q
          · exact absurd z2 q
          · exact q
        have n1 : ¬ tg = -1 := by omega
        rw [if_neg n1, if_neg (by decide)] at eF
        rw [eF]
        exact ⟨hs0, z2, T, K, R, W, C, Z, E, tg, h, by omega, by omega, tg0, hS, by rw [hst, if_neg n1]⟩
      · have t1 : tg = -1 := by
          rcases tgz with y | y
          · exact y
          · exact absurd (Or.inr y) q
        rw [if_pos t1, if_pos rfl] at eF
        refine (s_MM_place0 (d := d + 9) hL.1 hL.2.1 kN).mono (fun y M5 h5 => ?_)
        obtain ⟨e5, hy⟩ := h5
        subst e5
        have hy32 : i32 y := by rw [hy]; exact (hL.1 _ _).1
        refine ⟨hy32, hL.1, w2.1.1, (s_MM_stop ⟨by decide, by decide⟩ hy32 hL.1 w2).mono (fun M6 h6 => ⟨h6.1.1, k_MM_items0_218 h6.1.1 ⟨h6.1.1, hI.trans (iF.mk w2 h6.1 (fun _ z => z.elim) (fun x z => Or.inl z) (fun i i1 i2 _ => h6.2.2.2 i i1 i2)), Or.inl (by rw [eF]; exact ⟨by simp, h6.2.1, by rw [h6.2.2.1, hy, sx2.2.1]⟩)⟩⟩)⟩
    · have he1 := ac_le hac'
      have hke := hit.2.1
      have kN : k < N := by omega
      have eN : e < N := by omega
      refine k_MM_items0_38 hL.1 ik ⟨w2.1.1, fun _ => hL.wd (d := d + 9) kN (fun x hx ix => ⟨ix, hL.1, fun q => ?_, fun _ => ⟨w2.1.1, ?_⟩⟩), fun y => absurd z2 y⟩
      · rw [wkE] at hx
        exact absurd (hx.symm.trans q) c0
      have hit2 : It (wk M2 a) k e := by rw [wkE]; exact hit
      obtain ⟨f', rfl⟩ : ∃ f2, f' = f2 + 1 := ⟨f' - 1, by omega⟩
      have en : nxq (wk M a) 34 N k = e := nxq_at (by omega) (by omega) hit.1 (fun m m1 m2 => hit.sg.2.2.2 m m1 m2)
      rw [its_s hs0 c0 en] at eF
      have hf2 : N ≤ e + 1 + f' := by omega
      refine hL.ue (d := d + 8) hit2 eN ⟨i32s (by omega) (by omega), hL.1, w2.1.1, hL.wd (d := d + 9) kN (fun x2 hx2 ix2 => ⟨ix2, hL.1, ?_⟩)⟩
      obtain ⟨-, -, hsh⟩ := hit2
      have go : ∀ (s' : st9), sF = its9 (wk M a) (nt M (a + 7)) (nuq M a) (smx M a) N 60 f' (e + 1) s' → ∀ M3, mOk M3 ∧ itX M2 a g N (e + 1) s' M3 → mOk M3 ∧ h_MM_items0_183 G (d + 10) a e M3 (fun M' => mOk M' ∧ itmX M a g N sF M') := fun s' eF M3 t => ⟨t.1, nxt e g' f' M3 s' hf2 hg' eN hac' eF t.2⟩
      have hx3 : wk M2 a k = wk M a k := by rw [wkE]
      refine ⟨fun q1 => ⟨w2.1.1, ?_⟩, fun q1 => ⟨fun q2 => ⟨w2.1.1, ?_⟩, fun q2 => ⟨fun q3 => ⟨w2.1.1, ?_⟩, fun q3 => ⟨w2.1.1, ?_⟩⟩⟩⟩
      · rcases hsh with ⟨y0, -, -, y1⟩ | ⟨y0, -⟩ | ⟨y0, -⟩ | ⟨y0, -⟩
        · rw [wkE] at y0
          rw [if_pos y0] at eF
          exact (x_MM_ruleItem (d := d + 3) h hS hst z2 (by rw [wkE]; exact y0) y1 eN hT hZ).mono (go _ (by rw [sx2.1, sx2.2.1, sx2.nu, sx2.sm]; exact eF))
        · omega
        · omega
        · omega
      · rcases hsh with ⟨y0, -⟩ | ⟨y0, -, -, i, y1, y2⟩ | ⟨y0, -⟩ | ⟨y0, -⟩
        · omega
        · rw [wkE] at y0
          rw [if_neg (by omega), if_pos y0] at eF
          exact (x_MM_varItem (d := d + 2) h hS hst z2 eN hT hZ y1 y2).mono (go _ (by rw [sx2.1, sx2.2.1, sx2.nu, sx2.sm]; exact eF))
        · omega
        · omega
      · rw [if_neg (by omega), if_neg (by omega), if_pos (by omega)] at eF
        have eo : Eo (wk M2 a) 6 (k + 1) e := by
          rcases hsh with ⟨y0, -⟩ | ⟨y0, -⟩ | ⟨y0, -⟩ | ⟨-, y⟩
          · omega
          · omega
          · omega
          · exact y
        rw [show mR M2 a 10 = g from hL.2.2.2.2.1, h17, show (k : Int) + 1 = ((k + 1 : Nat) : Int) by omega]
        refine ⟨(w2.gp hg).1, fun q4 => ?_, fun q4 => ?_⟩
        · have t1' : tg = -1 := by omega
          have st0 : s.2.1.2.2.2 = 0 := by rw [hst]; show (if tg = -1 then 0 else 1) = 0; rw [if_pos t1']
          refine (x_crule (d := d + 3) h.ci hS z2 w2 (Or.inr rfl) (by omega) eo eN).mono (fun x5 M5 q5 => ?_)
          obtain ⟨ex, T5, t1, t2, Rl, qx⟩ := q5
          subst ex
          rw [sx2.1, sx2.2.1, sx2.sm] at qx
          have L5 := Rl.2.1
          have w5 := L5.2.1.1.1
          refine ⟨i32s (by omega) (by omega), L5.1, (w5.gp hg).1, fun M6 e6 => ?_⟩
          obtain ⟨I6, a6, o6, D6⟩ := h.tgt t1 Rl (by omega) e6
          refine nxt e g' f' M6 _ hf2 hg' eN hac' eF ⟨I6, ?_⟩
          rcases qx with ⟨u1, u2⟩ | ⟨u1, u2, u3⟩
          · rw [itt_f st0 u1]
            exact Or.inl ⟨u1, by rw [a6]; exact u2.1, by rw [a6]; exact u2.2⟩
          · rw [itt_ok st0 u1]
            refine Or.inr ⟨rfl, by rw [a6]; exact u2, T5, K, R, W, C, Z, E, _, D6 u2, ⟨by omega, by omega⟩, u3.own L5 (i32s (by omega) (by omega)) e6, ?_⟩
            show (s.2.1.1, s.2.1.2.1, s.2.1.2.2.1, 1) = _
            rw [hst, if_neg (show ¬ ((T : Int) = -1) by omega)]
        · have st1 : s.2.1.2.2.2 ≠ 0 := by rw [hst]; show (if tg = -1 then 0 else 1) ≠ 0; rw [if_neg (by omega)]; decide
          refine (s_MM_place0 (d := d + 9) hL.1 hL.2.1 kN).mono (fun y M5 h5 => ?_)
          obtain ⟨e5, hy⟩ := h5
          subst e5
          have hy32 : i32 y := by rw [hy]; exact (hL.1 _ _).1
          refine ⟨hy32, hL.1, w2.1.1, (s_MM_stop ⟨by decide, by decide⟩ hy32 hL.1 w2).mono (fun M6 h6 => ⟨h6.1.1, nxt e g' f' M6 _ hf2 hg' eN hac' eF ⟨(st_it (g := g) (N := N) (k := e + 1) w2 (by decide) h6).1, Or.inl ?_⟩⟩)⟩
          rw [itt_2 st1]
          exact ⟨by simp, h6.2.1, by rw [h6.2.2.1, hy, sx2.2.1]⟩
      · rcases hsh with ⟨y0, -⟩ | ⟨y0, -⟩ | ⟨-, j, f', y1, y2, y3⟩ | ⟨y0, -⟩
        · omega
        · omega
        · rw [if_neg (by omega), if_neg (by omega), if_neg (by omega)] at eF
          exact (x_MM_commandItem (d := d) h hS hst z2 y1 y2 y3 eN hT hZ).mono (go _ (by rw [sx2.1, sx2.2.1, sx2.sm]; exact eF))
        · omega
end IXA
end
section
/-! The reference's items, exactly: from an empty game. -/
section IXB
variable {G : mG} {d a g N : Nat} {M M2 M3 : mM}
/-- no names, nothing counted, no fault -/
def s09 : st9 := ([], (0, 0, 0, 0), (0, 0))
theorem x_MM_items0 {f : Nat} (hO : mOk M) (hx : Wx M a N) (h10 : mR M a 10 = g) (hg : g = a + 13 ∨ g = a + 49) (hac : Ac (wk M a) N f [50] 0) : Cv G y_MM_items0 (d + 11) [vr a] M (fun M' => mOk M' ∧ itmX M a g N (its9 (wk M a) (nt M (a + 7)) (nuq M a) (smx M a) N 60 N 0 s09) M') := by
  have w := hx.1.1
  have hN := hx.1.2.2
  have r13 : ∀ {M3 : mM}, Wd M3 a → mR M3 a 13 = a + 85 := fun w => w.1.2.2.2.2.1.1
  have r14 : ∀ {M3 : mM}, Wd M3 a → mR M3 a 14 = a + 87 := fun w => w.1.2.2.2.2.1.2.1
  have r15 : ∀ {M3 : mM}, Wd M3 a → mR M3 a 15 = a + 89 := fun w => w.1.2.2.2.2.1.2.2.1
  refine k_MM_items0 hO ?_
  rw [h10]
  refine ⟨w.1.1, (w.gp hg).1, (s_MG_clear (d := d + 9) hO w hg).mono (fun M1 t1 => ?_)⟩
  obtain ⟨o1, m1, c1, c6, c12, c17, c18⟩ := t1
  have w1 := m1.2.1
  have hin1 : ∀ q, gL9 g q → q ∈ nums a := fun q hq => gL9_in hg hq
  have aI1 := (m1.fld w hin1 (by omega)).1
  have g9 : ∀ {q}, gL9 g q → itP a g q := fun {q} hq => ⟨gL9_in hg hq, by have : q = g + 1 ∨ q = g + 3 ∨ q = g + 5 ∨ q = g + 7 ∨ q = g + 9 ∨ q = g + 11 ∨ q = g + 30 ∨ q = g + 32 ∨ q = g + 34 := hq; omega⟩
  have I1 : iF M a g M1 := iF.mk w m1 (fun q hq => g9 hq) (fun x z => Or.inr (Or.inl (by omega))) (fun i _ _ _ => by rw [aI1])
  have nset : ∀ {p : Nat} {Mx My : mM}, p = a + 85 ∨ p = a + 87 ∨ p = a + 89 → iF M a g Mx → mI Mx g = mI M1 g → (∀ q, gL9 g q → ln Mx q = 0) → My = mUI Mx p 1 0 → iF M a g My ∧ mI My g = mI M1 g ∧ (∀ q, gL9 g q → ln My q = 0) ∧ ln My p = 0 ∧ (∀ q, q ∈ nums a → q ≠ p → ln My q = ln Mx q) := fun {p Mx My} hp hI hgI hz he => by
    have wx := hI.1.2.1
    have pn : p ∈ nums a := by rcases hp with y | y | y <;> rw [y]; exact n85; exact n87; exact n89
    have b : 0 ≤ ln Mx p := (wx.nu pn).2.2.2.1.1
    obtain ⟨m3, l3, -, -⟩ := mv_set hI.1.1 wx pn (v := 0) (by omega) b he
    have hin : ∀ q, q = p → q ∈ nums a := fun q hq => by rw [hq]; exact pn
    refine ⟨hI.trans (iF.mk wx m3 (fun q hq => ⟨hin q hq, by omega⟩) (fun _ z => z.elim) (fun i _ _ _ => by rw [(m3.fld wx hin (fun z => z)).1])), (m3.gI wx hg hin (fun z => z)).trans hgI, fun q hq => ?_, l3, fun q hq hne => (m3.lst hq hne).1⟩
    have hq' : q = g + 1 ∨ q = g + 3 ∨ q = g + 5 ∨ q = g + 7 ∨ q = g + 9 ∨ q = g + 11 ∨ q = g + 30 ∨ q = g + 32 ∨ q = g + 34 := hq
    rw [(m3.lst (gL9_in hg hq) (by omega)).1]
    exact hz q hq
  rw [r13 w1]
  refine ⟨o1, w1.1.1, (w1.nu n85).1, fun M2 e2 => ?_⟩
  obtain ⟨I2, g2, z2, l2, u2⟩ := nset (Or.inl rfl) I1 rfl c1 e2
  have w2 := I2.1.2.1
  rw [r14 w2]
  refine ⟨(w2.nu n87).1, fun M3 e3 => ?_⟩
  obtain ⟨I3, g3, z3, l3, u3⟩ := nset (Or.inr (Or.inl rfl)) I2 g2 z2 e3
  have w3 := I3.1.2.1
  rw [r15 w3]
  refine ⟨(w3.nu n89).1, fun M4 e4 M5 e5 => ?_⟩
  obtain ⟨I4, g4, z4, l4, u4⟩ := nset (Or.inr (Or.inr rfl)) I3 g3 z3 e4
  have w4 := I4.1.2.1
  obtain ⟨m5, f5⟩ := mv_fld (v := 0) ⟨by decide, by decide⟩ I4.1.1 w4 e5
  have no : ∀ q : Nat, False → q ∈ nums a := fun _ z => z.elim
  have g5 : mI M5 g = mI M1 g := (m5.gI w4 hg no (by omega)).trans g4
  have I5 : iF M a g M5 := I4.trans (iF.mk w4 m5 (fun _ z => z.elim) (fun x z => Or.inl z) (fun i i1 _ _ => by rw [f5, if_neg i1]))
  have s5 : ∀ {q}, q ∈ nums a → ln M5 q = ln M4 q := fun hq => (m5.lst hq (fun z => z)).1
  have k85 : ln M5 (a + 85) = 0 := by rw [s5 n85, u4 _ n85 (by omega), u3 _ n85 (by omega), l2]
  have k87 : ln M5 (a + 87) = 0 := by rw [s5 n87, u4 _ n87 (by omega), l3]
  have k89 : ln M5 (a + 89) = 0 := by rw [s5 n89, l4]
  have hin5 : ∀ q, itP a g q → q ∈ nums a := fun q hq => hq.1
  have t2 : ¬ itP a g (mR M a 2) := fun z => by
    have := z.2
    rcases w.1.2.1 with y | y <;> rw [y.2] at this <;> omega
  have x5 : Wx M5 a N := hx.mv I5.1 hin5 (fun z => by have := z.2; omega) (fun z => by have := z.2; omega) (fun z => by have := z.2; omega) t2
  have h105 : mR M5 a 10 = g := by rw [I5.1.rfl_a w hin5]; exact h10
  have L5 : Lc M5 a g N 0 0 := ⟨I5.1.1, x5, ⟨k85, k87, k89, by omega, fun k hk => absurd hk (by omega)⟩, fun q hq => by rw [s5 (tL_in hg hq), z4 q (by have : q = g + 1 ∨ q = g + 3 ∨ q = g + 5 ∨ q = g + 7 ∨ q = g + 9 ∨ q = g + 11 := hq; omega)]; rfl, h105, hg, by rw [g5, c6, c12]; omega, by omega⟩
  have D5 : Df M5 a g N 0 0 0 0 0 0 (fun _ => 0) (-1) := ⟨L5, ⟨by rw [g5, c6]; rfl, by rw [g5, c12]; rfl, by rw [g5, c18]; rfl, by rw [g5, c17]⟩, ⟨by rw [s5 (n30 hg), z4 _ (by omega)]; rfl, by rw [s5 (n32 hg), z4 _ (by omega)]; rfl, by rw [s5 (n34 hg), z4 _ (by omega)]; rfl⟩, rfl, ⟨⟨by omega, by omega, by omega⟩, fun r hr => absurd hr (by omega), fun r hr => absurd hr (by omega), fun r hr => absurd hr (by omega), fun r hr => absurd hr (by omega), fun r hr => absurd hr (by omega), Or.inl rfl⟩⟩
  exact x_it_run w hN hg f N 0 M5 s09 (by omega) hac I5 (by rw [f5, if_pos rfl]) rfl ⟨0, 0, 0, 0, 0, 0, fun _ => 0, -1, D5, ⟨Nat.le_refl _, Nat.le_refl _⟩, ⟨rfl, fun q hq => absurd hq (by omega), fun p q _ hq => absurd hq (by omega), fun p q _ hq => absurd hq (by omega)⟩, rfl⟩ rfl
end IXB
end
section
/-! The reference's solver in a memory that agrees on its cells. -/
section AG
variable {M M' : mM} {s e f r n : Nat}
/-- the cells from s to e are the same -/
def Ag (M M' : mM) (s e : Nat) : Prop := ∀ x, s ≤ x → x ≤ e → mK M' x = mK M x ∧ mN M' x = mN M x ∧ mR M' x = mR M x ∧ mI M' x = mI M x
theorem Ag.sub {s' e' : Nat} (h : Ag M M' s e) (h1 : s ≤ s') (h2 : e' ≤ e) : Ag M M' s' e' := fun x a b => h x (by omega) (by omega)
theorem Wh.ag {a : Nat} (h : Wh M a r) (k : Ag M M' a (a + 1)) : Wh M' a r := by
  obtain ⟨k1, k2, k3, k4⟩ := k a (Nat.le_refl _) (by omega)
  obtain ⟨q1, q2, q3, q4⟩ := k (a + 1) (by omega) (Nat.le_refl _)
  unfold Wh at h ⊢
  rw [k1, k3, k4, q1, q2]
  exact h
theorem wv.ag {a : Nat} (k : Ag M M' a (a + 1)) : wv M' a = wv M a := by
  unfold wv
  rw [(k a (Nat.le_refl _) (by omega)).2.2.2, (k (a + 1) (by omega) (Nat.le_refl _)).2.2.2]
theorem W3.ag {a : Nat} (h : W3 M a r) (k : Ag M M' a (a + 1)) : W3 M' a r := by
  obtain ⟨h1, h2, h3⟩ := h
  refine ⟨h1.ag k, ?_, ?_⟩
  · unfold WD at h2 ⊢
    rw [(k a (Nat.le_refl _) (by omega)).2.2.2, (k (a + 1) (by omega) (Nat.le_refl _)).2.2.2]
    exact h2
  · unfold WT at h3 ⊢
    rw [(k a (Nat.le_refl _) (by omega)).2.2.2, (k (a + 1) (by omega) (Nat.le_refl _)).2.2.2]
    exact h3
theorem Fk.ag (h : Fk M f) (k : Ag M M' f f) : Fk M' f := by
  obtain ⟨k1, k2, k3, k4⟩ := k f (Nat.le_refl _) (Nat.le_refl _)
  unfold Fk at h ⊢
  rw [k1, k3]
  exact h
theorem Ft.ag (h : Ft M f r) (k : Ag M M' f (f + 4)) : Ft M' f r :=
  ⟨h.1.ag (k.sub (by omega) (by omega)), h.2.1.ag (k.sub (by omega) (by omega)), h.2.2.ag (k.sub (by omega) (by omega))⟩
theorem Fq.ag (h : Fq M f r) (k : Ag M M' f (f + 4)) : Fq M' f r := by
  obtain ⟨h1, h2, h3, h4, h5⟩ := h
  refine ⟨h1.ag (k.sub (by omega) (by omega)), h2.ag (k.sub (by omega) (by omega)), h3.ag (k.sub (by omega) (by omega)), ?_, ?_⟩
  · rw [(k f (Nat.le_refl _) (by omega)).2.2.2]; exact h4
  · rw [wv.ag (k.sub (by omega) (by omega))]; exact h5
theorem Fc.ag (h : Fc M f) (k : Ag M M' f (f + 4)) : Fc M' f := by
  unfold Fc xn at h ⊢
  rw [(k f (Nat.le_refl _) (by omega)).2.2.2, wv.ag (a := f + 1) (k.sub (by omega) (by omega)), wv.ag (a := f + 3) (k.sub (by omega) (by omega))]
  exact h
theorem fv.ag (k : Ag M M' f (f + 4)) : fv M' f = fv M f := by
  unfold fv sn sd
  rw [(k f (Nat.le_refl _) (by omega)).2.2.2, wv.ag (a := f + 1) (k.sub (by omega) (by omega)), wv.ag (a := f + 3) (k.sub (by omega) (by omega))]
theorem Sz.ag {u : Nat} (h : Sz M u) (k : Ag M M' u (u + 20)) : Sz M' u := by
  obtain ⟨h1, h2, h3, h4⟩ := h
  refine ⟨?_, h2.ag (k.sub (by omega) (by omega)), h3.ag (k.sub (by omega) (by omega)), fun c hc => ?_⟩
  · obtain ⟨k1, k2, k3, k4⟩ := k u (Nat.le_refl _) (by omega)
    unfold Sk at h1 ⊢
    rw [k1, k3]
    exact h1
  · have hc' : c = 2 ∨ c = 4 ∨ c = 7 ∨ c = 9 ∨ c = 11 ∨ c = 13 ∨ c = 15 ∨ c = 17 ∨ c = 19 := by
      have : c ∈ [2, 4, 7, 9, 11, 13, 15, 17, 19] := hc
      simpa using this
    exact (h4 c hc).ag (k.sub (by omega) (by omega))
theorem Vk.ag (h : Vk M s) (k : Ag M M' s (s + 21067)) : Vk M' s := by
  have kK : ∀ i, i ≤ 67 → mK M' (s + i) = mK M (s + i) := fun i hi => (k (s + i) (by omega) (by omega)).1
  have kN : ∀ i, i ≤ 67 → mN M' (s + i) = mN M (s + i) := fun i hi => (k (s + i) (by omega) (by omega)).2.1
  have kR : ∀ i, i ≤ 67 → mR M' (s + i) = mR M (s + i) := fun i hi => (k (s + i) (by omega) (by omega)).2.2.1
  have k0 := k s (Nat.le_refl _) (by omega)
  unfold Vk at h ⊢
  rw [k0.1, k0.2.2.1, kK 22 (by omega), kK 23 (by omega), kK 24 (by omega), kK 25 (by omega), kK 26 (by omega), kK 27 (by omega), kK 28 (by omega), kK 29 (by omega), kK 30 (by omega), kK 31 (by omega), kK 32 (by omega), kK 33 (by omega), kK 34 (by omega), kK 35 (by omega), kK 36 (by omega), kK 37 (by omega), kK 38 (by omega), kK 39 (by omega), kK 40 (by omega), kK 41 (by omega), kK 67 (by omega), kN 22 (by omega), kN 23 (by omega), kN 24 (by omega), kN 25 (by omega), kN 26 (by omega), kN 27 (by omega), kN 28 (by omega), kN 29 (by omega), kN 30 (by omega), kN 31 (by omega), kN 32 (by omega), kN 33 (by omega), kN 34 (by omega), kN 35 (by omega), kN 36 (by omega), kN 37 (by omega), kN 38 (by omega), kN 39 (by omega), kN 40 (by omega), kN 41 (by omega), kN 67 (by omega), kR 29 (by omega), kR 31 (by omega), kR 38 (by omega), kR 41 (by omega)]
  exact h
theorem sameG.ag (k : Ag M M' s (s + 21067)) : sameG M M' s := by
  have k0 := (k s (Nat.le_refl _) (by omega)).2.2.2
  exact ⟨by rw [k0], by rw [k0], by rw [k0], fun x a b => (k x (by omega) (by omega)).2.2.2⟩
theorem Sv.ag (h : Sv M s n) (k : Ag M M' s (s + 21067)) : Sv M' s n := by
  have hn5 := h.n5
  obtain ⟨V, g, c, e, t, W, T, R, H, hc⟩ := h
  have sg := sameG.ag k
  have kI : ∀ i, i ≤ 21067 → mI M' (s + i) = mI M (s + i) := fun i hi => (k (s + i) (by omega) (by omega)).2.2.2
  refine ⟨V.ag k, sg.gw g, sg.gb c, by rw [sg.1]; exact e, t.out sg (kI 32 (by omega)), ⟨W.1.ag (k.sub (by omega) (by omega)), W.2.1.ag (k.sub (by omega) (by omega)), W.2.2.1.ag (k.sub (by omega) (by omega)), W.2.2.2.1.ag (k.sub (by omega) (by omega)), W.2.2.2.2.1.ag (k.sub (by omega) (by omega)), W.2.2.2.2.2.ag (k.sub (by omega) (by omega))⟩, fun i j hi hj => (T i j hi hj).ag (k.sub (by unfold cel; omega) (by unfold cel; omega)), fun e he i hi => (R e he i hi).ag (k.sub (by omega) (by omega)), fun w hw => ?_, fun q => (hc (by rw [← kI 30 (by omega)]; exact q)).out sg (kI 33 (by omega))⟩
  obtain ⟨h1, h2⟩ := H w hw
  unfold Hs
  rw [kI 30 (by omega)]
  refine ⟨h1, fun q => ?_⟩
  obtain ⟨x, X, v⟩ := h2 q
  refine ⟨x, fun i hi => ?_, v⟩
  obtain ⟨x1, x2, x3⟩ := X i hi
  have ka : Ag M M' (s + (68 + 5 * w) + 25 * i) (s + (68 + 5 * w) + 25 * i + 4) := k.sub (by omega) (by omega)
  exact ⟨x1.ag ka, x2.ag ka, by rw [fv.ag ka]; exact x3⟩
end AG
end
