/-! The reference's items, exactly. -/
section IXP
variable {w pl nq : Nat → Int} {sm : Nat → Nat → Prop} {N k e mc f : Nat} {s : st9}
theorem its_x (h : s.2.2.1 ≠ 0) : its9 w pl nq sm N mc f k s = s := by
  cases f with
  | zero => rfl
  | succ f => rw [its9, if_pos h]
theorem its_end (h : s.2.2.1 = 0) (hw : w k = 0) : its9 w pl nq sm N mc (f + 1) k s = if s.2.1.2.2.2 = 0 then (s.1, s.2.1, (10, pl k)) else s := by
  rw [its9, if_neg (fun z => z h), if_pos hw]
theorem its_s (h : s.2.2.1 = 0) (hw : w k ≠ 0) (he : nxq w 34 N k = e) : its9 w pl nq sm N mc (f + 1) k s = its9 w pl nq sm N mc f (e + 1) (if w k = 3 ∨ w k = 6 then itr w pl nq sm k e s else if w k = 4 then itv w pl nq sm N k e s else if w k = 11 then itt w pl sm k e s else itc w pl sm N mc k e s) := by
  rw [its9, if_neg (fun z => z h), if_neg hw, he]
  unfold ite9
  simp only [he]
theorem igs_end {g9 : gm9} (h : s.2.2.1 = 0) (hw : w k = 0) : igs9 w pl nq sm N mc (f + 1) k s g9 = g9 := by
  rw [igs9, if_neg (fun z => z h), if_pos hw]
theorem igs_s {g9 : gm9} {s9 : st9} (h : s.2.2.1 = 0) (hw : w k ≠ 0) (he : nxq w 34 N k = e) (hs : (if w k = 3 ∨ w k = 6 then itr w pl nq sm k e s else if w k = 4 then itv w pl nq sm N k e s else if w k = 11 then itt w pl sm k e s else itc w pl sm N mc k e s) = s9) (h0 : s9.2.2.1 = 0) : igs9 w pl nq sm N mc (f + 1) k s g9 = igs9 w pl nq sm N mc f (e + 1) s9 (igm9 w pl nq sm N s.1 k g9) := by
  have es : ite9 w pl nq sm N mc k s = s9 := by
    unfold ite9
    simp only [he]
    exact hs
  rw [igs9, if_neg (fun z => z h), if_neg hw, he, es, if_neg (fun z => z h0)]
theorem itt_2 (h : s.2.1.2.2.2 ≠ 0) : (itt w pl sm k e s).2.2 = (4, pl k) := by
  unfold itt
  simp only []
  rw [if_pos h]
theorem itt_f (h : s.2.1.2.2.2 = 0) (h3 : (rf9 w pl sm s.1 0 1 (k + 1) e).1 ≠ 0) : (itt w pl sm k e s).2.2 = rf9 w pl sm s.1 0 1 (k + 1) e := by
  unfold itt
  simp only []
  rw [if_neg (fun z => z h), if_pos h3]
theorem itt_ok (h : s.2.1.2.2.2 = 0) (h3 : (rf9 w pl sm s.1 0 1 (k + 1) e).1 = 0) : itt w pl sm k e s = (s.1, (s.2.1.1, s.2.1.2.1, s.2.1.2.2.1, 1), (0, 0)) := by
  unfold itt
  simp only []
  rw [if_neg (fun z => z h), if_neg (fun z => z h3)]
end IXP
section IXA
variable {G : mG} {d a g R W C T Z T2 T3 N K : Nat} {M M2 M3 : mM} {E : Eg9} {tg : Int} {s s' sF : st9} {gF : gm9}
/-- all items have been read, exactly -/
def itmX (M : mM) (a g N : Nat) (sF : st9) (gF : gm9) (M' : mM) : Prop := iF M a g M' ∧ ((sF.2.2.1 ≠ 0 ∧ fpw M' a sF.2.2) ∨ (sF.2.2.1 = 0 ∧ mI M' a 16 = 0 ∧ ∃ (T K R W C Z : Nat) (E : Eg9) (tg : Int), Df M' a g N T K R W C Z E tg ∧ T < N ∧ Z < N ∧ 0 ≤ tg ∧ RSq M' a g K sF.1 ∧ sF.2.1 = (W, R, C, 1) ∧ E.2 = txg M' a N sF.1 gF))
theorem x_it_x {k : Int} (ik : i32 k) (w2 : Wd M2 a) (o2 : mOk M2) (hI : iF M a g M2) (z : mI M2 a 16 ≠ 0) (fl : sF.2.2.1 ≠ 0 ∧ fpw M2 a sF.2.2) : h_MM_items0_38 G (d + 10) a k M2 (fun M' => mOk M' ∧ itmX M a g N sF gF M') :=
  k_MM_items0_38 o2 ik ⟨w2.1.1, fun y => absurd y z, fun _ => ⟨fun y => absurd y z, fun _ => k_MM_items0_218 o2 ⟨o2, hI, Or.inl fl⟩, fun y => absurd (Or.inl z) y⟩⟩
theorem x_it_run (wM : Wd M a) (hN : N ≤ 16385) (hg : g = a + 13 ∨ g = a + 49) : ∀ (f f' k : Nat) (M2 : mM) (s : st9) (gm : gm9), N ≤ k + f' → Ac (wk M a) N f [50] k → iF M a g M2 → mI M2 a 16 = 0 → s.2.2.1 = 0 → DfS M2 a g N k s gm → sF = its9 (wk M a) (nt M (a + 7)) (nuq M a) (smx M a) N 60 f' k s → (sF.2.2.1 = 0 → gF = igs9 (wk M a) (nt M (a + 7)) (nuq M a) (smx M a) N 60 f' k s gm) → h_MM_items0_38 G (d + 10) a k M2 (fun M' => mOk M' ∧ itmX M a g N sF gF M') := by
  intro f
  induction f using Nat.strongRecOn with
  | ind f ih =>
    intro f' k M2 s gm hf' hac hI z2 hs0 hDf eF eG
    obtain ⟨T, K, R, W, C, Z, E, tg, h, ⟨hT, hZ⟩, hS, hst, eγ⟩ := hDf
    have sx2 := hI.sx wM hg
    have tgz : tg = -1 ∨ 0 ≤ tg := by
      rcases h.2.2.2.2.2.2.2.2.2.2.1 with y | ⟨n', -, -, -, y, -⟩
      · exact Or.inl y
      · exact Or.inr (by omega)
    have hL := h.1
    have w2 := hL.2.1.1.1
    have wkE := hI.wk hg
    have hkN := ac_le hac
    have h17 := h.2.1.2.2.2
    have ik : i32 (k : Int) := i32s (by omega) (by omega)
    -- after an item
    have nxt : ∀ (e g' f2 : Nat) (M3 : mM) (s' : st9) (g9 : gm9), N ≤ e + 1 + f2 → g' < f → e < N → Ac (wk M a) N g' [50] (e + 1) → sF = its9 (wk M a) (nt M (a + 7)) (nuq M a) (smx M a) N 60 f2 (e + 1) s' → (s'.2.2.1 = 0 → sF.2.2.1 = 0 → gF = igs9 (wk M a) (nt M (a + 7)) (nuq M a) (smx M a) N 60 f2 (e + 1) s' g9) → itX M2 a g N (e + 1) s' g9 M3 → h_MM_items0_183 G (d + 10) a e M3 (fun M' => mOk M' ∧ itmX M a g N sF gF M') := fun e g' f2 M3 s' g9 hf2 hg' he hac' eF eG hq => by
      obtain ⟨I3, hq⟩ := hq
      have I03 := hI.trans I3
      refine k_MM_items0_183 I3.1.1 (i32s (by omega) (by omega)) ?_
      rw [show (e : Int) + 1 = ((e + 1 : Nat) : Int) by omega]
      rcases hq with ⟨y, yf⟩ | ⟨y0, y1, y2⟩
      · rw [its_x y] at eF
        exact x_it_x (i32s (by omega) (by omega)) I3.1.2.1 I3.1.1 I03 (by rw [yf.1]; exact y) (by rw [eF]; exact ⟨y, yf⟩)
      · exact ih g' hg' f2 (e + 1) M3 s' g9 hf2 hac' I03 y1 y0 y2 eF (eG y0)
    rcases ac_item hac with ⟨c0, c1⟩ | ⟨c0, e, g', hg', hit, hac'⟩
    · have kN : k < N := by omega
      obtain ⟨f', rfl⟩ : ∃ f2, f' = f2 + 1 := ⟨f' - 1, by omega⟩
      rw [its_end hs0 c0, hst] at eF
      simp only [] at eF
      refine k_MM_items0_38 hL.1 ik ⟨w2.1.1, fun _ => hL.wd (d := d + 9) kN (fun x hx ix => ⟨ix, hL.1, fun _ => ⟨w2.1.1, ?_⟩, fun q => absurd (hx.trans (by rw [wkE]; exact c0)) q⟩), fun y => absurd z2 y⟩
      rw [show mR M2 a 10 = g from hL.2.2.2.2.1, h17]
      refine ⟨fun _ => (w2.gp hg).1, fun q => k_MM_items0_218 hL.1 ⟨hL.1, hI, Or.inr ?_⟩, fun q => ?_⟩
      · have tg0 : 0 ≤ tg := by
          rcases q with q | q
          · exact absurd z2 q
          · exact q
        have n1 : ¬ tg = -1 := by omega
        rw [if_neg n1, if_neg (by decide)] at eF
        have eG := eG (by rw [eF]; exact hs0)
        rw [igs_end hs0 c0] at eG
        rw [eF]
        exact ⟨hs0, z2, T, K, R, W, C, Z, E, tg, h, by omega, by omega, tg0, hS, by rw [hst, if_neg n1], by rw [eG]; exact eγ⟩
      · have t1 : tg = -1 := by
          rcases tgz with y | y
          · exact y
          · exact absurd (Or.inr y) q
        rw [if_pos t1, if_pos rfl] at eF
        refine (s_MM_place0 (d := d + 9) hL.1 hL.2.1 kN).mono (fun y M5 h5 => ?_)
        obtain ⟨e5, hy⟩ := h5
        subst e5
        have hy32 : i32 y := by rw [hy]; exact (hL.1 _ _).1
        refine ⟨hy32, hL.1, w2.1.1, (s_MM_stop ⟨by decide, by decide⟩ hy32 hL.1 w2).mono (fun M6 h6 => ⟨h6.1.1, k_MM_items0_218 h6.1.1 ⟨h6.1.1, hI.trans (iF.mk w2 h6.1 (fun _ z => z.elim) (fun x z => Or.inl z) (fun i i1 i2 _ => h6.2.2.2 i i1 i2)), Or.inl (by rw [eF]; exact ⟨by simp, h6.2.1, by rw [h6.2.2.1, hy, sx2.2.1]⟩)⟩⟩)⟩
    · have he1 := ac_le hac'
      have hke := hit.2.1
      have kN : k < N := by omega
      have eN : e < N := by omega
      refine k_MM_items0_38 hL.1 ik ⟨w2.1.1, fun _ => hL.wd (d := d + 9) kN (fun x hx ix => ⟨ix, hL.1, fun q => ?_, fun _ => ⟨w2.1.1, ?_⟩⟩), fun y => absurd z2 y⟩
      · rw [wkE] at hx
        exact absurd (hx.symm.trans q) c0
      have hit2 : It (wk M2 a) k e := by rw [wkE]; exact hit
      obtain ⟨f', rfl⟩ : ∃ f2, f' = f2 + 1 := ⟨f' - 1, by omega⟩
      have en : nxq (wk M a) 34 N k = e := nxq_at (by omega) (by omega) hit.1 (fun m m1 m2 => hit.sg.2.2.2 m m1 m2)
      rw [its_s hs0 c0 en] at eF
      have en1 : nxq (wk M a) 34 N (k + 1) = e := nxq_at (by omega) (by omega) hit.1 (fun m m1 m2 => hit.sg.2.2.2 m (by omega) m2)
      have eG := fun (s9 : st9) hs h0 hF => (eG hF).trans (igs_s (g9 := gm) (s9 := s9) (f := f') hs0 c0 en hs h0)
      have hf2 : N ≤ e + 1 + f' := by omega
      refine hL.ue (d := d + 8) hit2 eN ⟨i32s (by omega) (by omega), hL.1, w2.1.1, hL.wd (d := d + 9) kN (fun x2 hx2 ix2 => ⟨ix2, hL.1, ?_⟩)⟩
      obtain ⟨-, -, hsh⟩ := hit2
      have go : ∀ (s' : st9) (g9 : gm9), sF = its9 (wk M a) (nt M (a + 7)) (nuq M a) (smx M a) N 60 f' (e + 1) s' → (s'.2.2.1 = 0 → sF.2.2.1 = 0 → gF = igs9 (wk M a) (nt M (a + 7)) (nuq M a) (smx M a) N 60 f' (e + 1) s' g9) → ∀ M3, mOk M3 ∧ itX M2 a g N (e + 1) s' g9 M3 → mOk M3 ∧ h_MM_items0_183 G (d + 10) a e M3 (fun M' => mOk M' ∧ itmX M a g N sF gF M') := fun s' g9 eF eG M3 t => ⟨t.1, nxt e g' f' M3 s' g9 hf2 hg' eN hac' eF eG t.2⟩
      have hx3 : wk M2 a k = wk M a k := by rw [wkE]
      refine ⟨fun q1 => ⟨w2.1.1, ?_⟩, fun q1 => ⟨fun q2 => ⟨w2.1.1, ?_⟩, fun q2 => ⟨fun q3 => ⟨w2.1.1, ?_⟩, fun q3 => ⟨w2.1.1, ?_⟩⟩⟩⟩
      · rcases hsh with ⟨y0, -, -, y1⟩ | ⟨y0, -⟩ | ⟨y0, -⟩ | ⟨y0, -⟩
        · rw [wkE] at y0
          rw [if_pos y0] at eF
          have eG := eG _ (if_pos y0)
          have eg : igm9 (wk M a) (nt M (a + 7)) (nuq M a) (smx M a) N s.1 k gm = gm := if_pos y0
          rw [eg] at eG
          refine (x_MM_ruleItem (d := d + 3) eγ (by rw [wkE]; exact en1) h hS hst z2 (by rw [wkE]; exact y0) y1 eN hT hZ).mono (go _ gm ?_ ?_)
          · rw [sx2.1, sx2.2.1, sx2.nu, sx2.sm]; exact eF
          · rw [sx2.1, sx2.2.1, sx2.nu, sx2.sm]; exact eG
        · omega
        · omega
        · omega
      · rcases hsh with ⟨y0, -⟩ | ⟨y0, -, -, i, y1, y2⟩ | ⟨y0, -⟩ | ⟨y0, -⟩
        · omega
        · rw [wkE] at y0
          have n36 : ¬ (wk M a k = 3 ∨ wk M a k = 6) := by omega
          rw [if_neg n36, if_pos y0] at eF
          have eG := eG _ ((if_neg n36).trans (if_pos y0))
          have eg : igm9 (wk M a) (nt M (a + 7)) (nuq M a) (smx M a) N s.1 k gm = (gm.1 ++ [var9 (wk M a) (nt M (a + 7)) (nuq M a) (smx M a) N s.1 k e], gm.2) := by
            unfold igm9
            rw [if_neg n36, if_pos y0, en]
          rw [eg] at eG
          refine (x_MM_varItem (d := d + 2) eγ h hS hst z2 eN hT hZ y1 y2).mono (go _ _ ?_ ?_)
          · rw [sx2.1, sx2.2.1, sx2.nu, sx2.sm]; exact eF
          · rw [sx2.1, sx2.2.1, sx2.nu, sx2.sm]; exact eG
        · omega
        · omega
      · have n36 : ¬ (wk M a k = 3 ∨ wk M a k = 6) := by omega
        have n4 : ¬ wk M a k = 4 := by omega
        have y11 : wk M a k = 11 := by omega
        rw [if_neg n36, if_neg n4, if_pos y11] at eF
        have eG := eG _ ((if_neg n36).trans ((if_neg n4).trans (if_pos y11)))
        have eg : igm9 (wk M a) (nt M (a + 7)) (nuq M a) (smx M a) N s.1 k gm = (gm.1, some (k + 1, e), gm.2.2) := by
          unfold igm9
          rw [if_neg n36, if_neg n4, if_pos y11, en]
        rw [eg] at eG
        have eo : Eo (wk M2 a) 6 (k + 1) e := by
          rcases hsh with ⟨y0, -⟩ | ⟨y0, -⟩ | ⟨y0, -⟩ | ⟨-, y⟩
          · omega
          · omega
          · omega
          · exact y
        rw [show mR M2 a 10 = g from hL.2.2.2.2.1, h17, show (k : Int) + 1 = ((k + 1 : Nat) : Int) by omega]
        refine ⟨(w2.gp hg).1, fun q4 => ?_, fun q4 => ?_⟩
        · have t1' : tg = -1 := by clear hsh eG eF; omega
          have st0 : s.2.1.2.2.2 = 0 := by rw [hst]; show (if tg = -1 then 0 else 1) = 0; rw [if_pos t1']
          refine (x_crule (d := d + 3) eγ h.ci hS z2 w2 (Or.inr rfl) (by omega) eo eN).mono (fun x5 M5 q5 => ?_)
          obtain ⟨ex, T5, t1, t2, Rl, hp, qx⟩ := q5
          subst ex
          rw [sx2.1, sx2.2.1, sx2.sm] at qx
          have L5 := Rl.2.1
          have w5 := L5.2.1.1.1
          refine ⟨i32s (by omega) (by omega), L5.1, (w5.gp hg).1, fun M6 e6 => ?_⟩
          obtain ⟨I6, a6, o6, D6⟩ := h.tgt (ij := (k + 1, e)) t1 Rl hp (fun z => by
            rcases qx with ⟨u1, u2⟩ | ⟨-, -, -, u9⟩
            · exact absurd (u2.1.symm.trans z) u1
            · exact u9) (by omega) e6
          refine nxt e g' f' M6 _ _ hf2 hg' eN hac' eF eG ⟨I6, ?_⟩
          rcases qx with ⟨u1, u2⟩ | ⟨u1, u2, u3, u9⟩
          · rw [itt_f st0 u1]
            exact Or.inl ⟨u1, by rw [a6]; exact u2.1, by rw [a6]; exact u2.2⟩
          · rw [itt_ok st0 u1]
            refine Or.inr ⟨rfl, by rw [a6]; exact u2, T5, K, R, W, C, Z, _, _, D6 u2, ⟨by omega, by omega⟩, u3.own L5 (i32s (by omega) (by omega)) e6, ?_, ?_⟩
            · show (s.2.1.1, s.2.1.2.1, s.2.1.2.2.1, 1) = _
              rw [hst, if_neg (show ¬ ((T : Int) = -1) by omega)]
            · rw [(I6.sx w2 hg).tx9]
              show gWs E.2 _ _ = _
              rw [eγ]
              rfl
        · have st1 : s.2.1.2.2.2 ≠ 0 := by rw [hst]; show (if tg = -1 then 0 else 1) ≠ 0; rw [if_neg (by clear hsh eG eF; omega)]; decide
          refine (s_MM_place0 (d := d + 9) hL.1 hL.2.1 kN).mono (fun y M5 h5 => ?_)
          obtain ⟨e5, hy⟩ := h5
          subst e5
          have hy32 : i32 y := by rw [hy]; exact (hL.1 _ _).1
          refine ⟨hy32, hL.1, w2.1.1, (s_MM_stop ⟨by decide, by decide⟩ hy32 hL.1 w2).mono (fun M6 h6 => ⟨h6.1.1, nxt e g' f' M6 _ _ hf2 hg' eN hac' eF eG ⟨(st_it (g := g) (N := N) (k := e + 1) w2 (by decide) h6).1, Or.inl ?_⟩⟩)⟩
          rw [itt_2 st1]
          exact ⟨by simp, h6.2.1, by rw [h6.2.2.1, hy, sx2.2.1]⟩
      · rcases hsh with ⟨y0, -⟩ | ⟨y0, -⟩ | ⟨y78, j, f9, y1, y2, y3⟩ | ⟨y0, -⟩
        · omega
        · omega
        · have n36 : ¬ (wk M a k = 3 ∨ wk M a k = 6) := by omega
          have n4 : ¬ wk M a k = 4 := by omega
          have n11 : ¬ wk M a k = 11 := by omega
          rw [if_neg n36, if_neg n4, if_neg n11] at eF
          have eG := eG _ ((if_neg n36).trans ((if_neg n4).trans (if_neg n11)))
          have eg : igm9 (wk M a) (nt M (a + 7)) (nuq M a) (smx M a) N s.1 k gm = (gm.1, gm.2.1, gm.2.2 ++ [cmd9 (wk M a) (nt M (a + 7)) (smx M a) N s.1 k e]) := by
            unfold igm9
            rw [if_neg n36, if_neg n4, if_neg n11, en]
          rw [eg] at eG
          refine (x_MM_commandItem (d := d) eγ y78 h hS hst z2 y1 y2 y3 eN hT hZ).mono (go _ _ ?_ ?_)
          · rw [sx2.1, sx2.2.1, sx2.sm]; exact eF
          · rw [sx2.1, sx2.2.1, sx2.sm]; exact eG
        · omega
end IXA
