/-! The reference: an enabled command, exactly. -/
section ENX3
variable {G : mG} {d a g T R W C Z n L w w0 k : Nat} {M M' M2 M3 : mM} {E : Eg9} {tg mul : Int} {B : Nat → Nat} {ww pl lo hi : Nat → Int} {XV : List Int → Int → vrs} {ev : List Int → Nat → Nat → vrs} {cvS : List Int → Nat → vrs} {stp : List Int → List (Nat × Nat × Nat × Nat) → (Int × Int) × List Int} {tgI : Nat × Nat} {cms : List cm9} {sg : List Int}
theorem x_en87 {c nb : Nat} {cm : cm9} {RR s9 : sl9} {T9 : xt9} {L0 : Nat} (hev : ∀ sg i j, ev sg i j = vlq ww (cvS sg) pl 0 0 i j) (hstp : ∀ sg l, stp sg l = ((stq9 ww (cvS sg) pl lo hi l (fun v => sg.getD v 0)).1, (List.range W).map (stq9 ww (cvS sg) pl lo hi l (fun v => sg.getD v 0)).2)) (hp : GP ww pl XV ev M g R W C T E tgI cms lo hi) (hcm : RCm ww pl XV ev M g R W T E c cm) (hR1 : smq9 mul (lchR M2 a nb) ≠ mul → RR = ((11, cm.2.1), s9.2)) (hR2 : smq9 mul (lchR M2 a nb) = mul → ∀ fl, flq9 stp sg cm.2.1 mul w (cm.2.2.2.zip (lchR M2 a nb)) s9.2.1 [] = fl → RR = (fl.1, fl.2.1, cm.1, s9.2.2.2 ++ [(c, mul, fl.2.2)])) (xq : XVq M2 a g R W (XV sg)) (hsg : ∀ v, v < W → mI M2 (a + 101) v = sg.getD v 0) (gq : GQr M2 a W k L0 T9 (s9.1, s9.2.1, cm.1, s9.2.2.2)) (hgd : ∀ b', b' < nb → Int.gcd (mL M2 (a + 21189) b') (mL M2 (a + 21190) b') = 1) (h0 : GG M a g T R W C Z E tg) (h : eB M a g T R W C Z E tg n L w B M2) (z16 : mI M2 a 16 = 0) (hw : B L = w) (hk5 : k < 512) (hk : 0 ≤ mI M (a + 108) k ∧ mI M (a + 108) k ≤ 5000) (hc : c < C) (hnb : mI M (g + 25) c = (nb : Int)) (hm : 1 ≤ mul ∧ mul < 1000000000) (hch : chk1 M2 a nb) (hdv : ∀ b' : Nat, b' < nb → mL M2 (a + 21190) b' ∣ mul) : ∀ (t b : Nat), b + t = nb → h_MM_enabled_87 G (d + 7) a k c cm.2.1 mul (sm (fun b' => mL M2 (a + 21189) b' * (mul / mL M2 (a + 21190) b')) b) b M2 (fun M' => mOk M' ∧ enQ M a g T R W C Z E tg n L k B M' ∧ eyX RR T9 a W k L0 (XV sg) g R sg M') := by
  obtain ⟨x1, gg, en, xd, t107, t108⟩ := id h
  have ipl : i32 cm.2.1 := by rw [← hcm.2.1]; exact (h0.1 _ _).1
  have hlen : cm.2.2.2.length = nb := by
    have e := hcm.2.2.2.1
    rw [hnb] at e
    omega
  have smE : ∀ m, sm (fun b' => mL M2 (a + 21189) b' * (mul / mL M2 (a + 21190) b')) m = smq9 mul (lchR M2 a m) := fun m => by
    induction m with
    | zero => rfl
    | succ m ih =>
      show sm (fun b' => mL M2 (a + 21189) b' * (mul / mL M2 (a + 21190) b')) m + mL M2 (a + 21189) m * (mul / mL M2 (a + 21190) m) = _
      rw [ih, lchR_s, smq_1, Int.mul_comm]
  have o2 := gg.1
  have w2 := gg.2.1
  have hg := gg.2.2.1.2
  have hBd := gg.2.2.2.2.2.2.2.1.1
  have wd0 := h0.2.1
  have gs := x1.gs wd0 hg
  have r25 : mI M2 (g + 25) c = (nb : Int) := by rw [(gs.2.1 25 (by first | decide | (simp; done) | omega) (by first | decide | (simp; done) | omega)).1]; exact hnb
  have nb8 : nb ≤ 8 := by
    have := (h0.2.2.2.2.2.2.2.1.2.2.2.2.1 c hc).2.2.1
    omega
  have hL := xd.le
  have term : ∀ b', b' < nb → 0 ≤ mL M2 (a + 21189) b' * (mul / mL M2 (a + 21190) b') ∧ mL M2 (a + 21189) b' * (mul / mL M2 (a + 21190) b') ≤ mul := fun b' hb' => by
    have c1 := hch b' hb'
    obtain ⟨q, hq⟩ := hdv b' hb'
    have e : mul / mL M2 (a + 21190) b' = q := by rw [hq]; exact Int.mul_ediv_cancel_left q (by first | decide | (simp; done) | omega)
    have q0 : 0 ≤ q := by rw [← e]; exact Int.ediv_nonneg (by first | decide | (simp; done) | omega) (by first | decide | (simp; done) | omega)
    rw [e]
    refine ⟨Int.mul_nonneg (by first | decide | (simp; done) | omega) q0, ?_⟩
    have := Int.mul_le_mul_of_nonneg_right c1.2.1 q0
    omega
  have ik : i32 (k : Int) := i32s (by first | decide | (simp; done) | omega) (by first | decide | (simp; done) | omega)
  have ic : i32 (c : Int) := i32s (by first | decide | (simp; done) | omega) (by first | decide | (simp; done) | omega)
  have im : i64 mul := ⟨by omega, by omega⟩
  have b60 : ((0 : Int) ≤ (c : Int) ∧ (c : Int) < ((60 : Nat) : Int)) := by omega
  have b512 : ((0 : Int) ≤ (k : Int) ∧ (k : Int) < ((512 : Nat) : Int)) := by omega
  have sb : ∀ b, b ≤ nb → i64 (sm (fun b' => mL M2 (a + 21189) b' * (mul / mL M2 (a + 21190) b')) b) := fun b hb => by
    have := sm_bd (f := fun b' => mL M2 (a + 21189) b' * (mul / mL M2 (a + 21190) b')) (c := mul) b (fun t ht => term t (by first | decide | (simp; done) | omega))
    have h8 : (b : Int) * mul ≤ 8 * 1000000000 := Int.mul_le_mul (by first | decide | (simp; done) | omega) (by first | decide | (simp; done) | omega) (by first | decide | (simp; done) | omega) (by first | decide | (simp; done) | omega)
    exact ⟨by omega, by omega⟩
  intro t
  induction t with
  | zero =>
    intro b hb
    have eb : b = nb := by omega
    subst eb
    refine k_MM_enabled_87 o2 ik ic ipl im (sb b (Nat.le_refl _)) (i32s (by first | decide | (simp; done) | omega) (by first | decide | (simp; done) | omega)) ⟨w2.1.1, ?_⟩
    rw [gg.2.2.1.1, show mR M2 g 22 = g + 25 from (w2.gp hg).2.2.1.2.2.2.2.2.2.2.1, Int.toNat_natCast, r25, show mR M2 a 35 = a + 109 from w2.1.2.2.2.2.2.1.2.2.2.2.1]
    refine ⟨(w2.gp hg).1, (w2.gp hg).2.2.2.2.2.2.2.2.1.1, by rw [(w2.gp hg).2.2.2.2.2.2.2.2.1.2]; exact b60, fun _ => ⟨fun q => ⟨(w2.nu k109).1, ?_⟩, fun q => (s_MM_stop ⟨by decide, by decide⟩ ipl o2 w2).mono (fun M3 h3 => ⟨h3.1.1, h3.1.1, en_stop h (by decide) h3, Or.inl ⟨by rw [h3.2.1]; decide, by rw [hR1 (fun u => q ((cmpz _ _).2.2.2.1.2 (by rw [smE]; exact u))), h3.2.1, h3.2.2.1]⟩⟩)⟩, fun q => absurd (Int.le_refl _) q⟩
    have hsum := (cmpz _ _).2.2.2.1.1 q
    obtain ⟨l109, l111, l113, l115⟩ := xd.2.2.2.2.1
    refine (s_MN_add ic o2 (w2.nu k109) (by rw [l109]; omega)).mono (fun M3 a3 => ?_)
    have m3 := mv_add w2 k109 a3
    have w3 := m3.2.1
    have z115 : ln M3 (a + 115) = (L : Int) := by rw [(m3.lst k115 (by first | decide | (simp; done) | omega)).1, l115]
    have z111 : ln M3 (a + 111) = (L : Int) := by rw [(m3.lst k111 (by first | decide | (simp; done) | omega)).1, l111]
    have z113 : ln M3 (a + 113) = (L : Int) := by rw [(m3.lst k113 (by first | decide | (simp; done) | omega)).1, l113]
    rw [show mR M3 a 38 = a + 115 from w3.1.2.2.2.2.2.1.2.2.2.2.2.2.2.1]
    refine ⟨m3.1, w3.1.1, (w3.nu k115).1, (s_MN_add ⟨by omega, by omega⟩ m3.1 (w3.nu k115) (by rw [z115]; omega)).mono (fun M4 a4 => ?_)⟩
    have m4 := mv_add w3 k115 a4
    have w4 := m4.2.1
    have i1 : ∀ {p q : Nat}, p ∈ nums a → q = p → q ∈ nums a := fun hp hq => by rw [hq]; exact hp
    have e40 : mI M4 a 40 = (w : Int) := by
      rw [(m4.fld w3 (fun q hq => i1 k115 hq) (fun z => z)).1, (m3.fld w2 (fun q hq => i1 k109 hq) (fun z => z)).1]
      exact xd.2.1.1
    have w4096 := xd.2.1.2
    rw [show mR M4 a 36 = a + 111 from w4.1.2.2.2.2.2.1.2.2.2.2.2.1, e40]
    refine ⟨m4.1, w4.1.1, (w4.nu k111).1, (s_MN_add (i32s (by first | decide | (simp; done) | omega) (by first | decide | (simp; done) | omega)) m4.1 (w4.nu k111) (by rw [(m4.lst k111 (by first | decide | (simp; done) | omega)).1, z111]; omega)).mono (fun M5 a5 => ?_)⟩
    have m5 := mv_add w4 k111 a5
    have w5 := m5.2.1
    rw [show mR M5 a 37 = a + 113 from w5.1.2.2.2.2.2.1.2.2.2.2.2.2.1]
    refine ⟨m5.1, w5.1.1, (w5.nu k113).1, (s_MN_add ⟨by decide, by decide⟩ m5.1 (w5.nu k113) (by rw [(m5.lst k113 (by first | decide | (simp; done) | omega)).1, (m4.lst k113 (by first | decide | (simp; done) | omega)).1, z113]; omega)).mono (fun M6 a6 => ?_)⟩
    have m6 := mv_add w5 k113 a6
    have w6 := m6.2.1
    have A8 : mK M6 (a + 108) = 30 ∧ mN M6 (a + 108) = 512 := w6.1.2.2.2.2.2.2.2.2.1.2.2.2
    have e108 : mI M6 (a + 108) = mI M (a + 108) := by
      rw [← t108, (m6.cellL w5 (fun q hq => i1 k113 hq) (offx (a := a) (o := 108) (by decide)) (fun z => z)).1, (m5.cellL w4 (fun q hq => i1 k111 hq) (offx (a := a) (o := 108) (by decide)) (fun z => z)).1, (m4.cellL w3 (fun q hq => i1 k115 hq) (offx (a := a) (o := 108) (by decide)) (fun z => z)).1, (m3.cellL w2 (fun q hq => i1 k109 hq) (offx (a := a) (o := 108) (by decide)) (fun z => z)).1]
    rw [show mR M6 a 34 = a + 108 from w6.1.2.2.2.2.2.1.2.2.2.1, Int.toNat_natCast, e108]
    refine ⟨m6.1, w6.1.1, A8.1, by rw [A8.2]; exact b512, by rw [A8.2]; exact b512, i32s (by first | decide | (simp; done) | omega) (by first | decide | (simp; done) | omega), fun M7 e7 => ?_⟩
    obtain ⟨⟨u1, u2, u3⟩, u4, u5, u6, u7, u8, u9, u10, u11, ⟨p109, po⟩, p106, p105, ⟨p85, p86, p87⟩, mm, gs27⟩ := en_putx (c := c) h hw hk hm a3 a4 a5 a6 e7
    have hW12 := hBd.2.1
    obtain ⟨g1, g2, g3, g4, g5, g6, L2, w9, g7, g8, g9, g10, g11, g12, g13⟩ := gq
    have eL : L2 = L := by
      have := l109
      omega
    have ew : w9 = w := by
      have := xd.2.1.1
      omega
    subst eL ew
    have hsum' : smq9 mul (lchR M2 a b) = mul := by rw [← smE]; exact hsum
    have cqe : ∀ i, i < L2 → cmQ M7 a i = cmQ M2 a i := fun i hi => by
      unfold cmQ
      rw [(po i hi).1, (po i hi).2.1, (po i hi).2.2.1, (po i hi).2.2.2, brR_cg (M := M2) (M' := M7) (fun _ _ _ => by rw [p85, p86, p87]; exact ⟨rfl, rfl, rfl⟩)]
    have key := x_en201 (G := G) (k := k) (zl := cm.2.2.2.zip (lchR M2 a b)) (S0 := s9.2.1) (M7 := M7) (n := n) (d := d) (cA := mL M2 (a + 21189)) (cD := mL M2 (a + 21190)) (sg := sg) hev hstp hp hcm (fun b' hb' => ⟨cm.2.2.2[b']'(by first | decide | (simp; done) | omega), List.getElem?_eq_getElem _, by rw [List.getElem?_zip_eq_some]; exact ⟨List.getElem?_eq_getElem _, lchR_get hb'⟩⟩) (by rw [List.length_zip, lchR_len]; omega) hgd h0 ipl hc hnb hw hL (fun b' hb' => ⟨(hch b' hb').1, (hch b' hb').2.1, (hch b' hb').2.2.1, (hch b' hb').2.2.2, hdv b' hb'⟩) hm.1 hsum b 0 M7 (by first | decide | (simp; done) | omega) ⟨u6, u7, u8, u9, fun _ => ⟨⟨by rw [u1]; exact u2, by rw [u1]; exact u3⟩, n, w9, Nat.le_refl _, u10, u11, by omega⟩⟩ (fun _ => ⟨s9.2.1, [], rfl, ⟨by rw [u4]; exact g2, by rw [SmR_cg (M := M2) hW12 (fun j _ => by rw [p105])]; exact g3, w9, by rw [u4]; exact g10, by rw [Nat.sub_self]; rfl, fun j hj => by rw [p86, p87]; exact g13 j hj, xq.mv w2 mm (fun q hq => xP_in hq) gs27 (fun x hx => by omega), Tq.refl⟩, fun v hv => by rw [(mm.cellL w2 (fun q hq => xP_in hq) (offx (a := a) (o := 101) (by decide)) (by first | decide | (simp; done) | omega)).1]; exact hsg v hv⟩) (fun z => absurd (by rw [u4]; exact z16) z)
    refine mWm.mono key (fun r9 M9 z9 => ⟨z9.1, z9.2.1, z9.2.2.1, ?_⟩)
    have zE := z9.2.2.1
    rcases z9.2.2.2 with ⟨e1, e2⟩ | ⟨e1, S', B', e2, ⟨e3, e4, w', e5, e6, e7', e8, e9⟩, e10⟩
    · refine Or.inl ⟨e1, ?_⟩
      rw [hR2 hsum' _ rfl]
      exact e2
    rw [hR2 hsum' _ rfl, e2]
    obtain ⟨q1, q2, q3, q4, q5, q6⟩ := e9
    obtain ⟨x9, gg9, en9, t107', t108', v9⟩ := zE
    rcases v9 with y | ⟨-, v9, n9, w9', B9, b1, b2, b3, b4⟩
    · exact absurd e1 y
    have ew9 : w9' = w' := by
      have := b4.2.1.1
      omega
    subst ew9
    have o9 := b4.2.2.2.2.2.2 L2 (by first | decide | (simp; done) | omega)
    have hw0 : w9 ≤ w9' := by
      have h1 := o9.1.1
      have h2 := b2 L2 (Nat.le_refl _)
      omega
    have cq9 : ∀ i, i < L2 → cmQ M9 a i = cmQ M2 a i := fun i hi => by
      rw [← cqe i hi]
      have oi := u10.2.2.2.2.2.2 i hi
      have mB := u10.mono (i + 1) L2 (by first | decide | (simp; done) | omega) (Nat.le_refl _)
      unfold cmQ
      rw [q1, q2, q3, q4 i hi, oi.2.1.1, oi.2.1.2, Int.toNat_natCast, Int.toNat_natCast, brR_cg (M := M7) (M' := M9) (fun j j1 j2 => q6 j (by have := oi.1.1; omega))]
    have cqL : cmQ M9 a L2 = (c, mul, B') := by
      unfold cmQ
      rw [q1, p109, Int.toNat_natCast, o9.2.1.2, b2 L2 (Nat.le_refl _), b3, hw, q2, u11.2.1.1, q3, u11.2.1.2.2, Int.toNat_natCast, Int.toNat_natCast, e6]
    have e106 : mI M9 (a + 106) = mI M2 (a + 106) := q5.trans p106
    have e107 : mI M9 (a + 107) = mI M2 (a + 107) := t107'.trans t107.symm
    have e108 : ∀ k', k' ≠ k → mI M9 (a + 108) k' = mI M2 (a + 108) k' := fun k' hk' => by rw [t108' k' hk', t108]
    have hB' : B'.length = w9' - w9 := by rw [← e6, brR_len]
    refine Or.inr ⟨e1, ⟨rfl, e3, e4, ?_, by rw [e106]; exact g5, fun k' hk' => ?_, L2 + 1, w9', by rw [e107]; exact g7, ⟨by omega, ?_⟩, b4.2.2.2.2.1.1, e5, ?_, ?_, e7'⟩, e8, e10⟩
    · rw [← g4]
      exact xtR_cg (L := L0) (fun k' _ => by rw [e106]) (fun k' hk' => ⟨by rw [e107], e108 k' (by first | decide | (simp; done) | omega)⟩) g6 (fun i hi => cq9 i (by first | decide | (simp; done) | omega))
    · rw [e107, e108 k' (by first | decide | (simp; done) | omega)]
      exact g6 k' hk'
    · rw [v9, ← t108, g8.2]
      omega
    · show cmL M9 a L0 (L2 + 1 - L0) = s9.2.2.2 ++ [(c, mul, B')]
      rw [show L2 + 1 - L0 = (L2 - L0) + 1 by omega, cmL_s, cmL_cg (M := M2) (fun i i1 i2 => cq9 i (by first | decide | (simp; done) | omega)), show L0 + (L2 - L0) = L2 by omega, cqL]
      exact congrArg (fun x => x ++ [(c, mul, B')]) g11
    · show nbx9 T9 + nbq9 (s9.2.2.2 ++ [(c, mul, B')]) = w9'
      have g12' : nbx9 T9 + nbq9 s9.2.2.2 = w9 := g12
      rw [nbq_app]
      show nbx9 T9 + (nbq9 s9.2.2.2 + (B'.length + 0)) = w9'
      omega
  | succ t ih =>
    intro b hb
    have b8 : ((0 : Int) ≤ (b : Int) ∧ (b : Int) < ((8 : Nat) : Int)) := by omega
    have c1 := hch b (by first | decide | (simp; done) | omega)
    have nx := ih (b + 1) (by first | decide | (simp; done) | omega)
    refine k_MM_enabled_87 o2 ik ic ipl im (sb b (by first | decide | (simp; done) | omega)) (i32s (by first | decide | (simp; done) | omega) (by first | decide | (simp; done) | omega)) ⟨w2.1.1, ?_⟩
    rw [gg.2.2.1.1, show mR M2 g 22 = g + 25 from (w2.gp hg).2.2.1.2.2.2.2.2.2.2.1, Int.toNat_natCast, r25, (r4546 w2).1.1, (r4546 w2).1.2, Int.toNat_natCast, Int.toNat_natCast]
    refine ⟨(w2.gp hg).1, (w2.gp hg).2.2.2.2.2.2.2.2.1.1, by rw [(w2.gp hg).2.2.2.2.2.2.2.2.1.2]; exact b60, fun q => absurd q (by first | decide | (simp; done) | omega), fun _ => ⟨(r4546 w2).2.1.1, by rw [(r4546 w2).2.1.2]; exact b8, (r4546 w2).2.2.1, by rw [(r4546 w2).2.2.2]; exact b8, by omega, ?_⟩⟩
    rw [show Int.tdiv mul (mL M2 (a + 21190) b) = mul / mL M2 (a + 21190) b from Int.tdiv_eq_ediv_of_nonneg (by first | decide | (simp; done) | omega), show (b : Int) + 1 = ((b + 1 : Nat) : Int) by omega]
    exact nx
theorem x_MM_enabled {c L0 : Nat} {cm : cm9} {s9 : sl9} {T9 : xt9} (hev : ∀ sg i j, ev sg i j = vlq ww (cvS sg) pl 0 0 i j) (hstp : ∀ sg l, stp sg l = ((stq9 ww (cvS sg) pl lo hi l (fun v => sg.getD v 0)).1, (List.range W).map (stq9 ww (cvS sg) pl lo hi l (fun v => sg.getD v 0)).2)) (hp : GP ww pl XV ev M g R W C T E tgI cms lo hi) (hcm : cms[c]? = some cm) (hok : GOk ev cms sg) (hg1 : (ev sg cm.2.2.1.1 cm.2.2.1.2).1 = 0) (hg2 : (ev sg cm.2.2.1.1 cm.2.2.1.2).2.1 ≠ 0) (xq : XVq M a g R W (XV sg)) (hsg : ∀ v, v < W → mI M (a + 101) v = sg.getD v 0) (gq : GQr M a W k L0 T9 s9) (h : GG M a g T R W C Z E tg) (hn : En M a g R W) (xd : XD M a g n W L w L B) (hw : B L = w) (z16 : mI M a 16 = 0) (hk5 : k < 512) (hk : 0 ≤ mI M (a + 108) k ∧ mI M (a + 108) k ≤ 5000) (hc : c < C) : Cv G y_MM_enabled (d + 8) [vr a, vi k, vi c] M (fun M' => mOk M' ∧ enQ M a g T R W C Z E tg n L k B M' ∧ eyX (tcq9 ev stp sg (nbx9 T9) c cm s9) T9 a W k L0 (XV sg) g R sg M') := by
  have o := h.1
  have wd := h.2.1
  have hR := h.2.2.2.2.2.2.2.1.1.1
  have hW12 := h.2.2.2.2.2.2.2.1.1.2.1
  have rc := hp.2.2.2.2.2.2 c cm hcm
  have hg := h.2.2.1.2
  have hD := h.2.2.2.2.2.2.2.1
  have hBd := hD.1
  have cc := hD.2.2.2.2.1 c hc
  obtain ⟨nb, hnb⟩ : ∃ nb : Nat, mI M (g + 25) c = (nb : Int) := ⟨(mI M (g + 25) c).toNat, by have := cc.2.1; omega⟩
  have b60 : ((0 : Int) ≤ (c : Int) ∧ (c : Int) < ((60 : Nat) : Int)) := by omega
  have b512 : ((0 : Int) ≤ (k : Int) ∧ (k : Int) < ((512 : Nat) : Int)) := by omega
  have A6 : mK M (a + 106) = 30 ∧ mN M (a + 106) = 512 := wd.1.2.2.2.2.2.2.2.2.1.2.1
  have ipl : i32 (mI M (g + 23) c) := (o _ _).1
  have eb0 : eB M a g T R W C Z E tg n L w B M := ⟨xF.refl o wd, h, hn, xd, rfl, rfl⟩
  have gk : mI M (a + 106) k = s9.2.2.1 := gq.2.2.2.2.1
  have cmv : ∀ v : Int, v = (if mI M (g + 22) c = 0 then 1 else 2) → v = cm.1 := fun v hv => by
    rcases rc.1 with ⟨y1, y2⟩ | ⟨y1, y2⟩
    · rw [hv, if_pos y2, y1]
    · rw [hv, if_neg y2, y1]
  refine k_MM_enabled o (i32s (by first | decide | (simp; done) | omega) (by first | decide | (simp; done) | omega)) (i32s (by first | decide | (simp; done) | omega) (by first | decide | (simp; done) | omega)) ⟨wd.1.1, ?_⟩
  rw [h.2.2.1.1, show mR M g 19 = g + 22 from (wd.gp hg).2.2.1.2.2.2.2.1, show mR M g 20 = g + 23 from (wd.gp hg).2.2.1.2.2.2.2.2.1, show mR M a 32 = a + 106 from wd.1.2.2.2.2.2.1.2.1, Int.toNat_natCast, Int.toNat_natCast]
  refine ⟨(wd.gp hg).1, (wd.gp hg).2.2.2.2.2.1.1, by rw [(wd.gp hg).2.2.2.2.2.1.2]; exact b60, fun v hv => ⟨(wd.gp hg).2.2.2.2.2.2.1.1, by rw [(wd.gp hg).2.2.2.2.2.2.1.2]; exact b60, A6.1, by rw [A6.2]; exact b512, fun _ => by rw [A6.2]; exact b512, fun qk => ⟨by rw [A6.2]; exact b512, fun M2 e2 => ?_⟩, fun qk => (s_MM_stop ⟨by decide, by decide⟩ ipl o wd).mono (fun M3 h3 => ⟨h3.1.1, h3.1.1, en_stop eb0 (by decide) h3, Or.inl ⟨by rw [h3.2.1]; decide, by rw [tcq_m hg1 hg2 ⟨fun u => qk (Or.inl (gk.trans u)), fun u => qk (Or.inr (gk.trans (u.trans (cmv v hv).symm)))⟩, h3.2.1, h3.2.2.1, rc.2.1]⟩⟩)⟩⟩
  have iv : i32 v := by rw [hv]; split <;> exact ⟨by decide, by decide⟩
  obtain ⟨m2, f2', l2⟩ := mv_cell iv o wd (show a ≤ a + 106 by omega) (offx (a := a) (o := 106) (by decide)) e2
  have no : ∀ q : Nat, False → q ∈ nums a := fun _ z => z.elim
  have w2 := m2.2.1
  have aI := (m2.fld wd no (by first | decide | (simp; done) | omega)).1
  have F2 : xF M a M2 := xF.mk wd m2 (fun _ z => z.elim) (fun x z => Or.inr (Or.inl (by first | decide | (simp; done) | omega))) (fun i _ _ _ _ _ => by rw [aI])
  have gs2 := F2.gs wd hg
  have gg2 := h.gs m2.1 w2 (by rw [m2.rfl_a wd no]) gs2
  have en2 := hn.mv wd m2 no gs2 (fun x z => by omega)
  have xd2 := xd.mv wd m2 no (fun _ z => z.elim) (fun x z => by omega) gs2 (by rw [aI]) (by rw [aI])
  have c7 := (m2.cellL wd no (offx (a := a) (o := 107) (by decide)) (by first | decide | (simp; done) | omega)).1
  have c8 := (m2.cellL wd no (offx (a := a) (o := 108) (by decide)) (by first | decide | (simp; done) | omega)).1
  have hpk : ¬ (s9.2.2.1 ≠ 0 ∧ s9.2.2.1 ≠ cm.1) := fun u => by
    rcases qk with y | y
    · exact u.1 (gk.symm.trans y)
    · exact u.2 (gk.symm.trans (y.trans (cmv v hv)))
  have z162 : mI M2 a 16 = 0 := by rw [aI]; exact z16
  have hp2 := hp.gs gs2 hR
  refine (x_MM_chances (d := d + 1) (sg := sg) gg2 en2 hp2 (xq.mv wd m2 no gs2 (fun x z => by omega)) z162 hcm hc ipl (by rw [(gs2.2.1 25 (by first | decide | (simp; done) | omega) (by first | decide | (simp; done) | omega)).1]; exact hnb)).mono (fun mul M3 t3 => ?_)
  obtain ⟨i3, o3, ⟨-, ⟨x3, gg3, en3⟩, v3⟩, y3⟩ := t3
  have w3 := gg3.2.1
  have gs3 := x3.gs w2 hg
  have un : ∀ x, xE a x → x = a ∨ (a + 97 ≤ x ∧ x ≤ a + 98) ∨ (a + 102 ≤ x ∧ x ≤ a + 104) ∨ (a + 21188 ≤ x ∧ x ≤ a + 21190) := fun x hx => hx
  have xd3 := xd2.mv w2 x3.1 in99 (fun q hq => by omega) (fun x hx => by have := un x hx; omega) gs3 (x3.2 29 (by decide) (by decide) (by decide)) (x3.2 40 (by decide) (by decide) (by decide))
  have tb := x3.tab w2
  have eb3 : eB M a g T R W C Z E tg n L w B M3 := ⟨F2.trans (x3.xf w2), gg3, en3, xd3, by rw [tb.2.1]; exact c7, by rw [tb.2.2]; exact c8⟩
  refine ⟨i3, o3, w3.1.1, fun z3 => ?_, fun z3 => ⟨o3, ⟨eb3.1, gg3, en3, eb3.2.2.2.2.1, fun k' _ => by rw [eb3.2.2.2.2.2], Or.inl z3⟩, Or.inl ⟨z3, ?_⟩⟩⟩
  rotate_left
  · rcases y3 with (⟨y1, y2, y4⟩ | ⟨y1, y2, y4, y5⟩) | ⟨-, -, y4, -⟩
    · rw [tcq_c hg1 hg2 hpk y1, y2, y4]
    · rw [tcq_u hg1 hg2 hpk y1 y2, y4, y5, rc.2.1]
    · exact absurd y4 z3
  rcases v3 with y | ⟨-, u1, u2, u3, u4⟩
  · exact absurd z3 y
  obtain ⟨f1, f2, -, f3, f4, f5⟩ : (chq9 ev sg cm.2.2.2).1.1 = 0 ∧ muq9 (chq9 ev sg cm.2.2.2).2 1 ≠ 0 ∧ mI M3 a 16 = 0 ∧ mul = muq9 (chq9 ev sg cm.2.2.2).2 1 ∧ lchR M3 a nb = (chq9 ev sg cm.2.2.2).2 ∧ XVq M3 a g R W (XV sg) := by
    rcases y3 with (⟨y1, y2, -⟩ | ⟨y1, y2, y4, y5⟩) | y4
    · exact absurd (y2.symm.trans z3) y1
    · rw [z3] at y4
      exact absurd y4 (by decide)
    · exact y4
  have hlen : cm.2.2.2.length = nb := by
    have e := rc.2.2.2.1
    rw [hnb] at e
    omega
  have e101 : ∀ v, v < W → mI M3 (a + 101) v = sg.getD v 0 := fun v' hv' => by
    rw [(x3.1.cellL w2 in99 (offx (a := a) (o := 101) (by decide)) (fun z => by have := un _ z; omega)).1, (m2.cellL wd no (offx (a := a) (o := 101) (by decide)) (by first | decide | (simp; done) | omega)).1]
    exact hsg v' hv'
  have gF := F2.trans (x3.xf w2)
  have gs03 := gs2.trans gs3
  obtain ⟨g1, g2, g3, g4, g5, g6, L2, w9, g7, g8, g9, g10, g11, g12, g13⟩ := gq
  have c3 : ∀ o, frO o → (o = 105 ∨ o = 106 ∨ o = 107 ∨ o = 108 ∨ o = 21185 ∨ o = 21186 ∨ o = 21187) → mI M3 (a + o) = mI M2 (a + o) ∧ mL M3 (a + o) = mL M2 (a + o) := fun o fo ho => x3.1.cellL w2 in99 (offx fo) (fun z => by have := un _ z; omega)
  have c2 : ∀ o, frO o → (o = 105 ∨ o = 107 ∨ o = 108 ∨ o = 21185 ∨ o = 21186 ∨ o = 21187) → mI M2 (a + o) = mI M (a + o) ∧ mL M2 (a + o) = mL M (a + o) := fun o fo ho => m2.cellL wd no (offx fo) (by first | decide | (simp; done) | omega)
  have ls : ∀ {q}, q ∈ nums a → q ≠ a + 99 → ln M3 q = ln M q ∧ nt M3 q = nt M q := fun hq n1 => by
    have s3 := x3.1.lst hq n1
    have s2 := m2.lst hq (fun z => z)
    exact ⟨s3.1.trans s2.1, funext (fun j => (s3.2.1 j).trans (s2.2.1 j))⟩
  have i29 : mI M3 a 29 = mI M a 29 := (x3.2 29 (by decide) (by decide) (by decide)).trans (by rw [aI])
  have i40 : mI M3 a 40 = mI M a 40 := (x3.2 40 (by decide) (by decide) (by decide)).trans (by rw [aI])
  have b5 := (c3 105 (by decide) (by first | decide | (simp; done) | omega)).1.trans (c2 105 (by decide) (by first | decide | (simp; done) | omega)).1
  have b7 := (c3 107 (by decide) (by first | decide | (simp; done) | omega)).1.trans (c2 107 (by decide) (by first | decide | (simp; done) | omega)).1
  have b8 := (c3 108 (by decide) (by first | decide | (simp; done) | omega)).1.trans (c2 108 (by decide) (by first | decide | (simp; done) | omega)).1
  have b85 := (c3 21185 (by decide) (by first | decide | (simp; done) | omega)).1.trans (c2 21185 (by decide) (by first | decide | (simp; done) | omega)).1
  have b86 := (c3 21186 (by decide) (by first | decide | (simp; done) | omega)).2.trans (c2 21186 (by decide) (by first | decide | (simp; done) | omega)).2
  have b87 := (c3 21187 (by decide) (by first | decide | (simp; done) | omega)).2.trans (c2 21187 (by decide) (by first | decide | (simp; done) | omega)).2
  have b6 : ∀ k', mI M3 (a + 106) k' = if k' = k then cm.1 else mI M (a + 106) k' := fun k' => by
    rw [(c3 106 (by decide) (by first | decide | (simp; done) | omega)).1, f2', cmv v hv]
    by_cases y : k' = k
    · rw [if_pos ⟨rfl, y⟩, if_pos y]
    · rw [if_neg (fun z => y z.2), if_neg y]
  have cq : ∀ i, cmQ M3 a i = cmQ M a i := fun i => by
    unfold cmQ
    rw [(ls k109 (by first | decide | (simp; done) | omega)).2, (ls k111 (by first | decide | (simp; done) | omega)).2, (ls k113 (by first | decide | (simp; done) | omega)).2, (ls k115 (by first | decide | (simp; done) | omega)).2, brR_cg (M := M) (M' := M3) (fun _ _ _ => by rw [b85, b86, b87]; exact ⟨rfl, rfl, rfl⟩)]
  have gq3 : GQr M3 a W k L0 T9 (s9.1, s9.2.1, cm.1, s9.2.2.2) := ⟨g1, by rw [i29]; exact g2, by rw [SmR_cg (M := M) hW12 (fun j _ => by rw [b5])]; exact g3, by rw [← g4]; exact xtR_cg (L := L0) (fun k' hk' => by rw [b6, if_neg (by first | decide | (simp; done) | omega)]) (fun k' _ => by rw [b7, b8]; exact ⟨rfl, rfl⟩) g6 (fun i _ => cq i), by rw [b6, if_pos rfl], fun k' hk' => by rw [b7, b8]; exact g6 k' hk', L2, w9, by rw [b7]; exact g7, by rw [b8]; exact g8, by rw [(ls k109 (by first | decide | (simp; done) | omega)).1]; exact g9, by rw [i40]; exact g10, by rw [cmL_cg (M := M) (fun i _ _ => cq i)]; exact g11, g12, fun j hj => by rw [b86, b87]; exact g13 j hj⟩
  have ew : w9 = w := by
    have := xd.2.1.1
    omega
  have hgd : ∀ b', b' < nb → Int.gcd (mL M3 (a + 21189) b') (mL M3 (a + 21190) b') = 1 := fun b' hb' => by
    have e1 := chq_get f1 (List.getElem?_eq_getElem (show b' < cm.2.2.2.length by omega))
    have e2 := lchR_get (M := M3) (a := a) hb'
    rw [f4, e1.1] at e2
    have e3 := Option.some.inj e2
    have e4 := hok c cm hcm b' _ (List.getElem?_eq_getElem (show b' < cm.2.2.2.length by omega)) e1.2
    rw [e3] at e4
    exact e4
  have key := x_en87 (G := G) (d := d) (sg := sg) (RR := tcq9 ev stp sg (nbx9 T9) c cm s9) (s9 := s9) (T9 := T9) (L0 := L0) hev hstp hp rc (fun y => by rw [f4, f3] at y; exact tcq_s hg1 hg2 hpk f1 f2 y) (fun y fl hfl => by
    rw [f4, f3] at y hfl
    rw [f3]
    refine tcq_e hg1 hg2 hpk f1 f2 y ?_
    rw [g12, ew]
    exact hfl) f5 e101 gq3 hgd h eb3 z3 hw hk5 hk hc hnb ⟨u2, u3⟩ u1 u4 nb 0 (by first | decide | (simp; done) | omega)
  rw [rc.2.1]
  exact key
end ENX3
