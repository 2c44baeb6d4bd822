/-! The reference: way, exactly. -/
section WZX
variable {G : mG} {d a g T R W C Z n L w w0 : Nat} {M M2 : mM} {E : Eg9} {tg mul Sm A D : Int} {B : Nat → Nat} {ww pl lo hi : Nat → Int} {XV : List Int → Int → vrs} {ev : List Int → Nat → Nat → vrs} {cvS : List Int → Nat → vrs} {stp : List Int → List (Nat × Nat × Nat × Nat) → (Int × Int) × List Int} {tgI : Nat × Nat} {cms : List cm9} {sg : List Int}
theorem x_way59 {b c fs mn : Nat} {pc : Int} {br : br9} {S : List (List Int)} {Bl : List (Nat × Int)} (hev : ∀ sg i j, ev sg i j = vlq ww (cvS sg) pl 0 0 i j) (hstp : ∀ sg l, stp sg l = ((stq9 ww (cvS sg) pl lo hi l (fun v => sg.getD v 0)).1, (List.range W).map (stq9 ww (cvS sg) pl lo hi l (fun v => sg.getD v 0)).2)) (hp : GP ww pl XV ev M g R W C T E tgI cms lo hi) (hbr : RBr ww pl XV ev M g R W T E (8 * c + b) br) (gAD : Int.gcd A D = 1) (h0 : GG M a g T R W C Z E tg) (ipl : i32 pc) (hb : b < 8) (hc : c < C) (h28 : mI M (g + 28) (8 * c + b) = (fs : Int)) (h29 : mI M (g + 29) (8 * c + b) = (mn : Int)) (hfm : fs + mn ≤ Z) (hw0 : B L = w0) (hA : 0 < A ∧ A < 1000000000) (hD : 0 < D ∧ D < 1000000000) (hdm : D ∣ mul) (hle : Sm + A * (mul / D) ≤ mul) (hL : L ≤ 4096) : ∀ (t i : Nat) (M2 : mM), fs ≤ i → i + t = fs + mn → wI M a g T R W C Z E tg n L w w0 mul Sm A D B b M2 → (mI M2 a 16 = 0 → Nxv M2 a g W) → (mI M2 a 16 = 0 → (S.length = n ∧ SmR M2 a W n = S ∧ brR M2 a w0 mul (w - w0) = Bl ∧ Wc M2 a w ∧ Lw M M2 a w0) ∧ XVq M2 a g R W (XV sg) ∧ ∃ nx : Nat → Int, (∀ v, v < W → mI M2 (a + 21188) v = nx v) ∧ stq9 ww (cvS sg) pl lo hi br.2.2 (fun v => sg.getD v 0) = stq9 ww (cvS sg) pl lo hi (br.2.2.drop (i - fs)) nx) → (mI M2 a 16 ≠ 0 → (stq9 ww (cvS sg) pl lo hi br.2.2 (fun v => sg.getD v 0)).1 = (mI M2 a 16, mI M2 a 17)) → h_MM_way_59 G (d + 6) a b pc (8 * c + b : Nat) fs i M2 (fun M' => mOk M' ∧ wyQ M a g T R W C Z E tg n L w w0 mul (Sm + A * (mul / D)) B M' ∧ foR (flq9 stp sg pc mul w0) (br, A, D) S Bl a W w0 mul (XV sg) g R M M') := by
  have wd0 := h0.2.1
  have hR := h0.2.2.2.2.2.2.2.1.1.1
  have hW12 := h0.2.2.2.2.2.2.2.1.1.2.1
  have hlen : br.2.2.length = mn := by
    have e := hbr.2.2.1
    rw [h29] at e
    omega
  have hne : ((br, A, D) : br9 × (Int × Int)).2.1 ≠ 0 := by show A ≠ 0; omega
  have flt : ∀ {M2 : mM}, mI M2 a 16 ≠ 0 → (stq9 ww (cvS sg) pl lo hi br.2.2 (fun v => sg.getD v 0)).1 = (mI M2 a 16, mI M2 a 17) → foR (flq9 stp sg pc mul w0) (br, A, D) S Bl a W w0 mul (XV sg) g R M M2 := fun {M2} z e => Or.inl ⟨z, fun rest => by
    have e1 : (stp sg br.2.2).1 = (mI M2 a 16, mI M2 a 17) := by rw [hstp]; exact e
    rw [flq_f hne (by show (stp sg br.2.2).1.1 ≠ 0; rw [e1]; exact z)]
    exact e1⟩
  have hg := h0.2.2.1.2
  have hBd := h0.2.2.2.2.2.2.2.1.1
  have hZ := h0.2.2.2.2.1.2
  have ib : i32 (b : Int) := i32s (by omega) (by omega)
  have ix : i32 ((8 * c + b : Nat) : Int) := i32s (by omega) (by omega)
  have ifs : i32 (fs : Int) := i32s (by omega) (by omega)
  have b480 : ((0 : Int) ≤ ((8 * c + b : Nat) : Int) ∧ ((8 * c + b : Nat) : Int) < ((480 : Nat) : Int)) := by omega
  intro t
  induction t with
  | zero =>
    intro i M2 i0 hi9 h hnx hz hf
    have ei : i = fs + mn := by omega
    subst ei
    obtain ⟨x1, gg, en, xd, op, cA, cD⟩ := id h
    have o2 := gg.1
    have w2 := gg.2.1
    have gs := x1.gs wd0 hg
    have r29 : mI M2 (g + 29) (8 * c + b) = (mn : Int) := by rw [(gs.2.1 29 (by omega) (by omega)).1]; exact h29
    refine k_MM_way_59 o2 ib ipl ix ifs (i32s (by omega) (by omega)) ⟨w2.1.1, ?_⟩
    rw [gg.2.2.1.1, show mR M2 g 26 = g + 29 from (w2.gp hg).2.2.1.2.2.2.2.2.2.2.2.2.2.2.1, Int.toNat_natCast, r29]
    refine ⟨(w2.gp hg).1, (w2.gp hg).2.2.2.2.2.2.2.2.2.2.2.2.1, by rw [(w2.gp hg).2.2.2.2.2.2.2.2.2.2.2.2.2]; exact b480, i32s (by omega) (by omega), fun _ => ⟨fun z16 => ?_, fun z16 => ⟨o2, h.x z16, flt z16 (hf z16)⟩⟩, fun q => absurd (Or.inl (by omega)) q⟩
    obtain ⟨⟨eS1, eS2, eB, eW, eL⟩, zx, nx, zn, zs⟩ := hz z16
    rw [show fs + mn - fs = mn by omega, List.drop_eq_nil_of_le (by omega)] at zs
    have zs : stq9 ww (cvS sg) pl lo hi br.2.2 (fun v => sg.getD v 0) = ((0, 0), nx) := zs
    have sp1 : (stp sg br.2.2).1 = (0, 0) := by rw [hstp, zs]
    have sp2 : (stp sg br.2.2).2 = nxR M2 a W := by
      rw [hstp, zs]
      unfold nxR
      exact List.map_congr_left (fun v hv => (zn v (List.mem_range.mp hv)).symm)
    refine (x_MM_stateOf (d := d + 6) gg xd.1.1 xd.1.2.2 xd.2.2.1 (hnx z16)).mono (fun x M3 t3 => ?_)
    obtain ⟨ixx, o3, hs, hso⟩ := t3
    rw [eS2, ← sp2] at hso
    refine ⟨ixx, o3, ?_⟩
    rcases hs with ⟨y1, y2⟩ | ⟨n', y1, y2, y3, y4, m3, y5, y6, y7⟩
    · subst y2
      refine ⟨fun q => by omega, fun _ => ⟨w2.1.1, ?_⟩⟩
      rw [gg.2.2.1.1, show mR M3 g 24 = g + 27 from (w2.gp hg).2.2.1.2.2.2.2.2.2.2.2.2.1]
      refine ⟨(w2.gp hg).1, (w2.gp hg).2.2.2.2.2.2.2.2.2.2.1.1, by rw [(w2.gp hg).2.2.2.2.2.2.2.2.2.2.1.2]; exact b480, (s_MM_stop ⟨by decide, by decide⟩ (o2 _ _).1 o2 w2).mono (fun M4 h4 => ⟨h4.1.1, h4.1.1, h.stp (by decide) h4, Or.inl ⟨by rw [h4.2.1]; decide, fun rest => ?_⟩⟩)⟩
      have en9 : enq9 S (stp sg br.2.2).2 = none := by
        rcases hso with ⟨e, -⟩ | ⟨k, S', -, e, -⟩
        · exact e
        · omega
      rw [flq_n hne (by show (stp sg br.2.2).1.1 = 0; rw [sp1]) en9, h4.2.1, h4.2.2.1]
      show ((5 : Int), br.1) = _
      rw [(gs.2.1 27 (by omega) (by omega)).1, hbr.1]
    · obtain ⟨kk, S', en9, ek, el, eS⟩ : ∃ (k : Nat) (S' : List (List Int)), enq9 S (stp sg br.2.2).2 = some (k, S') ∧ x = (k : Int) ∧ mI M3 a 29 = ((S'.length : Nat) : Int) ∧ SmR M3 a W S'.length = S' := by
        rcases hso with ⟨-, e⟩ | e
        · omega
        · exact e
      have eln : S'.length = n' := by
        rw [y5] at el
        omega
      rw [eln] at eS
      have h3 := h.so (x := x) y1 y2 m3 y5 y6 y7
      have gg3 := h3.2.1
      have w3 := gg3.2.1
      have op3 := h3.2.2.2.2.1
      have l111 : mI M3 (a + 111) 1 = (L + 1 : Nat) := h3.2.2.2.1.2.2.2.2.1.2.1
      refine ⟨fun _ => ⟨w3.1.1, ?_⟩, fun q => absurd y3 q⟩
      rw [show mR M3 a 36 = a + 111 from w3.1.2.2.2.2.2.1.2.2.2.2.2.1, l111, show ((L + 1 : Nat) : Int) - 1 = (L : Int) by omega]
      refine ⟨(w3.nu k111).1, (s_MN_at o3 (w3.nu k111) (by show (L : Int) < mI M3 (a + 111) 1; rw [l111]; omega)).mono (fun u M4 e4 => ?_)⟩
      obtain ⟨e4, hu⟩ := e4
      subst e4
      have hu' : u = (w0 : Int) := hu.trans op3.2.1.1
      subst hu'
      refine ⟨i32s (by have := h3.2.2.2.1.2.1.2; have := op3.1; omega) (by have := h3.2.2.2.1.2.1.2; have := op3.1; omega), o3, ?_⟩
      have no : ∀ q : Nat, False → q ∈ nums a := fun _ z => z.elim
      have gs23 := gs_st w2 hg m3 no (fun _ z => z.elim) (fun x z => by omega)
      have cc : ∀ o, frO o → o ≠ 0 → o ≠ 105 → mI M4 (a + o) = mI M2 (a + o) ∧ mL M4 (a + o) = mL M2 (a + o) := fun o fo o0 o1 => m3.cellL w2 no (offx fo) (by omega)
      have c85 := (cc 21185 (by decide) (by decide) (by decide)).1
      have c86 := (cc 21186 (by decide) (by decide) (by decide)).2
      have c87 := (cc 21187 (by decide) (by decide) (by decide)).2
      have eB3 : Bl = brR M4 a w0 mul (w - w0) := by
        rw [← eB]
        exact (brR_cg (M := M2) (M' := M4) (fun i _ _ => by rw [c85, c86, c87]; exact ⟨rfl, rfl, rfl⟩)).symm
      have eW3 : Wc M4 a w := fun j hj => by
        rw [c86, c87]
        exact eW j hj
      have key := x_way187 (G := G) (d := d) (fq := flq9 stp sg pc mul w0) (x := (br, A, D)) (S := S) (S2 := S') (tn9 := kk) (xv := XV sg) (fun j hj => by rw [c85, c86, c87]; exact eL j hj) (zx.mv w2 m3 no gs23 (fun x z => by omega)) ⟨eln, eS⟩ eB3 eW3 gAD ek (fun rest => flq_e hne (by show (stp sg br.2.2).1.1 = 0; rw [sp1]) en9) ipl hb hw0 hA hD hdm hle ⟨y3, y4⟩ h3 (by rw [y6 16 (by decide)]; exact z16) hL (w - w0) w0 (Nat.le_refl _) (by have := op3.1; omega) (fun j' h1 h2 => absurd h2 (by omega))
      have hq : ∀ M', (mOk M' ∧ wyQ M a g T R W C Z E tg n' L w w0 mul (Sm + A * (mul / D)) B M' ∧ foR (flq9 stp sg pc mul w0) (br, A, D) S Bl a W w0 mul (XV sg) g R M M') → mOk M' ∧ wyQ M a g T R W C Z E tg n L w w0 mul (Sm + A * (mul / D)) B M' ∧ foR (flq9 stp sg pc mul w0) (br, A, D) S Bl a W w0 mul (XV sg) g R M M' := fun M' z => ⟨z.1, z.2.1.up (by omega), z.2.2⟩
      exact mWm.mono key (fun r M' z => ⟨z.1, hq M' z.2⟩)
  | succ t ih =>
    intro i M2 i0 hi9 h hnx hz hf
    obtain ⟨x1, gg, en, xd, op, cA, cD⟩ := id h
    have o2 := gg.1
    have w2 := gg.2.1
    have gs := x1.gs wd0 hg
    have r29 : mI M2 (g + 29) (8 * c + b) = (mn : Int) := by rw [(gs.2.1 29 (by omega) (by omega)).1]; exact h29
    have iZ : i < Z := by omega
    obtain ⟨z30, z32, z34⟩ := gg.2.2.2.2.2.2.1
    have hD2 := gg.2.2.2.2.2.2.2.1
    obtain ⟨s1, s2, s3⟩ := hD2.2.2.2.2.2.1 i iZ
    refine k_MM_way_59 o2 ib ipl ix ifs (i32s (by omega) (by omega)) ⟨w2.1.1, ?_⟩
    rw [gg.2.2.1.1, show mR M2 g 26 = g + 29 from (w2.gp hg).2.2.1.2.2.2.2.2.2.2.2.2.2.2.1, show mR M2 g 27 = g + 30 from (w2.gp hg).2.2.1.2.2.2.2.2.2.2.2.2.2.2.2.1, Int.toNat_natCast, r29]
    refine ⟨(w2.gp hg).1, (w2.gp hg).2.2.2.2.2.2.2.2.2.2.2.2.1, by rw [(w2.gp hg).2.2.2.2.2.2.2.2.2.2.2.2.2]; exact b480, i32s (by omega) (by omega), fun q => ⟨fun z16 => absurd z16 (by
      rcases q with q | q
      · omega
      · exact q), fun z16 => ⟨o2, h.x z16, flt z16 (hf z16)⟩⟩, fun q => ⟨(w2.nu (n30 hg)).1, ?_⟩⟩
    have z16 : mI M2 a 16 = 0 := Classical.byContradiction (fun z => q (Or.inr z))
    obtain ⟨⟨eS1, eS2, eB, eW, eL⟩, zx, nx, zn, zs⟩ := hz z16
    obtain ⟨sq, hsq⟩ : ∃ sq, br.2.2[i - fs]? = some sq := ⟨_, List.getElem?_eq_getElem (by omega)⟩
    have dq : br.2.2.drop (i - fs) = sq :: br.2.2.drop (i + 1 - fs) := by
      obtain ⟨hl, he⟩ := List.getElem?_eq_some_iff.mp hsq
      rw [List.drop_eq_getElem_cons hl, he, show i - fs + 1 = i + 1 - fs by omega]
    rw [dq] at zs
    have gs02 : Gs M M2 g := gs
    obtain ⟨-, -, -, fs', hfs', hsets⟩ := hbr.gs gs02 hR
    have efs : fs' = fs := by
      have e1 : mI M2 (g + 28) (8 * c + b) = (fs : Int) := by rw [(gs.2.1 28 (by omega) (by omega)).1]; exact h28
      omega
    subst efs
    obtain ⟨sv1, sv2, sv3, sv4⟩ := hsets (i - fs') sq hsq
    rw [show fs' + (i - fs') = i by omega] at sv1 sv2 sv4
    have hp2 := hp.gs gs02 hR
    have rd : ∀ {p : Nat} {Q : Int → mM → Prop}, p ∈ nums a → (i : Int) < ln M2 p → (∀ z, z = nt M2 p i → i32 z → Q z M2) → Ci G y_MN_at (d + 6) [vr p, vi i] M2 Q := fun hp hk hQ => by
      refine (s_MN_at o2 (w2.nu hp) hk).mono (fun z M1 e1 => ?_)
      obtain ⟨e1, hz⟩ := e1
      subst e1
      exact hQ z hz (by rw [hz]; exact (o2 _ _).1)
    refine rd (n30 hg) (by rw [z30]; omega) (fun v hv iv => ⟨iv, o2, w2.1.1, ?_⟩)
    rw [gg.2.2.1.1, show mR M2 g 29 = g + 34 from (w2.gp hg).2.2.1.2.2.2.2.2.2.2.2.2.2.2.2.2.2]
    refine ⟨(w2.gp hg).1, (w2.nu (n34 hg)).1, rd (n34 hg) (by rw [z34]; omega) (fun rt hrt irt => ⟨irt, o2, w2.1.1, ?_⟩)⟩
    rw [gg.2.2.1.1, show mR M2 g 28 = g + 32 from (w2.gp hg).2.2.1.2.2.2.2.2.2.2.2.2.2.2.2.2.1]
    refine ⟨(w2.gp hg).1, (w2.nu (n32 hg)).1, rd (n32 hg) (by rw [z32]; omega) (fun p hp' ip => ⟨ip, o2, w2.1.1, ?_⟩)⟩
    have hv' : v = ((sq.1 : Nat) : Int) := hv.trans sv1
    subst hv'
    rw [← hrt] at sv4
    have hpp : p = pl sq.2.2.2 := hp'.trans sv2
    refine (x_MM_set1 (d := d) (sg := sg) gg en (hnx z16) sv3 hp2.1 zx z16 (hp2.2.2.2.1 sq.1 sv3).1 (hp2.2.2.2.1 sq.1 sv3).2 sv4 ip).mono (fun M3 t3 => ⟨t3.1, ?_⟩)
    obtain ⟨-, ⟨m3, f3, gg3, en3, nx3⟩, u3⟩ := t3
    rw [hev, hpp] at u3
    have h3 := h.st m3 (fun q hq => hq) (fun x hx => hx) f3 en3
    rw [show (i : Int) + 1 = ((i + 1 : Nat) : Int) by omega]
    refine ih (i + 1) M3 (by omega) (by omega) h3 nx3 (fun z3 => ?_) (fun z3 => ?_)
    · rcases u3 with u | ⟨u1, u2, u3', -⟩ | ⟨u1, u2, u3', u4, u5⟩
      · exact absurd (u.2.1.symm.trans z3) u.1
      · exact absurd (u3'.symm.trans z3) u2
      have un : ∀ x, sxS a x → x = a ∨ (a + 97 ≤ x ∧ x ≤ a + 98) ∨ (a + 102 ≤ x ∧ x ≤ a + 104) ∨ x = a + 21188 := fun x hx => by
        have h' : (x = a ∨ x = a + 97 ∨ x = a + 98 ∨ x = a + 102 ∨ x = a + 103 ∨ x = a + 104) ∨ x = a + 21188 := hx
        omega
      have cc : ∀ o, frO o → (o = 105 ∨ o = 21185 ∨ o = 21186 ∨ o = 21187) → mI M3 (a + o) = mI M2 (a + o) ∧ mL M3 (a + o) = mL M2 (a + o) := fun o fo ho => m3.cellL w2 in99 (offx fo) (fun z => by have := un _ z; omega)
      have c105 := (cc 105 (by decide) (by omega)).1
      have c85 := (cc 21185 (by decide) (by omega)).1
      have c86 := (cc 21186 (by decide) (by omega)).2
      have c87 := (cc 21187 (by decide) (by omega)).2
      refine ⟨⟨eS1, ?_, ?_, fun j hj => ?_, fun j hj => by rw [c85, c86, c87]; exact eL j hj⟩, u5, fun v => if v = sq.1 then (vlq ww (cvS sg) pl 0 0 sq.2.1 sq.2.2.1).2.1 else nx v, fun v hv9 => ?_, ?_⟩
      · rw [SmR_cg (M := M2) hW12 (fun j _ => by rw [c105])]; exact eS2
      · rw [brR_cg (M := M2) (M' := M3) (fun i _ _ => by rw [c85, c86, c87]; exact ⟨rfl, rfl, rfl⟩)]; exact eB
      · rw [c86, c87]; exact eW j hj
      · rw [u4, zn v hv9]
      · rw [zs, stq9, if_neg (fun u => u u1), if_neg (fun u => u (by rw [u2]))]
    · rw [zs, stq9]
      rcases u3 with u | ⟨u1, u2, u3', u4⟩ | ⟨-, -, u3', -⟩
      · rw [if_pos u.1]
        show ((vlq ww (cvS sg) pl 0 0 sq.2.1 sq.2.2.1).1, (vlq ww (cvS sg) pl 0 0 sq.2.1 sq.2.2.1).2.1) = _
        rw [u.2.1, u.2.2]
      · rw [if_neg (fun u => u u1), if_pos u2]
        show stfq _ _ _ _ _ = _
        rw [u3', u4]
      · exact absurd u3' z3
theorem x_MM_way {b c : Nat} {pc : Int} {br : br9} {S : List (List Int)} {Bl : List (Nat × Int)} (hev : ∀ sg i j, ev sg i j = vlq ww (cvS sg) pl 0 0 i j) (hstp : ∀ sg l, stp sg l = ((stq9 ww (cvS sg) pl lo hi l (fun v => sg.getD v 0)).1, (List.range W).map (stq9 ww (cvS sg) pl lo hi l (fun v => sg.getD v 0)).2)) (hp : GP ww pl XV ev M g R W C T E tgI cms lo hi) (hbr : RBr ww pl XV ev M g R W T E (8 * c + b) br) (gAD : Int.gcd A D = 1) (z16 : mI M a 16 = 0) (eS : S.length = n ∧ SmR M a W n = S) (eB : brR M a w0 mul (w - w0) = Bl) (eW : Wc M a w) (xq : XVq M a g R W (XV sg)) (hsg : ∀ v, v < W → mI M (a + 101) v = sg.getD v 0) (h : wI M a g T R W C Z E tg n L w w0 mul Sm A D B b M) (ipl : i32 pc) (hc : c < C) (hbn : (b : Int) < mI M (g + 25) c) (hw0 : B L = w0) (hA : 0 < A ∧ A < 1000000000) (hD : 0 < D ∧ D < 1000000000) (hdm : D ∣ mul) (hle : Sm + A * (mul / D) ≤ mul) (hL : L ≤ 4096) : Cv G y_MM_way (d + 7) [vr a, vi c, vi b, vi pc] M (fun M' => mOk M' ∧ wyQ M a g T R W C Z E tg n L w w0 mul (Sm + A * (mul / D)) B M' ∧ foR (flq9 stp sg pc mul w0) (br, A, D) S Bl a W w0 mul (XV sg) g R M M') := by
  obtain ⟨x1, gg, en, xd, op, cA, cD⟩ := id h
  have wd := gg.2.1
  have hg := gg.2.2.1.2
  have hD0 := gg.2.2.2.2.2.2.2.1
  have hBd := hD0.1
  have cc := hD0.2.2.2.2.1 c hc
  have hb : b < 8 := by have := cc.2.2.1; omega
  have bc := cc.2.2.2 b hbn
  obtain ⟨fs, hfs⟩ : ∃ fs : Nat, mI M (g + 28) (8 * c + b) = (fs : Int) := ⟨(mI M (g + 28) (8 * c + b)).toNat, by have := bc.2.1; omega⟩
  obtain ⟨mn, hmn⟩ : ∃ mn : Nat, mI M (g + 29) (8 * c + b) = (mn : Int) := ⟨(mI M (g + 29) (8 * c + b)).toNat, by have := bc.2.2.1; omega⟩
  have hfm : fs + mn ≤ Z := by have := bc.2.2.2; omega
  have g12 := gg.2.2.2.2.2.1.2.1
  have ib : i32 (b : Int) := i32s (by omega) (by omega)
  have ix : i32 ((8 * c + b : Nat) : Int) := i32s (by omega) (by omega)
  have b480 : ((0 : Int) ≤ ((8 * c + b : Nat) : Int) ∧ ((8 * c + b : Nat) : Int) < ((480 : Nat) : Int)) := by omega
  refine k_MM_way gg.1 (i32s (by omega) (by omega)) ib ipl ?_
  rw [show 8 * (c : Int) + (b : Int) = ((8 * c + b : Nat) : Int) by omega]
  suffices H : ∀ (t v : Nat) (M2 : mM), v + t = W → wI M a g T R W C Z E tg n L w w0 mul Sm A D B b M2 → mI M2 (a + 101) = mI M (a + 101) → (∀ v', v' < v → mI M2 (a + 21188) v' = mI M (a + 101) v') → (mI M2 a 16 = 0 ∧ SmR M2 a W n = S ∧ brR M2 a w0 mul (w - w0) = Bl ∧ Wc M2 a w ∧ XVq M2 a g R W (XV sg) ∧ Lw M M2 a w0) → h_MM_way_11 G (d + 6) a b pc (8 * c + b : Nat) v M2 (fun M' => mOk M' ∧ wyQ M a g T R W C Z E tg n L w w0 mul (Sm + A * (mul / D)) B M' ∧ foR (flq9 stp sg pc mul w0) (br, A, D) S Bl a W w0 mul (XV sg) g R M M') from H W 0 M (by omega) h rfl (fun v' hv' => absurd hv' (by omega)) ⟨z16, eS.2, eB, eW, xq, fun _ _ => ⟨rfl, rfl, rfl⟩⟩
  have hW12 := gg.2.2.2.2.2.2.2.1.1.2.1
  intro t
  induction t with
  | zero =>
    intro v M2 hv h2 e101 hn hk
    have ev : v = W := by omega
    subst ev
    have gg2 := h2.2.1
    have w2 := gg2.2.1
    have gs := h2.1.gs wd hg
    have r28 : mI M2 (g + 28) (8 * c + b) = (fs : Int) := by rw [(gs.2.1 28 (by omega) (by omega)).1]; exact hfs
    refine k_MM_way_11 gg2.1 ib ipl ix (i32s (by omega) (by omega)) ⟨w2.1.1, ?_⟩
    rw [gg2.2.2.1.1, gg2.2.2.2.2.2.1.2.1, show mR M2 g 25 = g + 28 from (w2.gp hg).2.2.1.2.2.2.2.2.2.2.2.2.2.1, Int.toNat_natCast, r28]
    refine ⟨(w2.gp hg).1, fun _ => ⟨(w2.gp hg).2.2.2.2.2.2.2.2.2.2.2.1.1, by rw [(w2.gp hg).2.2.2.2.2.2.2.2.2.2.2.1.2]; exact b480, x_way59 hev hstp hp hbr gAD gg ipl hb hc hfs hmn hfm hw0 hA hD hdm hle hL mn fs M2 (Nat.le_refl _) rfl h2 (fun _ v' hv' => ?_) (fun _ => ⟨⟨eS.1, hk.2.1, hk.2.2.1, hk.2.2.2.1, hk.2.2.2.2.2⟩, hk.2.2.2.2.1, fun v => sg.getD v 0, fun v' hv' => by rw [hn v' hv']; exact hsg v' hv', by rw [Nat.sub_self]; rfl⟩) (fun z => absurd hk.1 z)⟩, fun q => absurd (Int.le_refl _) q⟩
    rw [(gs.2.1 19 (by omega) (by omega)).1, (gs.2.1 20 (by omega) (by omega)).1, hn v' hv']
    exact en.2 v' hv'
  | succ t ih =>
    intro v M2 hv h2 e101 hn hk
    have gg2 := h2.2.1
    have w2 := gg2.2.1
    have A1 : mK M2 (a + 101) = 30 ∧ mN M2 (a + 101) = 12 := w2.1.2.2.2.2.2.2.2.1.2.2.1
    have A8 : mK M2 (a + 21188) = 30 ∧ mN M2 (a + 21188) = 12 := w2.1.2.2.2.2.2.2.2.2.2.1.2.2.2.1
    have b12 : ((0 : Int) ≤ (v : Int) ∧ (v : Int) < ((12 : Nat) : Int)) := by omega
    refine k_MM_way_11 gg2.1 ib ipl ix (i32s (by omega) (by omega)) ⟨w2.1.1, ?_⟩
    rw [gg2.2.2.1.1, gg2.2.2.2.2.2.1.2.1, show mR M2 a 25 = a + 101 from w2.1.2.2.2.2.1.2.2.2.2.2.2.2.2.2.1, show mR M2 a 44 = a + 21188 from w2.1.2.2.2.2.2.2.1.2.2.2.1, Int.toNat_natCast, Int.toNat_natCast, e101]
    refine ⟨(w2.gp hg).1, fun q => absurd q (by omega), fun _ => ⟨A1.1, by rw [A1.2]; exact b12, A8.1, by rw [A8.2]; exact b12, fun M3 e3 => ?_⟩⟩
    obtain ⟨m3, f3, l3⟩ := mv_cell (gg.1 _ _).1 gg2.1 w2 (show a ≤ a + 21188 by omega) (offx (a := a) (o := 21188) (by decide)) e3
    have no : ∀ q : Nat, False → q ∈ nums a := fun _ z => z.elim
    have gs3 := gs_st w2 hg m3 no (fun _ z => z.elim) (fun x z => by omega)
    have en3 := h2.2.2.1.mv w2 m3 no gs3 (fun x z => by omega)
    have h3 := h2.st m3 (fun _ z => z.elim) (fun x z => Or.inr z) (fun i _ _ _ => by rw [(m3.fld w2 no (by omega)).1]) en3
    have cc : ∀ o, frO o → (o = 105 ∨ o = 21185 ∨ o = 21186 ∨ o = 21187) → mI M3 (a + o) = mI M2 (a + o) ∧ mL M3 (a + o) = mL M2 (a + o) := fun o fo ho => m3.cellL w2 no (offx fo) (by omega)
    have nx := ih (v + 1) M3 (by omega) h3 (by rw [← e101]; exact (m3.cellL w2 no (offx (a := a) (o := 101) (by decide)) (by omega)).1) (fun v' hv' => ?_) ⟨by rw [(m3.fld w2 no (by omega)).1]; exact hk.1, by rw [SmR_cg (M := M2) hW12 (fun j _ => by rw [(cc 105 (by decide) (by omega)).1])]; exact hk.2.1, by rw [brR_cg (M := M2) (M' := M3) (fun i _ _ => by rw [(cc 21185 (by decide) (by omega)).1, (cc 21186 (by decide) (by omega)).2, (cc 21187 (by decide) (by omega)).2]; exact ⟨rfl, rfl, rfl⟩)]; exact hk.2.2.1, fun j hj => by rw [(cc 21186 (by decide) (by omega)).2, (cc 21187 (by decide) (by omega)).2]; exact hk.2.2.2.1 j hj, hk.2.2.2.2.1.mv w2 m3 no gs3 (fun x z => by omega), fun j hj => by rw [(cc 21185 (by decide) (by omega)).1, (cc 21186 (by decide) (by omega)).2, (cc 21187 (by decide) (by omega)).2]; exact hk.2.2.2.2.2 j hj⟩
    · rw [show ((v + 1 : Nat) : Int) = (v : Int) + 1 by omega] at nx
      exact nx
    · rw [f3]
      by_cases y : v' = v
      · rw [if_pos ⟨rfl, y⟩, y]
      · rw [if_neg (fun z => y z.2)]
        exact hn v' (by omega)
end WZX
