section
/-! The reference: way, exactly. -/
section WZX
variable {G : mG} {d a g T R W C Z n L w w0 : Nat} {M M2 : mM} {E : Eg9} {tg mul Sm A D : Int} {B : Nat → Nat} {ww pl lo hi : Nat → Int} {XV : List Int → Int → vrs} {ev : List Int → Nat → Nat → vrs} {cvS : List Int → Nat → vrs} {stp : List Int → List (Nat × Nat × Nat × Nat) → (Int × Int) × List Int} {tgI : Nat × Nat} {cms : List cm9} {sg : List Int}
theorem x_way59 {b c fs mn : Nat} {pc : Int} {br : br9} {S : List (List Int)} {Bl : List (Nat × Int)} (hev : ∀ sg i j, ev sg i j = vlq ww (cvS sg) pl 0 0 i j) (hstp : ∀ sg l, stp sg l = ((stq9 ww (cvS sg) pl lo hi l (fun v => sg.getD v 0)).1, (List.range W).map (stq9 ww (cvS sg) pl lo hi l (fun v => sg.getD v 0)).2)) (hp : GP ww pl XV ev M g R W C T E tgI cms lo hi) (hbr : RBr ww pl XV ev M g R W T E (8 * c + b) br) (gAD : Int.gcd A D = 1) (h0 : GG M a g T R W C Z E tg) (ipl : i32 pc) (hb : b < 8) (hc : c < C) (h28 : mI M (g + 28) (8 * c + b) = (fs : Int)) (h29 : mI M (g + 29) (8 * c + b) = (mn : Int)) (hfm : fs + mn ≤ Z) (hw0 : B L = w0) (hA : 0 < A ∧ A < 1000000000) (hD : 0 < D ∧ D < 1000000000) (hdm : D ∣ mul) (hle : Sm + A * (mul / D) ≤ mul) (hL : L ≤ 4096) : ∀ (t i : Nat) (M2 : mM), fs ≤ i → i + t = fs + mn → wI M a g T R W C Z E tg n L w w0 mul Sm A D B b M2 → (mI M2 a 16 = 0 → Nxv M2 a g W) → (mI M2 a 16 = 0 → (S.length = n ∧ SmR M2 a W n = S ∧ brR M2 a w0 mul (w - w0) = Bl ∧ Wc M2 a w ∧ Lw M M2 a w0) ∧ XVq M2 a g R W (XV sg) ∧ ∃ nx : Nat → Int, (∀ v, v < W → mI M2 (a + 21188) v = nx v) ∧ stq9 ww (cvS sg) pl lo hi br.2.2 (fun v => sg.getD v 0) = stq9 ww (cvS sg) pl lo hi (br.2.2.drop (i - fs)) nx) → (mI M2 a 16 ≠ 0 → (stq9 ww (cvS sg) pl lo hi br.2.2 (fun v => sg.getD v 0)).1 = (mI M2 a 16, mI M2 a 17)) → h_MM_way_59 G (d + 6) a b pc (8 * c + b : Nat) fs i M2 (fun M' => mOk M' ∧ wyQ M a g T R W C Z E tg n L w w0 mul (Sm + A * (mul / D)) B M' ∧ foR (flq9 stp sg pc mul w0) (br, A, D) S Bl a W w0 mul (XV sg) g R M M') := by
  have wd0 := h0.2.1
  have hR := h0.2.2.2.2.2.2.2.1.1.1
  have hW12 := h0.2.2.2.2.2.2.2.1.1.2.1
  have hlen : br.2.2.length = mn := by
    have e := hbr.2.2.1
    rw [h29] at e
    omega
  have hne : ((br, A, D) : br9 × (Int × Int)).2.1 ≠ 0 := by show A ≠ 0; omega
  have flt : ∀ {M2 : mM}, mI M2 a 16 ≠ 0 → (stq9 ww (cvS sg) pl lo hi br.2.2 (fun v => sg.getD v 0)).1 = (mI M2 a 16, mI M2 a 17) → foR (flq9 stp sg pc mul w0) (br, A, D) S Bl a W w0 mul (XV sg) g R M M2 := fun {M2} z e => Or.inl ⟨z, fun rest => by
    have e1 : (stp sg br.2.2).1 = (mI M2 a 16, mI M2 a 17) := by rw [hstp]; exact e
    rw [flq_f hne (by show (stp sg br.2.2).1.1 ≠ 0; rw [e1]; exact z)]
    exact e1⟩
  have hg := h0.2.2.1.2
  have hBd := h0.2.2.2.2.2.2.2.1.1
  have hZ := h0.2.2.2.2.1.2
  have ib : i32 (b : Int) := i32s (by omega) (by omega)
  have ix : i32 ((8 * c + b : Nat) : Int) := i32s (by omega) (by omega)
  have ifs : i32 (fs : Int) := i32s (by omega) (by omega)
  have b480 : ((0 : Int) ≤ ((8 * c + b : Nat) : Int) ∧ ((8 * c + b : Nat) : Int) < ((480 : Nat) : Int)) := by omega
  intro t
  induction t with
  | zero =>
    intro i M2 i0 hi9 h hnx hz hf
    have ei : i = fs + mn := by omega
    subst ei
    obtain ⟨x1, gg, en, xd, op, cA, cD⟩ := id h
    have o2 := gg.1
    have w2 := gg.2.1
    have gs := x1.gs wd0 hg
    have r29 : mI M2 (g + 29) (8 * c + b) = (mn : Int) := by rw [(gs.2.1 29 (by omega) (by omega)).1]; exact h29
    refine k_MM_way_59 o2 ib ipl ix ifs (i32s (by omega) (by omega)) ⟨w2.1.1, ?_⟩
    rw [gg.2.2.1.1, show mR M2 g 26 = g + 29 from (w2.gp hg).2.2.1.2.2.2.2.2.2.2.2.2.2.2.1, Int.toNat_natCast, r29]
    refine ⟨(w2.gp hg).1, (w2.gp hg).2.2.2.2.2.2.2.2.2.2.2.2.1, by rw [(w2.gp hg).2.2.2.2.2.2.2.2.2.2.2.2.2]; exact b480, i32s (by omega) (by omega), fun _ => ⟨fun z16 => ?_, fun z16 => ⟨o2, h.x z16, flt z16 (hf z16)⟩⟩, fun q => absurd (Or.inl (by omega)) q⟩
    obtain ⟨⟨eS1, eS2, eB, eW, eL⟩, zx, nx, zn, zs⟩ := hz z16
    rw [show fs + mn - fs = mn by omega, List.drop_eq_nil_of_le (by omega)] at zs
    have zs : stq9 ww (cvS sg) pl lo hi br.2.2 (fun v => sg.getD v 0) = ((0, 0), nx) := zs
    have sp1 : (stp sg br.2.2).1 = (0, 0) := by rw [hstp, zs]
    have sp2 : (stp sg br.2.2).2 = nxR M2 a W := by
      rw [hstp, zs]
      unfold nxR
      exact List.map_congr_left (fun v hv => (zn v (List.mem_range.mp hv)).symm)
    refine (x_MM_stateOf (d := d + 6) gg xd.1.1 xd.1.2.2 xd.2.2.1 (hnx z16)).mono (fun x M3 t3 => ?_)
    obtain ⟨ixx, o3, hs, hso⟩ := t3
    rw [eS2, ← sp2] at hso
    refine ⟨ixx, o3, ?_⟩
    rcases hs with ⟨y1, y2⟩ | ⟨n', y1, y2, y3, y4, m3, y5, y6, y7⟩
    · subst y2
      refine ⟨fun q => by omega, fun _ => ⟨w2.1.1, ?_⟩⟩
      rw [gg.2.2.1.1, show mR M3 g 24 = g + 27 from (w2.gp hg).2.2.1.2.2.2.2.2.2.2.2.2.1]
      refine ⟨(w2.gp hg).1, (w2.gp hg).2.2.2.2.2.2.2.2.2.2.1.1, by rw [(w2.gp hg).2.2.2.2.2.2.2.2.2.2.1.2]; exact b480, (s_MM_stop ⟨by decide, by decide⟩ (o2 _ _).1 o2 w2).mono (fun M4 h4 => ⟨h4.1.1, h4.1.1, h.stp (by decide) h4, Or.inl ⟨by rw [h4.2.1]; decide, fun rest => ?_⟩⟩)⟩
      have en9 : enq9 S (stp sg br.2.2).2 = none := by
        rcases hso with ⟨e, -⟩ | ⟨k, S', -, e, -⟩
        · exact e
        · omega
      rw [flq_n hne (by show (stp sg br.2.2).1.1 = 0; rw [sp1]) en9, h4.2.1, h4.2.2.1]
      show ((5 : Int), br.1) = _
      rw [(gs.2.1 27 (by omega) (by omega)).1, hbr.1]
    · obtain ⟨kk, S', en9, ek, el, eS⟩ : ∃ (k : Nat) (S' : List (List Int)), enq9 S (stp sg br.2.2).2 = some (k, S') ∧ x = (k : Int) ∧ mI M3 a 29 = ((S'.length : Nat) : Int) ∧ SmR M3 a W S'.length = S' := by
        rcases hso with ⟨-, e⟩ | e
        · omega
        · exact e
      have eln : S'.length = n' := by
        rw [y5] at el
        omega
      rw [eln] at eS
      have h3 := h.so (x := x) y1 y2 m3 y5 y6 y7
      have gg3 := h3.2.1
      have w3 := gg3.2.1
      have op3 := h3.2.2.2.2.1
      have l111 : mI M3 (a + 111) 1 = (L + 1 : Nat) := h3.2.2.2.1.2.2.2.2.1.2.1
      refine ⟨fun _ => ⟨w3.1.1, ?_⟩, fun q => absurd y3 q⟩
      rw [show mR M3 a 36 = a + 111 from w3.1.2.2.2.2.2.1.2.2.2.2.2.1, l111, show ((L + 1 : Nat) : Int) - 1 = (L : Int) by omega]
      refine ⟨(w3.nu k111).1, (s_MN_at o3 (w3.nu k111) (by show (L : Int) < mI M3 (a + 111) 1; rw [l111]; omega)).mono (fun u M4 e4 => ?_)⟩
      obtain ⟨e4, hu⟩ := e4
      subst e4
      have hu' : u = (w0 : Int) := hu.trans op3.2.1.1
      subst hu'
      refine ⟨i32s (by have := h3.2.2.2.1.2.1.2; have := op3.1; omega) (by have := h3.2.2.2.1.2.1.2; have := op3.1; omega), o3, ?_⟩
      have no : ∀ q : Nat, False → q ∈ nums a := fun _ z => z.elim
      have gs23 := gs_st w2 hg m3 no (fun _ z => z.elim) (fun x z => by omega)
      have cc : ∀ o, frO o → o ≠ 0 → o ≠ 105 → mI M4 (a + o) = mI M2 (a + o) ∧ mL M4 (a + o) = mL M2 (a + o) := fun o fo o0 o1 => m3.cellL w2 no (offx fo) (by omega)
      have c85 := (cc 21185 (by decide) (by decide) (by decide)).1
      have c86 := (cc 21186 (by decide) (by decide) (by decide)).2
      have c87 := (cc 21187 (by decide) (by decide) (by decide)).2
      have eB3 : Bl = brR M4 a w0 mul (w - w0) := by
        rw [← eB]
        exact (brR_cg (M := M2) (M' := M4) (fun i _ _ => by rw [c85, c86, c87]; exact ⟨rfl, rfl, rfl⟩)).symm
      have eW3 : Wc M4 a w := fun j hj => by
        rw [c86, c87]
        exact eW j hj
      have key := x_way187 (G := G) (d := d) (fq := flq9 stp sg pc mul w0) (x := (br, A, D)) (S := S) (S2 := S') (tn9 := kk) (xv := XV sg) (fun j hj => by rw [c85, c86, c87]; exact eL j hj) (zx.mv w2 m3 no gs23 (fun x z => by omega)) ⟨eln, eS⟩ eB3 eW3 gAD ek (fun rest => flq_e hne (by show (stp sg br.2.2).1.1 = 0; rw [sp1]) en9) ipl hb hw0 hA hD hdm hle ⟨y3, y4⟩ h3 (by rw [y6 16 (by decide)]; exact z16) hL (w - w0) w0 (Nat.le_refl _) (by have := op3.1; omega) (fun j' h1 h2 => absurd h2 (by omega))
      have hq : ∀ M', (mOk M' ∧ wyQ M a g T R W C Z E tg n' L w w0 mul (Sm + A * (mul / D)) B M' ∧ foR (flq9 stp sg pc mul w0) (br, A, D) S Bl a W w0 mul (XV sg) g R M M') → mOk M' ∧ wyQ M a g T R W C Z E tg n L w w0 mul (Sm + A * (mul / D)) B M' ∧ foR (flq9 stp sg pc mul w0) (br, A, D) S Bl a W w0 mul (XV sg) g R M M' := fun M' z => ⟨z.1, z.2.1.up (by omega), z.2.2⟩
      exact mWm.mono key (fun r M' z => ⟨z.1, hq M' z.2⟩)
  | succ t ih =>
    intro i M2 i0 hi9 h hnx hz hf
    obtain ⟨x1, gg, en, xd, op, cA, cD⟩ := id h
    have o2 := gg.1
    have w2 := gg.2.1
    have gs := x1.gs wd0 hg
    have r29 : mI M2 (g + 29) (8 * c + b) = (mn : Int) := by rw [(gs.2.1 29 (by omega) (by omega)).1]; exact h29
    have iZ : i < Z := by omega
    obtain ⟨z30, z32, z34⟩ := gg.2.2.2.2.2.2.1
    have hD2 := gg.2.2.2.2.2.2.2.1
    obtain ⟨s1, s2, s3⟩ := hD2.2.2.2.2.2.1 i iZ
    refine k_MM_way_59 o2 ib ipl ix ifs (i32s (by omega) (by omega)) ⟨w2.1.1, ?_⟩
    rw [gg.2.2.1.1, show mR M2 g 26 = g + 29 from (w2.gp hg).2.2.1.2.2.2.2.2.2.2.2.2.2.2.1, show mR M2 g 27 = g + 30 from (w2.gp hg).2.2.1.2.2.2.2.2.2.2.2.2.2.2.2.1, Int.toNat_natCast, r29]
    refine ⟨(w2.gp hg).1, (w2.gp hg).2.2.2.2.2.2.2.2.2.2.2.2.1, by rw [(w2.gp hg).2.2.2.2.2.2.2.2.2.2.2.2.2]; exact b480, i32s (by omega) (by omega), fun q => ⟨fun z16 => absurd z16 (by
      rcases q with q | q
      · omega
      · exact q), fun z16 => ⟨o2, h.x z16, flt z16 (hf z16)⟩⟩, fun q => ⟨(w2.nu (n30 hg)).1, ?_⟩⟩
    have z16 : mI M2 a 16 = 0 := Classical.byContradiction (fun z => q (Or.inr z))
    obtain ⟨⟨eS1, eS2, eB, eW, eL⟩, zx, nx, zn, zs⟩ := hz z16
    obtain ⟨sq, hsq⟩ : ∃ sq, br.2.2[i - fs]? = some sq := ⟨_, List.getElem?_eq_getElem (by omega)⟩
    have dq : br.2.2.drop (i - fs) = sq :: br.2.2.drop (i + 1 - fs) := by
      obtain ⟨hl, he⟩ := List.getElem?_eq_some_iff.mp hsq
      rw [List.drop_eq_getElem_cons hl, he, show i - fs + 1 = i + 1 - fs by omega]
    rw [dq] at zs
    have gs02 : Gs M M2 g := gs
    obtain ⟨-, -, -, fs', hfs', hsets⟩ := hbr.gs gs02 hR
    have efs : fs' = fs := by
      have e1 : mI M2 (g + 28) (8 * c + b) = (fs : Int) := by rw [(gs.2.1 28 (by omega) (by omega)).1]; exact h28
      omega
    subst efs
    obtain ⟨sv1, sv2, sv3, sv4⟩ := hsets (i - fs') sq hsq
    rw [show fs' + (i - fs') = i by omega] at sv1 sv2 sv4
    have hp2 := hp.gs gs02 hR
    have rd : ∀ {p : Nat} {Q : Int → mM → Prop}, p ∈ nums a → (i : Int) < ln M2 p → (∀ z, z = nt M2 p i → i32 z → Q z M2) → Ci G y_MN_at (d + 6) [vr p, vi i] M2 Q := fun hp hk hQ => by
      refine (s_MN_at o2 (w2.nu hp) hk).mono (fun z M1 e1 => ?_)
      obtain ⟨e1, hz⟩ := e1
      subst e1
      exact hQ z hz (by rw [hz]; exact (o2 _ _).1)
    refine rd (n30 hg) (by rw [z30]; omega) (fun v hv iv => ⟨iv, o2, w2.1.1, ?_⟩)
    rw [gg.2.2.1.1, show mR M2 g 29 = g + 34 from (w2.gp hg).2.2.1.2.2.2.2.2.2.2.2.2.2.2.2.2.2]
    refine ⟨(w2.gp hg).1, (w2.nu (n34 hg)).1, rd (n34 hg) (by rw [z34]; omega) (fun rt hrt irt => ⟨irt, o2, w2.1.1, ?_⟩)⟩
    rw [gg.2.2.1.1, show mR M2 g 28 = g + 32 from (w2.gp hg).2.2.1.2.2.2.2.2.2.2.2.2.2.2.2.2.1]
    refine ⟨(w2.gp hg).1, (w2.nu (n32 hg)).1, rd (n32 hg) (by rw [z32]; omega) (fun p hp' ip => ⟨ip, o2, w2.1.1, ?_⟩)⟩
    have hv' : v = ((sq.1 : Nat) : Int) := hv.trans sv1
    subst hv'
    rw [← hrt] at sv4
    have hpp : p = pl sq.2.2.2 := hp'.trans sv2
    refine (x_MM_set1 (d := d) (sg := sg) gg en (hnx z16) sv3 hp2.1 zx z16 (hp2.2.2.2.1 sq.1 sv3).1 (hp2.2.2.2.1 sq.1 sv3).2 sv4 ip).mono (fun M3 t3 => ⟨t3.1, ?_⟩)
    obtain ⟨-, ⟨m3, f3, gg3, en3, nx3⟩, u3⟩ := t3
    rw [hev, hpp] at u3
    have h3 := h.st m3 (fun q hq => hq) (fun x hx => hx) f3 en3
    rw [show (i : Int) + 1 = ((i + 1 : Nat) : Int) by omega]
    refine ih (i + 1) M3 (by omega) (by omega) h3 nx3 (fun z3 => ?_) (fun z3 => ?_)
    · rcases u3 with u | ⟨u1, u2, u3', -⟩ | ⟨u1, u2, u3', u4, u5⟩
      · exact absurd (u.2.1.symm.trans z3) u.1
      · exact absurd (u3'.symm.trans z3) u2
      have un : ∀ x, sxS a x → x = a ∨ (a + 97 ≤ x ∧ x ≤ a + 98) ∨ (a + 102 ≤ x ∧ x ≤ a + 104) ∨ x = a + 21188 := fun x hx => by
        have h' : (x = a ∨ x = a + 97 ∨ x = a + 98 ∨ x = a + 102 ∨ x = a + 103 ∨ x = a + 104) ∨ x = a + 21188 := hx
        omega
      have cc : ∀ o, frO o → (o = 105 ∨ o = 21185 ∨ o = 21186 ∨ o = 21187) → mI M3 (a + o) = mI M2 (a + o) ∧ mL M3 (a + o) = mL M2 (a + o) := fun o fo ho => m3.cellL w2 in99 (offx fo) (fun z => by have := un _ z; omega)
      have c105 := (cc 105 (by decide) (by omega)).1
      have c85 := (cc 21185 (by decide) (by omega)).1
      have c86 := (cc 21186 (by decide) (by omega)).2
      have c87 := (cc 21187 (by decide) (by omega)).2
      refine ⟨⟨eS1, ?_, ?_, fun j hj => ?_, fun j hj => by rw [c85, c86, c87]; exact eL j hj⟩, u5, fun v => if v = sq.1 then (vlq ww (cvS sg) pl 0 0 sq.2.1 sq.2.2.1).2.1 else nx v, fun v hv9 => ?_, ?_⟩
      · rw [SmR_cg (M := M2) hW12 (fun j _ => by rw [c105])]; exact eS2
      · rw [brR_cg (M := M2) (M' := M3) (fun i _ _ => by rw [c85, c86, c87]; exact ⟨rfl, rfl, rfl⟩)]; exact eB
      · rw [c86, c87]; exact eW j hj
      · rw [u4, zn v hv9]
      · rw [zs, stq9, if_neg (fun u => u u1), if_neg (fun u => u (by rw [u2]))]
    · rw [zs, stq9]
      rcases u3 with u | ⟨u1, u2, u3', u4⟩ | ⟨-, -, u3', -⟩
      · rw [if_pos u.1]
        show ((vlq ww (cvS sg) pl 0 0 sq.2.1 sq.2.2.1).1, (vlq ww (cvS sg) pl 0 0 sq.2.1 sq.2.2.1).2.1) = _
        rw [u.2.1, u.2.2]
      · rw [if_neg (fun u => u u1), if_pos u2]
        show stfq _ _ _ _ _ = _
        rw [u3', u4]
      · exact absurd u3' z3
theorem x_MM_way {b c : Nat} {pc : Int} {br : br9} {S : List (List Int)} {Bl : List (Nat × Int)} (hev : ∀ sg i j, ev sg i j = vlq ww (cvS sg) pl 0 0 i j) (hstp : ∀ sg l, stp sg l = ((stq9 ww (cvS sg) pl lo hi l (fun v => sg.getD v 0)).1, (List.range W).map (stq9 ww (cvS sg) pl lo hi l (fun v => sg.getD v 0)).2)) (hp : GP ww pl XV ev M g R W C T E tgI cms lo hi) (hbr : RBr ww pl XV ev M g R W T E (8 * c + b) br) (gAD : Int.gcd A D = 1) (z16 : mI M a 16 = 0) (eS : S.length = n ∧ SmR M a W n = S) (eB : brR M a w0 mul (w - w0) = Bl) (eW : Wc M a w) (xq : XVq M a g R W (XV sg)) (hsg : ∀ v, v < W → mI M (a + 101) v = sg.getD v 0) (h : wI M a g T R W C Z E tg n L w w0 mul Sm A D B b M) (ipl : i32 pc) (hc : c < C) (hbn : (b : Int) < mI M (g + 25) c) (hw0 : B L = w0) (hA : 0 < A ∧ A < 1000000000) (hD : 0 < D ∧ D < 1000000000) (hdm : D ∣ mul) (hle : Sm + A * (mul / D) ≤ mul) (hL : L ≤ 4096) : Cv G y_MM_way (d + 7) [vr a, vi c, vi b, vi pc] M (fun M' => mOk M' ∧ wyQ M a g T R W C Z E tg n L w w0 mul (Sm + A * (mul / D)) B M' ∧ foR (flq9 stp sg pc mul w0) (br, A, D) S Bl a W w0 mul (XV sg) g R M M') := by
  obtain ⟨x1, gg, en, xd, op, cA, cD⟩ := id h
  have wd := gg.2.1
  have hg := gg.2.2.1.2
  have hD0 := gg.2.2.2.2.2.2.2.1
  have hBd := hD0.1
  have cc := hD0.2.2.2.2.1 c hc
  have hb : b < 8 := by have := cc.2.2.1; omega
  have bc := cc.2.2.2 b hbn
  obtain ⟨fs, hfs⟩ : ∃ fs : Nat, mI M (g + 28) (8 * c + b) = (fs : Int) := ⟨(mI M (g + 28) (8 * c + b)).toNat, by have := bc.2.1; omega⟩
  obtain ⟨mn, hmn⟩ : ∃ mn : Nat, mI M (g + 29) (8 * c + b) = (mn : Int) := ⟨(mI M (g + 29) (8 * c + b)).toNat, by have := bc.2.2.1; omega⟩
  have hfm : fs + mn ≤ Z := by have := bc.2.2.2; omega
  have g12 := gg.2.2.2.2.2.1.2.1
  have ib : i32 (b : Int) := i32s (by omega) (by omega)
  have ix : i32 ((8 * c + b : Nat) : Int) := i32s (by omega) (by omega)
  have b480 : ((0 : Int) ≤ ((8 * c + b : Nat) : Int) ∧ ((8 * c + b : Nat) : Int) < ((480 : Nat) : Int)) := by omega
  refine k_MM_way gg.1 (i32s (by omega) (by omega)) ib ipl ?_
  rw [show 8 * (c : Int) + (b : Int) = ((8 * c + b : Nat) : Int) by omega]
  suffices H : ∀ (t v : Nat) (M2 : mM), v + t = W → wI M a g T R W C Z E tg n L w w0 mul Sm A D B b M2 → mI M2 (a + 101) = mI M (a + 101) → (∀ v', v' < v → mI M2 (a + 21188) v' = mI M (a + 101) v') → (mI M2 a 16 = 0 ∧ SmR M2 a W n = S ∧ brR M2 a w0 mul (w - w0) = Bl ∧ Wc M2 a w ∧ XVq M2 a g R W (XV sg) ∧ Lw M M2 a w0) → h_MM_way_11 G (d + 6) a b pc (8 * c + b : Nat) v M2 (fun M' => mOk M' ∧ wyQ M a g T R W C Z E tg n L w w0 mul (Sm + A * (mul / D)) B M' ∧ foR (flq9 stp sg pc mul w0) (br, A, D) S Bl a W w0 mul (XV sg) g R M M') from H W 0 M (by omega) h rfl (fun v' hv' => absurd hv' (by omega)) ⟨z16, eS.2, eB, eW, xq, fun _ _ => ⟨rfl, rfl, rfl⟩⟩
  have hW12 := gg.2.2.2.2.2.2.2.1.1.2.1
  intro t
  induction t with
  | zero =>
    intro v M2 hv h2 e101 hn hk
    have ev : v = W := by omega
    subst ev
    have gg2 := h2.2.1
    have w2 := gg2.2.1
    have gs := h2.1.gs wd hg
    have r28 : mI M2 (g + 28) (8 * c + b) = (fs : Int) := by rw [(gs.2.1 28 (by omega) (by omega)).1]; exact hfs
    refine k_MM_way_11 gg2.1 ib ipl ix (i32s (by omega) (by omega)) ⟨w2.1.1, ?_⟩
    rw [gg2.2.2.1.1, gg2.2.2.2.2.2.1.2.1, show mR M2 g 25 = g + 28 from (w2.gp hg).2.2.1.2.2.2.2.2.2.2.2.2.2.1, Int.toNat_natCast, r28]
    refine ⟨(w2.gp hg).1, fun _ => ⟨(w2.gp hg).2.2.2.2.2.2.2.2.2.2.2.1.1, by rw [(w2.gp hg).2.2.2.2.2.2.2.2.2.2.2.1.2]; exact b480, x_way59 hev hstp hp hbr gAD gg ipl hb hc hfs hmn hfm hw0 hA hD hdm hle hL mn fs M2 (Nat.le_refl _) rfl h2 (fun _ v' hv' => ?_) (fun _ => ⟨⟨eS.1, hk.2.1, hk.2.2.1, hk.2.2.2.1, hk.2.2.2.2.2⟩, hk.2.2.2.2.1, fun v => sg.getD v 0, fun v' hv' => by rw [hn v' hv']; exact hsg v' hv', by rw [Nat.sub_self]; rfl⟩) (fun z => absurd hk.1 z)⟩, fun q => absurd (Int.le_refl _) q⟩
    rw [(gs.2.1 19 (by omega) (by omega)).1, (gs.2.1 20 (by omega) (by omega)).1, hn v' hv']
    exact en.2 v' hv'
  | succ t ih =>
    intro v M2 hv h2 e101 hn hk
    have gg2 := h2.2.1
    have w2 := gg2.2.1
    have A1 : mK M2 (a + 101) = 30 ∧ mN M2 (a + 101) = 12 := w2.1.2.2.2.2.2.2.2.1.2.2.1
    have A8 : mK M2 (a + 21188) = 30 ∧ mN M2 (a + 21188) = 12 := w2.1.2.2.2.2.2.2.2.2.2.1.2.2.2.1
    have b12 : ((0 : Int) ≤ (v : Int) ∧ (v : Int) < ((12 : Nat) : Int)) := by omega
    refine k_MM_way_11 gg2.1 ib ipl ix (i32s (by omega) (by omega)) ⟨w2.1.1, ?_⟩
    rw [gg2.2.2.1.1, gg2.2.2.2.2.2.1.2.1, show mR M2 a 25 = a + 101 from w2.1.2.2.2.2.1.2.2.2.2.2.2.2.2.2.1, show mR M2 a 44 = a + 21188 from w2.1.2.2.2.2.2.2.1.2.2.2.1, Int.toNat_natCast, Int.toNat_natCast, e101]
    refine ⟨(w2.gp hg).1, fun q => absurd q (by omega), fun _ => ⟨A1.1, by rw [A1.2]; exact b12, A8.1, by rw [A8.2]; exact b12, fun M3 e3 => ?_⟩⟩
    obtain ⟨m3, f3, l3⟩ := mv_cell (gg.1 _ _).1 gg2.1 w2 (show a ≤ a + 21188 by omega) (offx (a := a) (o := 21188) (by decide)) e3
    have no : ∀ q : Nat, False → q ∈ nums a := fun _ z => z.elim
    have gs3 := gs_st w2 hg m3 no (fun _ z => z.elim) (fun x z => by omega)
    have en3 := h2.2.2.1.mv w2 m3 no gs3 (fun x z => by omega)
    have h3 := h2.st m3 (fun _ z => z.elim) (fun x z => Or.inr z) (fun i _ _ _ => by rw [(m3.fld w2 no (by omega)).1]) en3
    have cc : ∀ o, frO o → (o = 105 ∨ o = 21185 ∨ o = 21186 ∨ o = 21187) → mI M3 (a + o) = mI M2 (a + o) ∧ mL M3 (a + o) = mL M2 (a + o) := fun o fo ho => m3.cellL w2 no (offx fo) (by omega)
    have nx := ih (v + 1) M3 (by omega) h3 (by rw [← e101]; exact (m3.cellL w2 no (offx (a := a) (o := 101) (by decide)) (by omega)).1) (fun v' hv' => ?_) ⟨by rw [(m3.fld w2 no (by omega)).1]; exact hk.1, by rw [SmR_cg (M := M2) hW12 (fun j _ => by rw [(cc 105 (by decide) (by omega)).1])]; exact hk.2.1, by rw [brR_cg (M := M2) (M' := M3) (fun i _ _ => by rw [(cc 21185 (by decide) (by omega)).1, (cc 21186 (by decide) (by omega)).2, (cc 21187 (by decide) (by omega)).2]; exact ⟨rfl, rfl, rfl⟩)]; exact hk.2.2.1, fun j hj => by rw [(cc 21186 (by decide) (by omega)).2, (cc 21187 (by decide) (by omega)).2]; exact hk.2.2.2.1 j hj, hk.2.2.2.2.1.mv w2 m3 no gs3 (fun x z => by omega), fun j hj => by rw [(cc 21185 (by decide) (by omega)).1, (cc 21186 (by decide) (by omega)).2, (cc 21187 (by decide) (by omega)).2]; exact hk.2.2.2.2.2 j hj⟩
    · rw [show ((v + 1 : Nat) : Int) = (v : Int) + 1 by omega] at nx
      exact nx
    · rw [f3]
      by_cases y : v' = v
      · rw [if_pos ⟨rfl, y⟩, y]
      · rw [if_neg (fun z => y z.2)]
        exact hn v' (by omega)
end WZX
end
section
/-! The reference: an enabled command, exactly. -/
section ENX2
variable {G : mG} {d a g T R W C Z n L w w0 k : Nat} {M M' M2 M3 : mM} {E : Eg9} {tg mul : Int} {B : Nat → Nat} {ww pl lo hi : Nat → Int} {XV : List Int → Int → vrs} {ev : List Int → Nat → Nat → vrs} {cvS : List Int → Nat → vrs} {stp : List Int → List (Nat × Nat × Nat × Nat) → (Int × Int) × List Int} {tgI : Nat × Nat} {cms : List cm9} {sg : List Int}
/-- command number i -/
def cmQ (M : mM) (a i : Nat) : sc9 := ((nt M (a + 109) i).toNat, nt M (a + 115) i, brR M a (nt M (a + 111) i).toNat (nt M (a + 115) i) (nt M (a + 113) i).toNat)
/-- m commands from L0 on -/
def cmL (M : mM) (a L0 m : Nat) : List sc9 := (List.range m).map (fun t => cmQ M a (L0 + t))
/-- a state's kind and commands -/
def stR (M : mM) (a k : Nat) : Int × List sc9 := (mI M (a + 106) k, cmL M a (mI M (a + 107) k).toNat (mI M (a + 108) k).toNat)
/-- the first k states -/
def xtR (M : mM) (a k : Nat) : xt9 := (List.range k).map (stR M a)
theorem cmL_s {L0 m : Nat} : cmL M a L0 (m + 1) = cmL M a L0 m ++ [cmQ M a (L0 + m)] := by
  unfold cmL
  rw [List.range_succ, List.map_append]
  rfl
theorem cmL_cg {L0 m : Nat} (h : ∀ i, L0 ≤ i → i < L0 + m → cmQ M' a i = cmQ M a i) : cmL M' a L0 m = cmL M a L0 m := by
  unfold cmL
  exact List.map_congr_left (fun t ht => h (L0 + t) (by omega) (by have := List.mem_range.mp ht; omega))
theorem xtR_s : xtR M a (k + 1) = xtR M a k ++ [stR M a k] := by
  unfold xtR
  rw [List.range_succ, List.map_append]
  rfl
theorem xtR_cg (h6 : ∀ k', k' < k → mI M' (a + 106) k' = mI M (a + 106) k') (h7 : ∀ k', k' < k → mI M' (a + 107) k' = mI M (a + 107) k' ∧ mI M' (a + 108) k' = mI M (a + 108) k') (hb : ∀ k', k' < k → (mI M (a + 107) k').toNat + (mI M (a + 108) k').toNat ≤ L) (hc : ∀ i, i < L → cmQ M' a i = cmQ M a i) : xtR M' a k = xtR M a k := by
  unfold xtR
  refine List.map_congr_left (fun k' hk => ?_)
  have hk' := List.mem_range.mp hk
  unfold stR
  rw [h6 k' hk', (h7 k' hk').1, (h7 k' hk').2, cmL_cg (M := M) (fun i i1 i2 => hc i (by have := hb k' hk'; omega))]
theorem smq_1 {m : Int} {c : Int × Int} : ∀ l : List (Int × Int), smq9 m (l ++ [c]) = smq9 m l + m / c.2 * c.1
  | [] => by
    show m / c.2 * c.1 + 0 = 0 + m / c.2 * c.1
    omega
  | x :: l => by
    show m / x.2 * x.1 + smq9 m (l ++ [c]) = m / x.2 * x.1 + smq9 m l + m / c.2 * c.1
    rw [smq_1 l]
    omega
theorem chq_get {br : br9} : ∀ {l : List br9} {b : Nat}, (chq9 ev sg l).1.1 = 0 → l[b]? = some br → (chq9 ev sg l).2[b]? = some (ev sg br.2.1.1 br.2.1.2).2 ∧ (ev sg br.2.1.1 br.2.1.2).1 = 0
  | [], b, _, h => by simp at h
  | x :: l, b, h0, h => by
    by_cases c1 : (ev sg x.2.1.1 x.2.1.2).1 = 0
    rotate_left
    · rw [chq_f c1] at h0
      exact absurd h0 c1
    by_cases c2 : (ev sg x.2.1.1 x.2.1.2).2.1 < 0 ∨ (ev sg x.2.1.1 x.2.1.2).2.2 < (ev sg x.2.1.1 x.2.1.2).2.1
    · rw [chq_r c1 c2] at h0
      exact absurd (show (11 : Int) = 0 from h0) (by decide)
    rw [chq_s c1 c2] at h0 ⊢
    cases b with
    | zero =>
      have e : x = br := by simpa using h
      subst e
      exact ⟨rfl, c1⟩
    | succ b =>
      have h' : l[b]? = some br := by simpa using h
      have := chq_get (b := b) (l := l) h0 h'
      exact ⟨by simpa using this.1, this.2⟩
/-- chances stand in lowest terms -/
def GOk (ev : List Int → Nat → Nat → vrs) (cms : List cm9) (sg : List Int) : Prop := ∀ (c : Nat) (cm : cm9), cms[c]? = some cm → ∀ (b : Nat) (br : br9), cm.2.2.2[b]? = some br → (ev sg br.2.1.1 br.2.1.2).1 = 0 → Int.gcd (ev sg br.2.1.1 br.2.1.2).2.1 (ev sg br.2.1.1 br.2.1.2).2.2 = 1
/-- tables stay while a command's branches are followed -/
def Tq (M M' : mM) (a L w0 : Nat) : Prop := nt M' (a + 109) = nt M (a + 109) ∧ nt M' (a + 111) = nt M (a + 111) ∧ nt M' (a + 115) = nt M (a + 115) ∧ (∀ i, i < L → nt M' (a + 113) i = nt M (a + 113) i) ∧ mI M' (a + 106) = mI M (a + 106) ∧ Lw M M' a w0
theorem Tq.refl : Tq M M a L w0 := ⟨rfl, rfl, rfl, fun _ _ => rfl, rfl, fun _ _ => ⟨rfl, rfl, rfl⟩⟩
theorem Tq.trans (h : Tq M M2 a L w0) (k : Tq M2 M3 a L w0) : Tq M M3 a L w0 := ⟨k.1.trans h.1, k.2.1.trans h.2.1, k.2.2.1.trans h.2.2.1, fun i hi => (k.2.2.2.1 i hi).trans (h.2.2.2.1 i hi), k.2.2.2.2.1.trans h.2.2.2.2.1, fun j hj => ⟨(k.2.2.2.2.2 j hj).1.trans (h.2.2.2.2.2 j hj).1, (k.2.2.2.2.2 j hj).2.1.trans (h.2.2.2.2.2 j hj).2.1, (k.2.2.2.2.2 j hj).2.2.trans (h.2.2.2.2.2 j hj).2.2⟩⟩
/-- states and branches so far -/
def exS (S : List (List Int)) (Bl : List (Nat × Int)) (M7 : mM) (a W L w0 : Nat) (mul : Int) (xv : Int → vrs) (g R : Nat) (M2 : mM) : Prop := mI M2 a 29 = ((S.length : Nat) : Int) ∧ SmR M2 a W S.length = S ∧ ∃ w9 : Nat, mI M2 a 40 = (w9 : Int) ∧ brR M2 a w0 mul (w9 - w0) = Bl ∧ Wc M2 a w9 ∧ XVq M2 a g R W xv ∧ Tq M7 M2 a L w0
/-- all branches have been followed -/
def enZ9 (fl : (Int × Int) × List (List Int) × List (Nat × Int)) (M7 : mM) (a W L w0 : Nat) (mul : Int) (xv : Int → vrs) (g R : Nat) (sg : List Int) (M' : mM) : Prop := (mI M' a 16 ≠ 0 ∧ fl.1 = (mI M' a 16, mI M' a 17)) ∨ (mI M' a 16 = 0 ∧ ∃ (S : List (List Int)) (Bl : List (Nat × Int)), fl = ((0, 0), S, Bl) ∧ exS S Bl M7 a W L w0 mul xv g R M' ∧ ∀ v, v < W → mI M' (a + 101) v = sg.getD v 0)
/-- between two commands of state k -/
def GQr (M : mM) (a W k L0 : Nat) (T : xt9) (s : sl9) : Prop := s.1 = (0, 0) ∧ mI M a 29 = ((s.2.1.length : Nat) : Int) ∧ SmR M a W s.2.1.length = s.2.1 ∧ xtR M a k = T ∧ mI M (a + 106) k = s.2.2.1 ∧ (∀ k', k' < k → (mI M (a + 107) k').toNat + (mI M (a + 108) k').toNat ≤ L0) ∧ ∃ L w : Nat, mI M (a + 107) k = (L0 : Int) ∧ (L0 ≤ L ∧ mI M (a + 108) k = ((L - L0 : Nat) : Int)) ∧ ln M (a + 109) = (L : Int) ∧ mI M a 40 = (w : Int) ∧ cmL M a L0 (L - L0) = s.2.2.2 ∧ nbx9 T + nbq9 s.2.2.2 = w ∧ Wc M a w
/-- what an enabled command comes to -/
def eyX (RR : sl9) (T9 : xt9) (a W k L0 : Nat) (xv : Int → vrs) (g R : Nat) (sg : List Int) (M' : mM) : Prop := (mI M' a 16 ≠ 0 ∧ RR.1 = (mI M' a 16, mI M' a 17)) ∨ (mI M' a 16 = 0 ∧ GQr M' a W k L0 T9 RR ∧ XVq M' a g R W xv ∧ ∀ v, v < W → mI M' (a + 101) v = sg.getD v 0)
/-- the command is put on the lists -/
theorem en_putx {c : Nat} {M4 M5 M6 M7 : mM} (h : eB M a g T R W C Z E tg n L w B M2) (hw : B L = w) (hk : 0 ≤ mI M (a + 108) k ∧ mI M (a + 108) k ≤ 5000) (hm : 1 ≤ mul ∧ mul < 1000000000) (a3 : adQ M2 (a + 109) c M3) (a4 : adQ M3 (a + 115) mul M4) (a5 : adQ M4 (a + 111) (w : Int) M5) (a6 : adQ M5 (a + 113) 0 M6) (e7 : M7 = mUI M6 (a + 108) k (mI M (a + 108) k + 1)) : (mL M7 = mL M6 ∧ mL M6 (a + 21189) = mL M2 (a + 21189) ∧ mL M6 (a + 21190) = mL M2 (a + 21190)) ∧ mI M7 a = mI M2 a ∧ mOk M7 ∧ xF M a M7 ∧ GG M7 a g T R W C Z E tg ∧ En M7 a g R W ∧ (mI M7 (a + 107) = mI M (a + 107) ∧ (∀ k', k' ≠ k → mI M7 (a + 108) k' = mI M (a + 108) k') ∧ mI M7 (a + 108) k = mI M (a + 108) k + 1) ∧ XD M7 a g n W L w (L + 1) B ∧ Op M7 a L w w mul 0 ∧ (nt M7 (a + 109) L = (c : Int) ∧ ∀ i, i < L → nt M7 (a + 109) i = nt M2 (a + 109) i ∧ nt M7 (a + 111) i = nt M2 (a + 111) i ∧ nt M7 (a + 113) i = nt M2 (a + 113) i ∧ nt M7 (a + 115) i = nt M2 (a + 115) i) ∧ mI M7 (a + 106) = mI M2 (a + 106) ∧ mI M7 (a + 105) = mI M2 (a + 105) ∧ (mI M7 (a + 21185) = mI M2 (a + 21185) ∧ mL M7 (a + 21186) = mL M2 (a + 21186) ∧ mL M7 (a + 21187) = mL M2 (a + 21187)) ∧ Mv (xP a) (fun x => x = a + 108) M2 a M7 ∧ Gs M2 M7 g := by
  obtain ⟨x1, gg, en, xd, t107, t108⟩ := h
  obtain ⟨d1, d2, d3, d4, ⟨l109, l111, l113, l115⟩, d6, d7⟩ := id xd
  have w2 := gg.2.1
  have hg := gg.2.2.1.2
  have m3 := mv_add w2 k109 a3
  have w3 := m3.2.1
  have m4 := mv_add w3 k115 a4
  have w4 := m4.2.1
  have m5 := mv_add w4 k111 a5
  have w5 := m5.2.1
  have m6 := mv_add w5 k113 a6
  have w6 := m6.2.1
  obtain ⟨m7, f7, l7⟩ := mv_cell (v := mI M (a + 108) k + 1) (i32s (by omega) (by omega)) m6.1 w6 (show a ≤ a + 108 by omega) (offx (a := a) (o := 108) (by decide)) e7
  have i1 : ∀ {p q : Nat}, p ∈ nums a → q = p → q ∈ nums a := fun hp hq => by rw [hq]; exact hp
  have up : ∀ {Mx My : mM} {p : Nat}, Wd Mx a → xP a p → Mv (fun x => x = p) (fun _ => False) Mx a My → Mv (xP a) (fun x => x = a + 108) Mx a My := fun wx hp m => m.mono (fun q hq => by rw [hq]; exact hp) (fun _ z => z.elim) (fun q hq => wx.lt (xP_in hq))
  have mm : Mv (xP a) (fun x => x = a + 108) M2 a M7 := ((((up w2 (by show a + 109 = a + 99 ∨ a + 109 = a + 109 ∨ a + 109 = a + 111 ∨ a + 109 = a + 113 ∨ a + 109 = a + 115; omega) m3).trans (up w3 (by show a + 115 = a + 99 ∨ a + 115 = a + 109 ∨ a + 115 = a + 111 ∨ a + 115 = a + 113 ∨ a + 115 = a + 115; omega) m4)).trans (up w4 (by show a + 111 = a + 99 ∨ a + 111 = a + 109 ∨ a + 111 = a + 111 ∨ a + 111 = a + 113 ∨ a + 111 = a + 115; omega) m5)).trans (up w5 (by show a + 113 = a + 99 ∨ a + 113 = a + 109 ∨ a + 113 = a + 111 ∨ a + 113 = a + 113 ∨ a + 113 = a + 115; omega) m6)).trans (m7.mono (fun _ z => z.elim) (fun x z => z) (fun q hq => w6.lt (xP_in hq)))
  have hin : ∀ q, xP a q → q ∈ nums a := fun q hq => xP_in hq
  have aI : mI M7 a = mI M2 a := (mm.fld w2 hin (by omega)).1
  have F27 : xF M2 a M7 := xF.mk w2 mm (fun q hq => hq) (fun x hx => Or.inr (Or.inl (by omega))) (fun i _ _ _ _ _ => by rw [aI])
  have gs := F27.gs w2 hg
  have s7 : ∀ {q}, q ∈ nums a → sameN M6 M7 q := fun hq => m7.lst hq (fun z => z)
  have cl : ∀ o, frO o → o ≠ 108 → mI M7 (a + o) = mI M2 (a + o) ∧ mL M7 (a + o) = mL M2 (a + o) := fun o fo ho => mm.cellL w2 hin (offx fo) (by omega)
  have c86 := cl 21186 (by decide) (by decide)
  have c87 := cl 21187 (by decide) (by decide)
  have c85 := cl 21185 (by decide) (by decide)
  have c105 := cl 105 (by decide) (by decide)
  have c107 := cl 107 (by decide) (by decide)
  have c89 := cl 21189 (by decide) (by decide)
  have c90 := cl 21190 (by decide) (by decide)
  have e108 : mI M6 (a + 108) = mI M (a + 108) := by
    rw [← t108, (m6.cellL w5 (fun q hq => i1 k113 hq) (offx (a := a) (o := 108) (by decide)) (fun z => z)).1, (m5.cellL w4 (fun q hq => i1 k111 hq) (offx (a := a) (o := 108) (by decide)) (fun z => z)).1, (m4.cellL w3 (fun q hq => i1 k115 hq) (offx (a := a) (o := 108) (by decide)) (fun z => z)).1, (m3.cellL w2 (fun q hq => i1 k109 hq) (offx (a := a) (o := 108) (by decide)) (fun z => z)).1]
  -- the lists
  have q109 : ln M7 (a + 109) = (L + 1 : Nat) := by rw [(s7 k109).1, (m6.lst k109 (by omega)).1, (m5.lst k109 (by omega)).1, (m4.lst k109 (by omega)).1, a3.2.2.2.1, l109]; omega
  have z115 : ln M3 (a + 115) = (L : Int) := by rw [(m3.lst k115 (by omega)).1, l115]
  have z111 : ln M4 (a + 111) = (L : Int) := by rw [(m4.lst k111 (by omega)).1, (m3.lst k111 (by omega)).1, l111]
  have z113 : ln M5 (a + 113) = (L : Int) := by rw [(m5.lst k113 (by omega)).1, (m4.lst k113 (by omega)).1, (m3.lst k113 (by omega)).1, l113]
  have q115 : ln M7 (a + 115) = (L + 1 : Nat) := by rw [(s7 k115).1, (m6.lst k115 (by omega)).1, (m5.lst k115 (by omega)).1, a4.2.2.2.1, z115]; omega
  have q111 : ln M7 (a + 111) = (L + 1 : Nat) := by rw [(s7 k111).1, (m6.lst k111 (by omega)).1, a5.2.2.2.1, z111]; omega
  have q113 : ln M7 (a + 113) = (L + 1 : Nat) := by rw [(s7 k113).1, a6.2.2.2.1, z113]; omega
  have v115 : nt M7 (a + 115) L = mul := by
    rw [(s7 k115).2.1, (m6.lst k115 (by omega)).2.1, (m5.lst k115 (by omega)).2.1]
    have := a4.2.2.2.2.2.1
    rw [z115, Int.toNat_natCast] at this
    exact this
  have v111 : nt M7 (a + 111) L = (w : Int) := by
    rw [(s7 k111).2.1, (m6.lst k111 (by omega)).2.1]
    have := a5.2.2.2.2.2.1
    rw [z111, Int.toNat_natCast] at this
    exact this
  have v113 : nt M7 (a + 113) L = 0 := by
    rw [(s7 k113).2.1]
    have := a6.2.2.2.2.2.1
    rw [z113, Int.toNat_natCast] at this
    exact this
  have o115 : ∀ i, i < L → nt M7 (a + 115) i = nt M2 (a + 115) i := fun i hi => by rw [(s7 k115).2.1, (m6.lst k115 (by omega)).2.1, (m5.lst k115 (by omega)).2.1, a4.2.2.2.2.1 i (by rw [z115]; omega), (m3.lst k115 (by omega)).2.1]
  have o111 : ∀ i, i < L → nt M7 (a + 111) i = nt M2 (a + 111) i := fun i hi => by rw [(s7 k111).2.1, (m6.lst k111 (by omega)).2.1, a5.2.2.2.2.1 i (by rw [z111]; omega), (m4.lst k111 (by omega)).2.1, (m3.lst k111 (by omega)).2.1]
  have o113 : ∀ i, i < L → nt M7 (a + 113) i = nt M2 (a + 113) i := fun i hi => by rw [(s7 k113).2.1, a6.2.2.2.2.1 i (by rw [z113]; omega), (m5.lst k113 (by omega)).2.1, (m4.lst k113 (by omega)).2.1, (m3.lst k113 (by omega)).2.1]
  have v109 : nt M7 (a + 109) L = (c : Int) := by
    rw [(s7 k109).2.1, (m6.lst k109 (by omega)).2.1, (m5.lst k109 (by omega)).2.1, (m4.lst k109 (by omega)).2.1]
    have := a3.2.2.2.2.2.1
    rw [l109, Int.toNat_natCast] at this
    exact this
  have o109 : ∀ i, i < L → nt M7 (a + 109) i = nt M2 (a + 109) i := fun i hi => by rw [(s7 k109).2.1, (m6.lst k109 (by omega)).2.1, (m5.lst k109 (by omega)).2.1, (m4.lst k109 (by omega)).2.1, a3.2.2.2.2.1 i (by rw [l109]; omega)]
  have c106 := cl 106 (by decide) (by decide)
  refine ⟨⟨l7, by rw [← l7]; exact c89.2, by rw [← l7]; exact c90.2⟩, aI, m7.1, x1.trans F27, gg.gs m7.1 m7.2.1 (by rw [mm.rfl_a w2 hin]) gs, en.mv w2 mm hin gs (fun x hx => by omega), ⟨by rw [c107.1]; exact t107, fun k' hk' => by rw [f7, if_neg (fun z => hk' z.2), e108], by rw [f7, if_pos ⟨rfl, rfl⟩]⟩, ⟨by rw [aI]; exact d1, by rw [aI]; exact d2, fun k' v hk' hv => ?_, fun j hj => by rw [c85.1, c86.2, c87.2]; exact d4 j hj, ⟨q109, q111, q113, q115⟩, ⟨d6.1, d6.2.1, by omega⟩, fun i hi => (d7 i hi).cg (o111 i hi) (o113 i hi) (o115 i hi) (fun j _ _ => by rw [c86.2, c87.2]; exact ⟨rfl, rfl⟩)⟩, ⟨Nat.le_refl _, ⟨v111, by rw [v113, Nat.sub_self]; rfl, v115⟩, hm, fun j j0 j1 => absurd j1 (by omega), by rw [Nat.sub_self]; rfl⟩, ⟨v109, fun i hi => ⟨o109 i hi, o111 i hi, o113 i hi, o115 i hi⟩⟩, c106.1, c105.1, ⟨c85.1, c86.2, c87.2⟩, mm, gs⟩
  rw [(gs.2.1 19 (by omega) (by omega)).1, (gs.2.1 20 (by omega) (by omega)).1, c105.1]
  exact d3 k' v hk' hv
theorem x_en201 {c nb : Nat} {pc : Int} {cA cD : Nat → Int} {cm : cm9} {zl : List (br9 × (Int × Int))} {S0 : List (List Int)} {M7 : mM} (hev : ∀ sg i j, ev sg i j = vlq ww (cvS sg) pl 0 0 i j) (hstp : ∀ sg l, stp sg l = ((stq9 ww (cvS sg) pl lo hi l (fun v => sg.getD v 0)).1, (List.range W).map (stq9 ww (cvS sg) pl lo hi l (fun v => sg.getD v 0)).2)) (hp : GP ww pl XV ev M g R W C T E tgI cms lo hi) (hcm : RCm ww pl XV ev M g R W T E c cm) (hzl : ∀ b, b < nb → ∃ br, cm.2.2.2[b]? = some br ∧ zl[b]? = some (br, cA b, cD b)) (hzn : zl.length = nb) (hgd : ∀ b', b' < nb → Int.gcd (cA b') (cD b') = 1) (h0 : GG M a g T R W C Z E tg) (ipl : i32 pc) (hc : c < C) (hnb : mI M (g + 25) c = (nb : Int)) (hw0 : B L = w0) (hL : L ≤ 4096) (hch : ∀ b', b' < nb → 0 ≤ cA b' ∧ cA b' ≤ cD b' ∧ 1 ≤ cD b' ∧ cD b' < 1000000000 ∧ cD b' ∣ mul) (hmul : 1 ≤ mul) (hsum : sm (fun b' => cA b' * (mul / cD b')) nb = mul) : ∀ (t b : Nat) (M2 : mM), b + t = nb → eI M a g T R W C Z E tg n L w0 k mul B cA cD b M2 → (mI M2 a 16 = 0 → ∃ (S : List (List Int)) (Bl : List (Nat × Int)), flq9 stp sg pc mul w0 zl S0 [] = flq9 stp sg pc mul w0 (zl.drop b) S Bl ∧ exS S Bl M7 a W L w0 mul (XV sg) g R M2 ∧ ∀ v, v < W → mI M2 (a + 101) v = sg.getD v 0) → (mI M2 a 16 ≠ 0 → (flq9 stp sg pc mul w0 zl S0 []).1 = (mI M2 a 16, mI M2 a 17)) → h_MM_enabled_201 G (d + 7) a c pc b M2 (fun M' => mOk M' ∧ enQ M a g T R W C Z E tg n L k B M' ∧ enZ9 (flq9 stp sg pc mul w0 zl S0 []) M7 a W L w0 mul (XV sg) g R sg M') := by
  have wd0 := h0.2.1
  have hR := h0.2.2.2.2.2.2.2.1.1.1
  have hg := h0.2.2.1.2
  have hBd := h0.2.2.2.2.2.2.2.1.1
  have nb8 : nb ≤ 8 := by
    have := (h0.2.2.2.2.2.2.2.1.2.2.2.2.1 c hc).2.2.1
    omega
  have ic : i32 (c : Int) := i32s (by omega) (by omega)
  have b60 : ((0 : Int) ≤ (c : Int) ∧ (c : Int) < ((60 : Nat) : Int)) := by omega
  have term : ∀ b', b' < nb → 0 ≤ cA b' * (mul / cD b') := fun b' hb' => by
    have := hch b' hb'
    exact Int.mul_nonneg (by omega) (Int.ediv_nonneg (by omega) (by omega))
  have finx : ∀ (b : Nat) (M2 : mM), eI M a g T R W C Z E tg n L w0 k mul B cA cD b M2 → mI M2 a 16 ≠ 0 → (flq9 stp sg pc mul w0 zl S0 []).1 = (mI M2 a 16, mI M2 a 17) → mOk M2 ∧ enQ M a g T R W C Z E tg n L k B M2 ∧ enZ9 (flq9 stp sg pc mul w0 zl S0 []) M7 a W L w0 mul (XV sg) g R sg M2 := fun b M2 h z e => ⟨h.2.1.1, ⟨h.1, h.2.1, h.2.2.1, h.2.2.2.1.1, h.2.2.2.1.2.1, Or.inl z⟩, Or.inl ⟨z, e⟩⟩
  intro t
  induction t with
  | zero =>
    intro b M2 hb h hz hf
    have eb : b = nb := by omega
    subst eb
    obtain ⟨x1, gg, en, tb, hh⟩ := id h
    have w2 := gg.2.1
    have gs := x1.gs wd0 hg
    have r25 : mI M2 (g + 25) c = (b : Int) := by rw [(gs.2.1 25 (by omega) (by omega)).1]; exact hnb
    refine k_MM_enabled_201 gg.1 ic ipl (i32s (by omega) (by omega)) ⟨w2.1.1, ?_⟩
    rw [gg.2.2.1.1, show mR M2 g 22 = g + 25 from (w2.gp hg).2.2.1.2.2.2.2.2.2.2.1, Int.toNat_natCast, r25]
    refine ⟨(w2.gp hg).1, (w2.gp hg).2.2.2.2.2.2.2.2.1.1, by rw [(w2.gp hg).2.2.2.2.2.2.2.2.1.2]; exact b60, fun _ => ?_, fun q => absurd (Or.inl (Int.le_refl _)) q⟩
    by_cases z : mI M2 a 16 = 0
    · obtain ⟨-, n2, w2', y1, y2, y3, y4⟩ := hh z
      rw [hsum] at y3
      obtain ⟨B', u1, u2, u3⟩ := Op.close y2 hw0 y3 (by omega)
      obtain ⟨S, Bl, z1, z2, z3⟩ := hz z
      refine ⟨gg.1, ⟨x1, gg, en, tb.1, tb.2.1, Or.inr ⟨z, tb.2.2, n2, w2', B', y1, u1, u2, u3⟩⟩, Or.inr ⟨z, S, Bl, ?_, z2, z3⟩⟩
      rw [z1, List.drop_eq_nil_of_le (by omega)]
      rfl
    · exact finx b M2 h z (hf z)
  | succ t ih =>
    intro b M2 hb h hz hf
    obtain ⟨x1, gg, en, tb, hh⟩ := id h
    have w2 := gg.2.1
    have gs := x1.gs wd0 hg
    have r25 : mI M2 (g + 25) c = (nb : Int) := by rw [(gs.2.1 25 (by omega) (by omega)).1]; exact hnb
    have b8 : ((0 : Int) ≤ (b : Int) ∧ (b : Int) < ((8 : Nat) : Int)) := by omega
    have hbn : b < nb := by omega
    refine k_MM_enabled_201 gg.1 ic ipl (i32s (by omega) (by omega)) ⟨w2.1.1, ?_⟩
    rw [gg.2.2.1.1, show mR M2 g 22 = g + 25 from (w2.gp hg).2.2.1.2.2.2.2.2.2.2.1, Int.toNat_natCast, r25, (r4546 w2).1.1, Int.toNat_natCast]
    refine ⟨(w2.gp hg).1, (w2.gp hg).2.2.2.2.2.2.2.2.1.1, by rw [(w2.gp hg).2.2.2.2.2.2.2.2.1.2]; exact b60, fun q => finx b M2 h ?_ (hf ?_), fun q => ⟨(r4546 w2).2.1.1, by rw [(r4546 w2).2.1.2]; exact b8, fun q0 => ?_, fun q0 => ?_⟩⟩
    · rcases q with q | q
      · omega
      · exact q
    · rcases q with q | q
      · omega
      · exact q
    · have z : mI M2 a 16 = 0 := Classical.byContradiction (fun z => q (Or.inr z))
      obtain ⟨⟨e1, e2⟩, n2, w2', y1, y2, y3, y4⟩ := hh z
      have c0 : cA b = 0 := by rw [← e1]; exact (cmpz _ _).2.2.2.1.1 q0
      rw [show (b : Int) + 1 = ((b + 1 : Nat) : Int) by omega]
      refine ih (b + 1) M2 (by omega) ⟨x1, gg, en, tb, fun _ => ⟨⟨e1, e2⟩, n2, w2', y1, y2, ?_, by omega⟩⟩ (fun _ => ?_) (fun z' => absurd z z')
      rotate_left
      · obtain ⟨S, Bl, z1, z2, z3⟩ := hz z
        obtain ⟨br, -, hb2⟩ := hzl b hbn
        have dq : zl.drop b = (br, cA b, cD b) :: zl.drop (b + 1) := by
          obtain ⟨hl, he⟩ := List.getElem?_eq_some_iff.mp hb2
          rw [List.drop_eq_getElem_cons hl, he]
        exact ⟨S, Bl, by rw [z1, dq, flq_0 (show cA b = 0 from c0)], z2, z3⟩
      have : sm (fun b' => cA b' * (mul / cD b')) (b + 1) = sm (fun b' => cA b' * (mul / cD b')) b := by
        show sm (fun b' => cA b' * (mul / cD b')) b + cA b * (mul / cD b) = _
        rw [c0, Int.zero_mul]; omega
      rw [this]
      exact y3
    · have z : mI M2 a 16 = 0 := Classical.byContradiction (fun z => q (Or.inr z))
      obtain ⟨⟨e1, e2⟩, n2, w2', y1, y2, y3, y4⟩ := hh z
      have c0 : cA b ≠ 0 := fun y => q0 ((cmpz _ _).2.2.2.1.2 (by rw [e1]; exact y))
      obtain ⟨k1, k2, k3, k4, k5⟩ := hch b hbn
      have wi : wI M2 a g T R W C Z E tg n2 L w2' w0 mul (sm (fun b' => cA b' * (mul / cD b')) b) (cA b) (cD b) B b M2 := ⟨wyF.mk (P := fun _ => False) (S := fun _ => False) w2 (Mv.refl gg.1 w2 (fun _ z => z.elim)) (fun _ z => z.elim) (fun _ z => z.elim) (fun _ _ _ _ _ _ => rfl), gg, en, y2, y3, by rw [e1], by rw [e2]⟩
      have le : sm (fun b' => cA b' * (mul / cD b')) b + cA b * (mul / cD b) ≤ mul := by
        have := sm_part (f := fun b' => cA b' * (mul / cD b')) (a := b + 1) (nb - (b + 1)) (fun c hc => term c (by omega))
        rw [show b + 1 + (nb - (b + 1)) = nb by omega, hsum] at this
        exact this
      obtain ⟨S, Bl, z1, z2, z3⟩ := hz z
      obtain ⟨br, hb1, hb2⟩ := hzl b hbn
      have dq : zl.drop b = (br, cA b, cD b) :: zl.drop (b + 1) := by
        obtain ⟨hl, he⟩ := List.getElem?_eq_some_iff.mp hb2
        rw [List.drop_eq_getElem_cons hl, he]
      rw [dq] at z1
      obtain ⟨q29, qS, w9, q40, qB, qW, qX, qT⟩ := z2
      have ew : w9 = w2' := by
        have := y2.2.1.1
        omega
      subst ew
      have eln : S.length = n2 := by
        have := y2.1.1
        omega
      rw [eln] at qS
      refine (x_MM_way (d := d) hev hstp (hp.gs gs hR) ((hcm.2.2.2.2 b br hb1).gs gs hR) (hgd b hbn) z ⟨eln, qS⟩ qB qW qX z3 wi ipl hc (by rw [r25]; omega) hw0 ⟨by omega, by omega⟩ ⟨by omega, by omega⟩ k5 le hL).mono (fun M3 t3 => ⟨t3.1, ?_⟩)
      obtain ⟨-, ⟨W3, gg3, en3, hq⟩, fo⟩ := t3
      have tab := W3.tab w2
      rw [show (b : Int) + 1 = ((b + 1 : Nat) : Int) by omega]
      refine ih (b + 1) M3 (by omega) ⟨x1.trans (W3.xf w2), gg3, en3, ?_, fun z3 => ?_⟩ (fun z4 => ?_) (fun z4 => ?_)
      · rw [tab.2.1, tab.2.2.1]; exact tb
      · rcases hq with y | ⟨-, n3, w3, u1, u2, u3, u4⟩
        · exact absurd z3 y
        · exact ⟨⟨tab.2.2.2.1.trans e1, tab.2.2.2.2.trans e2⟩, n3, w3, by omega, u3, u4, by omega⟩
      · rcases fo with ⟨f1, -⟩ | ⟨-, S', B', f1, f2, f3, w', f4, f5, f6, f7, f8⟩
        · exact absurd z4 f1
        rcases hq with y | ⟨-, n3, w3, u1, u2, u3, u4⟩
        · exact absurd z4 y
        refine ⟨S', B', by rw [z1, f1], ⟨f2, f3, w', f4, f5, f6, f7, qT.trans ?_⟩, fun v hv => ?_⟩
        · have hin : ∀ q, wyP a q → q ∈ nums a := fun q hq => wyP_in hq
          have ls : ∀ {q}, q ∈ nums a → q ≠ a + 99 → q ≠ a + 113 → nt M3 q = nt M2 q := fun hq n1 n2 => funext (fun j => (W3.1.lst hq (fun z => by
            have z' : _ = a + 99 ∨ _ = a + 113 := z
            omega)).2.1 j)
          exact ⟨ls k109 (by omega) (by omega), ls k111 (by omega) (by omega), ls k115 (by omega) (by omega), fun i hi => by rw [(u3.2.2.2.2.2.2 i hi).2.1.2, (y2.2.2.2.2.2.2 i hi).2.1.2], tab.1, f8⟩
        · have hin : ∀ q, wyP a q → q ∈ nums a := fun q hq => wyP_in hq
          rw [(W3.1.cellL w2 hin (offx (a := a) (o := 101) (by decide)) (fun z => by have := wyS_un z; omega)).1]
          exact z3 v hv
      · rcases fo with ⟨-, f1⟩ | ⟨f1, -⟩
        · rw [z1]
          exact f1 _
        · exact absurd f1 z4
end ENX2
end
section
/-! The reference: an enabled command, exactly. -/
section ENX3
variable {G : mG} {d a g T R W C Z n L w w0 k : Nat} {M M' M2 M3 : mM} {E : Eg9} {tg mul : Int} {B : Nat → Nat} {ww pl lo hi : Nat → Int} {XV : List Int → Int → vrs} {ev : List Int → Nat → Nat → vrs} {cvS : List Int → Nat → vrs} {stp : List Int → List (Nat × Nat × Nat × Nat) → (Int × Int) × List Int} {tgI : Nat × Nat} {cms : List cm9} {sg : List Int}
theorem x_en87 {c nb : Nat} {cm : cm9} {RR s9 : sl9} {T9 : xt9} {L0 : Nat} (hev : ∀ sg i j, ev sg i j = vlq ww (cvS sg) pl 0 0 i j) (hstp : ∀ sg l, stp sg l = ((stq9 ww (cvS sg) pl lo hi l (fun v => sg.getD v 0)).1, (List.range W).map (stq9 ww (cvS sg) pl lo hi l (fun v => sg.getD v 0)).2)) (hp : GP ww pl XV ev M g R W C T E tgI cms lo hi) (hcm : RCm ww pl XV ev M g R W T E c cm) (hR1 : smq9 mul (lchR M2 a nb) ≠ mul → RR = ((11, cm.2.1), s9.2)) (hR2 : smq9 mul (lchR M2 a nb) = mul → ∀ fl, flq9 stp sg cm.2.1 mul w (cm.2.2.2.zip (lchR M2 a nb)) s9.2.1 [] = fl → RR = (fl.1, fl.2.1, cm.1, s9.2.2.2 ++ [(c, mul, fl.2.2)])) (xq : XVq M2 a g R W (XV sg)) (hsg : ∀ v, v < W → mI M2 (a + 101) v = sg.getD v 0) (gq : GQr M2 a W k L0 T9 (s9.1, s9.2.1, cm.1, s9.2.2.2)) (hgd : ∀ b', b' < nb → Int.gcd (mL M2 (a + 21189) b') (mL M2 (a + 21190) b') = 1) (h0 : GG M a g T R W C Z E tg) (h : eB M a g T R W C Z E tg n L w B M2) (z16 : mI M2 a 16 = 0) (hw : B L = w) (hk5 : k < 512) (hk : 0 ≤ mI M (a + 108) k ∧ mI M (a + 108) k ≤ 5000) (hc : c < C) (hnb : mI M (g + 25) c = (nb : Int)) (hm : 1 ≤ mul ∧ mul < 1000000000) (hch : chk1 M2 a nb) (hdv : ∀ b' : Nat, b' < nb → mL M2 (a + 21190) b' ∣ mul) : ∀ (t b : Nat), b + t = nb → h_MM_enabled_87 G (d + 7) a k c cm.2.1 mul (sm (fun b' => mL M2 (a + 21189) b' * (mul / mL M2 (a + 21190) b')) b) b M2 (fun M' => mOk M' ∧ enQ M a g T R W C Z E tg n L k B M' ∧ eyX RR T9 a W k L0 (XV sg) g R sg M') := by
  obtain ⟨x1, gg, en, xd, t107, t108⟩ := id h
  have ipl : i32 cm.2.1 := by rw [← hcm.2.1]; exact (h0.1 _ _).1
  have hlen : cm.2.2.2.length = nb := by
    have e := hcm.2.2.2.1
    rw [hnb] at e
    omega
  have smE : ∀ m, sm (fun b' => mL M2 (a + 21189) b' * (mul / mL M2 (a + 21190) b')) m = smq9 mul (lchR M2 a m) := fun m => by
    induction m with
    | zero => rfl
    | succ m ih =>
      show sm (fun b' => mL M2 (a + 21189) b' * (mul / mL M2 (a + 21190) b')) m + mL M2 (a + 21189) m * (mul / mL M2 (a + 21190) m) = _
      rw [ih, lchR_s, smq_1, Int.mul_comm]
  have o2 := gg.1
  have w2 := gg.2.1
  have hg := gg.2.2.1.2
  have hBd := gg.2.2.2.2.2.2.2.1.1
  have wd0 := h0.2.1
  have gs := x1.gs wd0 hg
  have r25 : mI M2 (g + 25) c = (nb : Int) := by rw [(gs.2.1 25 (by omega) (by omega)).1]; exact hnb
  have nb8 : nb ≤ 8 := by
    have := (h0.2.2.2.2.2.2.2.1.2.2.2.2.1 c hc).2.2.1
    omega
  have hL := xd.le
  have term : ∀ b', b' < nb → 0 ≤ mL M2 (a + 21189) b' * (mul / mL M2 (a + 21190) b') ∧ mL M2 (a + 21189) b' * (mul / mL M2 (a + 21190) b') ≤ mul := fun b' hb' => by
    have c1 := hch b' hb'
    obtain ⟨q, hq⟩ := hdv b' hb'
    have e : mul / mL M2 (a + 21190) b' = q := by rw [hq]; exact Int.mul_ediv_cancel_left q (by omega)
    have q0 : 0 ≤ q := by rw [← e]; exact Int.ediv_nonneg (by omega) (by omega)
    rw [e]
    refine ⟨Int.mul_nonneg (by omega) q0, ?_⟩
    have := Int.mul_le_mul_of_nonneg_right c1.2.1 q0
    omega
  have ik : i32 (k : Int) := i32s (by omega) (by omega)
  have ic : i32 (c : Int) := i32s (by omega) (by omega)
  have im : i64 mul := ⟨by omega, by omega⟩
  have b60 : ((0 : Int) ≤ (c : Int) ∧ (c : Int) < ((60 : Nat) : Int)) := by omega
  have b512 : ((0 : Int) ≤ (k : Int) ∧ (k : Int) < ((512 : Nat) : Int)) := by omega
  have sb : ∀ b, b ≤ nb → i64 (sm (fun b' => mL M2 (a + 21189) b' * (mul / mL M2 (a + 21190) b')) b) := fun b hb => by
    have := sm_bd (f := fun b' => mL M2 (a + 21189) b' * (mul / mL M2 (a + 21190) b')) (c := mul) b (fun t ht => term t (by omega))
    have h8 : (b : Int) * mul ≤ 8 * 1000000000 := Int.mul_le_mul (by omega) (by omega) (by omega) (by omega)
    exact ⟨by omega, by omega⟩
  intro t
  induction t with
  | zero =>
    intro b hb
    have eb : b = nb := by omega
    subst eb
    refine k_MM_enabled_87 o2 ik ic ipl im (sb b (Nat.le_refl _)) (i32s (by omega) (by omega)) ⟨w2.1.1, ?_⟩
    rw [gg.2.2.1.1, show mR M2 g 22 = g + 25 from (w2.gp hg).2.2.1.2.2.2.2.2.2.2.1, Int.toNat_natCast, r25, show mR M2 a 35 = a + 109 from w2.1.2.2.2.2.2.1.2.2.2.2.1]
    refine ⟨(w2.gp hg).1, (w2.gp hg).2.2.2.2.2.2.2.2.1.1, by rw [(w2.gp hg).2.2.2.2.2.2.2.2.1.2]; exact b60, fun _ => ⟨fun q => ⟨(w2.nu k109).1, ?_⟩, fun q => (s_MM_stop ⟨by decide, by decide⟩ ipl o2 w2).mono (fun M3 h3 => ⟨h3.1.1, h3.1.1, en_stop h (by decide) h3, Or.inl ⟨by rw [h3.2.1]; decide, by rw [hR1 (fun u => q ((cmpz _ _).2.2.2.1.2 (by rw [smE]; exact u))), h3.2.1, h3.2.2.1]⟩⟩)⟩, fun q => absurd (Int.le_refl _) q⟩
    have hsum := (cmpz _ _).2.2.2.1.1 q
    obtain ⟨l109, l111, l113, l115⟩ := xd.2.2.2.2.1
    refine (s_MN_add ic o2 (w2.nu k109) (by rw [l109]; omega)).mono (fun M3 a3 => ?_)
    have m3 := mv_add w2 k109 a3
    have w3 := m3.2.1
    have z115 : ln M3 (a + 115) = (L : Int) := by rw [(m3.lst k115 (by omega)).1, l115]
    have z111 : ln M3 (a + 111) = (L : Int) := by rw [(m3.lst k111 (by omega)).1, l111]
    have z113 : ln M3 (a + 113) = (L : Int) := by rw [(m3.lst k113 (by omega)).1, l113]
    rw [show mR M3 a 38 = a + 115 from w3.1.2.2.2.2.2.1.2.2.2.2.2.2.2.1]
    refine ⟨m3.1, w3.1.1, (w3.nu k115).1, (s_MN_add ⟨by omega, by omega⟩ m3.1 (w3.nu k115) (by rw [z115]; omega)).mono (fun M4 a4 => ?_)⟩
    have m4 := mv_add w3 k115 a4
    have w4 := m4.2.1
    have i1 : ∀ {p q : Nat}, p ∈ nums a → q = p → q ∈ nums a := fun hp hq => by rw [hq]; exact hp
    have e40 : mI M4 a 40 = (w : Int) := by
      rw [(m4.fld w3 (fun q hq => i1 k115 hq) (fun z => z)).1, (m3.fld w2 (fun q hq => i1 k109 hq) (fun z => z)).1]
      exact xd.2.1.1
    have w4096 := xd.2.1.2
    rw [show mR M4 a 36 = a + 111 from w4.1.2.2.2.2.2.1.2.2.2.2.2.1, e40]
    refine ⟨m4.1, w4.1.1, (w4.nu k111).1, (s_MN_add (i32s (by omega) (by omega)) m4.1 (w4.nu k111) (by rw [(m4.lst k111 (by omega)).1, z111]; omega)).mono (fun M5 a5 => ?_)⟩
    have m5 := mv_add w4 k111 a5
    have w5 := m5.2.1
    rw [show mR M5 a 37 = a + 113 from w5.1.2.2.2.2.2.1.2.2.2.2.2.2.1]
    refine ⟨m5.1, w5.1.1, (w5.nu k113).1, (s_MN_add ⟨by decide, by decide⟩ m5.1 (w5.nu k113) (by rw [(m5.lst k113 (by omega)).1, (m4.lst k113 (by omega)).1, z113]; omega)).mono (fun M6 a6 => ?_)⟩
    have m6 := mv_add w5 k113 a6
    have w6 := m6.2.1
    have A8 : mK M6 (a + 108) = 30 ∧ mN M6 (a + 108) = 512 := w6.1.2.2.2.2.2.2.2.2.1.2.2.2
    have e108 : mI M6 (a + 108) = mI M (a + 108) := by
      rw [← t108, (m6.cellL w5 (fun q hq => i1 k113 hq) (offx (a := a) (o := 108) (by decide)) (fun z => z)).1, (m5.cellL w4 (fun q hq => i1 k111 hq) (offx (a := a) (o := 108) (by decide)) (fun z => z)).1, (m4.cellL w3 (fun q hq => i1 k115 hq) (offx (a := a) (o := 108) (by decide)) (fun z => z)).1, (m3.cellL w2 (fun q hq => i1 k109 hq) (offx (a := a) (o := 108) (by decide)) (fun z => z)).1]
    rw [show mR M6 a 34 = a + 108 from w6.1.2.2.2.2.2.1.2.2.2.1, Int.toNat_natCast, e108]
    refine ⟨m6.1, w6.1.1, A8.1, by rw [A8.2]; exact b512, by rw [A8.2]; exact b512, i32s (by omega) (by omega), fun M7 e7 => ?_⟩
    obtain ⟨⟨u1, u2, u3⟩, u4, u5, u6, u7, u8, u9, u10, u11, ⟨p109, po⟩, p106, p105, ⟨p85, p86, p87⟩, mm, gs27⟩ := en_putx (c := c) h hw hk hm a3 a4 a5 a6 e7
    have hW12 := hBd.2.1
    obtain ⟨g1, g2, g3, g4, g5, g6, L2, w9, g7, g8, g9, g10, g11, g12, g13⟩ := gq
    have eL : L2 = L := by
      have := l109
      omega
    have ew : w9 = w := by
      have := xd.2.1.1
      omega
    subst eL ew
    have hsum' : smq9 mul (lchR M2 a b) = mul := by rw [← smE]; exact hsum
    have cqe : ∀ i, i < L2 → cmQ M7 a i = cmQ M2 a i := fun i hi => by
      unfold cmQ
      rw [(po i hi).1, (po i hi).2.1, (po i hi).2.2.1, (po i hi).2.2.2, brR_cg (M := M2) (M' := M7) (fun _ _ _ => by rw [p85, p86, p87]; exact ⟨rfl, rfl, rfl⟩)]
    have key := x_en201 (G := G) (k := k) (zl := cm.2.2.2.zip (lchR M2 a b)) (S0 := s9.2.1) (M7 := M7) (n := n) (d := d) (cA := mL M2 (a + 21189)) (cD := mL M2 (a + 21190)) (sg := sg) hev hstp hp hcm (fun b' hb' => ⟨cm.2.2.2[b']'(by omega), List.getElem?_eq_getElem _, by rw [List.getElem?_zip_eq_some]; exact ⟨List.getElem?_eq_getElem _, lchR_get hb'⟩⟩) (by rw [List.length_zip, lchR_len]; omega) hgd h0 ipl hc hnb hw hL (fun b' hb' => ⟨(hch b' hb').1, (hch b' hb').2.1, (hch b' hb').2.2.1, (hch b' hb').2.2.2, hdv b' hb'⟩) hm.1 hsum b 0 M7 (by omega) ⟨u6, u7, u8, u9, fun _ => ⟨⟨by rw [u1]; exact u2, by rw [u1]; exact u3⟩, n, w9, Nat.le_refl _, u10, u11, by omega⟩⟩ (fun _ => ⟨s9.2.1, [], rfl, ⟨by rw [u4]; exact g2, by rw [SmR_cg (M := M2) hW12 (fun j _ => by rw [p105])]; exact g3, w9, by rw [u4]; exact g10, by rw [Nat.sub_self]; rfl, fun j hj => by rw [p86, p87]; exact g13 j hj, xq.mv w2 mm (fun q hq => xP_in hq) gs27 (fun x hx => by omega), Tq.refl⟩, fun v hv => by rw [(mm.cellL w2 (fun q hq => xP_in hq) (offx (a := a) (o := 101) (by decide)) (by omega)).1]; exact hsg v hv⟩) (fun z => absurd (by rw [u4]; exact z16) z)
    refine mWm.mono key (fun r9 M9 z9 => ⟨z9.1, z9.2.1, z9.2.2.1, ?_⟩)
    have zE := z9.2.2.1
    rcases z9.2.2.2 with ⟨e1, e2⟩ | ⟨e1, S', B', e2, ⟨e3, e4, w', e5, e6, e7', e8, e9⟩, e10⟩
    · refine Or.inl ⟨e1, ?_⟩
      rw [hR2 hsum' _ rfl]
      exact e2
    rw [hR2 hsum' _ rfl, e2]
    obtain ⟨q1, q2, q3, q4, q5, q6⟩ := e9
    obtain ⟨x9, gg9, en9, t107', t108', v9⟩ := zE
    rcases v9 with y | ⟨-, v9, n9, w9', B9, b1, b2, b3, b4⟩
    · exact absurd e1 y
    have ew9 : w9' = w' := by
      have := b4.2.1.1
      omega
    subst ew9
    have o9 := b4.2.2.2.2.2.2 L2 (by omega)
    have hw0 : w9 ≤ w9' := by
      have h1 := o9.1.1
      have h2 := b2 L2 (Nat.le_refl _)
      omega
    have cq9 : ∀ i, i < L2 → cmQ M9 a i = cmQ M2 a i := fun i hi => by
      rw [← cqe i hi]
      have oi := u10.2.2.2.2.2.2 i hi
      have mB := u10.mono (i + 1) L2 (by omega) (Nat.le_refl _)
      unfold cmQ
      rw [q1, q2, q3, q4 i hi, oi.2.1.1, oi.2.1.2, Int.toNat_natCast, Int.toNat_natCast, brR_cg (M := M7) (M' := M9) (fun j j1 j2 => q6 j (by have := oi.1.1; omega))]
    have cqL : cmQ M9 a L2 = (c, mul, B') := by
      unfold cmQ
      rw [q1, p109, Int.toNat_natCast, o9.2.1.2, b2 L2 (Nat.le_refl _), b3, hw, q2, u11.2.1.1, q3, u11.2.1.2.2, Int.toNat_natCast, Int.toNat_natCast, e6]
    have e106 : mI M9 (a + 106) = mI M2 (a + 106) := q5.trans p106
    have e107 : mI M9 (a + 107) = mI M2 (a + 107) := t107'.trans t107.symm
    have e108 : ∀ k', k' ≠ k → mI M9 (a + 108) k' = mI M2 (a + 108) k' := fun k' hk' => by rw [t108' k' hk', t108]
    have hB' : B'.length = w9' - w9 := by rw [← e6, brR_len]
    refine Or.inr ⟨e1, ⟨rfl, e3, e4, ?_, by rw [e106]; exact g5, fun k' hk' => ?_, L2 + 1, w9', by rw [e107]; exact g7, ⟨by omega, ?_⟩, b4.2.2.2.2.1.1, e5, ?_, ?_, e7'⟩, e8, e10⟩
    · rw [← g4]
      exact xtR_cg (L := L0) (fun k' _ => by rw [e106]) (fun k' hk' => ⟨by rw [e107], e108 k' (by omega)⟩) g6 (fun i hi => cq9 i (by omega))
    · rw [e107, e108 k' (by omega)]
      exact g6 k' hk'
    · rw [v9, ← t108, g8.2]
      omega
    · show cmL M9 a L0 (L2 + 1 - L0) = s9.2.2.2 ++ [(c, mul, B')]
      rw [show L2 + 1 - L0 = (L2 - L0) + 1 by omega, cmL_s, cmL_cg (M := M2) (fun i i1 i2 => cq9 i (by omega)), show L0 + (L2 - L0) = L2 by omega, cqL]
      exact congrArg (fun x => x ++ [(c, mul, B')]) g11
    · show nbx9 T9 + nbq9 (s9.2.2.2 ++ [(c, mul, B')]) = w9'
      have g12' : nbx9 T9 + nbq9 s9.2.2.2 = w9 := g12
      rw [nbq_app]
      show nbx9 T9 + (nbq9 s9.2.2.2 + (B'.length + 0)) = w9'
      omega
  | succ t ih =>
    intro b hb
    have b8 : ((0 : Int) ≤ (b : Int) ∧ (b : Int) < ((8 : Nat) : Int)) := by omega
    have c1 := hch b (by omega)
    have nx := ih (b + 1) (by omega)
    refine k_MM_enabled_87 o2 ik ic ipl im (sb b (by omega)) (i32s (by omega) (by omega)) ⟨w2.1.1, ?_⟩
    rw [gg.2.2.1.1, show mR M2 g 22 = g + 25 from (w2.gp hg).2.2.1.2.2.2.2.2.2.2.1, Int.toNat_natCast, r25, (r4546 w2).1.1, (r4546 w2).1.2, Int.toNat_natCast, Int.toNat_natCast]
    refine ⟨(w2.gp hg).1, (w2.gp hg).2.2.2.2.2.2.2.2.1.1, by rw [(w2.gp hg).2.2.2.2.2.2.2.2.1.2]; exact b60, fun q => absurd q (by omega), fun _ => ⟨(r4546 w2).2.1.1, by rw [(r4546 w2).2.1.2]; exact b8, (r4546 w2).2.2.1, by rw [(r4546 w2).2.2.2]; exact b8, by omega, ?_⟩⟩
    rw [show Int.tdiv mul (mL M2 (a + 21190) b) = mul / mL M2 (a + 21190) b from Int.tdiv_eq_ediv_of_nonneg (by omega), show (b : Int) + 1 = ((b + 1 : Nat) : Int) by omega]
    exact nx
theorem x_MM_enabled {c L0 : Nat} {cm : cm9} {s9 : sl9} {T9 : xt9} (hev : ∀ sg i j, ev sg i j = vlq ww (cvS sg) pl 0 0 i j) (hstp : ∀ sg l, stp sg l = ((stq9 ww (cvS sg) pl lo hi l (fun v => sg.getD v 0)).1, (List.range W).map (stq9 ww (cvS sg) pl lo hi l (fun v => sg.getD v 0)).2)) (hp : GP ww pl XV ev M g R W C T E tgI cms lo hi) (hcm : cms[c]? = some cm) (hok : GOk ev cms sg) (hg1 : (ev sg cm.2.2.1.1 cm.2.2.1.2).1 = 0) (hg2 : (ev sg cm.2.2.1.1 cm.2.2.1.2).2.1 ≠ 0) (xq : XVq M a g R W (XV sg)) (hsg : ∀ v, v < W → mI M (a + 101) v = sg.getD v 0) (gq : GQr M a W k L0 T9 s9) (h : GG M a g T R W C Z E tg) (hn : En M a g R W) (xd : XD M a g n W L w L B) (hw : B L = w) (z16 : mI M a 16 = 0) (hk5 : k < 512) (hk : 0 ≤ mI M (a + 108) k ∧ mI M (a + 108) k ≤ 5000) (hc : c < C) : Cv G y_MM_enabled (d + 8) [vr a, vi k, vi c] M (fun M' => mOk M' ∧ enQ M a g T R W C Z E tg n L k B M' ∧ eyX (tcq9 ev stp sg (nbx9 T9) c cm s9) T9 a W k L0 (XV sg) g R sg M') := by
  have o := h.1
  have wd := h.2.1
  have hR := h.2.2.2.2.2.2.2.1.1.1
  have hW12 := h.2.2.2.2.2.2.2.1.1.2.1
  have rc := hp.2.2.2.2.2.2 c cm hcm
  have hg := h.2.2.1.2
  have hD := h.2.2.2.2.2.2.2.1
  have hBd := hD.1
  have cc := hD.2.2.2.2.1 c hc
  obtain ⟨nb, hnb⟩ : ∃ nb : Nat, mI M (g + 25) c = (nb : Int) := ⟨(mI M (g + 25) c).toNat, by have := cc.2.1; omega⟩
  have b60 : ((0 : Int) ≤ (c : Int) ∧ (c : Int) < ((60 : Nat) : Int)) := by omega
  have b512 : ((0 : Int) ≤ (k : Int) ∧ (k : Int) < ((512 : Nat) : Int)) := by omega
  have A6 : mK M (a + 106) = 30 ∧ mN M (a + 106) = 512 := wd.1.2.2.2.2.2.2.2.2.1.2.1
  have ipl : i32 (mI M (g + 23) c) := (o _ _).1
  have eb0 : eB M a g T R W C Z E tg n L w B M := ⟨xF.refl o wd, h, hn, xd, rfl, rfl⟩
  have gk : mI M (a + 106) k = s9.2.2.1 := gq.2.2.2.2.1
  have cmv : ∀ v : Int, v = (if mI M (g + 22) c = 0 then 1 else 2) → v = cm.1 := fun v hv => by
    rcases rc.1 with ⟨y1, y2⟩ | ⟨y1, y2⟩
    · rw [hv, if_pos y2, y1]
    · rw [hv, if_neg y2, y1]
  refine k_MM_enabled o (i32s (by omega) (by omega)) (i32s (by omega) (by omega)) ⟨wd.1.1, ?_⟩
  rw [h.2.2.1.1, show mR M g 19 = g + 22 from (wd.gp hg).2.2.1.2.2.2.2.1, show mR M g 20 = g + 23 from (wd.gp hg).2.2.1.2.2.2.2.2.1, show mR M a 32 = a + 106 from wd.1.2.2.2.2.2.1.2.1, Int.toNat_natCast, Int.toNat_natCast]
  refine ⟨(wd.gp hg).1, (wd.gp hg).2.2.2.2.2.1.1, by rw [(wd.gp hg).2.2.2.2.2.1.2]; exact b60, fun v hv => ⟨(wd.gp hg).2.2.2.2.2.2.1.1, by rw [(wd.gp hg).2.2.2.2.2.2.1.2]; exact b60, A6.1, by rw [A6.2]; exact b512, fun _ => by rw [A6.2]; exact b512, fun qk => ⟨by rw [A6.2]; exact b512, fun M2 e2 => ?_⟩, fun qk => (s_MM_stop ⟨by decide, by decide⟩ ipl o wd).mono (fun M3 h3 => ⟨h3.1.1, h3.1.1, en_stop eb0 (by decide) h3, Or.inl ⟨by rw [h3.2.1]; decide, by rw [tcq_m hg1 hg2 ⟨fun u => qk (Or.inl (gk.trans u)), fun u => qk (Or.inr (gk.trans (u.trans (cmv v hv).symm)))⟩, h3.2.1, h3.2.2.1, rc.2.1]⟩⟩)⟩⟩
  have iv : i32 v := by rw [hv]; split <;> exact ⟨by decide, by decide⟩
  obtain ⟨m2, f2', l2⟩ := mv_cell iv o wd (show a ≤ a + 106 by omega) (offx (a := a) (o := 106) (by decide)) e2
  have no : ∀ q : Nat, False → q ∈ nums a := fun _ z => z.elim
  have w2 := m2.2.1
  have aI := (m2.fld wd no (by omega)).1
  have F2 : xF M a M2 := xF.mk wd m2 (fun _ z => z.elim) (fun x z => Or.inr (Or.inl (by omega))) (fun i _ _ _ _ _ => by rw [aI])
  have gs2 := F2.gs wd hg
  have gg2 := h.gs m2.1 w2 (by rw [m2.rfl_a wd no]) gs2
  have en2 := hn.mv wd m2 no gs2 (fun x z => by omega)
  have xd2 := xd.mv wd m2 no (fun _ z => z.elim) (fun x z => by omega) gs2 (by rw [aI]) (by rw [aI])
  have c7 := (m2.cellL wd no (offx (a := a) (o := 107) (by decide)) (by omega)).1
  have c8 := (m2.cellL wd no (offx (a := a) (o := 108) (by decide)) (by omega)).1
  have hpk : ¬ (s9.2.2.1 ≠ 0 ∧ s9.2.2.1 ≠ cm.1) := fun u => by
    rcases qk with y | y
    · exact u.1 (gk.symm.trans y)
    · exact u.2 (gk.symm.trans (y.trans (cmv v hv)))
  have z162 : mI M2 a 16 = 0 := by rw [aI]; exact z16
  have hp2 := hp.gs gs2 hR
  refine (x_MM_chances (d := d + 1) (sg := sg) gg2 en2 hp2 (xq.mv wd m2 no gs2 (fun x z => by omega)) z162 hcm hc ipl (by rw [(gs2.2.1 25 (by omega) (by omega)).1]; exact hnb)).mono (fun mul M3 t3 => ?_)
  obtain ⟨i3, o3, ⟨-, ⟨x3, gg3, en3⟩, v3⟩, y3⟩ := t3
  have w3 := gg3.2.1
  have gs3 := x3.gs w2 hg
  have un : ∀ x, xE a x → x = a ∨ (a + 97 ≤ x ∧ x ≤ a + 98) ∨ (a + 102 ≤ x ∧ x ≤ a + 104) ∨ (a + 21188 ≤ x ∧ x ≤ a + 21190) := fun x hx => hx
  have xd3 := xd2.mv w2 x3.1 in99 (fun q hq => by omega) (fun x hx => by have := un x hx; omega) gs3 (x3.2 29 (by decide) (by decide) (by decide)) (x3.2 40 (by decide) (by decide) (by decide))
  have tb := x3.tab w2
  have eb3 : eB M a g T R W C Z E tg n L w B M3 := ⟨F2.trans (x3.xf w2), gg3, en3, xd3, by rw [tb.2.1]; exact c7, by rw [tb.2.2]; exact c8⟩
  refine ⟨i3, o3, w3.1.1, fun z3 => ?_, fun z3 => ⟨o3, ⟨eb3.1, gg3, en3, eb3.2.2.2.2.1, fun k' _ => by rw [eb3.2.2.2.2.2], Or.inl z3⟩, Or.inl ⟨z3, ?_⟩⟩⟩
  rotate_left
  · rcases y3 with (⟨y1, y2, y4⟩ | ⟨y1, y2, y4, y5⟩) | ⟨-, -, y4, -⟩
    · rw [tcq_c hg1 hg2 hpk y1, y2, y4]
    · rw [tcq_u hg1 hg2 hpk y1 y2, y4, y5, rc.2.1]
    · exact absurd y4 z3
  rcases v3 with y | ⟨-, u1, u2, u3, u4⟩
  · exact absurd z3 y
  obtain ⟨f1, f2, -, f3, f4, f5⟩ : (chq9 ev sg cm.2.2.2).1.1 = 0 ∧ muq9 (chq9 ev sg cm.2.2.2).2 1 ≠ 0 ∧ mI M3 a 16 = 0 ∧ mul = muq9 (chq9 ev sg cm.2.2.2).2 1 ∧ lchR M3 a nb = (chq9 ev sg cm.2.2.2).2 ∧ XVq M3 a g R W (XV sg) := by
    rcases y3 with (⟨y1, y2, -⟩ | ⟨y1, y2, y4, y5⟩) | y4
    · exact absurd (y2.symm.trans z3) y1
    · rw [z3] at y4
      exact absurd y4 (by decide)
    · exact y4
  have hlen : cm.2.2.2.length = nb := by
    have e := rc.2.2.2.1
    rw [hnb] at e
    omega
  have e101 : ∀ v, v < W → mI M3 (a + 101) v = sg.getD v 0 := fun v' hv' => by
    rw [(x3.1.cellL w2 in99 (offx (a := a) (o := 101) (by decide)) (fun z => by have := un _ z; omega)).1, (m2.cellL wd no (offx (a := a) (o := 101) (by decide)) (by omega)).1]
    exact hsg v' hv'
  have gF := F2.trans (x3.xf w2)
  have gs03 := gs2.trans gs3
  obtain ⟨g1, g2, g3, g4, g5, g6, L2, w9, g7, g8, g9, g10, g11, g12, g13⟩ := gq
  have c3 : ∀ o, frO o → (o = 105 ∨ o = 106 ∨ o = 107 ∨ o = 108 ∨ o = 21185 ∨ o = 21186 ∨ o = 21187) → mI M3 (a + o) = mI M2 (a + o) ∧ mL M3 (a + o) = mL M2 (a + o) := fun o fo ho => x3.1.cellL w2 in99 (offx fo) (fun z => by have := un _ z; omega)
  have c2 : ∀ o, frO o → (o = 105 ∨ o = 107 ∨ o = 108 ∨ o = 21185 ∨ o = 21186 ∨ o = 21187) → mI M2 (a + o) = mI M (a + o) ∧ mL M2 (a + o) = mL M (a + o) := fun o fo ho => m2.cellL wd no (offx fo) (by omega)
  have ls : ∀ {q}, q ∈ nums a → q ≠ a + 99 → ln M3 q = ln M q ∧ nt M3 q = nt M q := fun hq n1 => by
    have s3 := x3.1.lst hq n1
    have s2 := m2.lst hq (fun z => z)
    exact ⟨s3.1.trans s2.1, funext (fun j => (s3.2.1 j).trans (s2.2.1 j))⟩
  have i29 : mI M3 a 29 = mI M a 29 := (x3.2 29 (by decide) (by decide) (by decide)).trans (by rw [aI])
  have i40 : mI M3 a 40 = mI M a 40 := (x3.2 40 (by decide) (by decide) (by decide)).trans (by rw [aI])
  have b5 := (c3 105 (by decide) (by omega)).1.trans (c2 105 (by decide) (by omega)).1
  have b7 := (c3 107 (by decide) (by omega)).1.trans (c2 107 (by decide) (by omega)).1
  have b8 := (c3 108 (by decide) (by omega)).1.trans (c2 108 (by decide) (by omega)).1
  have b85 := (c3 21185 (by decide) (by omega)).1.trans (c2 21185 (by decide) (by omega)).1
  have b86 := (c3 21186 (by decide) (by omega)).2.trans (c2 21186 (by decide) (by omega)).2
  have b87 := (c3 21187 (by decide) (by omega)).2.trans (c2 21187 (by decide) (by omega)).2
  have b6 : ∀ k', mI M3 (a + 106) k' = if k' = k then cm.1 else mI M (a + 106) k' := fun k' => by
    rw [(c3 106 (by decide) (by omega)).1, f2', cmv v hv]
    by_cases y : k' = k
    · rw [if_pos ⟨rfl, y⟩, if_pos y]
    · rw [if_neg (fun z => y z.2), if_neg y]
  have cq : ∀ i, cmQ M3 a i = cmQ M a i := fun i => by
    unfold cmQ
    rw [(ls k109 (by omega)).2, (ls k111 (by omega)).2, (ls k113 (by omega)).2, (ls k115 (by omega)).2, brR_cg (M := M) (M' := M3) (fun _ _ _ => by rw [b85, b86, b87]; exact ⟨rfl, rfl, rfl⟩)]
  have gq3 : GQr M3 a W k L0 T9 (s9.1, s9.2.1, cm.1, s9.2.2.2) := ⟨g1, by rw [i29]; exact g2, by rw [SmR_cg (M := M) hW12 (fun j _ => by rw [b5])]; exact g3, by rw [← g4]; exact xtR_cg (L := L0) (fun k' hk' => by rw [b6, if_neg (by omega)]) (fun k' _ => by rw [b7, b8]; exact ⟨rfl, rfl⟩) g6 (fun i _ => cq i), by rw [b6, if_pos rfl], fun k' hk' => by rw [b7, b8]; exact g6 k' hk', L2, w9, by rw [b7]; exact g7, by rw [b8]; exact g8, by rw [(ls k109 (by omega)).1]; exact g9, by rw [i40]; exact g10, by rw [cmL_cg (M := M) (fun i _ _ => cq i)]; exact g11, g12, fun j hj => by rw [b86, b87]; exact g13 j hj⟩
  have ew : w9 = w := by
    have := xd.2.1.1
    omega
  have hgd : ∀ b', b' < nb → Int.gcd (mL M3 (a + 21189) b') (mL M3 (a + 21190) b') = 1 := fun b' hb' => by
    have e1 := chq_get f1 (List.getElem?_eq_getElem (show b' < cm.2.2.2.length by omega))
    have e2 := lchR_get (M := M3) (a := a) hb'
    rw [f4, e1.1] at e2
    have e3 := Option.some.inj e2
    have e4 := hok c cm hcm b' _ (List.getElem?_eq_getElem (show b' < cm.2.2.2.length by omega)) e1.2
    rw [e3] at e4
    exact e4
  have key := x_en87 (G := G) (d := d) (sg := sg) (RR := tcq9 ev stp sg (nbx9 T9) c cm s9) (s9 := s9) (T9 := T9) (L0 := L0) hev hstp hp rc (fun y => by rw [f4, f3] at y; exact tcq_s hg1 hg2 hpk f1 f2 y) (fun y fl hfl => by
    rw [f4, f3] at y hfl
    rw [f3]
    refine tcq_e hg1 hg2 hpk f1 f2 y ?_
    rw [g12, ew]
    exact hfl) f5 e101 gq3 hgd h eb3 z3 hw hk5 hk hc hnb ⟨u2, u3⟩ u1 u4 nb 0 (by omega)
  rw [rc.2.1]
  exact key
end ENX3
end
section
/-! The reference: a state is explored, exactly. -/
section STX
variable {G : mG} {d a g T R W C Z n L w k : Nat} {M M' M2 M3 : mM} {E : Eg9} {tg : Int} {B : Nat → Nat} {P S : Nat → Prop} {ww pl lo hi : Nat → Int} {XV : List Int → Int → vrs} {ev : List Int → Nat → Nat → vrs} {cvS : List Int → Nat → vrs} {stp : List Int → List (Nat × Nat × Nat × Nat) → (Int × Int) × List Int} {tgI : Nat × Nat} {cms : List cm9} {sg : List Int}
theorem GQr.mv {L0 : Nat} {T9 : xt9} {s : sl9} (h : GQr M a W k L0 T9 s) (hW : W ≤ 12) (w : Wd M a) (m : Mv P S M a M') (hin : ∀ q, P q → q ∈ nums a) (hP : ∀ q, P q → q ≠ a + 109 ∧ q ≠ a + 111 ∧ q ≠ a + 113 ∧ q ≠ a + 115) (hS : ∀ x, S x → ¬ ((a + 105 ≤ x ∧ x ≤ a + 108) ∨ (a + 21185 ≤ x ∧ x ≤ a + 21187))) (f29 : mI M' a 29 = mI M a 29) (f40 : mI M' a 40 = mI M a 40) : GQr M' a W k L0 T9 s := by
  obtain ⟨i1, i2, i3, i4, i5, i6, L2, w9, i7, i8, i9, i10, i11, i12, i13⟩ := h
  have c : ∀ o, frO o → (o = 105 ∨ o = 106 ∨ o = 107 ∨ o = 108 ∨ o = 21185 ∨ o = 21186 ∨ o = 21187) → mI M' (a + o) = mI M (a + o) ∧ mL M' (a + o) = mL M (a + o) := fun o fo ho => m.cellL w hin (offx fo) (fun z => hS _ z (by omega))
  have c5 := (c 105 (by decide) (by omega)).1
  have c6 := (c 106 (by decide) (by omega)).1
  have c7 := (c 107 (by decide) (by omega)).1
  have c8 := (c 108 (by decide) (by omega)).1
  have c85 := (c 21185 (by decide) (by omega)).1
  have c86 := (c 21186 (by decide) (by omega)).2
  have c87 := (c 21187 (by decide) (by omega)).2
  have l9 := m.lst (k109 (a := a)) (fun z => (hP _ z).1 rfl)
  have l11 := m.lst (k111 (a := a)) (fun z => (hP _ z).2.1 rfl)
  have l13 := m.lst (k113 (a := a)) (fun z => (hP _ z).2.2.1 rfl)
  have l15 := m.lst (k115 (a := a)) (fun z => (hP _ z).2.2.2 rfl)
  have cm : ∀ i, cmQ M' a i = cmQ M a i := fun i => by
    unfold cmQ
    rw [show nt M' (a + 109) = nt M (a + 109) from funext (fun j => l9.2.1 j), show nt M' (a + 111) = nt M (a + 111) from funext (fun j => l11.2.1 j), show nt M' (a + 113) = nt M (a + 113) from funext (fun j => l13.2.1 j), show nt M' (a + 115) = nt M (a + 115) from funext (fun j => l15.2.1 j), brR_cg (M := M) (M' := M') (fun _ _ _ => by rw [c85, c86, c87]; exact ⟨rfl, rfl, rfl⟩)]
  exact ⟨i1, by rw [f29]; exact i2, by rw [SmR_cg (M := M) hW (fun j _ => by rw [c5])]; exact i3, by rw [← i4]; exact xtR_cg (L := L0) (fun k' _ => by rw [c6]) (fun k' _ => by rw [c7, c8]; exact ⟨rfl, rfl⟩) i6 (fun i _ => cm i), by rw [c6]; exact i5, by rw [c7, c8]; exact i6, L2, w9, by rw [c7]; exact i7, by rw [c8]; exact i8, by rw [l9.1]; exact i9, by rw [f40]; exact i10, by rw [cmL_cg (M := M) (fun i _ _ => cm i)]; exact i11, i12, fun j hj => by rw [c86, c87]; exact i13 j hj⟩
theorem x_st72 {RS : sl9} {T9 : xt9} (hev : ∀ sg i j, ev sg i j = vlq ww (cvS sg) pl 0 0 i j) (hstp : ∀ sg l, stp sg l = ((stq9 ww (cvS sg) pl lo hi l (fun v => sg.getD v 0)).1, (List.range W).map (stq9 ww (cvS sg) pl lo hi l (fun v => sg.getD v 0)).2)) (h0 : GG M a g T R W C Z E tg) (hp : GP ww pl XV ev M g R W C T E tgI cms lo hi) (hok : GOk ev cms sg) (hk5 : k < 512) : ∀ (t c : Nat) (M2 : mM), c + t = C → sI M a g T R W C Z E tg n L k B M2 → (mI M2 a 16 = 0 → ∃ s9, GQr M2 a W k L T9 s9 ∧ XVq M2 a g R W (XV sg) ∧ (∀ v, v < W → mI M2 (a + 101) v = sg.getD v 0) ∧ RS = tsq9 ev stp sg (nbx9 T9) (cms.drop c) c s9) → (mI M2 a 16 ≠ 0 → RS.1 = (mI M2 a 16, mI M2 a 17)) → h_MM_state0_72 G (d + 8) a k c M2 (fun M' => mOk M' ∧ sI M a g T R W C Z E tg n L k B M' ∧ eyX RS T9 a W k L (XV sg) g R sg M') := by
  have hR := h0.2.2.2.2.2.2.2.1.1.1
  have hW12 := h0.2.2.2.2.2.2.2.1.1.2.1
  have hlen := hp.2.2.2.2.2.1
  intro t
  induction t with
  | zero =>
    intro c M2 hc h hz hf
    have ec : c = C := by omega
    subst ec
    obtain ⟨x1, gg, en, hh⟩ := id h
    have w2 := gg.2.1
    have hg := gg.2.2.1.2
    have hBd := gg.2.2.2.2.2.2.2.1.1
    refine k_MM_state0_72 gg.1 (i32s (by omega) (by omega)) (i32s (by omega) (by omega)) ⟨w2.1.1, ?_⟩
    rw [gg.2.2.1.1, gg.2.2.2.2.2.1.2.2.1]
    refine ⟨(w2.gp hg).1, fun _ => ⟨gg.1, h, ?_⟩, fun q => absurd (Or.inl (Int.le_refl _)) q⟩
    by_cases z : mI M2 a 16 = 0
    · obtain ⟨s9, z1, z2, z3, z4⟩ := hz z
      rw [List.drop_eq_nil_of_le (by omega)] at z4
      have z4 : RS = s9 := z4
      rw [z4]
      exact Or.inr ⟨z, z1, z2, z3⟩
    · exact Or.inl ⟨z, hf z⟩
  | succ t ih =>
    intro c M2 hc h hz hf
    obtain ⟨x1, gg, en, hh⟩ := id h
    have w2 := gg.2.1
    have hg := gg.2.2.1.2
    have hD := gg.2.2.2.2.2.2.2.1
    have hBd := hD.1
    have cc := hD.2.2.2.2.1 c (by omega)
    have b60 : ((0 : Int) ≤ (c : Int) ∧ (c : Int) < ((60 : Nat) : Int)) := by omega
    refine k_MM_state0_72 gg.1 (i32s (by omega) (by omega)) (i32s (by omega) (by omega)) ⟨w2.1.1, ?_⟩
    rw [gg.2.2.1.1, gg.2.2.2.2.2.1.2.2.1, show mR M2 g 21 = g + 24 from (w2.gp hg).2.2.1.2.2.2.2.2.2.1, Int.toNat_natCast]
    have gs02 : Gs M M2 g := x1.gs h0.2.1 hg
    have hp2 := hp.gs gs02 hR
    obtain ⟨cm, hcm⟩ : ∃ cm : cm9, cms[c]? = some cm := ⟨_, List.getElem?_eq_getElem (by omega)⟩
    have rc := hp2.2.2.2.2.2.2 c cm hcm
    have dq : cms.drop c = cm :: cms.drop (c + 1) := by
      obtain ⟨hl, he⟩ := List.getElem?_eq_some_iff.mp hcm
      rw [List.drop_eq_getElem_cons hl, he]
    refine ⟨(w2.gp hg).1, fun q => ⟨gg.1, h, ?_⟩, fun q => ?_⟩
    · have z2 : mI M2 a 16 ≠ 0 := by
        rcases q with q | q
        · omega
        · exact q
      exact Or.inl ⟨z2, hf z2⟩
    have z2 : mI M2 a 16 = 0 := Classical.byContradiction (fun z => q (Or.inr z))
    obtain ⟨s9, zg, zx, zs, zr⟩ := hz z2
    rw [dq, tsq_c zg.1] at zr
    refine ⟨(w2.gp hg).2.2.2.2.2.2.2.1.1, by rw [(w2.gp hg).2.2.2.2.2.2.2.1.2]; exact b60, (x_MM_reach (d := d + 3) gg en hp2.1 zx rc.2.2.1 z2).mono (fun M3 t3 => ?_)⟩
    obtain ⟨⟨t1, t2⟩, n2, L2, w2', B2, y1, y2, y3, y4, y5, y6⟩ := hh z2
    obtain ⟨o3, ⟨xr3, gg3, en3, v3⟩, u3⟩ := t3
    have x3 := xr3.xe w2
    have w3 := gg3.2.1
    have gs3 := x3.gs w2 hg
    have tb := x3.tab w2
    have un : ∀ x, xE a x → x = a ∨ (a + 97 ≤ x ∧ x ≤ a + 98) ∨ (a + 102 ≤ x ∧ x ≤ a + 104) ∨ (a + 21188 ≤ x ∧ x ≤ a + 21190) := fun x hx => hx
    have xd3 := y6.mv w2 x3.1 in99 (fun q hq => by omega) (fun x hx => by have := un x hx; omega) gs3 (x3.2 29 (by decide) (by decide) (by decide)) (x3.2 40 (by decide) (by decide) (by decide))
    have s3 : sI M a g T R W C Z E tg n L k B M3 := ⟨x1.trans (x3.xf w2), gg3, en3, fun _ => ⟨by rw [tb.2.1, tb.2.2]; exact ⟨t1, t2⟩, n2, L2, w2', B2, y1, y2, by rw [tb.2.2]; exact y3, y4, y5, xd3⟩⟩
    have A7 : mK M3 (a + 97) = 33 ∧ mN M3 (a + 97) = 16400 := w3.1.2.2.2.2.2.2.2.1.1
    rw [show mR M3 a 21 = a + 97 from w3.1.2.2.2.2.1.2.2.2.2.2.2.1]
    rw [show (c : Int) + 1 = ((c + 1 : Nat) : Int) by omega]
    have zg3 : GQr M3 a W k L T9 s9 := zg.mv hW12 w2 x3.1 in99 (fun q hq => by omega) (fun x hx => by have := un x hx; omega) (x3.2 29 (by decide) (by decide) (by decide)) (x3.2 40 (by decide) (by decide) (by decide))
    have zs3 : ∀ v, v < W → mI M3 (a + 101) v = sg.getD v 0 := fun v hv => by
      rw [(x3.1.cellL w2 in99 (offx (a := a) (o := 101) (by decide)) (fun z => by have := un _ z; omega)).1]
      exact zs v hv
    have gv : mI M3 a 16 = 0 → (ev sg cm.2.2.1.1 cm.2.2.1.2 = (0, mL M3 (a + 97) 0, 1) ∧ XVq M3 a g R W (XV sg)) ∧ (mL M3 (a + 97) 0 = 0 ∨ mL M3 (a + 97) 0 = 1) := fun z => by
      rcases u3 with u | ⟨-, u, y⟩
      · exact absurd (u.2.1.symm.trans z) u.1
      rcases v3 with v | ⟨-, v⟩
      · exact absurd z v
      refine ⟨⟨u, y⟩, ?_⟩
      unfold vok at v
      omega
    refine ⟨o3, w3.1.1, fun _ => ⟨A7.1, by rw [A7.2]; decide⟩, fun q3 => ?_, fun q3 => ih (c + 1) M3 (by omega) s3 (fun z => ?_) (fun z => ?_)⟩
    rotate_left
    · obtain ⟨⟨g1, g2⟩, g3⟩ := gv z
      have g4 : mL M3 (a + 97) 0 = 0 := by
        rcases g3 with y | y
        · exact y
        · exact absurd ⟨z, (cmpz _ _).2.2.2.1.2 y⟩ q3
      refine ⟨s9, zg3, g2, zs3, ?_⟩
      rw [zr, tcq_0 (by rw [g1]) (by rw [g1]; exact g4)]
    · rcases u3 with u | ⟨u, -⟩
      · have e9 := tcq_f (stp := stp) (nb := nbx9 T9) (c := c) (s := s9) u.1
        rw [zr, e9, tsq_f u.1]
        show ((ev sg cm.2.2.1.1 cm.2.2.1.2).1, (ev sg cm.2.2.1.1 cm.2.2.1.2).2.1) = _
        rw [u.2.1, u.2.2]
      · exact absurd u z
    obtain ⟨⟨g1, g2⟩, g3⟩ := gv q3.1
    have g4 : mL M3 (a + 97) 0 = 1 := (cmpz _ _).2.2.2.1.1 q3.2
    have hp3 := hp2.gs gs3 hR
    have hL2 := xd3.le
    refine (x_MM_enabled (d := d) (k := k) (c := c) (sg := sg) (s9 := s9) (T9 := T9) (L0 := L) hev hstp hp3 hcm hok (by rw [g1]) (by rw [g1]; show mL M3 (a + 97) 0 ≠ 0; omega) g2 zs3 zg3 gg3 en3 xd3 y5 q3.1 hk5 (by rw [tb.2.2, y3]; omega) (by omega)).mono (fun M4 t4 => ⟨t4.1, ih (c + 1) M4 (by omega) ?_ (fun z => ?_) (fun z => ?_)⟩)
    rotate_left
    · rcases t4.2.2 with ⟨y, -⟩ | ⟨-, y1, y2, y3⟩
      · exact absurd z y
      · exact ⟨_, y1, y2, y3, zr⟩
    · rcases t4.2.2 with ⟨y, e⟩ | ⟨y, -⟩
      · rw [zr, tsq_f (by rw [e]; exact y)]
        exact e
      · exact absurd y z
    obtain ⟨-, ⟨x4, gg4, en4, k7, k8, v4⟩, -⟩ := t4
    refine ⟨s3.1.trans x4, gg4, en4, fun z4 => ?_⟩
    rcases v4 with y | ⟨-, u1, n4, w4, B4, u2, u3, u4, u5⟩
    · exact absurd z4 y
    · refine ⟨⟨by rw [k7, tb.2.1]; exact t1, fun k' hk' => ⟨by rw [k7, tb.2.1]; exact (t2 k' hk').1, by rw [k8 k' hk', tb.2.2]; exact (t2 k' hk').2⟩⟩, n4, L2 + 1, w4, B4, by omega, by omega, by rw [u1, tb.2.2, y3]; omega, fun i hi => by rw [u3 i (by omega)]; exact y4 i hi, u4, u5⟩
theorem x_MM_state0 {S9 : List (List Int)} {T9 : xt9} (hev : ∀ sg i j, ev sg i j = vlq ww (cvS sg) pl 0 0 i j) (hstp : ∀ sg l, stp sg l = ((stq9 ww (cvS sg) pl lo hi l (fun v => sg.getD v 0)).1, (List.range W).map (stq9 ww (cvS sg) pl lo hi l (fun v => sg.getD v 0)).2)) (hp : GP ww pl XV ev M g R W C T E tgI cms lo hi) (esg : sg = lsR M a W k) (hok : GOk ev cms sg) (e29 : mI M a 29 = ((S9.length : Nat) : Int)) (eS : SmR M a W S9.length = S9) (eT : xtR M a k = T9) (eb : ∀ k', k' < k → (mI M (a + 107) k').toNat + (mI M (a + 108) k').toNat ≤ L) (enb : nbx9 T9 = w) (eW : Wc M a w) (h : GG M a g T R W C Z E tg) (xd : XD M a g n W L w L B) (hw : B L = w) (z16 : mI M a 16 = 0) (hk : k < n) : Cv G y_MM_state0 (d + 9) [vr a, vi k] M (fun M' => mOk M' ∧ sI M a g T R W C Z E tg n L k B M' ∧ eyX (ssq9 ev stp tgI cms sg (nbx9 T9) S9) T9 a W k L (XV sg) g R sg M') := by
  have o := h.1
  have wd := h.2.1
  have hg := h.2.2.1.2
  have hn5 := xd.1.2.2
  have hL := xd.le
  have no : ∀ q : Nat, False → q ∈ nums a := fun _ z => z.elim
  have b512 : ((0 : Int) ≤ (k : Int) ∧ (k : Int) < ((512 : Nat) : Int)) := by omega
  have ik : i32 (k : Int) := i32s (by omega) (by omega)
  refine k_MM_state0 o ik ⟨wd.1.1, (x_MM_enter (d := d + 8) (k := k) h (by omega) (fun v hv => xd.2.2.1 k v hk hv)).mono (fun M2 t2 => ?_)⟩
  obtain ⟨o2, m2, en2, n2, r2⟩ := t2
  have w2 := m2.2.1
  have A6 : ∀ {Mx : mM}, Wd Mx a → (mK Mx (a + 106) = 30 ∧ mN Mx (a + 106) = 512) ∧ (mK Mx (a + 107) = 30 ∧ mN Mx (a + 107) = 512) ∧ (mK Mx (a + 108) = 30 ∧ mN Mx (a + 108) = 512) := fun w => ⟨w.1.2.2.2.2.2.2.2.2.1.2.1, w.1.2.2.2.2.2.2.2.2.1.2.2.1, w.1.2.2.2.2.2.2.2.2.1.2.2.2⟩
  have R6 : ∀ {Mx : mM}, Wd Mx a → mR Mx a 32 = a + 106 ∧ mR Mx a 33 = a + 107 ∧ mR Mx a 34 = a + 108 ∧ mR Mx a 35 = a + 109 := fun w => ⟨w.1.2.2.2.2.2.1.2.1, w.1.2.2.2.2.2.1.2.2.1, w.1.2.2.2.2.2.1.2.2.2.1, w.1.2.2.2.2.2.1.2.2.2.2.1⟩
  rw [(R6 w2).1, Int.toNat_natCast]
  refine ⟨o2, w2.1.1, (A6 w2).1.1, by rw [(A6 w2).1.2]; exact b512, fun M3 e3 => ?_⟩
  obtain ⟨m3, f3, l3⟩ := mv_cell (v := 0) ⟨by decide, by decide⟩ o2 w2 (show a ≤ a + 106 by omega) (offx (a := a) (o := 106) (by decide)) e3
  have w3 := m3.2.1
  have l109 : mI M3 (a + 109) 1 = (L : Int) := by
    have e1 := (m3.lst (k109 (a := a)) (fun z => z)).1
    have e2 := (m2.lst (k109 (a := a)) (fun z => z)).1
    exact e1.trans (e2.trans xd.2.2.2.2.1.1)
  rw [(R6 w3).2.2.2, (R6 w3).2.1, l109]
  refine ⟨(w3.nu k109).1, (A6 w3).2.1.1, by rw [(A6 w3).2.1.2]; exact b512, fun M4 e4 => ?_⟩
  obtain ⟨m4, f4, l4⟩ := mv_cell (v := (L : Int)) (i32s (by omega) (by omega)) m3.1 w3 (show a ≤ a + 107 by omega) (offx (a := a) (o := 107) (by decide)) e4
  have w4 := m4.2.1
  rw [(R6 w4).2.2.1]
  refine ⟨(A6 w4).2.2.1, by rw [(A6 w4).2.2.2]; exact b512, fun M5 e5 => ?_⟩
  obtain ⟨m5, f5, l5⟩ := mv_cell (v := 0) ⟨by decide, by decide⟩ m4.1 w4 (show a ≤ a + 108 by omega) (offx (a := a) (o := 108) (by decide)) e5
  have w5 := m5.2.1
  have nz : ∀ {Mx : mM} (q : Nat), False → q < mZ Mx := fun _ z => z.elim
  have m25 : Mv (fun _ => False) (fun x => a + 106 ≤ x ∧ x ≤ a + 108) M2 a M5 := ((m3.mono (fun _ z => z) (fun x z => by omega) nz).trans (m4.mono (fun _ z => z) (fun x z => by omega) nz)).trans (m5.mono (fun _ z => z) (fun x z => by omega) nz)
  have mm : Mv (fun _ => False) (fun x => (a + 101 ≤ x ∧ x ≤ a + 102) ∨ (a + 106 ≤ x ∧ x ≤ a + 108)) M a M5 := (m2.mono (fun _ z => z) (fun x z => Or.inl (by omega)) nz).trans (m25.mono (fun _ z => z) (fun x z => Or.inr z) nz)
  have aI := (mm.fld wd no (by omega)).1
  have F5 : xF M a M5 := xF.mk wd mm (fun _ z => z.elim) (fun x z => Or.inr (Or.inl (by omega))) (fun i _ _ _ _ _ => by rw [aI])
  have gs5 := F5.gs wd hg
  have gg5 := h.gs m5.1 w5 (by rw [mm.rfl_a wd no]) gs5
  have gs25 := gs_st w2 hg m25 no (fun _ z => z.elim) (fun x z => by omega)
  have en5 := en2.mv w2 m25 no gs25 (fun x z => by omega)
  have xd5 := xd.mv wd mm no (fun _ z => z.elim) (fun x z => by omega) gs5 (by rw [aI]) (by rw [aI])
  have c7 : mI M5 (a + 107) k = (L : Int) := by rw [f5, if_neg (fun z => by omega), f4, if_pos ⟨rfl, rfl⟩]
  have c8 : mI M5 (a + 108) k = 0 := by rw [f5, if_pos ⟨rfl, rfl⟩]
  have q7 := (m2.cellL wd no (offx (a := a) (o := 107) (by decide)) (by omega)).1
  have q8 := (m2.cellL wd no (offx (a := a) (o := 108) (by decide)) (by omega)).1
  have d7 : ∀ k', k' ≠ k → mI M5 (a + 107) k' = mI M (a + 107) k' := fun k' hk' => by rw [f5, if_neg (fun z => by omega), f4, if_neg (fun z => hk' z.2), f3, if_neg (fun z => by omega), q7]
  have d8 : ∀ k', k' ≠ k → mI M5 (a + 108) k' = mI M (a + 108) k' := fun k' hk' => by rw [f5, if_neg (fun z => hk' z.2), f4, if_neg (fun z => by omega), f3, if_neg (fun z => by omega), q8]
  have s5 : sI M a g T R W C Z E tg n L k B M5 := ⟨F5, gg5, en5, fun _ => ⟨⟨c7, fun k' hk' => ⟨d7 k' hk', d8 k' hk'⟩⟩, n, L, w, B, Nat.le_refl _, Nat.le_refl _, by rw [c8, Nat.sub_self]; rfl, fun _ _ => rfl, hw, xd5⟩⟩
  have hR := h.2.2.2.2.2.2.2.1.1.1
  have hW12 := h.2.2.2.2.2.2.2.1.1.2.1
  have hp5 := hp.gs gs5 hR
  have hs5 : ∀ v, v < W → mI M5 (a + 101) v = sg.getD v 0 := fun v hv => by
    rw [(m25.cellL w2 no (offx (a := a) (o := 101) (by decide)) (by omega)).1, n2 v hv, esg]
    exact (getD_mp (f := fun v => mI M (a + 105) (12 * k + v)) hv).symm
  have xq5 : XVq M5 a g R W (XV sg) := xv_ent gg5 hp5 hs5 (fun r hr => by
    rw [(m25.cellL w2 no (offx (a := a) (o := 102) (by decide)) (by omega)).1]
    exact r2 r hr)
  have cm5 : ∀ i, cmQ M5 a i = cmQ M a i := fun i => by
    unfold cmQ
    rw [show nt M5 (a + 109) = nt M (a + 109) from funext (fun j => (mm.lst k109 (fun z => z)).2.1 j), show nt M5 (a + 111) = nt M (a + 111) from funext (fun j => (mm.lst k111 (fun z => z)).2.1 j), show nt M5 (a + 113) = nt M (a + 113) from funext (fun j => (mm.lst k113 (fun z => z)).2.1 j), show nt M5 (a + 115) = nt M (a + 115) from funext (fun j => (mm.lst k115 (fun z => z)).2.1 j), brR_cg (M := M) (M' := M5) (fun _ _ _ => ⟨by rw [(mm.cellL wd no (offx (a := a) (o := 21185) (by decide)) (by omega)).1], by rw [(mm.cellL wd no (offx (a := a) (o := 21186) (by decide)) (by omega)).2], by rw [(mm.cellL wd no (offx (a := a) (o := 21187) (by decide)) (by omega)).2]⟩)]
  have c6 : mI M5 (a + 106) k = 0 := by rw [f5, if_neg (fun z => by omega), f4, if_neg (fun z => by omega), f3, if_pos ⟨rfl, rfl⟩]
  have q6 := (m2.cellL wd no (offx (a := a) (o := 106) (by decide)) (by omega)).1
  have d6 : ∀ k', k' ≠ k → mI M5 (a + 106) k' = mI M (a + 106) k' := fun k' hk' => by rw [f5, if_neg (fun z => by omega), f4, if_neg (fun z => by omega), f3, if_neg (fun z => hk' z.2), q6]
  have gq5 : GQr M5 a W k L T9 ((0, 0), S9, 0, []) := ⟨rfl, by rw [aI]; exact e29, by rw [SmR_cg (M := M) hW12 (fun j _ => by rw [(mm.cellL wd no (offx (a := a) (o := 105) (by decide)) (by omega)).1])]; exact eS, by rw [← eT]; exact xtR_cg (L := L) (fun k' hk' => d6 k' (by omega)) (fun k' hk' => ⟨d7 k' (by omega), d8 k' (by omega)⟩) eb (fun i _ => cm5 i), c6, fun k' hk' => by rw [d7 k' (by omega), d8 k' (by omega)]; exact eb k' hk', L, w, c7, ⟨Nat.le_refl _, by rw [c8, Nat.sub_self]; rfl⟩, xd5.2.2.2.2.1.1, xd5.2.1.1, by rw [Nat.sub_self]; rfl, by show nbx9 T9 + 0 = w; omega, fun j hj => by rw [(mm.cellL wd no (offx (a := a) (o := 21186) (by decide)) (by omega)).2, (mm.cellL wd no (offx (a := a) (o := 21187) (by decide)) (by omega)).2]; exact eW j hj⟩
  have rt := hp5.2.2.2.2.1
  have z165 : mI M5 a 16 = 0 := by rw [aI]; exact z16
  rw [gg5.2.2.1.1]
  refine ⟨(w5.gp hg).1, (x_MM_reach (d := d + 3) gg5 en5 hp5.1 xq5 rt z165).mono (fun M6 t6 => ?_)⟩
  obtain ⟨o6, ⟨xr6, gg6, en6, v6⟩, u6⟩ := t6
  have x6 := xr6.xe w5
  have w6 := gg6.2.1
  have gs6 := x6.gs w5 hg
  have tb := x6.tab w5
  have un : ∀ x, xE a x → x = a ∨ (a + 97 ≤ x ∧ x ≤ a + 98) ∨ (a + 102 ≤ x ∧ x ≤ a + 104) ∨ (a + 21188 ≤ x ∧ x ≤ a + 21190) := fun x hx => hx
  have xd6 := xd5.mv w5 x6.1 in99 (fun q hq => by omega) (fun x hx => by have := un x hx; omega) gs6 (x6.2 29 (by decide) (by decide) (by decide)) (x6.2 40 (by decide) (by decide) (by decide))
  have s6 : sI M a g T R W C Z E tg n L k B M6 := ⟨F5.trans (x6.xf w5), gg6, en6, fun _ => ⟨by rw [tb.2.1, tb.2.2]; exact ⟨c7, fun k' hk' => ⟨d7 k' hk', d8 k' hk'⟩⟩, n, L, w, B, Nat.le_refl _, Nat.le_refl _, by rw [tb.2.2, c8, Nat.sub_self]; rfl, fun _ _ => rfl, hw, xd6⟩⟩
  have gq6 := gq5.mv hW12 w5 x6.1 in99 (fun q hq => by omega) (fun x hx => by have := un x hx; omega) (x6.2 29 (by decide) (by decide) (by decide)) (x6.2 40 (by decide) (by decide) (by decide))
  have hs6 : ∀ v, v < W → mI M6 (a + 101) v = sg.getD v 0 := fun v hv => by
    rw [(x6.1.cellL w5 in99 (offx (a := a) (o := 101) (by decide)) (fun z => by have := un _ z; omega)).1]
    exact hs5 v hv
  have gv : mI M6 a 16 = 0 → (ev sg tgI.1 tgI.2 = (0, mL M6 (a + 97) 0, 1) ∧ XVq M6 a g R W (XV sg)) ∧ (mL M6 (a + 97) 0 = 0 ∨ mL M6 (a + 97) 0 = 1) := fun z => by
    rcases u6 with u | ⟨-, u, y⟩
    · exact absurd (u.2.1.symm.trans z) u.1
    rcases v6 with v | ⟨-, v⟩
    · exact absurd z v
    refine ⟨⟨u, y⟩, ?_⟩
    unfold vok at v
    omega
  have A7 : mK M6 (a + 97) = 33 ∧ mN M6 (a + 97) = 16400 := w6.1.2.2.2.2.2.2.2.1.1
  rw [show mR M6 a 21 = a + 97 from w6.1.2.2.2.2.1.2.2.2.2.2.2.1, (R6 w6).1]
  refine ⟨o6, w6.1.1, fun z6 => ⟨A7.1, by rw [A7.2]; decide, fun q7 => ⟨(A6 w6).1.1, by rw [(A6 w6).1.2]; exact b512, fun M7 e7 => ?_⟩, fun q7 => ?_⟩, fun z6 => ⟨o6, s6, Or.inl ⟨z6, ?_⟩⟩⟩
  rotate_left
  · obtain ⟨⟨g1, g2⟩, g3⟩ := gv z6
    have g4 : mL M6 (a + 97) 0 = 0 := by
      rcases g3 with y | y
      · exact y
      · exact absurd ((cmpz _ _).2.2.2.1.2 y) q7
    refine x_st72 hev hstp h hp hok (by omega) C 0 M6 (by omega) s6 (fun _ => ⟨_, gq6, g2, hs6, ?_⟩) (fun z => absurd z6 z)
    rw [ssq_n (by rw [g1]) (by rw [g1]; exact g4)]
    rfl
  · rcases u6 with u | ⟨u, -⟩
    · rw [ssq_f u.1, ← u.2.1, ← u.2.2]
    · exact absurd u z6
  obtain ⟨⟨g1, g2⟩, g3⟩ := gv z6
  have g4 : mL M6 (a + 97) 0 = 1 := (cmpz _ _).2.2.2.1.1 q7
  obtain ⟨m7, f7, l7⟩ := mv_cell (v := 3) ⟨by decide, by decide⟩ o6 w6 (show a ≤ a + 106 by omega) (offx (a := a) (o := 106) (by decide)) e7
  have aI7 := (m7.fld w6 no (by omega)).1
  have F7 : xF M6 a M7 := xF.mk w6 m7 (fun _ z => z.elim) (fun x z => Or.inr (Or.inl (by omega))) (fun i _ _ _ _ _ => by rw [aI7])
  have gs7 := F7.gs w6 hg
  have xd7 := xd6.mv w6 m7 no (fun _ z => z.elim) (fun x z => by omega) gs7 (by rw [aI7]) (by rw [aI7])
  have e7' : ∀ y, y ≠ a + 106 → mI M7 y = mI M6 y := fun y hy => by
    funext j
    rw [f7, if_neg (fun z => hy z.1)]
  refine ⟨m7.1, ⟨s6.1.trans F7, gg6.gs m7.1 m7.2.1 (by rw [m7.rfl_a w6 no]) gs7, en6.mv w6 m7 no gs7 (fun x z => by omega), fun _ => ⟨by rw [e7' (a + 107) (by omega), e7' (a + 108) (by omega), tb.2.1, tb.2.2]; exact ⟨c7, fun k' hk' => ⟨d7 k' hk', d8 k' hk'⟩⟩, n, L, w, B, Nat.le_refl _, Nat.le_refl _, by rw [e7' (a + 108) (by omega), tb.2.2, c8, Nat.sub_self]; rfl, fun _ _ => rfl, hw, xd7⟩⟩, Or.inr ⟨by rw [aI7]; exact z6, ?_, g2.mv w6 m7 no gs7 (fun x z => by omega), fun v hv => by rw [e7' (a + 101) (by omega)]; exact hs6 v hv⟩⟩
  rw [ssq_t (by rw [g1]) (by rw [g1]; show mL M6 (a + 97) 0 ≠ 0; omega)]
  obtain ⟨i1, i2, i3, i4, i5, i6, L2, w9, i7, i8, i9, i10, i11, i12, i13⟩ := gq6
  have l7' : mL M7 = mL M6 := l7
  have cm7 : ∀ i, cmQ M7 a i = cmQ M6 a i := fun i => by
    unfold cmQ
    rw [show nt M7 (a + 109) = nt M6 (a + 109) from funext (fun j => (m7.lst k109 (fun z => z)).2.1 j), show nt M7 (a + 111) = nt M6 (a + 111) from funext (fun j => (m7.lst k111 (fun z => z)).2.1 j), show nt M7 (a + 113) = nt M6 (a + 113) from funext (fun j => (m7.lst k113 (fun z => z)).2.1 j), show nt M7 (a + 115) = nt M6 (a + 115) from funext (fun j => (m7.lst k115 (fun z => z)).2.1 j), brR_cg (M := M6) (M' := M7) (fun _ _ _ => ⟨by rw [e7' (a + 21185) (by omega)], by rw [l7'], by rw [l7']⟩)]
  refine ⟨rfl, by rw [aI7]; exact i2, by rw [SmR_cg (M := M6) hW12 (fun j _ => by rw [e7' (a + 105) (by omega)])]; exact i3, ?_, by rw [f7, if_pos ⟨rfl, Int.toNat_natCast k⟩], fun k' hk' => by rw [e7' (a + 107) (by omega), e7' (a + 108) (by omega)]; exact i6 k' hk', L2, w9, by rw [e7' (a + 107) (by omega)]; exact i7, by rw [e7' (a + 108) (by omega)]; exact i8, by rw [(m7.lst k109 (fun z => z)).1]; exact i9, by rw [aI7]; exact i10, by rw [cmL_cg (M := M6) (fun i _ _ => cm7 i)]; exact i11, i12, fun j hj => by rw [l7']; exact i13 j hj⟩
  rw [← i4]
  exact xtR_cg (L := L) (fun k' hk' => by rw [f7, if_neg (fun z => by have := z.2; omega)]) (fun k' _ => by rw [e7' (a + 107) (by omega), e7' (a + 108) (by omega)]; exact ⟨rfl, rfl⟩) i6 (fun i _ => cm7 i)
end STX
end
section
/-! The reference: explore, exactly. -/
section EXX
variable {G : mG} {d a g T R W C Z : Nat} {M M' M1 M2 M3 : mM} {E : Eg9} {tg : Int} {Nt9 : tP9} {ww pl lo hi : Nat → Int} {XV : List Int → Int → vrs} {ev : List Int → Nat → Nat → vrs} {cvS : List Int → Nat → vrs} {stp : List Int → List (Nat × Nat × Nat × Nat) → (Int × Int) × List Int} {tgI : Nat × Nat} {cms : List cm9}
/-- the states that were found -/
def XTr (M : mM) (a g W : Nat) (S : List (List Int)) (T : xt9) : Prop := mI M a 29 = ((S.length : Nat) : Int) ∧ SmR M a W S.length = S ∧ xtR M a S.length = T ∧ ∃ w9 : Nat, mI M a 40 = (w9 : Int) ∧ Wc M a w9 ∧ ∃ (L w : Nat) (B : Nat → Nat), XD M a g S.length W L w L B ∧ B L = w
/-- what explore comes to -/
def xpR (X : (Int × Int) × Nat × List (List Int) × xt9) (a g W : Nat) (r : Int) (M' : mM) : Prop := (X.1.1 ≠ 0 ∧ r = X.1.1 ∧ mI M' a 12 = X.1.2 ∧ mI M' a 30 = ((X.2.1 : Nat) : Int) ∧ mI M' a 29 = 0 ∧ mI M' (a + 117 + 30) 0 = 0) ∨ (X.1 = (0, 0) ∧ r = 0 ∧ mI M' a 12 = -1 ∧ mI M' a 30 = -1 ∧ XTr M' a g W X.2.2.1 X.2.2.2 ∧ SvT M' (a + 117) X.2.2.2 ∧ kdT X.2.2.2 ∧ mI M' (a + 117 + 30) 0 = 0)
/-- nothing but the sign of a throw has changed -/
def xU (M M' : mM) (a : Nat) : Prop := mR M' = mR M ∧ mL M' = mL M ∧ (∀ x, x ≠ a → mI M' x = mI M x) ∧ ∀ i, i ≠ 0 → mI M' a i = mI M a i
theorem xU.one {v : Int} (e : M' = mUI M a 0 v) : xU M M' a := by
  subst e
  refine ⟨rfl, rfl, fun x hx => ?_, fun i hi => ?_⟩
  · funext k
    rw [mI_UI, if_neg (fun z => hx z.1)]
  · rw [mI_UI, if_neg (fun z => hi z.2)]
/-- the game of a text, with its words -/
def GdX (ww pl : Nat → Int) (XV : List Int → Int → vrs) (ev : List Int → Nat → Nat → vrs) (i9 : tI9) (M : mM) (g W : Nat) (tgI : Nat × Nat) (cms : List cm9) (lo hi : Nat → Int) (s0 : List Int) : Prop := ∃ (T R C Z : Nat) (E : Eg9) (tg : Int), nd M g T ∧ (T ≤ 16384 ∧ Z ≤ 16384) ∧ (mI M g 6 = R ∧ mI M g 12 = W ∧ mI M g 18 = C ∧ mI M g 17 = tg) ∧ (ln M (g + 30) = Z ∧ ln M (g + 32) = Z ∧ ln M (g + 34) = Z) ∧ Dg M g R W C Z T E tg ∧ 0 ≤ tg ∧ (mI M g 12 = i9.2.1 ∧ mI M g 6 = i9.2.2.1 ∧ mI M g 18 = i9.2.2.2.1 ∧ GaO E.2 ∧ i9.2.2.2.2.1 = XpG E.2) ∧ GP ww pl XV ev M g R W C T E tgI cms lo hi ∧ s0 = (List.range W).map (fun v => mI M (g + 21) v)
theorem GdX.gs {i9 : tI9} {s0 : List Int} (h : GdX ww pl XV ev i9 M g W tgI cms lo hi s0) (k : Gs M M' g) : GdX ww pl XV ev i9 M' g W tgI cms lo hi s0 := by
  obtain ⟨T, R, C, Z, E, tg, h1, h2, h3, h4, h5, h6, h7, h8, h9⟩ := h
  obtain ⟨hI, hc, hl⟩ := id k
  have G : Ge M g R W C Z T M' := ⟨⟨fun n _ => ⟨(hl (g + 1) (by first | exact tLk1 g | exact gLk1 g | omega)).2 n, (hl (g + 7) (by first | exact tLk7 g | exact gLk7 g | omega)).2 n, (hl (g + 9) (by first | exact tLk9 g | exact gLk9 g | omega)).2 n, (hl (g + 11) (by first | exact tLk11 g | exact gLk11 g | omega)).2 n, (hl (g + 3) (by first | exact tLk3 g | exact gLk3 g | omega)).2 n⟩, fun r _ => ⟨by rw [(hc 13 (by omega) (by omega)).1], by rw [(hc 14 (by omega) (by omega)).1]⟩, fun v _ => by rw [(hc 18 (by omega) (by omega)).1]⟩, fun r _ => ⟨by rw [(hc 15 (by omega) (by omega)).1], by rw [(hc 16 (by omega) (by omega)).2], by rw [(hc 17 (by omega) (by omega)).2]⟩, fun v _ => ⟨by rw [(hc 19 (by omega) (by omega)).1], by rw [(hc 20 (by omega) (by omega)).1], by rw [(hc 21 (by omega) (by omega)).1]⟩, fun c _ => ⟨by rw [(hc 24 (by omega) (by omega)).1], by rw [(hc 25 (by omega) (by omega)).1], fun b _ => ⟨by rw [(hc 26 (by omega) (by omega)).1], by rw [(hc 28 (by omega) (by omega)).1], by rw [(hc 29 (by omega) (by omega)).1], by rw [(hc 27 (by omega) (by omega)).1], by rw [(hc 22 (by omega) (by omega)).1], by rw [(hc 23 (by omega) (by omega)).1]⟩⟩, fun i _ => ⟨(hl (g + 30) (by first | exact gLk30 g | omega)).2 i, (hl (g + 34) (by first | exact gLk34 g | omega)).2 i, (hl (g + 32) (by first | exact gLk32 g | omega)).2 i⟩⟩
  refine ⟨T, R, C, Z, E, tg, fun q hq => ?_, h2, by rw [hI]; exact h3, ⟨by rw [(hl (g + 30) (by first | exact gLk30 g | omega)).1]; exact h4.1, by rw [(hl (g + 32) (by first | exact gLk32 g | omega)).1]; exact h4.2.1, by rw [(hl (g + 34) (by first | exact gLk34 g | omega)).1]; exact h4.2.2⟩, h5.ge G, h6, by rw [hI]; exact h7, h8.gs k h5.1.1, by rw [(hc 21 (by omega) (by omega)).1]; exact h9⟩
  have hq' : q = g + 1 ∨ q = g + 3 ∨ q = g + 5 ∨ q = g + 7 ∨ q = g + 9 ∨ q = g + 11 := hq
  rw [(hl q (by omega)).1]
  exact h1 q hq
/-- the solver's step leaves them -/
theorem XTr.sol {S : List (List Int)} {T9 : xt9} {S' : Nat → Prop} (h : XTr M a g W S T9) (w : Wd M a) (m : Mv (fun _ => False) S' M a M') (hS : ∀ x, S' x → a + 117 ≤ x ∧ x ≤ a + 117 + 21067) (hW : W ≤ 12) (aI : mI M' a = mI M a) (hx : ∃ (L w : Nat) (B : Nat → Nat), XD M' a g S.length W L w L B ∧ B L = w) : XTr M' a g W S T9 := by
  obtain ⟨h1, h2, h3, w9, h4, h5, -⟩ := h
  have no : ∀ q : Nat, False → q ∈ nums a := fun _ z => z.elim
  have c : ∀ o, frO o → (o = 105 ∨ o = 106 ∨ o = 107 ∨ o = 108 ∨ o = 21185 ∨ o = 21186 ∨ o = 21187) → mI M' (a + o) = mI M (a + o) ∧ mL M' (a + o) = mL M (a + o) := fun o fo ho => m.cellL w no (offx fo) (fun z => by have := hS _ z; omega)
  have c5 := (c 105 (by decide) (by omega)).1
  have c6 := (c 106 (by decide) (by omega)).1
  have c7 := (c 107 (by decide) (by omega)).1
  have c8 := (c 108 (by decide) (by omega)).1
  have c85 := (c 21185 (by decide) (by omega)).1
  have c86 := (c 21186 (by decide) (by omega)).2
  have c87 := (c 21187 (by decide) (by omega)).2
  have cm : ∀ i, cmQ M' a i = cmQ M a i := fun i => by
    unfold cmQ
    rw [show nt M' (a + 109) = nt M (a + 109) from funext (fun j => (m.lst k109 (fun z => z)).2.1 j), show nt M' (a + 111) = nt M (a + 111) from funext (fun j => (m.lst k111 (fun z => z)).2.1 j), show nt M' (a + 113) = nt M (a + 113) from funext (fun j => (m.lst k113 (fun z => z)).2.1 j), show nt M' (a + 115) = nt M (a + 115) from funext (fun j => (m.lst k115 (fun z => z)).2.1 j), brR_cg (M := M) (M' := M') (fun _ _ _ => by rw [c85, c86, c87]; exact ⟨rfl, rfl, rfl⟩)]
  refine ⟨by rw [aI]; exact h1, by rw [SmR_cg (M := M) hW (fun j _ => by rw [c5])]; exact h2, ?_, w9, by rw [aI]; exact h4, fun j hj => by rw [c86, c87]; exact h5 j hj, hx⟩
  rw [← h3]
  unfold xtR stR
  refine List.map_congr_left (fun k hk => ?_)
  rw [c6, c7, c8, cmL_cg (M := M) (fun i _ _ => cm i)]
/-- before state k -/
def pX (ev : List Int → Nat → Nat → vrs) (stp : List Int → List (Nat × Nat × Nat × Nat) → (Int × Int) × List Int) (tgI : Nat × Nat) (cms : List cm9) (Ok : List Int → Prop) (X : (Int × Int) × Nat × List (List Int) × xt9) (a W k : Nat) (M2 : mM) : Prop := (mI M2 a 16 = 0 → ∃ (S : List (List Int)) (T9 : xt9), X = exq9 ev stp tgI cms (513 - k) k S T9 ∧ mI M2 a 29 = ((S.length : Nat) : Int) ∧ SmR M2 a W S.length = S ∧ xtR M2 a k = T9 ∧ S.length ≤ 512 ∧ ∃ w9 : Nat, mI M2 a 40 = (w9 : Int) ∧ nbx9 T9 = w9 ∧ Wc M2 a w9 ∧ ∀ s, s ∈ S → Ok s) ∧ (mI M2 a 16 ≠ 0 → X.1 = (mI M2 a 16, mI M2 a 17) ∧ X.2.1 + 1 = k)
theorem enq_ok {Ok : List Int → Prop} {S S' : List (List Int)} {x : List Int} {k : Nat} (h : enq9 S x = some (k, S')) (hx : Ok x) (hS : ∀ s, s ∈ S → Ok s) : ∀ s, s ∈ S' → Ok s := by
  unfold enq9 at h
  split at h
  · have := Option.some.inj h
    have e : S = S' := congrArg Prod.snd this
    rw [← e]
    exact hS
  · split at h
    · exact absurd h (by simp)
    · have := Option.some.inj h
      have e : S ++ [x] = S' := congrArg Prod.snd this
      rw [← e]
      intro s hs
      rcases List.mem_append.mp hs with q | q
      · exact hS s q
      · rw [List.mem_singleton.mp q]; exact hx
theorem flq_ok {Ok : List Int → Prop} {sg : List Int} {pc m : Int} {nb : Nat} (hok1 : ∀ sg l, Ok sg → (stp sg l).1.1 = 0 → Ok (stp sg l).2) (hsg : Ok sg) : ∀ (l : List (br9 × (Int × Int))) (S : List (List Int)) (Bl : List (Nat × Int)), (∀ s, s ∈ S → Ok s) → ∀ s, s ∈ (flq9 stp sg pc m nb l S Bl).2.1 → Ok s
  | [], S, Bl, hS => hS
  | x :: l, S, Bl, hS => by
    by_cases c0 : x.2.1 = 0
    · rw [flq_0 c0]
      exact flq_ok hok1 hsg l S Bl hS
    by_cases c1 : (stp sg x.1.2.2).1.1 = 0
    rotate_left
    · rw [flq_f c0 c1]
      exact hS
    cases c2 : enq9 S (stp sg x.1.2.2).2 with
    | none =>
      rw [flq_n c0 c1 c2]
      exact hS
    | some q =>
      obtain ⟨to, S2⟩ := q
      have hS2 := enq_ok c2 (hok1 sg _ hsg c1) hS
      rw [flq_e c0 c1 c2]
      cases c3 : jnq9 to (m / x.2.2 * x.2.1) Bl with
      | some B' => exact flq_ok hok1 hsg l S2 B' hS2
      | none =>
        show ∀ s, s ∈ (if nb + Bl.length = 4096 then ((5, pc), S2, Bl) else flq9 stp sg pc m nb l S2 (Bl ++ [(to, m / x.2.2 * x.2.1)])).2.1 → Ok s
        by_cases c4 : nb + Bl.length = 4096
        · rw [if_pos c4]
          exact hS2
        · rw [if_neg c4]
          exact flq_ok hok1 hsg l S2 _ hS2
theorem tcq_ok {Ok : List Int → Prop} {sg : List Int} {nb c : Nat} {cm : cm9} {s : sl9} (hok1 : ∀ sg l, Ok sg → (stp sg l).1.1 = 0 → Ok (stp sg l).2) (hsg : Ok sg) (hS : ∀ x, x ∈ s.2.1 → Ok x) : ∀ x, x ∈ (tcq9 ev stp sg nb c cm s).2.1 → Ok x := by
  unfold tcq9
  split
  · exact hS
  split
  · exact hS
  split
  · exact hS
  split
  · exact hS
  split
  · exact hS
  split
  · exact hS
  exact flq_ok hok1 hsg _ _ _ hS
theorem tsq_ok {Ok : List Int → Prop} {sg : List Int} {nb : Nat} (hok1 : ∀ sg l, Ok sg → (stp sg l).1.1 = 0 → Ok (stp sg l).2) (hsg : Ok sg) : ∀ (l : List cm9) (c : Nat) (s : sl9), (∀ x, x ∈ s.2.1 → Ok x) → ∀ x, x ∈ (tsq9 ev stp sg nb l c s).2.1 → Ok x
  | [], c, s, hS => hS
  | cm :: l, c, s, hS => by
    show ∀ x, x ∈ (if s.1.1 ≠ 0 then s else tsq9 ev stp sg nb l (c + 1) (tcq9 ev stp sg nb c cm s)).2.1 → Ok x
    by_cases h : s.1.1 ≠ 0
    · rw [if_pos h]
      exact hS
    · rw [if_neg h]
      exact tsq_ok hok1 hsg l (c + 1) _ (tcq_ok hok1 hsg hS)
theorem ssq_ok {Ok : List Int → Prop} {sg : List Int} {nb : Nat} {tg : Nat × Nat} {S : List (List Int)} (hok1 : ∀ sg l, Ok sg → (stp sg l).1.1 = 0 → Ok (stp sg l).2) (hsg : Ok sg) (hS : ∀ x, x ∈ S → Ok x) : ∀ x, x ∈ (ssq9 ev stp tg cms sg nb S).2.1 → Ok x := by
  unfold ssq9
  split
  · exact hS
  split
  · exact hS
  exact tsq_ok hok1 hsg _ _ _ hS
end EXX
end
