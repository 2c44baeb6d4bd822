section
/-! The reference's draft is the game: exploring it comes to what the words tell. -/
section GPO
variable {G : mG} {d a g R W C Z T n : Nat} {M : mM} {E : Eg9} {tg : Int} {γ : gW9} {sg : List Int}
/-- what a resolved name is worth in a state -/
noncomputable def XVg (γ : gW9) (sg : List Int) (x : Int) : vrs := if x < 100 then fvs γ.1 γ.2.1 γ.2.2.1 γ.2.2.2.1 γ.2.2.2.2.1 (fun v => sg.getD v 0) γ.2.2.2.2.2.1.reverse x.toNat else (0, sg.getD (x - 100).toNat 0, 1)
/-- what a rule is worth in a state -/
noncomputable abbrev evG (γ : gW9) : List Int → Nat → Nat → vrs := evq γ.1 γ.2.1 γ.2.2.1 γ.2.2.2.1 γ.2.2.2.2.1 γ.2.2.2.2.2.1
theorem xvg_fv {l1 l2 : List nm9} {e : nm9} (h : γ.2.2.2.2.2.1 = l1 ++ e :: l2) (h3 : e.2.1 ≠ 3) (hr : rcn l1 < 100) : XVg γ sg ((rcn l1 : Nat) : Int) = nvs γ.1 γ.2.1 γ.2.2.1 γ.2.2.2.1 γ.2.2.2.2.1 (fun v => sg.getD v 0) e l1.reverse := by
  unfold XVg
  rw [if_pos (show ((rcn l1 : Nat) : Int) < 100 by omega), Int.toNat_natCast, h]
  have e9 : (l1 ++ e :: l2).reverse = l2.reverse ++ e :: l1.reverse := by simp
  have e8 := fvs_at (w := γ.1) (pl := γ.2.1) (nq := γ.2.2.1) (sm := γ.2.2.2.1) (N := γ.2.2.2.2.1) (sg := fun v => sg.getD v 0) (r := l1.reverse) h3 l2.reverse
  rw [rcn_rev] at e8
  rw [e9]
  exact e8
theorem xvg_v {v : Nat} : XVg γ sg (100 + (v : Int)) = (0, sg.getD v 0, 1) := by
  unfold XVg
  rw [if_neg (show ¬ (100 + (v : Int) < 100) by omega), show (100 + (v : Int) - 100).toNat = v by first | rfl | omega]
theorem leaf_xv {r l : List nm9} {nv : Nat → Int} (hr : γ.2.2.2.2.2.1 = r ++ l) (hR : rcn γ.2.2.2.2.2.1 ≤ 60) (hnv : Nvq γ.1 γ.2.2.1 γ.2.2.2.1 r nv) : ∀ k, (γ.1 k = 1 ∨ γ.1 k = 2 ∨ γ.1 k = 12 ∨ γ.1 k = 13) → (γ.1 k = 1 → E9 γ.2.2.2.1 r 0 k ≠ -1) → cvn9 γ.1 (XVg γ sg) nv k = cvs γ.1 γ.2.1 γ.2.2.1 γ.2.2.2.1 γ.2.2.2.2.1 (fun v => sg.getD v 0) γ.2.2.2.2.2.1.reverse k := by
  intro k hk hne
  unfold cvn9
  by_cases h1 : γ.1 k = 1
  · obtain ⟨l1, e, l2, q1, q2, q3, -⟩ := E9_sp (hne h1)
    have hn := hnv.2 k h1 l1 e l2 q1 q2 q3
    have full : γ.2.2.2.2.2.1 = l1 ++ e :: (l2 ++ l) := by rw [hr, q1]; simp
    have old := cvs_old (pl := γ.2.1) (nq := γ.2.2.1) (N := γ.2.2.2.2.1) (sg := fun v => sg.getD v 0) (l := l) h1 q1 q2 q3
    rw [← hr] at old
    rw [if_pos h1, old, hn]
    by_cases h3 : e.2.1 = 3
    · rw [if_pos h3, xvg_v]
      unfold nvs
      rw [if_neg (show ¬ e.2.1 = 1 by first | rfl | omega), if_pos h3, vcn_rev]
    · rw [if_neg h3]
      have lt : rcn l1 < 100 := by
        have := congrArg rcn full
        rw [rcn_app] at this
        omega
      exact xvg_fv full h3 lt
  · rw [if_neg h1, cvs_no h1]
    by_cases h2 : γ.1 k = 2
    · rw [if_pos h2, if_pos h2, hnv.1 k h2]
    · rw [if_neg h2, if_neg h2]
theorem vlx_eq {r l : List nm9} {nv : Nat → Int} {i j : Nat} (hr : γ.2.2.2.2.2.1 = r ++ l) (hR : rcn γ.2.2.2.2.2.1 ≤ 60) (hnv : Nvq γ.1 γ.2.2.1 γ.2.2.2.1 r nv) (he : Eo γ.1 6 i j) (hf : (fl γ.1 (E9 γ.2.2.2.1 r 0) γ.2.1 0 i j).1 = 0) : vlq γ.1 (cvn9 γ.1 (XVg γ sg) nv) γ.2.1 0 0 i j = evG γ sg i j := vl_cg0 (E := E9 γ.2.2.2.1 r 0) (leaf_xv hr hR hnv) he hf
theorem Rtw.rtq {m t : Int} {i j : Nat} (h : Rtw E.2 M g R W T E.1 m t i j) (hR : rcn E.2.2.2.2.2.2.1 ≤ 60) : Rtq E.2.1 E.2.2.1 (XVg E.2) (evG E.2) M g R W T E m t i j := by
  obtain ⟨r, l, n', b, f, e, nv, h1, h2, ⟨h3, -, h5⟩, h6, h7⟩ := h
  exact ⟨n', b, f, e, nv, h2, h3, h7, fun sg => vlx_eq h1 hR h6 h3 h5⟩
theorem RBw.rbr {x : Nat} {br : br9} (h : RBw E.2 M g R W T E.1 Z x br) (hR : rcn E.2.2.2.2.2.2.1 ≤ 60) : RBr E.2.1 E.2.2.1 (XVg E.2) (evG E.2) M g R W T E x br := by
  obtain ⟨h1, h2, h3, fs, h4, h5, h6⟩ := h
  exact ⟨h1, h2.rtq hR, h3, fs, h4, fun i q hq => ⟨(h6 i q hq).1, (h6 i q hq).2.1, (h6 i q hq).2.2.1, (h6 i q hq).2.2.2.rtq hR⟩⟩
theorem two9 {x : Nat} (h : 1 ≤ x ∧ x ≤ 3) (h3 : ¬ x = 3) (h1 : ¬ x = 1) : x = 2 := by omega
theorem RGq.gp (h : RGq E.2 M g R W C Z T E.1 tg) (hn : NmO E.2.1 E.2.2.1 E.2.2.2.2.1 E.2.2.2.2.2.1 n E.2.2.2.2.2.2.1) (hR : R ≤ 60) (e17 : mI M g 17 = tg) (t0 : 0 ≤ tg) : GP E.2.1 E.2.2.1 (XVg E.2) (evG E.2) M g R W C T E (E.2.2.2.2.2.2.2.2.1.getD (0, 0)) E.2.2.2.2.2.2.2.2.2 (fun v => (E.2.2.2.2.2.2.2.1.getD v (0, 0, 0)).1) (fun v => (E.2.2.2.2.2.2.2.1.getD v (0, 0, 0)).2.1) := by
  obtain ⟨⟨hr, hw⟩, hN, ⟨hv, hv'⟩, ht, hc, hcm⟩ := h
  have hR' : rcn E.2.2.2.2.2.2.1 ≤ 60 := by rw [hr]; exact hR
  refine ⟨fun sg r hlt z => ?_, fun sg r hlt z => ?_, fun sg v _ => xvg_v, fun v hlt => ?_, ?_, hc, fun c cm hcc => ?_⟩
  · rw [← hr] at hlt
    obtain ⟨l1, e, l2, q1, q2, q3⟩ := rcn_sp _ r hlt
    subst q3
    obtain ⟨a0, a1, a2⟩ := hN l1 e l2 q1 q2
    obtain ⟨b1, -, -, b4⟩ := hn l1 e l2 q1
    have e2 : e.2.1 = 2 := by
      by_cases y : e.2.1 = 1
      · exact absurd (a1 y).1 z
      · exact two9 b1 q2 y
    obtain ⟨c1, nn, nv, c2, c3, c4, c5⟩ := a2 e2
    obtain ⟨d1, d2, d3, d4⟩ := b4 e2
    refine ⟨nn, nv, _, _, c2, c3, c5, ?_⟩
    rw [xvg_fv q1 q2 (by omega)]
    unfold nvs
    rw [if_neg (show ¬ e.2.1 = 1 by first | rfl | omega), if_neg q2]
    exact vl_cg0 (E := E9 _ l1 0) (fun k hk hne => ((leaf_xv (sg := sg) q1 hR' c4 k hk hne).trans (by rw [q1]; exact cvs_pre hne)).symm) c3 d3
  · rw [← hr] at hlt
    obtain ⟨l1, e, l2, q1, q2, q3⟩ := rcn_sp _ r hlt
    subst q3
    obtain ⟨a0, a1, a2⟩ := hN l1 e l2 q1 q2
    obtain ⟨b1, -, -, -⟩ := hn l1 e l2 q1
    have e1 : e.2.1 = 1 := by
      by_cases y : e.2.1 = 2
      · exact absurd z (a2 y).1
      · omega
    rw [xvg_fv q1 q2 (by omega)]
    unfold nvs
    rw [if_pos e1]
    exact (a1 e1).2
  · have hx := List.getElem?_eq_getElem (l := E.2.2.2.2.2.2.2.1) (i := v) (by rw [hv]; exact hlt)
    obtain ⟨y1, y2, y3⟩ := hv' v _ hx
    have gd : E.2.2.2.2.2.2.2.1.getD v (0, 0, 0) = E.2.2.2.2.2.2.2.1[v]'(by rw [hv]; exact hlt) := by
      rw [List.getD_eq_getElem?_getD, hx]
      rfl
    show mI M (g + 19) v = (E.2.2.2.2.2.2.2.1.getD v (0, 0, 0)).1 ∧ mI M (g + 20) v = (E.2.2.2.2.2.2.2.1.getD v (0, 0, 0)).2.1
    rw [gd]
    exact ⟨y1, y2⟩
  · rcases ht with ⟨u, -⟩ | ⟨ij, u1, u2⟩
    · omega
    · rw [e17, u1]
      exact u2.rtq hR'
  · obtain ⟨k1, k2, k3, ⟨k4, -⟩, k5⟩ := hcm c cm hcc
    exact ⟨k1, k2, k3.rtq hR', k4, fun b x hb => (k5 b x hb).rbr hR'⟩
theorem RGq.gok (h : RGq E.2 M g R W C Z T E.1 tg) (hq : NqO E.2.1 E.2.2.2.1 (E.2.2.2.2.2.1 - 1)) (hn : NmO E.2.1 E.2.2.1 E.2.2.2.2.1 E.2.2.2.2.2.1 (E.2.2.2.2.2.1 - 1) E.2.2.2.2.2.2.1) (hs : SgO (fun v => sg.getD v 0) E.2.2.2.2.2.2.1) : GOk (evG E.2) E.2.2.2.2.2.2.2.2.2 sg := fun c cm hc b br hb h0 => by
  obtain ⟨-, -, -, -, k5⟩ := h.2.2.2.2.2 c cm hc
  obtain ⟨-, ⟨r, l, n', b', f, e, nv, h1, -, ⟨h3, h4, h5⟩, -, -⟩, -⟩ := k5 b br hb
  have g := vls_ok hq hn hs h1 h3 (by omega) h5
  exact (vgd.un g h0).2.2
theorem Gd.gdx {i9 : tI9} (h : Gd i9 M g) : ∃ E : Eg9, GaO E.2 ∧ i9.2.2.2.2.1 = XpG E.2 ∧ vcn E.2.2.2.2.2.2.1 = E.2.2.2.2.2.2.2.1.length ∧ GdX E.2.1 E.2.2.1 (XVg E.2) (evG E.2) i9 M g E.2.2.2.2.2.2.2.1.length (E.2.2.2.2.2.2.2.2.1.getD (0, 0)) E.2.2.2.2.2.2.2.2.2 (fun v => (E.2.2.2.2.2.2.2.1.getD v (0, 0, 0)).1) (fun v => (E.2.2.2.2.2.2.2.1.getD v (0, 0, 0)).2.1) (E.2.2.2.2.2.2.2.1.map (fun x => x.2.2)) ∧ ∀ sg, SgO (fun v => sg.getD v 0) E.2.2.2.2.2.2.1 → GOk (evG E.2) E.2.2.2.2.2.2.2.2.2 sg := by
  obtain ⟨T, R, W, C, Z, E, tg, h1, h2, h3, h4, h5, h6, c1, c2, c3, ga, hX⟩ := h
  have hG := h5.2.2.2.2.2.2.2
  have hR := h5.1.1
  have hw := hG.1.2
  have hv := hG.2.2.1.1
  have gp := hG.gp ga.2.1 hR h3.2.2.2 h6
  have s0 : E.2.2.2.2.2.2.2.1.map (fun x => x.2.2) = (List.range W).map (fun v => mI M (g + 21) v) := by
    refine List.ext_getElem? (fun v => ?_)
    by_cases y : v < W
    · have hx := List.getElem?_eq_getElem (l := E.2.2.2.2.2.2.2.1) (i := v) (by rw [hv]; exact y)
      rw [List.getElem?_map, hx, List.getElem?_map, List.getElem?_range y]
      exact congrArg some (hG.2.2.1.2 v _ hx).2.2.symm
    · rw [List.getElem?_eq_none (by rw [List.length_map, hv]; omega), List.getElem?_eq_none (by rw [List.length_map, List.length_range]; omega)]
  subst hv
  exact ⟨E, ga, hX, hw, ⟨T, R, C, Z, E, tg, h1, h2, h3, h4, h5, h6, ⟨c1, c2, c3, ga, hX⟩, gp, s0⟩, fun sg hs => hG.gok ga.1 ga.2.1 hs⟩
theorem x_MM_expl {Nt9 : tP9} (h : RI0 Nt9 M a) : Ci G y_MM_explore (d + 10) [vr a] M (fun r M' => (i32 r ∧ RI0 Nt9 M' a ∧ FR M a M') ∧ ((Nt9.2.2.1 = 0 ∧ mI M' a 0 = 1 ∧ xU M M' a) ∨ (Nt9.2.2.1 ≠ 0 ∧ (∃ W : Nat, (W : Int) = Nt9.2.2.2.1 ∧ xpR Nt9.2.2.2.2.2.2.1 a (mR M a 9) W r M') ∧ mI M' a 0 = 0))) := by
  have e11 := h.2.2.2.2.2.2.2.2.2
  by_cases z : mI M a 11 = 0
  · refine (x_MM_explore (G := G) (d := d) (W := 0) (ww := fun _ => 0) (pl := fun _ => 0) (lo := fun _ => 0) (hi := fun _ => 0) (XV := fun _ _ => (0, 0, 1)) (cvS := fun _ _ => (0, 0, 1)) (ev := fun sg i j => vlq (fun _ => 0) (fun _ => (0, 0, 1)) (fun _ => 0) 0 0 i j) (stp := fun sg l => ((stq9 (fun _ => 0) (fun _ => (0, 0, 1)) (fun _ => 0) (fun _ => 0) (fun _ => 0) l (fun v => sg.getD v 0)).1, (List.range 0).map (stq9 (fun _ => 0) (fun _ => (0, 0, 1)) (fun _ => 0) (fun _ => 0) (fun _ => 0) l (fun v => sg.getD v 0)).2)) (tgI := (0, 0)) (cms := []) (Ok := fun _ => True) (s0 := []) (fun _ _ _ => rfl) (fun _ _ => rfl) (fun _ _ _ _ => trivial) (fun _ _ c cm hc => absurd hc (by simp)) rfl trivial (fun u => absurd z u) h).mono (fun r M' q => ?_)
    obtain ⟨q1, q2, q3, q4⟩ := q
    refine ⟨⟨q1, q2, q3⟩, Or.inl ?_⟩
    rcases q4 with ⟨-, -, y2, y⟩ | ⟨y, -⟩
    · exact ⟨by rw [← e11]; exact z, y, y2⟩
    · exact absurd z y
  · obtain ⟨E, ga, hX, hw, gx, gok⟩ := (h.2.2.2.2.2.1 z).gdx
    refine (x_MM_explore (G := G) (d := d) (cvS := fun sg => cvs E.2.1 E.2.2.1 E.2.2.2.1 E.2.2.2.2.1 E.2.2.2.2.2.1 (fun v => sg.getD v 0) E.2.2.2.2.2.2.1.reverse) (stp := stpq E.2.1 E.2.2.1 E.2.2.2.1 E.2.2.2.2.1 E.2.2.2.2.2.1 E.2.2.2.2.2.2.1 E.2.2.2.2.2.2.2.1.length (fun v => (E.2.2.2.2.2.2.2.1.getD v (0, 0, 0)).1) (fun v => (E.2.2.2.2.2.2.2.1.getD v (0, 0, 0)).2.1)) (Ok := fun sg => SgO (fun v => sg.getD v 0) E.2.2.2.2.2.2.1) (X := XpG E.2) (fun _ _ _ => rfl) (fun _ _ => rfl) (fun sg l so h0 => stp_ok hw (vlo_vr ga.2.2) so h0) gok rfl (vlo_s0 ga.2.2) (fun _ => gx) h).mono (fun r M' q => ?_)
    obtain ⟨q1, q2, q3, q4⟩ := q
    refine ⟨⟨q1, q2, q3⟩, Or.inr ?_⟩
    rcases q4 with ⟨y, -⟩ | ⟨-, y, y0⟩
    · exact absurd y z
    · obtain ⟨T, R, C, Z, E', tg, -, -, g3, -, -, -, g7, -⟩ := gx
      refine ⟨by rw [← e11]; exact z, ⟨_, g3.2.1.symm.trans g7.1, ?_⟩, y0⟩
      have hX' : Nt9.2.2.2.2.2.2.1 = XpG E.2 := hX
      rw [hX']
      exact y
end GPO
end
section
/-! What exploring a text comes to hangs on its own words alone: pure. -/
section XCA
variable {ev ev' : List Int → Nat → Nat → vrs} {stp stp' : List Int → List (Nat × Nat × Nat × Nat) → (Int × Int) × List Int} {sg : List Int}
theorem chq_cg : ∀ (l : List br9), (∀ b, b ∈ l → ev sg b.2.1.1 b.2.1.2 = ev' sg b.2.1.1 b.2.1.2) → chq9 ev sg l = chq9 ev' sg l
  | [], _ => rfl
  | b :: r, h => by
    have hb := h b List.mem_cons_self
    have ih := chq_cg r (fun x hx => h x (List.mem_cons_of_mem _ hx))
    unfold chq9
    rw [hb, ih]
theorem flq_cg {pc m : Int} {nb : Nat} : ∀ (l : List (br9 × (Int × Int))), (∀ x, x ∈ l → stp sg x.1.2.2 = stp' sg x.1.2.2) → ∀ S B, flq9 stp sg pc m nb l S B = flq9 stp' sg pc m nb l S B
  | [], _ => fun _ _ => rfl
  | x :: r, h => fun S B => by
    have hx := h x List.mem_cons_self
    have ih := flq_cg (pc := pc) (m := m) (nb := nb) r (fun y hy => h y (List.mem_cons_of_mem _ hy))
    simp only [flq9, hx, ih]
theorem tcq_cg {nb c : Nat} {cm : cm9} {s : sl9} (hg : ev sg cm.2.2.1.1 cm.2.2.1.2 = ev' sg cm.2.2.1.1 cm.2.2.1.2) (hb : ∀ b, b ∈ cm.2.2.2 → ev sg b.2.1.1 b.2.1.2 = ev' sg b.2.1.1 b.2.1.2 ∧ stp sg b.2.2 = stp' sg b.2.2) : tcq9 ev stp sg nb c cm s = tcq9 ev' stp' sg nb c cm s := by
  have hch := chq_cg (ev := ev) (ev' := ev') (sg := sg) cm.2.2.2 (fun b hx => (hb b hx).1)
  have hf : ∀ (pc m : Int) (n9 : Nat) (l : List (Int × Int)) S B, flq9 stp sg pc m n9 (cm.2.2.2.zip l) S B = flq9 stp' sg pc m n9 (cm.2.2.2.zip l) S B := fun pc m n9 l S B => flq_cg _ (fun x hx => (hb x.1 (List.of_mem_zip hx).1).2) S B
  unfold tcq9
  rw [hg, hch]
  simp only [hf]
theorem tsq_cg {nb : Nat} : ∀ (l : List cm9), (∀ cm, cm ∈ l → ev sg cm.2.2.1.1 cm.2.2.1.2 = ev' sg cm.2.2.1.1 cm.2.2.1.2 ∧ ∀ b, b ∈ cm.2.2.2 → ev sg b.2.1.1 b.2.1.2 = ev' sg b.2.1.1 b.2.1.2 ∧ stp sg b.2.2 = stp' sg b.2.2) → ∀ (c : Nat) (s : sl9), tsq9 ev stp sg nb l c s = tsq9 ev' stp' sg nb l c s
  | [], _ => fun _ _ => rfl
  | cm :: r, h => fun c s => by
    have h1 := h cm List.mem_cons_self
    have ih := tsq_cg (nb := nb) r (fun y hy => h y (List.mem_cons_of_mem _ hy))
    show (if s.1.1 ≠ 0 then s else tsq9 ev stp sg nb r (c + 1) (tcq9 ev stp sg nb c cm s)) = (if s.1.1 ≠ 0 then s else tsq9 ev' stp' sg nb r (c + 1) (tcq9 ev' stp' sg nb c cm s))
    rw [tcq_cg h1.1 h1.2, ih]
theorem ssq_cg {nb : Nat} {tg : Nat × Nat} {cms : List cm9} {S : List (List Int)} (ht : ev sg tg.1 tg.2 = ev' sg tg.1 tg.2) (h : ∀ cm, cm ∈ cms → ev sg cm.2.2.1.1 cm.2.2.1.2 = ev' sg cm.2.2.1.1 cm.2.2.1.2 ∧ ∀ b, b ∈ cm.2.2.2 → ev sg b.2.1.1 b.2.1.2 = ev' sg b.2.1.1 b.2.1.2 ∧ stp sg b.2.2 = stp' sg b.2.2) : ssq9 ev stp tg cms sg nb S = ssq9 ev' stp' tg cms sg nb S := by
  unfold ssq9
  rw [ht, tsq_cg cms h]
theorem exq_cg {tg : Nat × Nat} {cms : List cm9} (ht : ∀ sg, ev sg tg.1 tg.2 = ev' sg tg.1 tg.2) (h : ∀ cm, cm ∈ cms → (∀ sg, ev sg cm.2.2.1.1 cm.2.2.1.2 = ev' sg cm.2.2.1.1 cm.2.2.1.2) ∧ ∀ b, b ∈ cm.2.2.2 → (∀ sg, ev sg b.2.1.1 b.2.1.2 = ev' sg b.2.1.1 b.2.1.2) ∧ ∀ sg, stp sg b.2.2 = stp' sg b.2.2) : ∀ (f k : Nat) (S : List (List Int)) (T : xt9), exq9 ev stp tg cms f k S T = exq9 ev' stp' tg cms f k S T := by
  have hs : ∀ (sg : List Int) (nb : Nat) (S : List (List Int)), ssq9 ev stp tg cms sg nb S = ssq9 ev' stp' tg cms sg nb S := fun sg nb S => ssq_cg (ht sg) (fun cm hc => ⟨(h cm hc).1 sg, fun b hb => ⟨((h cm hc).2 b hb).1 sg, ((h cm hc).2 b hb).2 sg⟩⟩)
  intro f
  induction f with
  | zero => intro k S T; rfl
  | succ f ih =>
    intro k S T
    simp only [exq9, hs, ih]
theorem xpl_cg {tg : Nat × Nat} {cms : List cm9} {s0 : List Int} (ht : ∀ sg, ev sg tg.1 tg.2 = ev' sg tg.1 tg.2) (h : ∀ cm, cm ∈ cms → (∀ sg, ev sg cm.2.2.1.1 cm.2.2.1.2 = ev' sg cm.2.2.1.1 cm.2.2.1.2) ∧ ∀ b, b ∈ cm.2.2.2 → (∀ sg, ev sg b.2.1.1 b.2.1.2 = ev' sg b.2.1.1 b.2.1.2) ∧ ∀ sg, stp sg b.2.2 = stp' sg b.2.2) : xpl9 ev stp tg cms s0 = xpl9 ev' stp' tg cms s0 := exq_cg ht h _ _ _ _
end XCA
section XCB
variable {w w' pl pl' nq nq' lo lo' hi hi' : Nat → Int} {sm sm' : Nat → Nat → Prop} {N i j k V : Nat} {nms : List nm9} {sg : List Int} {cv cv' : Nat → vrs} {sf : Nat → Int}
theorem nxq_ge {x : Int} : ∀ (f k : Nat), k ≤ nxq w x f k
  | 0, k => Nat.le_refl k
  | f + 1, k => by
    unfold nxq
    by_cases c : w k = x
    · rw [if_pos c]; exact Nat.le_refl k
    · rw [if_neg c]
      exact Nat.le_trans (Nat.le_succ k) (nxq_ge f (k + 1))
theorem nxq_ag (hw : ∀ j, j < N → w j = w' j) {x : Int} : ∀ (f k e : Nat), nxq w x f k = e → e < N → nxq w' x f k = e
  | 0, k, e, h, _ => h
  | f + 1, k, e, h, he => by
    unfold nxq at h ⊢
    by_cases c : w k = x
    · rw [if_pos c] at h
      rw [if_pos (by rw [← hw k (by omega)]; exact c)]
      exact h
    · rw [if_neg c] at h
      have := nxq_ge (w := w) (x := x) f (k + 1)
      rw [if_neg (by rw [← hw k (by omega)]; exact c)]
      exact nxq_ag hw f (k + 1) e h he
/-- the formulas' words stand among the words -/
def NmF (w : Nat → Int) (N : Nat) (l : List nm9) : Prop := ∀ e, e ∈ l → (e.1 < N ∧ w e.1 = 1) ∧ (e.2.1 ≠ 1 → e.2.1 ≠ 3 → Eo w 6 (e.1 + 2) (nxq w 34 N e.1) ∧ nxq w 34 N e.1 < N)
theorem rl_v (ag : AgW w w' pl pl' nq nq' sm sm' N) (eo : Eo w 6 i j) (hj : j ≤ N) (hc : ∀ k, k < N → cv k = cv' k) : vlq w cv pl 0 0 i j = vlq w' cv' pl' 0 0 i j := (rl_cg0 (E := fun _ => 0) (E' := fun _ => 0) eo (fun k _ k2 => ⟨(ag.1 k (by omega)).1, (ag.1 k (by omega)).2.1, fun _ => rfl, fun _ => hc k (by omega)⟩)).2.2
theorem cvs_cg (ag : AgW w w' pl pl' nq nq' sm sm' N) : ∀ (l : List nm9), NmF w N l → ∀ k, k < N → cvs w pl nq sm N sf l k = cvs w' pl' nq' sm' N sf l k
  | [], _, k, hk => by
    obtain ⟨a1, -, a3⟩ := ag.1 k hk
    show (if w k = 2 then ((0, nq k, 1) : vrs) else if w k = 12 then (0, 1, 1) else (0, 0, 1)) = (if w' k = 2 then ((0, nq' k, 1) : vrs) else if w' k = 12 then (0, 1, 1) else (0, 0, 1))
    rw [← a1]
    by_cases h2 : w k = 2
    · rw [if_pos h2, if_pos h2, a3 h2]
    · rw [if_neg h2, if_neg h2]
  | e :: r, h, k, hk => by
    have ih := cvs_cg ag r (fun x hx => h x (List.mem_cons_of_mem _ hx))
    obtain ⟨⟨e1, e2⟩, e3⟩ := h e List.mem_cons_self
    have a1 := (ag.1 k hk).1
    have hc : (w k = 1 ∧ sm e.1 k ∧ ∀ e', e' ∈ r → ¬ sm e'.1 k) ↔ (w' k = 1 ∧ sm' e.1 k ∧ ∀ e', e' ∈ r → ¬ sm' e'.1 k) := by
      rw [← a1]
      refine ⟨fun u => ⟨u.1, (ag.2 e.1 k e1 hk e2 u.1).mp u.2.1, fun e' he' y => u.2.2 e' he' ?_⟩, fun u => ⟨u.1, (ag.2 e.1 k e1 hk e2 u.1).mpr u.2.1, fun e' he' y => u.2.2 e' he' ?_⟩⟩
      · obtain ⟨⟨y1, y2⟩, -⟩ := h e' (List.mem_cons_of_mem _ he')
        exact (ag.2 e'.1 k y1 hk y2 u.1).mpr y
      · obtain ⟨⟨y1, y2⟩, -⟩ := h e' (List.mem_cons_of_mem _ he')
        exact (ag.2 e'.1 k y1 hk y2 u.1).mp y
    by_cases c : w k = 1 ∧ sm e.1 k ∧ ∀ e', e' ∈ r → ¬ sm e'.1 k
    · rw [cvs, if_pos c, cvs, if_pos (hc.mp c)]
      by_cases y1 : e.2.1 = 1
      · rw [if_pos y1, if_pos y1]
      rw [if_neg y1, if_neg y1]
      by_cases y3 : e.2.1 = 3
      · rw [if_pos y3, if_pos y3]
      rw [if_neg y3, if_neg y3]
      obtain ⟨z1, z2⟩ := e3 y1 y3
      rw [nxq_ag (fun j hj => (ag.1 j hj).1) N e.1 _ rfl z2]
      exact rl_v ag z1 (Nat.le_of_lt z2) (fun k hk => ih k hk)
    · rw [cvs, if_neg c, cvs, if_neg (fun u => c (hc.mpr u))]
      exact ih k hk
theorem cvr_cg (ag : AgW w w' pl pl' nq nq' sm sm' N) (nf : NmF w N nms) : ∀ k, k < N → cvs w pl nq sm N sf nms.reverse k = cvs w' pl' nq' sm' N sf nms.reverse k := cvs_cg ag _ (fun e he => nf e (List.mem_reverse.mp he))
theorem evq_cg (ag : AgW w w' pl pl' nq nq' sm sm' N) (nf : NmF w N nms) (eo : Eo w 6 i j) (hj : j ≤ N) : evq w pl nq sm N nms sg i j = evq w' pl' nq' sm' N nms sg i j := rl_v ag eo hj (cvr_cg ag nf)
theorem stq_ag (ag : AgW w w' pl pl' nq nq' sm sm' N) (hc : ∀ k, k < N → cv k = cv' k) : ∀ (l : List (Nat × Nat × Nat × Nat)), (∀ q, q ∈ l → (Eo w 6 q.2.1 q.2.2.1 ∧ q.2.2.1 ≤ N ∧ q.2.2.2 < N) ∧ lo q.1 = lo' q.1 ∧ hi q.1 = hi' q.1) → ∀ nx, stq9 w cv pl lo hi l nx = stq9 w' cv' pl' lo' hi' l nx
  | [], _ => fun _ => rfl
  | q :: r, h => fun nx => by
    obtain ⟨⟨a1, a2, a3⟩, a4, a5⟩ := h q List.mem_cons_self
    have ih := stq_ag ag hc r (fun x hx => h x (List.mem_cons_of_mem _ hx))
    rw [stq9, stq9, rl_v ag a1 a2 hc, a4, a5, (ag.1 q.2.2.2 a3).2.1, ih]
/-- other bounds, the same where sets look at them -/
theorem stq_lo : ∀ (l : List (Nat × Nat × Nat × Nat)), (∀ q, q ∈ l → lo q.1 = lo' q.1 ∧ hi q.1 = hi' q.1) → ∀ nx, stq9 w cv pl lo hi l nx = stq9 w cv pl lo' hi' l nx
  | [], _ => fun _ => rfl
  | q :: r, h => fun nx => by
    obtain ⟨a4, a5⟩ := h q List.mem_cons_self
    have ih := stq_lo r (fun x hx => h x (List.mem_cons_of_mem _ hx))
    rw [stq9, stq9, a4, a5, ih]
theorem stpq_lo {l : List (Nat × Nat × Nat × Nat)} (h : ∀ q, q ∈ l → lo q.1 = lo' q.1 ∧ hi q.1 = hi' q.1) : stpq w pl nq sm N nms V lo hi sg l = stpq w pl nq sm N nms V lo' hi' sg l := by
  unfold stpq
  rw [stq_lo l h]
theorem stpq_cg (ag : AgW w w' pl pl' nq nq' sm sm' N) (nf : NmF w N nms) {l : List (Nat × Nat × Nat × Nat)} (h : ∀ q, q ∈ l → Eo w 6 q.2.1 q.2.2.1 ∧ q.2.2.1 ≤ N ∧ q.2.2.2 < N) : stpq w pl nq sm N nms V lo hi sg l = stpq w' pl' nq' sm' N nms V lo hi sg l := by
  unfold stpq
  rw [stq_ag ag (cvr_cg ag nf) l (fun q hq => ⟨h q hq, rfl, rfl⟩)]
/-- the game's words stand among the words -/
def GmO (w : Nat → Int) (N : Nat) (g : gm9) : Prop := (∀ tg, g.2.1 = some tg → Eo w 6 tg.1 tg.2 ∧ tg.2 < N) ∧ ∀ cm, cm ∈ g.2.2 → (Eo w 6 cm.2.2.1.1 cm.2.2.1.2 ∧ cm.2.2.1.2 < N) ∧ ∀ b, b ∈ cm.2.2.2 → (Eo w 6 b.2.1.1 b.2.1.2 ∧ b.2.1.2 < N) ∧ ∀ q, q ∈ b.2.2 → Eo w 6 q.2.1 q.2.2.1 ∧ q.2.2.1 ≤ N ∧ q.2.2.2 < N
theorem xpg_cg {g : gm9} (ag : AgW w w' pl pl' nq nq' sm sm' N) (nf : NmF w N nms) (go : GmO w N g) (hg : g.2.1 ≠ none) : XpG (w, pl, nq, sm, N, nms, g) = XpG (w', pl', nq', sm', N, nms, g) := by
  unfold XpG
  refine xpl_cg (fun sg => ?_) (fun cm hc => ⟨fun sg => ?_, fun b hb => ⟨fun sg => ?_, fun sg => ?_⟩⟩)
  · show evq w pl nq sm N nms sg (g.2.1.getD (0, 0)).1 (g.2.1.getD (0, 0)).2 = evq w' pl' nq' sm' N nms sg (g.2.1.getD (0, 0)).1 (g.2.1.getD (0, 0)).2
    cases e : g.2.1 with
    | none => exact absurd e hg
    | some tg =>
      obtain ⟨a, b⟩ := go.1 tg e
      exact evq_cg ag nf a (Nat.le_of_lt b)
  · obtain ⟨⟨a, b⟩, -⟩ := go.2 cm hc
    exact evq_cg ag nf a (Nat.le_of_lt b)
  · obtain ⟨⟨a, b'⟩, -⟩ := (go.2 cm hc).2 b hb
    exact evq_cg ag nf a (Nat.le_of_lt b')
  · exact stpq_cg ag nf ((go.2 cm hc).2 b hb).2
end XCB
end
section
/-! The game that a text tells hangs on its own words alone: pure. -/
theorem tw_cg {α : Type} {p q : α → Bool} : ∀ (l : List α), (∀ x, x ∈ l → p x = q x) → l.takeWhile p = l.takeWhile q
  | [], _ => rfl
  | a :: t, h => by
    rw [List.takeWhile_cons, List.takeWhile_cons, h a List.mem_cons_self, tw_cg t (fun x hx => h x (List.mem_cons_of_mem _ hx))]
section XCC
variable {w w' pl pl' nq nq' : Nat → Int} {sm sm' : Nat → Nat → Prop} {N i j k e q : Nat} {nms : List nm9} {s : st9} {g : gm9}
theorem vix_cg (ag : AgW w w' pl pl' nq nq' sm sm' N) (nm : NmW w N nms) (hk : k < N) (h1 : w k = 1) : vix9 sm nms k = vix9 sm' nms k := by
  unfold vix9
  refine congrArg vcn (tw_cg nms (fun e he => ?_))
  have eq : sm e.1 k = sm' e.1 k := propext (ag.2 e.1 k (nm e he).1 hk (nm e he).2 h1)
  show (!@decide (sm e.1 k) (Classical.propDecidable _)) = (!@decide (sm' e.1 k) (Classical.propDecidable _))
  rw [eq]
theorem sel_cg (ag : AgW w w' pl pl' nq nq' sm sm' N) (nm : NmW w N nms) : ∀ (f0 k q : Nat), Se w f0 k q → q < N → ∀ (f : Nat), sel9 w sm N nms f k = sel9 w' sm' N nms f k ∧ ∀ x, x ∈ sel9 w sm N nms f k → Eo w 6 x.2.1 x.2.2.1 ∧ x.2.2.1 ≤ N ∧ x.2.2.2 < N := by
  intro f0
  induction f0 with
  | zero => intro k q h; exact h.elim
  | succ f0 ih =>
    intro k q h hq f
    have sg := h.sg.1
    obtain ⟨h0, h1, h2, h3, c, eo, h5, h6⟩ := h
    have lt := eo.pr.1
    have cq : c + 1 ≤ q := by
      rcases h6 with ⟨y, -⟩ | ⟨-, y⟩
      · omega
      · have := y.sg.1
        omega
    cases f with
    | zero => exact ⟨rfl, fun x hx => absurd hx (by simp [sel9])⟩
    | succ f =>
      have c1 : cpq w (k + 4) N = c := cpq_at eo h5 (by omega)
      have c2 : cpq w' (k + 4) N = c := cpq_at (ag.eo eo (by omega)) (by rw [← (ag.1 c (by omega)).1]; exact h5) (by omega)
      have vx := vix_cg (k := k + 1) ag nm (by omega) h1
      rw [sel9, sel9, c1, c2, vx, ← (ag.1 (c + 1) (by omega)).1]
      by_cases w29 : w (c + 1) = 29
      · rw [if_pos w29, if_pos w29]
        have y := (h6.resolve_left (fun u => u.2 w29)).2
        obtain ⟨i1, i2⟩ := ih (c + 2) q y hq f
        refine ⟨by rw [i1], fun x hx => ?_⟩
        rcases List.mem_cons.mp hx with u | u
        · rw [u]
          exact ⟨eo, by show c ≤ N; omega, by show k < N; omega⟩
        · exact i2 x u
      · rw [if_neg w29, if_neg w29]
        refine ⟨rfl, fun x hx => ?_⟩
        rw [List.mem_singleton.mp hx]
        exact ⟨eo, by show c ≤ N; omega, by show k < N; omega⟩
theorem brs_cg (ag : AgW w w' pl pl' nq nq' sm sm' N) (nm : NmW w N nms) (he : e < N) : ∀ (f0 p : Nat), Br w f0 p e → 1 ≤ p → ∀ (f b : Nat), (brf w pl sm N nms e f p b).1 = 0 → brs9 w pl sm N nms e f p = brs9 w' pl' sm' N nms e f p ∧ ∀ x, x ∈ brs9 w pl sm N nms e f p → (Eo w 6 x.2.1.1 x.2.1.2 ∧ x.2.1.2 < N) ∧ ∀ q, q ∈ x.2.2 → Eo w 6 q.2.1 q.2.2.1 ∧ q.2.2.1 ≤ N ∧ q.2.2.2 < N := by
  intro f0
  induction f0 with
  | zero => intro p h; exact h.elim
  | succ f0 ih =>
    intro p h hp f b h0
    have sg := h.sg.1
    obtain ⟨q, s, eo5, w33, ss, h4⟩ := h
    have eo := eo5.one (show 5 ≤ 6 by omega)
    have lt := eo.pr.1
    have sgs := ss.sg.1
    have se : s ≤ e := by
      rcases h4 with ⟨y, -⟩ | ⟨-, y⟩
      · omega
      · have := y.sg.1
        omega
    cases f with
    | zero => exact ⟨rfl, fun x hx => absurd hx (by simp [brs9])⟩
    | succ f =>
      have c1 : clq w (p - 1) N = q := clq_eo (by rw [show p - 1 + 1 = p by first | rfl | omega]; exact eo) w33 (by omega)
      have c2 : clq w' (p - 1) N = q := clq_eo (by rw [show p - 1 + 1 = p by first | rfl | omega]; exact ag.eo eo (by omega)) (by rw [← (ag.1 q (by omega)).1]; exact w33) (by omega)
      have nl : ¬ e ≤ p := by omega
      have nxt : ∀ b, (brf w pl sm N nms e f (s + 1) b).1 = 0 → brs9 w pl sm N nms e f (s + 1) = brs9 w' pl' sm' N nms e f (s + 1) ∧ ∀ x, x ∈ brs9 w pl sm N nms e f (s + 1) → (Eo w 6 x.2.1.1 x.2.1.2 ∧ x.2.1.2 < N) ∧ ∀ q, q ∈ x.2.2 → Eo w 6 q.2.1 q.2.2.1 ∧ q.2.2.1 ≤ N ∧ q.2.2.2 < N := fun b hb => by
        rcases h4 with ⟨y, -⟩ | ⟨-, y⟩
        · rw [brs_e (by omega), brs_e (by omega)]
          exact ⟨rfl, fun x hx => absurd hx (by simp)⟩
        · exact ih (s + 1) y (by omega) f b hb
      rw [brf, if_neg nl] at h0
      by_cases b8 : b = 8
      · rw [if_pos b8] at h0
        exact absurd h0 (by simp)
      rw [if_neg b8, c1] at h0
      by_cases r0 : (rf9 w pl sm nms 0 0 p q).1 ≠ 0
      · rw [if_pos r0] at h0
        exact absurd h0 r0
      rw [if_neg r0] at h0
      rw [brs9, if_neg nl, brs9, if_neg nl, c1, c2, ← (ag.1 (q + 1) (by omega)).1, ← (ag.1 p (by omega)).2.1]
      rcases ss with ⟨w10, es⟩ | ⟨w10, f1, hse⟩
      · rw [if_pos w10] at h0
        rw [if_pos w10, if_pos w10]
        have e3 : q + 3 = s + 1 := by omega
        rw [e3] at h0 ⊢
        obtain ⟨n1, n2⟩ := nxt (b + 1) h0
        refine ⟨by rw [n1], fun x hx => ?_⟩
        rcases List.mem_cons.mp hx with u | u
        · rw [u]
          exact ⟨⟨eo, by show q < N; omega⟩, fun y hy => absurd hy (by simp)⟩
        · exact n2 x u
      · rw [if_neg w10] at h0
        rw [if_neg w10, if_neg w10]
        have s1 := sef_cg ag nm f1 (q + 1) s hse (by omega) N []
        by_cases z : (sef w pl sm N nms N (q + 1) []).1.1 ≠ 0
        · rw [if_pos z] at h0
          exact absurd h0 z
        rw [if_neg z] at h0
        have s2 := sef_at (pl := pl) (sm := sm) (nms := nms) f1 (q + 1) s hse (by omega) N [] (by omega) (Decidable.not_not.mp z)
        rw [s2] at h0
        rw [← s1, s2]
        obtain ⟨n1, n2⟩ := nxt (b + 1) h0
        obtain ⟨l1, l2⟩ := sel_cg ag nm f1 (q + 1) s hse (by omega) N
        refine ⟨by rw [n1, l1], fun x hx => ?_⟩
        rcases List.mem_cons.mp hx with u | u
        · rw [u]
          exact ⟨⟨eo, by show q < N; omega⟩, l2⟩
        · exact n2 x u
theorem var_cg (ag : AgW w w' pl pl' nq nq' sm sm' N) (nm : NmW w N nms) (he : e < N) (vs : Vs w (k + 3) i) (hi : (w i ≠ 9 ∧ i = e) ∨ (w i = 9 ∧ Eo w 6 (i + 1) e)) : var9 w pl nq sm N nms k e = var9 w' pl' nq' sm' N nms k e := by
  have ie : i ≤ e := by
    rcases hi with ⟨-, y⟩ | ⟨-, y⟩
    · omega
    · have := y.pr.1
      omega
  have ki := vs.sg.1
  have wk := (ag.1 (k + 3) (by omega)).1
  have wi := (ag.1 i (by omega)).1
  have ini : (if w (k + 3) = 5 then k + 4 else nxq w 9 (e - (k + 3)) (k + 3)) = i ∧ (if w' (k + 3) = 5 then k + 4 else nxq w' 9 (e - (k + 3)) (k + 3)) = i := by
    rcases vs with ⟨w5, ei⟩ | ⟨w5, j, eo0, w16, eo1⟩
    · rw [if_pos w5, if_pos (by rw [← wk]; exact w5)]
      omega
    · have a0 := eo0.pr.1
      have a1 := eo1.pr.1
      have no9 : ∀ t, k + 3 ≤ t → t < i → w t ≠ 9 := fun t t1 t2 => by
        by_cases c1 : t < j
        · exact eo0.no9 (Or.inl rfl) t1 c1
        · by_cases c2 : t = j
          · rw [c2, w16]; decide
          · exact eo1.no9 (Or.inl rfl) (by omega) t2
      have no9' : ∀ t, k + 3 ≤ t → t < i → w' t ≠ 9 := fun t t1 t2 => by
        rw [← (ag.1 t (by omega)).1]
        exact no9 t t1 t2
      rw [if_neg w5, if_neg (by rw [← wk]; exact w5)]
      rcases hi with ⟨-, ei⟩ | ⟨w9, eo2⟩
      · rw [nxq_no (fun t t1 t2 => no9 t t1 (by omega)), nxq_no (fun t t1 t2 => no9' t t1 (by omega))]
        omega
      · have := eo2.pr.1
        exact ag.nx (by omega) (by omega) (by omega) w9 no9
  have r2 : w i = 9 → vlq w (cv9 w nq sm nms) pl 0 0 (i + 1) e = vlq w' (cv9 w' nq' sm' nms) pl' 0 0 (i + 1) e := fun w9 => by
    have eo := (hi.resolve_left (fun u => u.1 w9)).2
    exact vq_cg ag nm eo (by omega)
  have r01 : w (k + 3) ≠ 5 → ∃ j, (nxq w 16 N (k + 3) = j ∧ nxq w' 16 N (k + 3) = j) ∧ vlq w (cv9 w nq sm nms) pl 0 0 (k + 3) j = vlq w' (cv9 w' nq' sm' nms) pl' 0 0 (k + 3) j ∧ vlq w (cv9 w nq sm nms) pl 0 0 (j + 1) i = vlq w' (cv9 w' nq' sm' nms) pl' 0 0 (j + 1) i := fun w5 => by
    obtain ⟨-, j, eo0, w16, eo1⟩ := vs.resolve_left (fun u => w5 u.1)
    have a0 := eo0.pr.1
    have a1 := eo1.pr.1
    exact ⟨j, ag.nx (by omega) (by omega) (by omega) w16 (fun t t1 t2 => eo0.no9 (Or.inr (Or.inl rfl)) t1 t2), vq_cg ag nm eo0 (by omega), vq_cg ag nm eo1 (by omega)⟩
  unfold var9
  simp only []
  rw [ini.1, ini.2, ← wk, ← wi]
  by_cases w5 : w (k + 3) = 5
  · simp only [if_pos w5]
    by_cases w9 : w i = 9
    · simp only [if_pos w9]
      rw [r2 w9]
    · simp only [if_neg w9]
  · obtain ⟨j, ⟨j1, j2⟩, j3, j4⟩ := r01 w5
    simp only [if_neg w5]
    rw [j1, j2, j3, j4]
    by_cases w9 : w i = 9
    · simp only [if_pos w9]
      rw [r2 w9]
    · simp only [if_neg w9]
theorem ite_cg (ag : AgW w w' pl pl' nq nq' sm sm' N) (nm : NmW w N s.1) (hit : It w k e) (eN : e < N) (n1 : nxq w 34 N k = e) (n2 : nxq w' 34 N k = e) : ite9 w pl nq sm N 60 k s = ite9 w' pl' nq' sm' N 60 k s := by
  have kN : k < N := by
    have := hit.2.1
    omega
  have wk := (ag.1 k kN).1
  unfold ite9
  simp only [n1, n2]
  rw [← wk]
  rcases hit.2.2 with ⟨h0, h1, h2, eo⟩ | ⟨h0, h1, h2, i, vs, hi⟩ | ⟨h0, j, f1, eo, w17, br⟩ | ⟨h0, eo⟩
  · rw [if_pos h0, if_pos h0, itr_cg ag nm (by omega) h1 eo]
  · rw [if_neg (show ¬ (w k = 3 ∨ w k = 6) by first | rfl | omega), if_neg (show ¬ (w k = 3 ∨ w k = 6) by first | rfl | omega), if_pos h0, if_pos h0, itv_cg ag nm (by omega) h1 vs hi]
  · rw [if_neg (show ¬ (w k = 3 ∨ w k = 6) by first | rfl | omega), if_neg (show ¬ (w k = 3 ∨ w k = 6) by first | rfl | omega), if_neg (show ¬ (w k = 4) by first | rfl | omega), if_neg (show ¬ (w k = 4) by first | rfl | omega), if_neg (show ¬ (w k = 11) by first | rfl | omega), if_neg (show ¬ (w k = 11) by first | rfl | omega), itc_cg ag nm (by omega) eo w17 br]
  · rw [if_neg (show ¬ (w k = 3 ∨ w k = 6) by first | rfl | omega), if_neg (show ¬ (w k = 3 ∨ w k = 6) by first | rfl | omega), if_neg (show ¬ (w k = 4) by first | rfl | omega), if_neg (show ¬ (w k = 4) by first | rfl | omega), if_pos h0, if_pos h0, itt_cg ag nm (by omega) eo]
theorem itc_0 (h : (itc w pl sm N 60 k e s).2.2.1 = 0) (hj : nxq w 17 N (k + 1) = j) : (brf w pl sm N s.1 e N (j + 1) 0).1 = 0 := by
  unfold itc at h
  simp only [hj] at h
  by_cases c1 : s.2.1.2.2.1 = 60
  · rw [if_pos c1] at h
    exact absurd h (by simp)
  rw [if_neg c1] at h
  by_cases c2 : (fst9 (rf9 w pl sm s.1 0 1 (k + 1) j) (brf w pl sm N s.1 e N (j + 1) 0)).1 ≠ 0
  · rw [if_pos c2] at h
    exact absurd h c2
  exact (fst9_1.mp (Decidable.not_not.mp c2)).2
theorem igm_cg (ag : AgW w w' pl pl' nq nq' sm sm' N) (nm : NmW w N s.1) (hit : It w k e) (eN : e < N) (n1 : nxq w 34 N k = e) (n2 : nxq w' 34 N k = e) (z : (ite9 w pl nq sm N 60 k s).2.2.1 = 0) (go : GmO w N g) : igm9 w pl nq sm N s.1 k g = igm9 w' pl' nq' sm' N s.1 k g ∧ GmO w N (igm9 w pl nq sm N s.1 k g) := by
  have kN : k < N := by
    have := hit.2.1
    omega
  have wk := (ag.1 k kN).1
  unfold ite9 at z
  simp only [n1] at z
  unfold igm9
  rw [← wk, n1, n2]
  rcases hit.2.2 with ⟨h0, h1, h2, eo⟩ | ⟨h0, h1, h2, i, vs, hi⟩ | ⟨h0, j, f1, eo, w17, br⟩ | ⟨h0, eo⟩
  · rw [if_pos h0, if_pos h0]
    exact ⟨rfl, go⟩
  · rw [if_neg (show ¬ (w k = 3 ∨ w k = 6) by first | rfl | omega), if_neg (show ¬ (w k = 3 ∨ w k = 6) by first | rfl | omega), if_pos h0, if_pos h0, var_cg ag nm eN vs hi]
    exact ⟨rfl, go.1, go.2⟩
  · have h36 : ¬ (w k = 3 ∨ w k = 6) := by omega
    have h4 : ¬ w k = 4 := by omega
    have h11 : ¬ w k = 11 := by omega
    rw [if_neg h36, if_neg h4, if_neg h11] at z
    rw [if_neg h36, if_neg h36, if_neg h4, if_neg h4, if_neg h11, if_neg h11]
    have lt := eo.pr.1
    have je := br.sg.1
    obtain ⟨a1, a2⟩ := ag.nx (x := 17) (f := N) (k := k + 1) (e := j) (by omega) (by omega) (by omega) w17 (fun t t1 t2 => eo.no9 (Or.inr (Or.inr rfl)) t1 t2)
    obtain ⟨b1, b2⟩ := brs_cg ag nm eN f1 (j + 1) br (by omega) N 0 (itc_0 z a1)
    have ec : cmd9 w pl sm N s.1 k e = cmd9 w' pl' sm' N s.1 k e := by
      unfold cmd9
      rw [a1, a2, b1, ← wk, (ag.1 k kN).2.1]
    refine ⟨by rw [ec], go.1, fun cm hc => ?_⟩
    rcases List.mem_append.mp hc with u | u
    · exact go.2 cm u
    · rw [List.mem_singleton.mp u]
      unfold cmd9
      rw [a1]
      exact ⟨⟨eo, by show j < N; omega⟩, b2⟩
  · have h36 : ¬ (w k = 3 ∨ w k = 6) := by omega
    have h4 : ¬ w k = 4 := by omega
    rw [if_neg h36, if_neg h36, if_neg h4, if_neg h4, if_pos h0, if_pos h0]
    refine ⟨rfl, fun tg ht => ?_, go.2⟩
    have : (k + 1, e) = tg := Option.some.inj ht
    rw [← this]
    exact ⟨eo, eN⟩
theorem igs_cg (ag : AgW w w' pl pl' nq nq' sm sm' N) : ∀ (f f' k : Nat) (s : st9) (g : gm9), Ac w N f [50] k → NmW w N s.1 → GmO w N g → igs9 w pl nq sm N 60 f' k s g = igs9 w' pl' nq' sm' N 60 f' k s g ∧ GmO w N (igs9 w pl nq sm N 60 f' k s g) := by
  intro f
  induction f using Nat.strongRecOn with
  | ind f ih =>
    intro f' k s g hac nm go
    cases f' with
    | zero => exact ⟨rfl, go⟩
    | succ f' =>
      rw [igs9, igs9]
      by_cases f0 : s.2.2.1 = 0
      · rw [if_neg (show ¬ s.2.2.1 ≠ 0 from fun u => u f0), if_neg (show ¬ s.2.2.1 ≠ 0 from fun u => u f0)]
        rcases ac_item hac with ⟨c0, c1⟩ | ⟨c0, e, g', hg, hit, hac'⟩
        · rw [if_pos c0, if_pos (show w' k = 0 by rw [← (ag.1 k (by omega)).1]; exact c0)]
          exact ⟨rfl, go⟩
        · have eN := ac_le hac'
          have sg := hit.sg
          have kN : k < N := by
            have := hit.2.1
            omega
          obtain ⟨n1, n2⟩ := ag.nx (x := 34) (f := N) (k := k) (e := e) sg.1 (by omega) (by omega) hit.1 sg.2.2.2
          have wk := (ag.1 k kN).1
          have es := ite_cg ag nm hit (by omega) n1 n2
          have nm' : NmW w N (ite9 w pl nq sm N 60 k s).1 := ite_nm nm (by have := hit.2.1; omega) (fun u => by
            rcases hit.2.2 with ⟨h0, h1, -⟩ | ⟨h0, h1, -⟩ | ⟨h0, -⟩ | ⟨h0, -⟩
            · exact h1
            · exact h1
            · omega
            · omega)
          rw [if_neg c0, if_neg (show ¬ w' k = 0 by rw [← wk]; exact c0), n1, n2, ← es]
          by_cases z : (ite9 w pl nq sm N 60 k s).2.2.1 ≠ 0
          · rw [if_pos z, if_pos z]
            exact ih g' hg f' (e + 1) _ g hac' nm' go
          · obtain ⟨m1, m2⟩ := igm_cg (g := g) ag nm hit (by omega) n1 n2 (Decidable.not_not.mp z) go
            rw [if_neg z, if_neg z, ← m1]
            exact ih g' hg f' (e + 1) _ _ hac' nm' m2
      · rw [if_pos f0, if_pos f0]
        exact ⟨rfl, go⟩
theorem NmF.add (h : NmF w N nms) {y : nm9} (h1 : y.1 < N ∧ w y.1 = 1) (h2 : y.2.1 ≠ 1 → y.2.1 ≠ 3 → Eo w 6 (y.1 + 2) (nxq w 34 N y.1) ∧ nxq w 34 N y.1 < N) : NmF w N (nms ++ [y]) := fun e he => by
  rcases List.mem_append.mp he with u | u
  · exact h e u
  · rw [List.mem_singleton.mp u]
    exact ⟨h1, h2⟩
theorem ite_nmf (nf : NmF w N s.1) (it : It w k e) (nx : nxq w 34 N k = e) (he : e < N) : NmF w N (ite9 w pl nq sm N 60 k s).1 := by
  have lt := it.2.1
  have nx1 : nxq w 34 N (k + 1) = e := nxq_at (by omega) (by omega) it.1 (fun m m1 m2 => it.sg.2.2.2 m (by omega) m2)
  unfold ite9
  simp only [nx]
  rcases it.2.2 with ⟨h0, h1, h2, eo⟩ | ⟨h0, h1, h2, i, vs, hi⟩ | ⟨h0, j, f1, eo, w17, br⟩ | ⟨h0, eo⟩
  · have ad : ∀ y : Nat × Int × vrs, NmF w N (s.1 ++ [(k + 1, y)]) := fun y => nf.add ⟨by show k + 1 < N; omega, h1⟩ (fun _ _ => by
      show Eo w 6 (k + 1 + 2) (nxq w 34 N (k + 1)) ∧ nxq w 34 N (k + 1) < N
      rw [nx1]
      exact ⟨eo, he⟩)
    rw [if_pos h0]
    unfold itr
    simp only []
    repeat' split
    all_goals first | exact nf | exact ad _
  · have ad : ∀ y : Int × vrs, NmF w N (s.1 ++ [(k + 1, 3, y)]) := fun y => nf.add ⟨by show k + 1 < N; omega, h1⟩ (fun _ u => absurd rfl u)
    rw [if_neg (show ¬ (w k = 3 ∨ w k = 6) by first | rfl | omega), if_pos h0]
    unfold itv
    simp only []
    repeat' split
    all_goals first | exact nf | exact ad _
  · rw [if_neg (show ¬ (w k = 3 ∨ w k = 6) by first | rfl | omega), if_neg (show ¬ (w k = 4) by first | rfl | omega), if_neg (show ¬ (w k = 11) by first | rfl | omega)]
    unfold itc
    simp only []
    repeat' split
    all_goals exact nf
  · rw [if_neg (show ¬ (w k = 3 ∨ w k = 6) by first | rfl | omega), if_neg (show ¬ (w k = 4) by first | rfl | omega), if_pos h0]
    unfold itt
    simp only []
    repeat' split
    all_goals exact nf
theorem its_nmf : ∀ (f f' k : Nat) (s : st9), Ac w N f [50] k → NmF w N s.1 → NmF w N (its9 w pl nq sm N 60 f' k s).1 := by
  intro f
  induction f using Nat.strongRecOn with
  | ind f ih =>
    intro f' k s hac nf
    cases f' with
    | zero => exact nf
    | succ f' =>
      rw [its9]
      by_cases f0 : s.2.2.1 = 0
      · rw [if_neg (show ¬ s.2.2.1 ≠ 0 from fun u => u f0)]
        rcases ac_item hac with ⟨c0, c1⟩ | ⟨c0, e, g, hg, hit, hac'⟩
        · rw [if_pos c0]
          split
          · exact nf
          · exact nf
        · have eN := ac_le hac'
          have lt := hit.2.1
          have nx : nxq w 34 N k = e := nxq_at (by omega) (by omega) hit.1 (fun m m1 m2 => hit.sg.2.2.2 m m1 m2)
          rw [if_neg c0, nx]
          exact ih g hg f' (e + 1) _ hac' (ite_nmf nf hit nx (by omega))
      · rw [if_pos f0]
        exact nf
/-- two readings of the same words: exploring comes to the same -/
theorem xpg_same {f : Nat} (ag : AgW w w' pl pl' nq nq' sm sm' N) (hac : Ac w N f [50] 0) (hg : (igs9 w pl nq sm N 60 N 0 ([], (0, 0, 0, 0), (0, 0)) ([], none, [])).2.1 ≠ none) : XpG (w, pl, nq, sm, N, (its9 w pl nq sm N 60 N 0 ([], (0, 0, 0, 0), (0, 0))).1, igs9 w pl nq sm N 60 N 0 ([], (0, 0, 0, 0), (0, 0)) ([], none, [])) = XpG (w', pl', nq', sm', N, (its9 w pl nq sm N 60 N 0 ([], (0, 0, 0, 0), (0, 0))).1, igs9 w' pl' nq' sm' N 60 N 0 ([], (0, 0, 0, 0), (0, 0)) ([], none, [])) := by
  have nf := its_nmf (pl := pl) (nq := nq) (sm := sm) f N 0 ([], (0, 0, 0, 0), (0, 0)) hac (fun e he => absurd he (by simp))
  obtain ⟨g1, g2⟩ := igs_cg ag f N 0 ([], (0, 0, 0, 0), (0, 0)) ([], none, []) hac (fun e he => absurd he (by simp)) ⟨fun tg h => absurd h (by simp), fun cm h => absurd h (by simp)⟩
  rw [← g1]
  exact xpg_cg ag nf g2 hg
end XCC
end
section
/-! The reference keeps what was explored. -/
section XEA
variable {a g W : Nat} {M M' : mM} {S : List (List Int)} {T : xt9} {i9 : tI9} {r : Int}
/-- the tables of what was explored: states S, kinds and commands T -/
def XF (M : mM) (a W : Nat) (S : List (List Int)) (T : xt9) : Prop := ∃ (L w : Nat) (B : Nat → Nat), (1 ≤ S.length ∧ S.length ≤ 512) ∧ (mI M a 40 = (w : Int) ∧ w ≤ 4096) ∧ Wy M a S.length w ∧ (ln M (a + 109) = L ∧ ln M (a + 111) = L ∧ ln M (a + 113) = L ∧ ln M (a + 115) = L) ∧ (B 0 = 0 ∧ B L = w) ∧ (∀ i, i < L → okc M a B i) ∧ Wc M a w ∧ SmR M a W S.length = S ∧ xtR M a S.length = T
theorem sl.nt {q : Nat} (h : sl M M' q) : nt M' q = nt M q := funext (fun j => h.2 j)
theorem XF.xe (h : XF M a W S T) (k : xeF M M' a) : XF M' a W S T := by
  obtain ⟨⟨a1, a2, a3⟩, ⟨b1, b2, b3, b4, b5⟩, ⟨c1, c2⟩, d1, d2, d3, d4, -⟩ := k
  obtain ⟨L, w, B, h1, h2, h3, h4, h5, h6, h7, h8, h9⟩ := h
  refine ⟨L, w, B, h1, by rw [a3]; exact h2, ?_, by rw [d1.1, d2.1, d3.1, d4.1]; exact h4, h5, fun i hi => ?_, ?_, ?_, ?_⟩
  · unfold Wy
    rw [b5, c1, c2]
    exact h3
  · unfold okc
    rw [d2.nt, d3.nt, d4.nt, c1, c2]
    exact h6 i hi
  · unfold Wc
    rw [c1, c2]
    exact h7
  · unfold SmR lsR
    rw [b1]
    exact h8
  · unfold xtR stR cmL cmQ brR
    rw [b2, b3, b4, b5, c1, c2, d1.nt, d2.nt, d3.nt, d4.nt]
    exact h9
theorem SvT.xe (h : SvT M (a + 117) T) (k : xeF M M' a) : SvT M' (a + 117) T := h.sv k.2.2.2.2.2.2.2.1 k.2.2.2.2.2.2.2.2
/-- the latest fault's place, explore's state, and what was explored -/
def XE (i9 : tI9) (M : mM) (a : Nat) : Prop := mI M a 12 = i9.2.2.2.2.2.1.1 ∧ (mI M a 30 = i9.2.2.2.2.2.1.2.1 ∧ mI M (a + 117 + 30) 0 = i9.2.2.2.2.2.1.2.2) ∧ mI M a 29 = ((i9.2.2.2.2.2.2.1.length : Nat) : Int) ∧ (i9.2.2.2.2.2.2.1 = [] → i9.2.2.2.2.2.2.2 = []) ∧ (i9.2.2.2.2.2.2.1 ≠ [] → ∃ W : Nat, (W : Int) = i9.2.1 ∧ XF M a W i9.2.2.2.2.2.2.1 i9.2.2.2.2.2.2.2 ∧ SvT M (a + 117) i9.2.2.2.2.2.2.2 ∧ kdT i9.2.2.2.2.2.2.2)
theorem XE.xe (h : XE i9 M a) (k : xeF M M' a) (e : mI M' a 12 = mI M a 12) (e' : mI M' (a + 117 + 30) 0 = mI M (a + 117 + 30) 0) : XE i9 M' a := by
  obtain ⟨h1, h2, h3, h4, h5⟩ := h
  refine ⟨by rw [e]; exact h1, ⟨by rw [k.1.2.1]; exact h2.1, e'.trans h2.2⟩, by rw [k.1.1]; exact h3, h4, fun u => ?_⟩
  obtain ⟨W, w1, w2, w3, w4⟩ := h5 u
  exact ⟨W, w1, w2.xe k, w3.xe k, w4⟩
theorem XE.fx (h : XE i9 M a) (k : FX M a M') : XE i9 M' a := h.xe k.2.1 k.2.2.1 k.2.2.2
/-- what exploring leaves, by what it comes to -/
def exG (X : xR9) : tE9 := if X.1.1 ≠ 0 then ((X.1.2, ((X.2.1 : Nat) : Int), 0), [], []) else ((-1, -1, 0), X.2.2.1, X.2.2.2)
theorem XTr.xf (h : XTr M a g W S T) : S ≠ [] ∧ XF M a W S T := by
  obtain ⟨h1, h2, h3, w9, h4, h5, L, w, B, xd, hw⟩ := h
  obtain ⟨⟨x1, x2, x3⟩, ⟨x4, x5⟩, x6, x7, x8, ⟨x9, x10, x11⟩, x12⟩ := xd
  have ew : w9 = w := by omega
  subst ew
  refine ⟨fun u => ?_, L, w9, B, ⟨x2, x3⟩, ⟨x4, x5⟩, x7, x8, ⟨x9, hw⟩, x12, h5, h2, h3⟩
  rw [u] at x2
  exact absurd x2 (by decide)
theorem xpR.xe {X : xR9} (h : xpR X a g W r M') (hw : (W : Int) = i9.2.1) (he : i9.2.2.2.2.2 = exG X) : XE i9 M' a ∧ r = X.1.1 := by
  unfold XE
  rw [he]
  unfold exG
  rcases h with ⟨h1, h2, h3, h4, h5, h6⟩ | ⟨h1, h2, h3, h4, h5, h6, h7, h8⟩
  · rw [if_pos h1]
    exact ⟨⟨h3, ⟨h4, h6⟩, h5, fun _ => rfl, fun u => absurd rfl u⟩, h2⟩
  · have n0 : ¬ (X.1.1 ≠ 0) := fun u => u (by rw [h1])
    rw [if_neg n0]
    obtain ⟨f1, f2⟩ := h5.xf
    exact ⟨⟨h3, ⟨h4, h8⟩, h5.1, fun u => absurd u f1, fun _ => ⟨W, hw, f2, h6, h7⟩⟩, by rw [h1]; exact h2⟩
end XEA
end
section
/-! What the questions about the states answer: pure. -/
section ASQ
variable {α : Type} {M : mM} {a g : Nat}
theorem rget (f : Nat → α) (n k : Nat) : ((List.range n).map f)[k]? = if k < n then some (f k) else none := by
  by_cases h : k < n
  · rw [if_pos h, List.getElem?_map, List.getElem?_range h]
    all_goals rfl
  · rw [if_neg h]
    exact List.getElem?_eq_none (by rw [List.length_map, List.length_range]; omega)
/-- state l: its kind and commands -/
def stA9 (T : xt9) (l : Int) : Option (Int × List sc9) := if l < 0 then none else T[l.toNat]?
def kdA9 (T : xt9) (l : Int) : Int := ((stA9 T l).map (fun x => x.1)).getD (-1)
def cnA9 (T : xt9) (l : Int) : Int := ((stA9 T l).map (fun x => ((x.2.length : Nat) : Int))).getD (-1)
/-- command l2 of state l1 -/
def cmA9 (T : xt9) (l1 l2 : Int) : Option sc9 := (stA9 T l1).bind (fun x => if l2 < 0 then none else x.2[l2.toNat]?)
def caA9 (T : xt9) (l1 l2 : Int) : Int := ((cmA9 T l1 l2).map (fun c => (c.1 : Int))).getD (-1)
def bnA9 (T : xt9) (l1 l2 : Int) : Int := ((cmA9 T l1 l2).map (fun c => ((c.2.2.length : Nat) : Int))).getD (-1)
/-- branch l3 of it -/
def bqA9 (c : sc9) (l3 : Int) : Option (Nat × Int) := if l3 < 0 then none else c.2.2[l3.toNat]?
def b1A9 (mu : Int) (l4 : Int) (b : Nat × Int) : Int := if l4 = 0 then (b.1 : Int) else if l4 = 1 then b.2 / (Int.gcd b.2 mu : Int) else if l4 = 2 then mu / (Int.gcd b.2 mu : Int) else -1
def brA9 (T : xt9) (l1 l2 l3 l4 : Int) : Int := ((cmA9 T l1 l2).map (fun c => ((bqA9 c l3).map (b1A9 c.2.1 l4)).getD (-1))).getD (-1)
/-- var l2 in state l1 -/
def vaA9 (S : List (List Int)) (l1 l2 : Int) : Int := ((S[l1.toNat]?).bind (fun x => x[l2.toNat]?)).getD 0
theorem cml_map {m : Nat} : cml M g a m = (List.range m).map (fun t => cmm M g (a + t)) := by
  induction m with
  | zero => rfl
  | succ m ih =>
    rw [List.range_succ, List.map_append, ← ih]
    all_goals rfl
theorem brl_map {m : Nat} : brl M g a m = (List.range m).map (fun t => ((mI M (g + 8) (a + t)).toNat, mI M (g + 9) (a + t))) := by
  induction m with
  | zero => rfl
  | succ m ih =>
    rw [List.range_succ, List.map_append, ← ih]
    all_goals rfl
theorem xtm_map {m : Nat} : xtm M g m = (List.range m).map (stm M g) := by
  induction m with
  | zero => rfl
  | succ m ih =>
    rw [List.range_succ, List.map_append, ← ih]
    all_goals rfl
/-- a share and its multiple, in lowest terms -/
theorem low9 {x y mu : Int} (hx : 0 < x) (hy : 0 < y) (hm : 0 < mu) (g1 : Int.gcd x y = 1) (hd : y ∣ mu) : x * (mu / y) / (Int.gcd (x * (mu / y)) mu : Int) = x ∧ mu / (Int.gcd (x * (mu / y)) mu : Int) = y := by
  obtain ⟨k, hk⟩ := hd
  have k0 : 0 < k := by
    rcases Int.lt_or_le 0 k with u | u
    · exact u
    · have h9 : y * k ≤ y * 0 := Int.mul_le_mul_of_nonneg_left u (Int.le_of_lt hy)
      rw [Int.mul_zero, ← hk] at h9
      omega
  have e1 : mu / y = k := by rw [hk]; exact Int.mul_ediv_cancel_left _ (by omega)
  rw [e1]
  have e2 : Int.gcd (x * k) mu = k.natAbs := by rw [hk, Int.gcd_mul_right, g1, Nat.one_mul]
  have e3 : ((k.natAbs : Nat) : Int) = k := Int.natAbs_of_nonneg (by omega)
  rw [e2, e3]
  exact ⟨Int.mul_ediv_cancel _ (by omega), by rw [hk]; exact Int.mul_ediv_cancel _ (by omega)⟩
end ASQ
end
section
/-! The reference between two calls: what the solver's calls leave; the methods that read. -/
section PUB
variable {G : mG} {d a s n k w : Nat} {M M' M2 : mM} {S : Nat → Prop} {Nt9 : tP9}
/-- the reference between two calls, with what was explored -/
def RI (Nt9 : tP9) (M : mM) (a : Nat) : Prop := mOk M ∧ Wd M a ∧ (Tpl Nt9 M (mR M a 1) ∧ ln M (mR M a 2) ≤ 16384) ∧ (0 ≤ mI M a 29 ∧ mI M a 29 ≤ 512) ∧ Sv M (a + 117) (mI M a 29).toNat ∧ (mI M a 11 ≠ 0 → Gd Nt9.2.2 M (mR M a 9)) ∧ (0 < mI M a 29 → mI M a 11 ≠ 0 ∧ XL M a) ∧ (0 ≤ mI M a 48 ∧ mI M a 48 ≤ 900 ∧ mI M a 11 = Nt9.2.2.1 ∧ XE Nt9.2.2 M a)
theorem RI.r0 (h : RI Nt9 M a) : RI0 Nt9 M a := ⟨h.1, h.2.1, h.2.2.1, h.2.2.2.1, h.2.2.2.2.1, h.2.2.2.2.2.1, h.2.2.2.2.2.2.1, h.2.2.2.2.2.2.2.1, h.2.2.2.2.2.2.2.2.1, h.2.2.2.2.2.2.2.2.2.1⟩
theorem RI.xe (h : RI Nt9 M a) : XE Nt9.2.2 M a := h.2.2.2.2.2.2.2.2.2.2
theorem RI0.ri (h : RI0 Nt9 M a) (x : XE Nt9.2.2 M a) : RI Nt9 M a := ⟨h.1, h.2.1, h.2.2.1, h.2.2.2.1, h.2.2.2.2.1, h.2.2.2.2.2.1, h.2.2.2.2.2.2.1, h.2.2.2.2.2.2.2.1, h.2.2.2.2.2.2.2.2.1, h.2.2.2.2.2.2.2.2.2, x⟩
theorem RI.step {j : Nat} {v : Int} (h : RI Nt9 M a) (hv : i32 v) (hj : j ≠ 11 ∧ j ≠ 29 ∧ j ≠ 48) (e : M' = mUI M a j v) (h0 : j < 12 := by decide) : RI Nt9 M' a ∧ FX M a M' ∧ (∀ i, mI M' a i = if i = j then v else mI M a i) := by
  obtain ⟨a1, a2, a3⟩ := h.r0.step hv hj e h0
  exact ⟨a1.ri (h.xe.fx a2), a2, a3⟩
/-- an answer, and the reference at rest -/
def rQ (Nt9 : tP9) (M : mM) (a : Nat) (r : Int) (M' : mM) : Prop := i32 r ∧ RI Nt9 M' a ∧ FX M a M'
theorem Wd.pl3 (w : Wd M a) : mR M a 31 = a + 105 ∧ mR M a 32 = a + 106 ∧ mR M a 33 = a + 107 ∧ mR M a 34 = a + 108 ∧ mR M a 35 = a + 109 ∧ mR M a 36 = a + 111 ∧ mR M a 37 = a + 113 ∧ mR M a 38 = a + 115 ∧ mR M a 39 = a + 117 := w.1.2.2.2.2.2.1
theorem Wd.pl4 (w : Wd M a) : (mK M (a + 105) = 30 ∧ mN M (a + 105) = 6144) ∧ (mK M (a + 106) = 30 ∧ mN M (a + 106) = 512) ∧ (mK M (a + 107) = 30 ∧ mN M (a + 107) = 512) ∧ (mK M (a + 108) = 30 ∧ mN M (a + 108) = 512) := w.1.2.2.2.2.2.2.2.2.1
theorem Wd.pl5 (w : Wd M a) : (mR M a 41 = a + 21185 ∧ mR M a 42 = a + 21186 ∧ mR M a 43 = a + 21187) ∧ mR M a 47 = a + 21191 := ⟨⟨w.1.2.2.2.2.2.2.1.1, w.1.2.2.2.2.2.2.1.2.1, w.1.2.2.2.2.2.2.1.2.2.1⟩, w.1.2.2.2.2.2.2.1.2.2.2.2.2.2⟩
theorem Wd.pl6 (w : Wd M a) : (mK M (a + 21185) = 30 ∧ mN M (a + 21185) = 4096) ∧ (mK M (a + 21186) = 33 ∧ mN M (a + 21186) = 4096) ∧ (mK M (a + 21187) = 33 ∧ mN M (a + 21187) = 4096) ∧ (mK M (a + 21191) = 30 ∧ mN M (a + 21191) = 900) := ⟨w.1.2.2.2.2.2.2.2.2.2.1.1, w.1.2.2.2.2.2.2.2.2.2.1.2.1, w.1.2.2.2.2.2.2.2.2.2.1.2.2.1, w.1.2.2.2.2.2.2.2.2.2.1.2.2.2.2.2.2⟩
/-- the solver alone has changed, and what is printed -/
theorem RI0.sol (h : RI0 Nt9 M a) (o : mOk M') (f : FI S M M') (hS : ∀ x, S x → vH (a + 117) x ∨ x = a + 21191) (hv : Sv M' (a + 117) (mI M a 29).toNat) : RI0 Nt9 M' a ∧ FX0 M a M' ∧ mI M' a = mI M a := by
  obtain ⟨hO, w, ht, h1, h2, h3, h4, h5⟩ := h
  have hg := w.g9
  have no : ∀ q : Nat, False → q ∈ nums a := fun _ z => z.elim
  have hS' : ∀ x, S x → a + 117 ≤ x ∧ x ≤ a + 21191 ∧ (x < a + 117 + 22 ∨ a + 117 + 28 < x) := fun x z => by
    rcases hS x z with y | y
    · have y' : a + 117 ≤ x ∧ x ≤ a + 117 + 21067 ∧ (x < a + 117 + 22 ∨ a + 117 + 28 < x) := y
      omega
    · omega
  have m : Mv (fun _ => False) S M a M' := mv_fi o w f (fun x z => by
    have z' := hS' x z
    rcases hS x z with y | y
    · have y' : a + 117 ≤ x ∧ x ≤ a + 117 + 21067 ∧ (x < a + 117 + 22 ∨ a + 117 + 28 < x) := y
      exact ⟨by omega, by omega, fun u => by have := nums_in u; omega, fun q hq u => by have := nums_in hq; omega⟩
    · have e := offx (a := a) (o := 21191) (by decide)
      rw [y]
      exact ⟨by omega, by omega, e.2.1, e.2.2⟩)
  have aI := (m.fld w no (fun z => by have := hS' _ z; omega)).1
  have aR := m.rfl_a w no
  have tp := w.tape
  have cI : ∀ x, ¬ S x → mI M' x = mI M x := f.2.2.2.2.2.2
  have xe : xeF M M' a := ⟨by rw [aI]; exact ⟨rfl, rfl, rfl⟩, ⟨cI _ (fun z => by have := hS' _ z; omega), cI _ (fun z => by have := hS' _ z; omega), cI _ (fun z => by have := hS' _ z; omega), cI _ (fun z => by have := hS' _ z; omega), cI _ (fun z => by
    rcases hS _ z with y | y
    · have y' : a + 117 ≤ a + 21185 ∧ a + 21185 ≤ a + 117 + 21067 ∧ (a + 21185 < a + 117 + 22 ∨ a + 117 + 28 < a + 21185) := y
      omega
    · omega)⟩, ⟨by rw [f.2.2.2.1], by rw [f.2.2.2.1]⟩, (m.lst (nums_o (by decide)) (fun z => z)).sl, (m.lst (nums_o (by decide)) (fun z => z)).sl, (m.lst (nums_o (by decide)) (fun z => z)).sl, (m.lst (nums_o (by decide)) (fun z => z)).sl, hv.2.2.2.1.trans h2.2.2.2.1.symm, fun i p q => cI _ (fun z => by have := hS' _ z; omega)⟩
  refine ⟨⟨o, m.2.1, ⟨by rw [aR]; exact ht.1.sm (m.lst tp.1 (fun z => z)), by rw [aR, (m.lst tp.2.1 (fun z => z)).1]; exact ht.2⟩, ?_⟩, ⟨FR.fi f (fun x z => by have := hS' x z; omega), xe, by rw [aI]⟩, aI⟩
  unfold RX
  rw [aR, aI]
  refine ⟨h1, hv, fun q => gd_mv (h3 q) w hg m no (fun _ z => z.elim) (fun x z => by have := hS' x z; omega), fun q => ⟨(h4 q).1, ?_⟩, h5⟩
  obtain ⟨x1, x2, x3, x4⟩ := (h4 q).2
  have s9 := m.lst (q := a + 109) (nums_o (by decide)) (fun z => z)
  have s11 := m.lst (q := a + 111) (nums_o (by decide)) (fun z => z)
  have s13 := m.lst (q := a + 113) (nums_o (by decide)) (fun z => z)
  unfold XL mny
  rw [aI, s9.1, s11.1, s13.1, cI (a + 107) (fun z => by have := hS' _ z; omega), cI (a + 108) (fun z => by have := hS' _ z; omega), cI (a + 117 + 23) (fun z => by have := hS' _ z; omega)]
  refine ⟨x1, x2, x3, fun i hi => ?_⟩
  rw [s11.2.1, s13.2.1]
  exact x4 i hi
theorem RI.sol (h : RI Nt9 M a) (o : mOk M') (f : FI S M M') (hS : ∀ x, S x → vH (a + 117) x ∨ x = a + 21191) (hv : Sv M' (a + 117) (mI M a 29).toNat) (hk : mI M' (a + 117 + 30) 0 = mI M (a + 117 + 30) 0) : RI Nt9 M' a ∧ FX M a M' ∧ mI M' a = mI M a := by
  obtain ⟨a1, a2, a3⟩ := h.r0.sol o f hS hv
  exact ⟨a1.ri (h.xe.fx (a2.fx hk)), a2.fx hk, a3⟩
/-- are values worked out -/
def kn9 (i : tI9) (k : Int) : tI9 := (i.1, i.2.1, i.2.2.1, i.2.2.2.1, i.2.2.2.2.1, (i.2.2.2.2.2.1.1, i.2.2.2.2.2.1.2.1, k), i.2.2.2.2.2.2)
theorem RI0.e8 {l : Int} {c : Nat → Int} {i : tI9} {e : tE9} (h : RI0 (l, c, i) M a) : RI0 (l, c, i.1, i.2.1, i.2.2.1, i.2.2.2.1, i.2.2.2.2.1, e) M a := by
  obtain ⟨h1, h2, h3, h4, h5, h6, h7, h8⟩ := h
  exact ⟨h1, h2, h3, h4, h5, h6, h7, h8⟩
theorem RI.solv {k : Int} (h : RI Nt9 M a) (o : mOk M') (f : FI S M M') (hS : ∀ x, S x → vH (a + 117) x ∨ x = a + 21191) (hv : Sv M' (a + 117) (mI M a 29).toNat) (hk : mI M' (a + 117 + 30) 0 = k) : RI (Nt9.1, Nt9.2.1, kn9 Nt9.2.2 k) M' a ∧ FR M a M' ∧ mI M' a = mI M a := by
  obtain ⟨a1, a2, a3⟩ := h.r0.sol o f hS hv
  obtain ⟨x1, x2, x3, x4, x5⟩ := h.xe
  refine ⟨RI0.ri (RI0.e8 (l := Nt9.1) (c := Nt9.2.1) (i := Nt9.2.2) a1) ⟨by rw [a3]; exact x1, ⟨by rw [a3]; exact x2.1, hk⟩, by rw [a3]; exact x3, x4, fun u => ?_⟩, a2.1, a3⟩
  obtain ⟨W, w1, w2, w3, w4⟩ := x5 u
  exact ⟨W, w1, w2.xe a2.2.1, w3.xe a2.2.1, w4⟩
/-- a step that only touches the tape and the fault -/
theorem RI0.mv {P : Nat → Prop} (h : RI0 Nt9 M a) (m : Mv P S M a M') (hP : ∀ q, P q → q = mR M a 1) (hS : ∀ x, S x → x = a) (hf : ∀ i, i ≠ 0 → mI M' a i = mI M a i) {n1 : tP9} (hl : Tpl n1 M' (mR M a 1)) (hn : n1.2.2 = Nt9.2.2) : RI0 n1 M' a ∧ FX M a M' := by
  obtain ⟨hO, w, ht, hx⟩ := h
  have tp := w.tape
  have hin : ∀ q, P q → q ∈ nums a := fun q z => by rw [hP q z]; exact tp.1
  have aR := m.rfl_a w hin
  have s1 := w.1.2.1
  have hg := w.g9
  have ra := ra_mv w hg m hin (fun q z => by
    have := hP q z
    refine ⟨fun y => ?_, by omega, by omega, by omega, by omega⟩
    have y' : q = mR M a 9 + 1 ∨ q = mR M a 9 + 3 ∨ q = mR M a 9 + 5 ∨ q = mR M a 9 + 7 ∨ q = mR M a 9 + 9 ∨ q = mR M a 9 + 11 ∨ q = mR M a 9 + 30 ∨ q = mR M a 9 + 32 ∨ q = mR M a 9 + 34 := y
    omega) (fun x z => by have := hS x z; omega) ⟨hf 11 (by decide), hf 29 (by decide), hf 48 (by decide), hf 30 (by decide), hf 40 (by decide)⟩
  refine ⟨⟨m.1, m.2.1, ⟨by rw [aR]; exact hl, by rw [aR, (m.lst tp.2.1 (fun z => tp.2.2 (hP _ z).symm)).1]; exact ht.2⟩, by rw [aR, hn]; exact hx.ra ra⟩, FR.mv m hin (fun x z => by have := hS x z; omega), ra.2.2.2.2.2.2.2, hf 12 (by decide), by rw [(ra.2.1 (a + 117 + 30) (by omega) (by omega)).2.2.2]⟩
theorem RI.mv {P : Nat → Prop} (h : RI Nt9 M a) (m : Mv P S M a M') (hP : ∀ q, P q → q = mR M a 1) (hS : ∀ x, S x → x = a) (hf : ∀ i, i ≠ 0 → mI M' a i = mI M a i) {n1 : tP9} (hl : Tpl n1 M' (mR M a 1)) (hn : n1.2.2 = Nt9.2.2) : RI n1 M' a ∧ FX M a M' := by
  obtain ⟨a1, a2⟩ := h.r0.mv m hP hS hf hl hn
  exact ⟨a1.ri (by rw [hn]; exact h.xe.fx a2), a2⟩
theorem r_MM_feed {v : Nat → Int} (hv : ∀ i, i32 (v i)) (h : RI Nt9 M a) : Ci G y_MM_feed (d + 2) [vr a, vi (v 0), vi (v 1), vi (v 2), vi (v 3), vi (v 4)] M (fun r M' => ∃ n1, rQ n1 M a r M' ∧ ((Nt9.1 + 20 ≤ 16384 ∧ r = Nt9.1 + 20 ∧ n1 = (r, fdc Nt9.2.1 Nt9.1.toNat (v 0) (v 1) (v 2) (v 3) (v 4), Nt9.2.2)) ∨ (16384 < Nt9.1 + 20 ∧ r = -1 ∧ n1 = Nt9))) := by
  have bN := h.2.2.1.1
  refine (s_MM_feed hv h.1 h.2.1 (by rw [bN.1]; exact bN.2.1)).mono (fun r M1 q => ?_)
  have b0 : 0 ≤ ln M (mR M a 1) := (h.2.1.nu h.2.1.tape.1).2.2.2.1.1
  obtain ⟨m, hf, f0, hh⟩ := id q
  have e : i32 r ∧ ∃ n1, Tpl n1 M1 (mR M a 1) ∧ ((Nt9.1 + 20 ≤ 16384 ∧ r = Nt9.1 + 20 ∧ n1 = (r, fdc Nt9.2.1 Nt9.1.toNat (v 0) (v 1) (v 2) (v 3) (v 4), Nt9.2.2)) ∨ (16384 < Nt9.1 + 20 ∧ r = -1 ∧ n1 = Nt9)) := by
    obtain ⟨c1, c2, c3⟩ := bN
    rcases hh with ⟨y1, y2, y3, y4, y5⟩ | ⟨y1, y2, y3⟩
    · rw [c1] at y1 y2 y4 y5 b0
      refine ⟨i32s (by omega) (by omega), _, ⟨y3, by show r ≤ 16384; omega, fun j hj => ?_⟩, Or.inl ⟨by omega, by omega, rfl⟩⟩
      have hj : (j : Int) < r := hj
      obtain ⟨m, hm⟩ : ∃ m : Nat, Nt9.1 = m := ⟨Nt9.1.toNat, by omega⟩
      rw [hm] at y4 y5 c3 y2
      rw [Int.toNat_natCast] at y5
      show nt M1 (mR M a 1) j = fdc Nt9.2.1 Nt9.1.toNat (v 0) (v 1) (v 2) (v 3) (v 4) j
      rw [hm, Int.toNat_natCast]
      unfold fdc f4
      by_cases d0 : j < m
      · rw [if_pos (by omega), if_pos (by omega), if_pos (by omega), if_pos (by omega), if_pos d0, y4 j (by omega)]
        exact c3 j (by omega)
      · have key : ∀ i, i < 5 → m + 4 * i ≤ j → j < m + 4 * i + 4 → nt M1 (mR M a 1) j = byt (v i) (j - (m + 4 * i)) := fun i hi h1 h2 => by
          have := y5 i (j - (m + 4 * i)) hi (by omega)
          rw [show m + 4 * i + (j - (m + 4 * i)) = j by first | rfl | omega] at this
          exact this
        by_cases d1 : j < m + 4
        · rw [if_pos (by omega), if_pos (by omega), if_pos (by omega), if_pos (by omega), if_neg d0]
          exact key 0 (by decide) (by omega) (by omega)
        by_cases d2 : j < m + 8
        · rw [if_pos (by omega), if_pos (by omega), if_pos (by omega), if_neg d1]
          exact key 1 (by decide) (by omega) (by omega)
        by_cases d3 : j < m + 12
        · rw [if_pos (by omega), if_pos (by omega), if_neg d2]
          exact key 2 (by decide) (by omega) (by omega)
        by_cases d4 : j < m + 16
        · rw [if_pos (by omega), if_neg d3]
          exact key 3 (by decide) (by omega) (by omega)
        · rw [if_neg d4]
          exact key 4 (by decide) (by omega) (by omega)
    · have y4 := y3.1
      rw [c1] at y1
      exact ⟨i32s (by omega) (by omega), Nt9, (show Tpl Nt9 M (mR M a 1) from ⟨c1, c2, c3⟩).sm y3, Or.inr ⟨by omega, y2, rfl⟩⟩
  obtain ⟨ir, n1, hl, hd⟩ := e
  obtain ⟨r1, F1⟩ := h.mv m (fun q z => z) (fun x z => z) hf hl (by rcases hd with ⟨-, -, y⟩ | ⟨-, -, y⟩ <;> rw [y])
  exact ⟨n1, ⟨ir, r1, F1⟩, hd⟩
theorem r_MM_end {l : Int} (hl : i32 l) (h : RI Nt9 M a) : Ci G y_MM_end d [vr a, vi l] M (fun r M' => ∃ n1, rQ n1 M a r M' ∧ ((0 ≤ l ∧ l ≤ 20 ∧ 20 ≤ Nt9.1 ∧ n1 = (Nt9.1 - 20 + l, Nt9.2)) ∨ (¬ (0 ≤ l ∧ l ≤ 20 ∧ 20 ≤ Nt9.1) ∧ n1 = Nt9))) := by
  have bN := h.2.2.1.1
  refine (s_MM_end hl h.1 h.2.1 (by rw [bN.1]; exact bN.2.1)).mono (fun r M1 q => ?_)
  have b0 : 0 ≤ ln M (mR M a 1) := (h.2.1.nu h.2.1.tape.1).2.2.2.1.1
  obtain ⟨m, hf, hh⟩ := id q
  have e : i32 r ∧ ∃ n1, Tpl n1 M1 (mR M a 1) ∧ ((0 ≤ l ∧ l ≤ 20 ∧ 20 ≤ Nt9.1 ∧ n1 = (Nt9.1 - 20 + l, Nt9.2)) ∨ (¬ (0 ≤ l ∧ l ≤ 20 ∧ 20 ≤ Nt9.1) ∧ n1 = Nt9)) := by
    obtain ⟨c1, c2, c3⟩ := bN
    rcases hh with ⟨y1, y2, y3, y4, y5, y6, y7⟩ | ⟨y1, y2, y3, y4⟩
    · rw [c1] at y3 y5
      exact ⟨i32s (by omega) (by omega), _, ⟨by rw [y6, y5], by show Nt9.1 - 20 + l ≤ 16384; omega, fun j hj => by
        have hj : (j : Int) < Nt9.1 - 20 + l := hj
        rw [y7]
        exact c3 j (by omega)⟩, Or.inl ⟨y1, y2, y3, rfl⟩⟩
    · rw [c1] at y1
      exact ⟨i32s (by omega) (by omega), Nt9, (show Tpl Nt9 M (mR M a 1) from ⟨c1, c2, c3⟩).sm y4, Or.inr ⟨y1, rfl⟩⟩
  obtain ⟨ir, n1, hl', hd⟩ := e
  obtain ⟨r1, F1⟩ := h.mv m (fun q z => z) (fun x z => z) hf hl' (by rcases hd with ⟨-, -, -, y⟩ | ⟨-, y⟩ <;> rw [y])
  exact ⟨n1, ⟨ir, r1, F1⟩, hd⟩
theorem r_MM_place1 (h : RI Nt9 M a) : Ci G y_MM_place1 d [vr a] M (fun r M' => rQ Nt9 M a r M' ∧ r = Nt9.2.2.2.2.2.2.2.1.1) := by
  refine k_MM_place1 h.1 ⟨h.2.1.1.1, fun M2 e2 => ?_⟩
  obtain ⟨r2, F2, -⟩ := h.step ⟨by decide, by decide⟩ ⟨by decide, by decide, by decide⟩ e2
  exact ⟨⟨(r2.1 _ _).1, r2, F2⟩, r2.xe.1⟩
theorem r_MM_state1 (h : RI Nt9 M a) : Ci G y_MM_state1 d [vr a] M (fun r M' => rQ Nt9 M a r M' ∧ r = Nt9.2.2.2.2.2.2.2.1.2.1) := by
  refine k_MM_state1 h.1 ⟨h.2.1.1.1, fun M2 e2 => ?_⟩
  obtain ⟨r2, F2, -⟩ := h.step ⟨by decide, by decide⟩ ⟨by decide, by decide, by decide⟩ e2
  exact ⟨⟨(r2.1 _ _).1, r2, F2⟩, r2.xe.2.1.1⟩
theorem r_MM_states (h : RI Nt9 M a) : Ci G y_MM_states d [vr a] M (fun r M' => rQ Nt9 M a r M' ∧ r = ((Nt9.2.2.2.2.2.2.2.2.1.length : Nat) : Int)) := by
  refine k_MM_states h.1 ⟨h.2.1.1.1, fun M2 e2 => ?_⟩
  obtain ⟨r2, F2, -⟩ := h.step ⟨by decide, by decide⟩ ⟨by decide, by decide, by decide⟩ e2
  exact ⟨⟨(r2.1 _ _).1, r2, F2⟩, r2.xe.2.2.1⟩
/-- what items answers -/
def itq (i : tI9) (l : Int) : Int := if i.1 = 0 then -1 else if l = 0 then i.2.1 else if l = 1 then i.2.2.1 else if l = 2 then i.2.2.2.1 else -1
theorem r_MM_items1 {l : Int} (hl : i32 l) (h : RI Nt9 M a) : Ci G y_MM_items1 d [vr a, vi l] M (fun r M' => rQ Nt9 M a r M' ∧ r = itq Nt9.2.2 l) := by
  refine k_MM_items1 h.1 hl ⟨h.2.1.1.1, fun M2 e2 => ?_⟩
  obtain ⟨r2, F2, -⟩ := h.step ⟨by decide, by decide⟩ ⟨by decide, by decide, by decide⟩ e2
  have k9 := (r2.2.1.gp r2.2.1.g9).1
  refine ⟨fun _ => ⟨fun _ => k9, fun _ => ⟨fun _ => k9, fun _ _ => k9⟩⟩, fun v e => ⟨⟨?_, r2, F2⟩, ?_⟩⟩
  · rw [e]
    (repeat' split) <;> first | exact (r2.1 _ _).1 | exact ⟨by decide, by decide⟩
  · obtain ⟨-, -, -, -, -, x3, -, -, -, fl, -⟩ := r2
    unfold itq
    by_cases z : mI M2 a 11 = 0
    · rw [e, if_pos z, ← fl, if_pos z]
    · obtain ⟨_, _, _, _, _, _, _, -, -, -, -, -, -, q1, q2, q3, -⟩ := x3 z
      rw [e, if_neg z, q1, q2, q3, ← fl, if_neg z]
theorem r_MM_isState {l : Int} (hl : i32 l) (h : RI Nt9 M a) : Ci G y_MM_isState d [vr a, vi l] M (fun r M' => rQ Nt9 M a r M' ∧ (r ≠ 0 → 0 ≤ l ∧ l < mI M' a 29)) := by
  refine k_MM_isState h.1 hl ⟨h.2.1.1.1, fun M2 e2 v e => ?_⟩
  obtain ⟨r2, F2, -⟩ := h.step ⟨by decide, by decide⟩ ⟨by decide, by decide, by decide⟩ e2
  by_cases y : l < 0 ∨ mI M2 a 29 ≤ l
  · rw [if_pos y] at e
    exact ⟨⟨by rw [e]; exact ⟨by decide, by decide⟩, r2, F2⟩, fun z => absurd e z⟩
  · rw [if_neg y] at e
    exact ⟨⟨by rw [e]; exact ⟨by decide, by decide⟩, r2, F2⟩, fun _ => by omega⟩
end PUB
end
section
/-! The reference's public methods that read the tables and call the solver. -/
section PUC
variable {G : mG} {d a s n k w : Nat} {M M' M2 : mM} {S : Nat → Prop} {Nt9 : tP9}
theorem rQ.one {l : Int} (h : RI Nt9 M' a) (F : FX M a M') (hl : i32 l) : rQ Nt9 M a l M' := ⟨hl, h, F⟩
theorem RI.n5 (h : RI Nt9 M a) : 0 ≤ mI M a 29 ∧ mI M a 29 ≤ 512 := h.2.2.2.1
theorem r_MM_isCommand {l1 l2 : Int} (i1 : i32 l1) (i2 : i32 l2) (h : RI Nt9 M a) : Ci G y_MM_isCommand (d + 1) [vr a, vi l1, vi l2] M (fun r M' => rQ Nt9 M a r M' ∧ (r ≠ 0 → (0 ≤ l1 ∧ l1 < mI M' a 29) ∧ 0 ≤ l2 ∧ l2 < mI M' (a + 108) l1.toNat)) := by
  refine k_MM_isCommand h.1 i1 i2 ⟨h.2.1.1.1, (r_MM_isState i1 h).mono (fun x M1 q => ?_)⟩
  obtain ⟨⟨ix, r1, F1⟩, hx⟩ := q
  have b := r1.n5
  have A := r1.2.1.pl4
  rw [r1.2.1.pl3.2.2.2.1]
  refine ⟨ix, r1.1, fun y _ => ⟨r1.2.1.1.1, A.2.2.2.1, by rw [A.2.2.2.2]; have := hx y; omega⟩, fun v e => ?_⟩
  by_cases y : x = 0 ∨ l2 < 0 ∨ mI M1 (a + 108) l1.toNat ≤ l2
  · rw [if_pos y] at e
    exact ⟨⟨by rw [e]; exact ⟨by decide, by decide⟩, r1, F1⟩, fun z => absurd e z⟩
  · rw [if_neg y] at e
    exact ⟨⟨by rw [e]; exact ⟨by decide, by decide⟩, r1, F1⟩, fun _ => ⟨hx (by omega), by omega, by omega⟩⟩
/-- a command's place -/
theorem RI.cm {l1 l2 : Int} (h : RI Nt9 M a) (q1 : 0 ≤ l1 ∧ l1 < mI M a 29) (q2 : 0 ≤ l2) (q3 : l2 < mI M (a + 108) l1.toNat) : ∃ j : Nat, mI M (a + 107) l1.toNat + l2 = j ∧ (j : Int) < ln M (a + 109) ∧ ln M (a + 111) = ln M (a + 109) ∧ ln M (a + 113) = ln M (a + 109) ∧ 0 ≤ nt M (a + 111) j ∧ 0 ≤ nt M (a + 113) j ∧ nt M (a + 111) j + nt M (a + 113) j ≤ 4096 ∧ l2 < mny M (a + 117) l1.toNat := by
  obtain ⟨x1, x2, x3, x4⟩ := (h.2.2.2.2.2.2.1 (by omega)).2
  have y := x1 l1.toNat (by omega)
  refine ⟨(mI M (a + 107) l1.toNat + l2).toNat, by omega, by omega, x2, x3, ?_⟩
  have z := x4 (mI M (a + 107) l1.toNat + l2).toNat (by omega)
  exact ⟨z.1, z.2.1, z.2.2, by omega⟩
theorem r_MM_command {l1 l2 : Int} (i1 : i32 l1) (i2 : i32 l2) (h : RI Nt9 M a) : Ci G y_MM_command (d + 2) [vr a, vi l1, vi l2] M (rQ Nt9 M a) := by
  refine k_MM_command h.1 i1 i2 ⟨h.2.1.1.1, (r_MM_isCommand i1 i2 h).mono (fun x M1 q => ?_)⟩
  obtain ⟨⟨ix, r1, F1⟩, hx⟩ := q
  have b := r1.n5
  have w := r1.2.1
  refine ⟨ix, r1.1, fun _ => ⟨⟨by decide, by decide⟩, r1, F1⟩, fun y => ?_⟩
  obtain ⟨q1, q2, q3⟩ := hx y
  obtain ⟨j, e, j1, j2, j3, -⟩ := r1.cm q1 q2 q3
  have A := w.pl4
  rw [w.pl3.2.2.1, w.pl3.2.2.2.2.1, e]
  have hN := w.nu (p := a + 109) (nums_o (by decide))
  refine ⟨w.1.1, A.2.2.1.1, by rw [A.2.2.1.2]; omega, hN.1, (s_MN_at r1.1 hN j1).mono (fun z M2 q2 => ?_)⟩
  obtain ⟨e2, e3⟩ := q2
  subst e2
  have iz : i32 z := by rw [e3]; exact (r1.1 _ _).1
  exact ⟨iz, r1.1, iz, r1, F1⟩
theorem r_MM_character {l : Int} (hl : i32 l) (h : RI Nt9 M a) : Ci G y_MM_character d [vr a, vi l] M (rQ Nt9 M a) := by
  refine k_MM_character h.1 hl ⟨h.2.1.1.1, fun M2 e2 => ?_⟩
  obtain ⟨r2, F2, -⟩ := h.step ⟨by decide, by decide⟩ ⟨by decide, by decide, by decide⟩ e2
  have b := r2.2.2.2.2.2.2.2
  have B := r2.2.1.pl6
  rw [r2.2.1.pl5.2]
  refine ⟨fun y1 y2 => ⟨B.2.2.2.1, by rw [B.2.2.2.2]; omega⟩, fun v e => ⟨?_, r2, F2⟩⟩
  rw [e]
  split
  · exact ⟨by decide, by decide⟩
  · exact (r2.1 _ _).1
/-- the solver and its number of states -/
theorem RI.sv (h : RI Nt9 M a) : Sv M (a + 117) (mI M a 29).toNat := h.2.2.2.2.1
theorem r_MM_solve (h : RI Nt9 M a) : Ci G y_MM_solve (d + 11) [vr a] M (fun r M' => ∃ n1 : tP9, (i32 r ∧ RI n1 M' a ∧ FR M a M') ∧ ((Nt9.2.2.2.2.2.2.2.2.1 = [] ∧ n1 = Nt9 ∧ mI M' a 0 = 1) ∨ (Nt9.2.2.2.2.2.2.2.2.1 ≠ [] ∧ n1 = (Nt9.1, Nt9.2.1, kn9 Nt9.2.2 (if r = 0 then 1 else 0)) ∧ mI M' a 0 = 0 ∧ kdT Nt9.2.2.2.2.2.2.2.2.2 ∧ svA9 Nt9.2.2.2.2.2.2.2.2.2 r))) := by
  have l29 := h.xe.2.2.1
  obtain ⟨F, hF⟩ := fall_ex
  refine k_MM_solve h.1 ⟨h.2.1.1.1, fun v e M2 e2 => ?_⟩
  have iv : i32 v := by rw [e]; split <;> exact ⟨by decide, by decide⟩
  obtain ⟨r2, F2, f2⟩ := h.step iv ⟨by decide, by decide, by decide⟩ e2
  have z2 : mI M2 a 0 = v := by rw [f2, if_pos rfl]
  rw [r2.2.1.pl3.2.2.2.2.2.2.2.2]
  refine ⟨fun u => ⟨r2.sv.1.1, (s_MS_solve hF r2.1 r2.sv).mono (fun x M3 q => ?_)⟩, fun u => ⟨Nt9, ⟨⟨by decide, by decide⟩, r2, F2.1⟩, Or.inl ?_⟩⟩
  · obtain ⟨⟨o, f, S3, hx⟩, hv, hk⟩ := q
    obtain ⟨r3, F3, a3⟩ := r2.solv o f (fun x z => Or.inl z) S3 hk
    have ix : i32 x := i32s (by omega) (by omega)
    have ne : Nt9.2.2.2.2.2.2.2.2.1 ≠ [] := fun z => by
      rw [z2, e] at u
      rw [z] at l29
      rw [if_pos (by rw [l29]; rfl)] at u
      exact absurd u (by decide)
    obtain ⟨W, -, -, w3, w4⟩ := r2.xe.2.2.2.2 ne
    refine ⟨ix, o, _, ⟨ix, r3, F2.1.trans F3⟩, Or.inr ⟨ne, rfl, ?_, w4, hv _ w3 w4⟩⟩
    rw [a3, z2, e]
    refine if_neg (fun z => ne ?_)
    rw [l29] at z
    exact List.length_eq_zero_iff.mp (by omega)
  · have z0 : mI M a 29 = 0 := Classical.byContradiction (fun z => u (by rw [z2, e, if_neg z]; decide))
    rw [l29] at z0
    exact ⟨List.length_eq_zero_iff.mp (by omega), rfl, by rw [z2, e, if_pos (by rw [l29]; exact z0)]⟩
theorem r_MM_judge {l : Int} (hl : i32 l) (h : RI Nt9 M a) : Ci G y_MM_judge (d + 11) [vr a, vi l] M (rQ Nt9 M a) := by
  obtain ⟨F, hF⟩ := fall_ex
  refine k_MM_judge h.1 hl ⟨⟨fun _ => h.2.1.1.1, fun _ _ => h.2.1.1.1⟩, fun v e => ⟨h.2.1.1.1, fun M2 e2 => ?_⟩⟩
  have iv : i32 v := by rw [e]; (repeat' split) <;> exact ⟨by decide, by decide⟩
  obtain ⟨r2, F2, f2⟩ := h.step iv ⟨by decide, by decide, by decide⟩ e2
  rw [r2.2.1.pl3.2.2.2.2.2.2.2.2]
  refine ⟨fun q => ⟨r2.sv.1.1, (s_MS_judge hF ?_ r2.1 r2.sv).mono (fun x M3 q => ?_)⟩, fun _ => ⟨⟨by decide, by decide⟩, r2, F2⟩⟩
  · rw [f2, if_pos rfl, e] at q
    by_cases y1 : l = 1
    · exact Or.inl y1
    · by_cases y2 : l = 2
      · exact Or.inr y2
      · rw [if_neg y1, if_neg y2] at q
        omega
  · obtain ⟨⟨o, f, S3, hx⟩, hk⟩ := q
    obtain ⟨r3, F3, -⟩ := r2.sol o f (fun x z => Or.inl z) S3 hk
    have ix : i32 x := i32s (by omega) (by omega)
    exact ⟨ix, o, ix, r3, F2.trans F3⟩
theorem r_MM_within {l : Int} (hl : i32 l) (h : RI Nt9 M a) : Ci G y_MM_within (d + 8) [vr a, vi l] M (fun r M' => rQ Nt9 M a r M' ∧ ((¬ (0 ≤ l ∧ l ≤ 32) ∧ mI M' a 0 = 1) ∨ ((0 ≤ l ∧ l ≤ 32) ∧ Nt9.2.2.2.2.2.2.2.2.1 = [] ∧ mI M' a 0 = 2) ∨ ((0 ≤ l ∧ l ≤ 32) ∧ Nt9.2.2.2.2.2.2.2.2.1 ≠ [] ∧ mI M' a 0 = 0 ∧ anA9 Nt9.2.2.2.2.2.2.2.2.2 l.toNat r))) := by
  have l29 := h.xe.2.2.1
  refine k_MM_within h.1 hl ⟨fun _ _ => h.2.1.1.1, fun v e => ⟨h.2.1.1.1, fun M2 e2 => ?_⟩⟩
  have iv : i32 v := by rw [e]; (repeat' split) <;> exact ⟨by decide, by decide⟩
  obtain ⟨r2, F2, f2⟩ := h.step iv ⟨by decide, by decide, by decide⟩ e2
  have z2 : mI M2 a 0 = v := by rw [f2, if_pos rfl]
  rw [r2.2.1.pl3.2.2.2.2.2.2.2.2]
  refine ⟨fun q => ?_, fun q => ⟨⟨⟨by decide, by decide⟩, r2, F2⟩, ?_⟩⟩
  rotate_left
  · rw [z2]
    rw [z2] at q
    by_cases y1 : l < 0
    · rw [if_pos y1] at e
      exact Or.inl ⟨fun z => by omega, e⟩
    · by_cases y2 : l ≤ 32
      · by_cases y3 : mI M a 29 = 0
        · rw [if_neg y1, if_pos y2, if_pos y3] at e
          rw [l29] at y3
          exact Or.inr (Or.inl ⟨⟨by omega, y2⟩, List.length_eq_zero_iff.mp (by omega), e⟩)
        · rw [if_neg y1, if_pos y2, if_neg y3] at e
          omega
      · rw [if_neg y1, if_neg y2] at e
        exact Or.inl ⟨fun z => y2 z.2, e⟩
  have lb : 0 ≤ l ∧ l ≤ 32 := by
    rw [f2, if_pos rfl, e] at q
    by_cases y1 : l < 0
    · rw [if_pos y1] at q
      omega
    · by_cases y2 : l ≤ 32
      · omega
      · rw [if_neg y1, if_neg y2] at q
        omega
  have y3 : mI M a 29 ≠ 0 := fun y3 => by
    rw [z2, e, if_neg (by omega), if_pos lb.2, if_pos y3] at q
    exact absurd q (by decide)
  have v0 : v = 0 := by rw [e, if_neg (by omega), if_pos lb.2, if_neg y3]
  have ne : Nt9.2.2.2.2.2.2.2.2.1 ≠ [] := fun z => by
    rw [z] at l29
    exact y3 l29
  refine ⟨r2.sv.1.1, (s_MS_within lb.1 lb.2 r2.1 r2.sv).mono (fun x M3 q => ?_)⟩
  obtain ⟨W, -, -, w3, w4⟩ := r2.xe.2.2.2.2 ne
  obtain ⟨⟨o, f, S3, hx⟩, hk, hw⟩ := q
  obtain ⟨r3, F3, a3⟩ := r2.sol o f (fun x z => Or.inl z) S3 hk
  have ix : i32 x := i32s (by omega) (by omega)
  exact ⟨ix, o, ⟨ix, r3, F2.trans F3⟩, Or.inr (Or.inr ⟨lb, ne, by rw [a3, z2, v0], hw _ w3⟩)⟩
end PUC
end
section
/-! The reference's public methods: adopt, print, compare, billionths, choice, rank, next, check. -/
section PUD
variable {G : mG} {d a s n k w : Nat} {M M' M2 : mM} {S : Nat → Prop} {Nt9 : tP9}
theorem s_MS_billionths2 (hO : mOk M) (h : Sv M s n) (hk : k < n) (hw : w < 3) (hh : mI M (s + 30) w ≠ 0) : Ci G y_MS_billionths (d + 4) [vr s, vi k, vi w] M (fun r M' => i32 r ∧ mOk M' ∧ FI (vK s) M M' ∧ Sv M' s n) := by
  have hn5 := h.n5
  obtain ⟨a1, a2⟩ := h.frac hk hw hh
  have al := a1.low
  obtain ⟨V, g, c, e, t, W, -⟩ := id h
  have hp : 0 < wv M (frc s k w + 3) := a1.1.2.2.2.2
  have hb : wv M (frc s k w + 1) * 1000000000 / wv M (frc s k w + 3) < 2147483648 := by
    refine Int.lt_of_le_of_lt (Int.ediv_le_of_le_mul hp (b := 1000000000) ?_) (by omega)
    have := Int.mul_le_mul_of_nonneg_right al.1 (show (0 : Int) ≤ 1000000000 by omega)
    rw [Int.mul_comm 1000000000]
    exact this
  refine k_MS_billionths hO ⟨by omega, by omega⟩ ⟨by omega, by omega⟩ ?_
  rw [V.r11, V.n29, V.r0, a2]
  refine ⟨V.k0, V.k29, by omega, W.1.1.1, (s_MU_billionths (d := d) hO W.1 a1.1 (by unfold suO frc; omega) (by omega) (by omega) hb).mono (fun u M1 h1 => ?_)⟩
  obtain ⟨o1, f1, Z1, hu⟩ := h1
  have h0 : 0 ≤ u := by rw [hu]; exact Int.ediv_nonneg (Int.mul_nonneg a1.1.2.1.nonneg (by omega)) (by omega)
  exact ⟨⟨by omega, by omega⟩, o1, ⟨by omega, by omega⟩, o1, f1.mono (fun y q => by omega), h.out f1 (fun y q => by omega) (W.out f1 Z1 (fun y q => by omega))⟩
theorem s_MS_choiceOf2 (hO : mOk M) (h : Sv M s n) (hk : k < n) : Ci G y_MS_choiceOf d [vr s, vi k] M (fun r M' => M' = M ∧ i32 r) := by
  have hn5 := h.n5
  obtain ⟨V, -⟩ := id h
  refine k_MS_choiceOf hO ⟨by omega, by omega⟩ ?_
  rw [V.r15, V.n33]
  exact ⟨V.k0, V.k33, by omega, rfl, (hO _ _).1⟩
theorem s_MS_rankOf2 (hO : mOk M) (h : Sv M s n) (hk : k < n) : Ci G y_MS_rankOf d [vr s, vi k] M (fun r M' => M' = M ∧ i32 r) := by
  have hn5 := h.n5
  obtain ⟨V, -⟩ := id h
  refine k_MS_rankOf hO ⟨by omega, by omega⟩ ?_
  rw [V.r16, V.n34]
  exact ⟨V.k0, V.k34, by omega, rfl, (hO _ _).1⟩
theorem r_MM_adopt (h : RI Nt9 M a) : Cv G y_MM_adopt (d + 2) [vr a] M (fun M' => (RI Nt9 M' a ∧ FX M a M') ∧ mI M' a 0 = if Nt9.2.2.2.2.2.2.2.1.2.2 = 0 then 1 else 0) := by
  refine k_MM_adopt h.1 ?_
  rw [h.2.1.pl3.2.2.2.2.2.2.2.2]
  refine ⟨h.2.1.1.1, h.sv.1.1, (s_MS_hasValues h.1 h.sv).mono (fun x M1 q => ?_)⟩
  obtain ⟨e1, hx, ex⟩ := q
  subst e1
  refine ⟨i32s (by omega) (by omega), h.1, fun v e => ⟨h.2.1.1.1, fun M2 e2 => ?_⟩⟩
  have iv : i32 v := by rw [e]; split <;> exact ⟨by decide, by decide⟩
  obtain ⟨r2, F2, f2⟩ := h.step iv ⟨by decide, by decide, by decide⟩ e2
  rw [r2.2.1.pl3.2.2.2.2.2.2.2.2]
  have kne := h.xe.2.1.2
  have v2 : mI M2 a 0 = if Nt9.2.2.2.2.2.2.2.1.2.2 = 0 then 1 else 0 := by rw [f2, if_pos rfl, e, ex, kne]
  refine ⟨fun q => ?_, fun _ => ⟨⟨r2, F2⟩, v2⟩⟩
  have x0 : x ≠ 0 := fun z => by
    rw [f2, if_pos rfl, e, if_pos z] at q
    omega
  have e30 : mI M2 (a + 117 + 30) 0 = 1 := by
    rw [e2, mI_UI, if_neg (fun z => by omega), ← ex]
    omega
  refine ⟨r2.sv.1.1, (s_MS_adopt r2.1 r2.sv e30).mono (fun M3 q => ?_)⟩
  obtain ⟨o, f, S3⟩ := q
  obtain ⟨r3, F3, a3⟩ := r2.sol o (fi_vk f).1 (fun x z => Or.inl z) S3 (fi_vk f).2
  exact ⟨o, ⟨r3, F2.trans F3⟩, by rw [a3]; exact v2⟩
theorem r_MM_check (h : RI Nt9 M a) : Ci G y_MM_check (d + 1) [vr a] M (rQ Nt9 M a) := by
  refine k_MM_check h.1 ⟨h.2.1.1.1, fun M2 e2 => ?_⟩
  obtain ⟨r2, F2, -⟩ := h.step ⟨by decide, by decide⟩ ⟨by decide, by decide, by decide⟩ e2
  rw [r2.2.1.pl3.2.2.2.2.2.2.2.2]
  refine ⟨r2.sv.1.1, (s_MS_hasValues r2.1 r2.sv).mono (fun x M1 q => ?_)⟩
  obtain ⟨e1, hx, ex⟩ := q
  subst e1
  refine ⟨i32s (by omega) (by omega), r2.1, fun v e => ⟨?_, r2, F2⟩⟩
  rw [e]
  split <;> exact ⟨by decide, by decide⟩
theorem r_MM_billionths {l1 l2 : Int} (i1 : i32 l1) (i2 : i32 l2) (h : RI Nt9 M a) : Ci G y_MM_billionths (d + 5) [vr a, vi l1, vi l2] M (rQ Nt9 M a) := by
  refine k_MM_billionths h.1 i1 i2 ⟨h.2.1.1.1, fun M2 e2 => ?_⟩
  obtain ⟨r2, F2, -⟩ := h.step ⟨by decide, by decide⟩ ⟨by decide, by decide, by decide⟩ e2
  rw [r2.2.1.pl3.2.2.2.2.2.2.2.2]
  refine ⟨r2.sv.1.1, (s_MS_isThere i1 i2 r2.1 r2.sv).mono (fun x M1 q => ?_)⟩
  obtain ⟨e1, hx, ex⟩ := q
  subst e1
  rw [r2.2.1.pl3.2.2.2.2.2.2.2.2]
  refine ⟨i32s (by omega) (by omega), r2.1, fun _ => ⟨⟨by decide, by decide⟩, r2, F2⟩, fun y => ⟨r2.2.1.1.1, r2.sv.1.1, ?_⟩⟩
  obtain ⟨y1, y2, y3, y4, y5⟩ := ex.1 y
  clear ex
  have t := s_MS_billionths2 (G := G) (d := d) (k := l1.toNat) (w := l2.toNat) r2.1 r2.sv (by omega) (by omega) y5
  rw [Int.toNat_of_nonneg y1, Int.toNat_of_nonneg y3] at t
  refine t.mono (fun z M3 q => ?_)
  obtain ⟨iz, o, f, S3⟩ := q
  obtain ⟨r3, F3, -⟩ := r2.sol o (fi_vk f).1 (fun x z => Or.inl z) S3 (fi_vk f).2
  exact ⟨iz, o, iz, r3, F2.trans F3⟩
theorem r_MM_compare {l1 l2 l3 l4 : Int} (i1 : i32 l1) (i2 : i32 l2) (i3 : i32 l3) (i4 : i32 l4) (h : RI Nt9 M a) : Ci G y_MM_compare (d + 4) [vr a, vi l1, vi l2, vi l3, vi l4] M (rQ Nt9 M a) := by
  refine k_MM_compare h.1 i1 i2 i3 i4 ⟨h.2.1.1.1, fun M2 e2 => ?_⟩
  obtain ⟨r2, F2, -⟩ := h.step ⟨by decide, by decide⟩ ⟨by decide, by decide, by decide⟩ e2
  rw [r2.2.1.pl3.2.2.2.2.2.2.2.2]
  refine ⟨r2.sv.1.1, (s_MS_isThere i1 i2 r2.1 r2.sv).mono (fun x M1 q => ?_)⟩
  obtain ⟨e1, hx, ex⟩ := q
  subst e1
  rw [r2.2.1.pl3.2.2.2.2.2.2.2.2]
  refine ⟨i32s (by omega) (by omega), r2.1, fun _ => ⟨⟨by decide, by decide⟩, r2, F2⟩, fun y => ⟨r2.2.1.1.1, r2.sv.1.1, (s_MS_isThere i3 i4 r2.1 r2.sv).mono (fun x' M1 q => ?_)⟩⟩
  obtain ⟨e1, hx', ex'⟩ := q
  subst e1
  rw [r2.2.1.pl3.2.2.2.2.2.2.2.2]
  refine ⟨i32s (by omega) (by omega), r2.1, fun _ => ⟨⟨by decide, by decide⟩, r2, F2⟩, fun y' => ⟨r2.2.1.1.1, r2.sv.1.1, ?_⟩⟩
  obtain ⟨y1, y2, y3, y4, y5⟩ := ex.1 y
  obtain ⟨z1, z2, z3, z4, z5⟩ := ex'.1 y'
  clear ex ex'
  have t := s_MS_compare (G := G) (d := d) (k := l1.toNat) (w := l2.toNat) (j := l3.toNat) (w' := l4.toNat) r2.1 r2.sv (by omega) (by omega) y5 (by omega) (by omega) z5
  rw [Int.toNat_of_nonneg y1, Int.toNat_of_nonneg y3, Int.toNat_of_nonneg z1, Int.toNat_of_nonneg z3] at t
  refine t.mono (fun z M3 q => ?_)
  obtain ⟨o, f, S3, b1, b2⟩ := q
  obtain ⟨r3, F3, -⟩ := r2.sol o (fi_vk f).1 (fun x z => Or.inl z) S3 (fi_vk f).2
  have iz : i32 z := i32s (by omega) (by omega)
  exact ⟨iz, o, iz, r3, F2.trans F3⟩
theorem RI0.prn {v : Int} (h : RI0 Nt9 M a) (h0 : 0 ≤ v) (h1 : v ≤ 900) (e : M' = mUI M a 48 v) : RI0 Nt9 M' a ∧ FX M a M' := by
  obtain ⟨hO, w, ht, hx⟩ := h
  have hg := w.g9
  obtain ⟨m, f⟩ := mv_fld (v := v) (i32s (by omega) (by omega)) hO w e
  have no : ∀ q : Nat, False → q ∈ nums a := fun _ z => z.elim
  have tp := w.tape
  have aR := m.rfl_a w no
  obtain ⟨x1, x2, x3, x4, x5⟩ := hx
  have cI : ∀ x, x ≠ a → mI M' x = mI M x := fun x hx' => by rw [e]; funext j; rw [mI_UI, if_neg (fun z => hx' z.1)]
  refine ⟨⟨m.1, m.2.1, ⟨by rw [aR]; exact ht.1.sm (m.lst tp.1 (fun z => z)), by rw [aR, (m.lst tp.2.1 (fun z => z)).1]; exact ht.2⟩, ?_⟩, FR.mv m no (fun x z => by omega), ⟨⟨by rw [f, if_neg (by decide)], by rw [f, if_neg (by decide)], by rw [f, if_neg (by decide)]⟩, ⟨cI _ (by omega), cI _ (by omega), cI _ (by omega), cI _ (by omega), cI _ (by omega)⟩, ⟨by rw [e]; rfl, by rw [e]; rfl⟩, (m.lst (nums_o (by decide)) (fun z => z)).sl, (m.lst (nums_o (by decide)) (fun z => z)).sl, (m.lst (nums_o (by decide)) (fun z => z)).sl, (m.lst (nums_o (by decide)) (fun z => z)).sl, by rw [cI _ (by omega)], fun i p q => cI _ (by omega)⟩, by rw [f, if_neg (by decide)], by rw [cI _ (by omega)]⟩
  unfold RX
  rw [aR, f 29, if_neg (by decide), f 11, if_neg (by decide), f 48, if_pos rfl]
  refine ⟨x1, x2.ag (ag_mv w m no (fun x z => by omega)), fun q => gd_mv (x3 q) w hg m no (fun _ z => z.elim) (fun x z => by omega), fun q => ⟨(x4 q).1, ?_⟩, h0, h1, x5.2.2⟩
  obtain ⟨y1, y2, y3, y4⟩ := (x4 q).2
  have s9 := m.lst (q := a + 109) (nums_o (by decide)) (fun z => z)
  have s11 := m.lst (q := a + 111) (nums_o (by decide)) (fun z => z)
  have s13 := m.lst (q := a + 113) (nums_o (by decide)) (fun z => z)
  unfold XL mny
  rw [f 29, if_neg (by decide), s9.1, s11.1, s13.1, cI (a + 107) (by omega), cI (a + 108) (by omega), cI (a + 117 + 23) (by omega)]
  refine ⟨y1, y2, y3, fun i hi => ?_⟩
  rw [s11.2.1, s13.2.1]
  exact y4 i hi
theorem RI.prn {v : Int} (h : RI Nt9 M a) (h0 : 0 ≤ v) (h1 : v ≤ 900) (e : M' = mUI M a 48 v) : RI Nt9 M' a ∧ FX M a M' := by
  obtain ⟨a1, a2⟩ := h.r0.prn h0 h1 e
  exact ⟨a1.ri (h.xe.fx a2), a2⟩
theorem r_MM_print {l1 l2 : Int} (i1 : i32 l1) (i2 : i32 l2) (h : RI Nt9 M a) : Ci G y_MM_print (d + 5) [vr a, vi l1, vi l2] M (rQ Nt9 M a) := by
  refine k_MM_print h.1 i1 i2 ⟨h.2.1.1.1, fun M2 e2 => ?_⟩
  obtain ⟨r2, F2, -⟩ := h.step ⟨by decide, by decide⟩ ⟨by decide, by decide, by decide⟩ e2
  rw [r2.2.1.pl3.2.2.2.2.2.2.2.2]
  refine ⟨r2.sv.1.1, (s_MS_isThere i1 i2 r2.1 r2.sv).mono (fun x M1 q => ?_)⟩
  obtain ⟨e1, hx, ex⟩ := q
  subst e1
  rw [r2.2.1.pl3.2.2.2.2.2.2.2.2, r2.2.1.pl5.2]
  refine ⟨i32s (by omega) (by omega), r2.1, fun _ => ⟨⟨by decide, by decide⟩, r2, F2⟩, fun y => ⟨r2.2.1.1.1, r2.sv.1.1, ?_⟩⟩
  obtain ⟨y1, y2, y3, y4, y5⟩ := ex.1 y
  clear ex
  have B := r2.2.1.pl6.2.2.2
  have t := s_MS_print (G := G) (d := d) (k := l1.toNat) (w := l2.toNat) (o := a + 21191) r2.1 r2.sv (by omega) (by omega) y5 B.1 (by omega) (by omega)
  rw [Int.toNat_of_nonneg y1, Int.toNat_of_nonneg y3] at t
  refine t.mono (fun z M3 q => ?_)
  obtain ⟨o, f, S3, b0, b1⟩ := q
  obtain ⟨r3, F3, -⟩ := r2.sol o f (fun x z => by
    have z' : x = a + 117 + 12 ∨ x = a + 117 + 13 ∨ x = a + 117 + 67 ∨ x = a + 21191 := z
    by_cases u : x = a + 21191
    · exact Or.inr u
    · refine Or.inl ?_
      show a + 117 ≤ x ∧ x ≤ a + 117 + 21067 ∧ (x < a + 117 + 22 ∨ a + 117 + 28 < x)
      omega) S3 (by
    rw [f.2.2.2.2.2.2 (a + 117 + 30) (fun z => by
      have z' : a + 117 + 30 = a + 117 + 12 ∨ a + 117 + 30 = a + 117 + 13 ∨ a + 117 + 30 = a + 117 + 67 ∨ a + 117 + 30 = a + 21191 := z
      omega)])
  refine ⟨i32s (by omega) (by omega), o, r3.2.1.1.1, fun M4 e4 => ?_⟩
  obtain ⟨r4, F4⟩ := r3.prn b0 (by omega) e4
  exact ⟨(r4.1 _ _).1, r4, F2.trans (F3.trans F4)⟩
theorem r_MM_choice {l : Int} (hl : i32 l) (h : RI Nt9 M a) : Ci G y_MM_choice (d + 1) [vr a, vi l] M (rQ Nt9 M a) := by
  refine k_MM_choice h.1 hl ⟨h.2.1.1.1, (r_MM_isState hl h).mono (fun x M1 q => ?_)⟩
  obtain ⟨⟨ix, r1, F1⟩, hx⟩ := q
  rw [r1.2.1.pl3.2.2.2.2.2.2.2.2]
  refine ⟨ix, r1.1, fun _ => ⟨⟨by decide, by decide⟩, r1, F1⟩, fun y => ⟨r1.2.1.1.1, r1.sv.1.1, (s_MS_hasValues r1.1 r1.sv).mono (fun u M2 q => ?_)⟩⟩
  obtain ⟨e1, hu, -⟩ := q
  subst e1
  rw [r1.2.1.pl3.2.2.2.2.2.2.2.2]
  have b := hx y
  have t := s_MS_choiceOf2 (G := G) (d := d) (k := l.toNat) r1.1 r1.sv (by omega)
  rw [Int.toNat_of_nonneg b.1] at t
  refine ⟨i32s (by omega) (by omega), r1.1, fun _ => ⟨⟨by decide, by decide⟩, r1, F1⟩, fun _ => ⟨r1.2.1.1.1, r1.sv.1.1, t.mono (fun z M3 q => ?_)⟩⟩
  obtain ⟨e3, iz⟩ := q
  subst e3
  exact ⟨iz, r1.1, iz, r1, F1⟩
theorem r_MM_rank {l : Int} (hl : i32 l) (h : RI Nt9 M a) : Ci G y_MM_rank (d + 1) [vr a, vi l] M (rQ Nt9 M a) := by
  refine k_MM_rank h.1 hl ⟨h.2.1.1.1, (r_MM_isState hl h).mono (fun x M1 q => ?_)⟩
  obtain ⟨⟨ix, r1, F1⟩, hx⟩ := q
  rw [r1.2.1.pl3.2.2.2.2.2.2.2.2]
  refine ⟨ix, r1.1, fun _ => ⟨⟨by decide, by decide⟩, r1, F1⟩, fun y => ⟨r1.2.1.1.1, r1.sv.1.1, (s_MS_hasValues r1.1 r1.sv).mono (fun u M2 q => ?_)⟩⟩
  obtain ⟨e1, hu, -⟩ := q
  subst e1
  rw [r1.2.1.pl3.2.2.2.2.2.2.2.2]
  have b := hx y
  have t := s_MS_rankOf2 (G := G) (d := d) (k := l.toNat) r1.1 r1.sv (by omega)
  rw [Int.toNat_of_nonneg b.1] at t
  refine ⟨i32s (by omega) (by omega), r1.1, fun _ => ⟨⟨by decide, by decide⟩, r1, F1⟩, fun _ => ⟨r1.2.1.1.1, r1.sv.1.1, t.mono (fun z M3 q => ?_)⟩⟩
  obtain ⟨e3, iz⟩ := q
  subst e3
  exact ⟨iz, r1.1, iz, r1, F1⟩
theorem r_MM_next {l1 l2 : Int} (i1 : i32 l1) (i2 : i32 l2) (h : RI Nt9 M a) : Ci G y_MM_next (d + 2) [vr a, vi l1, vi l2] M (rQ Nt9 M a) := by
  refine k_MM_next h.1 i1 i2 ⟨h.2.1.1.1, (r_MM_isState i1 h).mono (fun x M1 q => ?_)⟩
  obtain ⟨⟨ix, r1, F1⟩, hx⟩ := q
  rw [r1.2.1.pl3.2.2.2.2.2.2.2.2]
  refine ⟨ix, r1.1, fun _ => ⟨⟨by decide, by decide⟩, r1, F1⟩, fun y => ⟨r1.2.1.1.1, r1.sv.1.1, ?_⟩⟩
  have b := hx (fun z => y (Or.inl z))
  have b2 : 0 ≤ l2 := Int.not_lt.mp (fun z => y (Or.inr z))
  have t := s_MS_nextOf (G := G) (d := d) (k := l1.toNat) (r := l2) b2 i2.2 r1.1 r1.sv (by omega)
  rw [Int.toNat_of_nonneg b.1] at t
  refine t.mono (fun z M3 q => ?_)
  obtain ⟨e3, hz⟩ := q
  subst e3
  have iz : i32 z := by
    rcases hz with ⟨-, z1⟩ | ⟨-, t', -, z1, -⟩
    · rw [z1]; exact i1
    · rw [z1]; exact (r1.1 _ _).1
  exact ⟨iz, r1.1, iz, r1, F1⟩
end PUD
end
section
/-! The reference's compile and explore, with what was explored. -/
section PUE
variable {G : mG} {d a : Nat} {M M' : mM} {Nt9 : tP9}
/-- the latest fault is at p -/
def plc (i : tI9) (p : Int) : tI9 := (i.1, i.2.1, i.2.2.1, i.2.2.2.1, i.2.2.2.2.1, (p, i.2.2.2.2.2.1.2), i.2.2.2.2.2.2)
/-- what exploring leaves -/
def exp9 (i : tI9) : tI9 := (i.1, i.2.1, i.2.2.1, i.2.2.2.1, i.2.2.2.2.1, exG i.2.2.2.2.1)
theorem RI0.e9 {l : Int} {c : Nat → Int} {i : tI9} {e : tE9} (h : RI0 (l, c, i) M a) : RI0 (l, c, i.1, i.2.1, i.2.2.1, i.2.2.2.1, i.2.2.2.2.1, e) M a := by
  obtain ⟨h1, h2, h3, h4, h5, h6, h7, h8⟩ := h
  exact ⟨h1, h2, h3, h4, h5, h6, h7, h8⟩
theorem r_MM_compile (hWK : WKx G kwx) (h : RI Nt9 M a) : Ci G y_MM_compile (d + 12) [vr a] M (fun r M' => ∃ i8 : tI9, ((i32 r ∧ RI (z9 i8) M' a ∧ FR M a M') ∧ cmR Nt9.2.1 Nt9.1.toNat a r (mI M' a 12) (i8.2.1, i8.2.2.1, i8.2.2.2.1, i8.2.2.2.2.1)) ∧ ((r ≠ 0 ∧ i8 = plc Nt9.2.2 (mI M' a 12)) ∨ (r = 0 ∧ i8.1 = 1 ∧ i8.2.2.2.2.2 = ((-1, Nt9.2.2.2.2.2.2.2.1.2.1, 0), [], []) ∧ mI M' a 12 = -1))) := by
  refine (x_MM_compile hWK h.r0).mono (fun r M' q => ?_)
  obtain ⟨i8, ⟨⟨q1, q2, q3⟩, q4⟩, q5⟩ := q
  obtain ⟨x1, x2, x3, x4, x5⟩ := h.xe
  rcases q5 with ⟨z, e8, k, k9⟩ | ⟨z, ⟨e81, e82⟩, k29, k30, k31⟩
  · subst e8
    refine ⟨plc Nt9.2.2 (mI M' a 12), ⟨⟨q1, (RI0.e9 (e := ((mI M' a 12, Nt9.2.2.2.2.2.2.2.1.2), Nt9.2.2.2.2.2.2.2.2)) q2).ri ⟨rfl, ⟨by rw [k.1.2.1]; exact x2.1, k9.trans x2.2⟩, by rw [k.1.1]; exact x3, x4, fun u => ?_⟩, q3⟩, q4⟩, Or.inl ⟨z, rfl⟩⟩
    obtain ⟨W, w1, w2, w3, w4⟩ := x5 u
    exact ⟨W, w1, w2.xe k, w3.xe k, w4⟩
  · have p12 : mI M' a 12 = -1 := by
      obtain ⟨Mw, N, -, -, -, y⟩ := q4
      rcases y with ⟨y, -⟩ | ⟨-, -, sF, -, y⟩
      · rw [y] at z
        exact absurd z (by decide)
      · rcases y with ⟨y1, y2, -⟩ | ⟨-, -, y3, -⟩
        · exact absurd (y2.symm.trans z) y1
        · exact y3
    refine ⟨i8, ⟨⟨q1, q2.ri ?_, q3⟩, q4⟩, Or.inr ⟨z, e81, e82, p12⟩⟩
    show XE i8 M' a
    unfold XE
    rw [e82]
    exact ⟨p12, ⟨by rw [k30]; exact x2.1, k31⟩, k29, fun _ => rfl, fun u => absurd rfl u⟩
theorem xU.xe (h : xU M M' a) (w : Wd M a) : xeF M M' a ∧ mI M' a 12 = mI M a 12 ∧ mI M' (a + 117 + 30) 0 = mI M (a + 117 + 30) 0 := by
  obtain ⟨h1, h2, h3, h4⟩ := h
  have s : ∀ q, q ∈ nums a → sl M M' q := fun q hq => by
    have n1 := nums_in hq
    have na : mR M q 0 ≠ a := by
      rcases (w.arr hq).2 with y | y <;> omega
    refine ⟨by unfold ln; rw [h3 q (by omega)], fun j => ?_⟩
    unfold nt
    rw [h1, h3 _ na]
  exact ⟨⟨⟨h4 29 (by decide), h4 30 (by decide), h4 40 (by decide)⟩, ⟨h3 _ (by omega), h3 _ (by omega), h3 _ (by omega), h3 _ (by omega), h3 _ (by omega)⟩, by rw [h2]; exact ⟨rfl, rfl⟩, s _ (nums_o (by decide)), s _ (nums_o (by decide)), s _ (nums_o (by decide)), s _ (nums_o (by decide)), by rw [h3 _ (by omega)], fun i p q => h3 _ (by omega)⟩, h4 12 (by decide), by rw [h3 _ (by omega)]⟩
theorem r_MM_explore (h : RI Nt9 M a) : Ci G y_MM_explore (d + 10) [vr a] M (fun r M' => ∃ n1 : tP9, (i32 r ∧ RI n1 M' a ∧ FR M a M') ∧ ((Nt9.2.2.1 = 0 ∧ n1 = Nt9 ∧ mI M' a 0 = 1) ∨ (Nt9.2.2.1 ≠ 0 ∧ n1 = (Nt9.1, Nt9.2.1, exp9 Nt9.2.2) ∧ r = Nt9.2.2.2.2.2.2.1.1.1 ∧ mI M' a 0 = 0))) := by
  refine (x_MM_expl (d := d) h.r0).mono (fun r M' q => ?_)
  obtain ⟨⟨q1, q2, q3⟩, q4⟩ := q
  rcases q4 with ⟨y1, y2, y3⟩ | ⟨y1, ⟨W, w1, w2⟩, y3⟩
  · obtain ⟨k1, k2, k3⟩ := y3.xe h.2.1
    exact ⟨Nt9, ⟨q1, q2.ri (h.xe.xe k1 k2 k3), q3⟩, Or.inl ⟨y1, rfl, y2⟩⟩
  · obtain ⟨e1, e2⟩ := w2.xe (i9 := exp9 Nt9.2.2) w1 rfl
    exact ⟨(Nt9.1, Nt9.2.1, exp9 Nt9.2.2), ⟨q1, (RI0.e9 (l := Nt9.1) (c := Nt9.2.1) (i := Nt9.2.2) (e := exG Nt9.2.2.2.2.2.2.1) q2).ri e1, q3⟩, Or.inr ⟨y1, rfl, e2, y3⟩⟩
end PUE
end
section
/-! The reference answers the questions about the states as the tables say. -/
section RAS
variable {G : mG} {d a : Nat} {M M' : mM} {Nt9 : tP9} {i9 : tI9}
theorem XE.st (h : XE i9 M a) (l : Int) : stA9 i9.2.2.2.2.2.2.2 l = if 0 ≤ l ∧ l < mI M a 29 then some (stR M a l.toNat) else none := by
  obtain ⟨-, -, h3, h4, h5⟩ := h
  unfold stA9
  by_cases y : l < 0
  · rw [if_pos y, if_neg (by omega)]
  rw [if_neg y]
  by_cases z : i9.2.2.2.2.2.2.1 = []
  · rw [h4 z, if_neg (by rw [h3, z]; show ¬ (0 ≤ l ∧ l < ((0 : Nat) : Int)); omega)]
    all_goals rfl
  · obtain ⟨W, -, ⟨L, w, B, -, -, -, -, -, -, -, -, hT⟩, -⟩ := h5 z
    rw [← hT]
    unfold xtR
    rw [rget]
    by_cases u : 0 ≤ l ∧ l < mI M a 29
    · rw [if_pos u, if_pos (by omega)]
    · rw [if_neg u, if_neg (by omega)]
/-- the tables of a state that is there -/
theorem XE.xf (h : XE i9 M a) {l : Int} (hl : 0 ≤ l ∧ l < mI M a 29) : ∃ W : Nat, (W : Int) = i9.2.1 ∧ XF M a W i9.2.2.2.2.2.2.1 i9.2.2.2.2.2.2.2 := by
  obtain ⟨-, -, h3, -, h5⟩ := h
  have ne : i9.2.2.2.2.2.2.1 ≠ [] := fun z => by
    rw [z] at h3
    have : mI M a 29 = ((0 : Nat) : Int) := h3
    omega
  obtain ⟨W, w1, w2, -⟩ := h5 ne
  exact ⟨W, w1, w2⟩
theorem e_MM_isState {l : Int} (hl : i32 l) (h : RI Nt9 M a) : Ci G y_MM_isState d [vr a, vi l] M (fun r M' => rQ Nt9 M a r M' ∧ (r ≠ 0 ↔ (0 ≤ l ∧ l < mI M' a 29))) := by
  refine k_MM_isState h.1 hl ⟨h.2.1.1.1, fun M2 e2 v e => ?_⟩
  obtain ⟨r2, F2, -⟩ := h.step ⟨by decide, by decide⟩ ⟨by decide, by decide, by decide⟩ e2
  by_cases y : l < 0 ∨ mI M2 a 29 ≤ l
  · rw [if_pos y] at e
    exact ⟨⟨by rw [e]; exact ⟨by decide, by decide⟩, r2, F2⟩, fun z => absurd e z, fun z => by omega⟩
  · rw [if_neg y] at e
    exact ⟨⟨by rw [e]; exact ⟨by decide, by decide⟩, r2, F2⟩, fun _ => by omega, fun _ => by rw [e]; decide⟩
theorem e_MM_kind {l : Int} (hl : i32 l) (h : RI Nt9 M a) : Ci G y_MM_kind (d + 1) [vr a, vi l] M (fun r M' => rQ Nt9 M a r M' ∧ r = kdA9 Nt9.2.2.2.2.2.2.2.2.2 l) := by
  refine k_MM_kind h.1 hl ⟨h.2.1.1.1, (e_MM_isState hl h).mono (fun x M1 q => ?_)⟩
  obtain ⟨⟨ix, r1, F1⟩, hx⟩ := q
  have b := r1.n5
  have A := r1.2.1.pl4
  rw [r1.2.1.pl3.2.1]
  refine ⟨ix, r1.1, fun y => ⟨r1.2.1.1.1, A.2.1.1, by rw [A.2.1.2]; have := hx.mp y; omega⟩, fun v e => ⟨⟨?_, r1, F1⟩, ?_⟩⟩
  · rw [e]
    split
    · exact ⟨by decide, by decide⟩
    · exact (r1.1 _ _).1
  · unfold kdA9
    rw [e, r1.xe.st]
    by_cases y : x = 0
    · rw [if_pos y, if_neg (fun z => (hx.mpr z) y)]
      all_goals rfl
    · rw [if_neg y, if_pos (hx.mp y)]
      all_goals rfl
theorem e_MM_commands {l : Int} (hl : i32 l) (h : RI Nt9 M a) : Ci G y_MM_commands (d + 1) [vr a, vi l] M (fun r M' => rQ Nt9 M a r M' ∧ r = cnA9 Nt9.2.2.2.2.2.2.2.2.2 l) := by
  refine k_MM_commands h.1 hl ⟨h.2.1.1.1, (e_MM_isState hl h).mono (fun x M1 q => ?_)⟩
  obtain ⟨⟨ix, r1, F1⟩, hx⟩ := q
  have b := r1.n5
  have A := r1.2.1.pl4
  rw [r1.2.1.pl3.2.2.2.1]
  refine ⟨ix, r1.1, fun y => ⟨r1.2.1.1.1, A.2.2.2.1, by rw [A.2.2.2.2]; have := hx.mp y; omega⟩, fun v e => ⟨⟨?_, r1, F1⟩, ?_⟩⟩
  · rw [e]
    split
    · exact ⟨by decide, by decide⟩
    · exact (r1.1 _ _).1
  · unfold cnA9
    rw [e, r1.xe.st]
    by_cases y : x = 0
    · rw [if_pos y, if_neg (fun z => (hx.mpr z) y)]
      all_goals rfl
    · have z := hx.mp y
      rw [if_neg y, if_pos z]
      have y1 := ((r1.2.2.2.2.2.2.1 (by omega)).2.1 l.toNat (by omega)).2.1
      show mI M1 (a + 108) l.toNat = (((cmL M1 a (mI M1 (a + 107) l.toNat).toNat (mI M1 (a + 108) l.toNat).toNat).length : Nat) : Int)
      unfold cmL
      rw [List.length_map, List.length_range]
      omega
/-- a command: where it stands -/
def cpR (M : mM) (a : Nat) (l1 l2 : Int) : Prop := (0 ≤ l1 ∧ l1 < mI M a 29) ∧ 0 ≤ l2 ∧ l2 < mI M (a + 108) l1.toNat
theorem e_MM_isCommand {l1 l2 : Int} (i1 : i32 l1) (i2 : i32 l2) (h : RI Nt9 M a) : Ci G y_MM_isCommand (d + 1) [vr a, vi l1, vi l2] M (fun r M' => rQ Nt9 M a r M' ∧ (r ≠ 0 ↔ cpR M' a l1 l2)) := by
  refine k_MM_isCommand h.1 i1 i2 ⟨h.2.1.1.1, (e_MM_isState i1 h).mono (fun x M1 q => ?_)⟩
  obtain ⟨⟨ix, r1, F1⟩, hx⟩ := q
  have b := r1.n5
  have A := r1.2.1.pl4
  rw [r1.2.1.pl3.2.2.2.1]
  refine ⟨ix, r1.1, fun y _ => ⟨r1.2.1.1.1, A.2.2.2.1, by rw [A.2.2.2.2]; have := hx.mp y; omega⟩, fun v e => ?_⟩
  by_cases y : x = 0 ∨ l2 < 0 ∨ mI M1 (a + 108) l1.toNat ≤ l2
  · rw [if_pos y] at e
    exact ⟨⟨by rw [e]; exact ⟨by decide, by decide⟩, r1, F1⟩, fun z => absurd e z, fun z => by
      rcases y with y | y | y
      · exact absurd y (hx.mpr z.1)
      · exact absurd z.2.1 (by omega)
      · exact absurd z.2.2 (by omega)⟩
  · rw [if_neg y] at e
    exact ⟨⟨by rw [e]; exact ⟨by decide, by decide⟩, r1, F1⟩, fun _ => ⟨hx.mp (by omega), by omega, by omega⟩, fun _ => by rw [e]; decide⟩
theorem XE.cm1 (h : XE i9 M a) {l1 l2 : Int} (n : ¬ cpR M a l1 l2) : cmA9 i9.2.2.2.2.2.2.2 l1 l2 = none := by
  unfold cmA9
  rw [h.st]
  by_cases y : 0 ≤ l1 ∧ l1 < mI M a 29
  · rw [if_pos y]
    show (if l2 < 0 then none else (cmL M a (mI M (a + 107) l1.toNat).toNat (mI M (a + 108) l1.toNat).toNat)[l2.toNat]?) = _
    by_cases z : l2 < 0
    · rw [if_pos z]
    · rw [if_neg z]
      unfold cmL
      rw [rget, if_neg (fun u => n ⟨y, by omega, by omega⟩)]
  · rw [if_neg y]
    all_goals rfl
theorem XE.cm2 (h : XE i9 M a) {l1 l2 : Int} (c : cpR M a l1 l2) : cmA9 i9.2.2.2.2.2.2.2 l1 l2 = some (cmQ M a ((mI M (a + 107) l1.toNat).toNat + l2.toNat)) := by
  obtain ⟨y, z, u⟩ := c
  unfold cmA9
  rw [h.st, if_pos y]
  show (if l2 < 0 then none else (cmL M a (mI M (a + 107) l1.toNat).toNat (mI M (a + 108) l1.toNat).toNat)[l2.toNat]?) = _
  rw [if_neg (by omega)]
  unfold cmL
  rw [rget, if_pos (by omega)]
theorem e_MM_branches {l1 l2 : Int} (i1 : i32 l1) (i2 : i32 l2) (h : RI Nt9 M a) : Ci G y_MM_branches (d + 2) [vr a, vi l1, vi l2] M (fun r M' => rQ Nt9 M a r M' ∧ r = bnA9 Nt9.2.2.2.2.2.2.2.2.2 l1 l2) := by
  refine k_MM_branches h.1 i1 i2 ⟨h.2.1.1.1, (e_MM_isCommand i1 i2 h).mono (fun x M1 q => ?_)⟩
  obtain ⟨⟨ix, r1, F1⟩, hx⟩ := q
  have b := r1.n5
  have w := r1.2.1
  refine ⟨ix, r1.1, fun u => ⟨⟨⟨by decide, by decide⟩, r1, F1⟩, ?_⟩, fun y => ?_⟩
  · unfold bnA9
    rw [r1.xe.cm1 (fun z => (hx.mpr z) u)]
    all_goals rfl
  have hc := hx.mp y
  have cm := r1.xe.cm2 hc
  obtain ⟨q1, q2, q3⟩ := hc
  obtain ⟨j, e, j1, j2, j3, -, j5, -⟩ := r1.cm q1 q2 q3
  have y1 := ((r1.2.2.2.2.2.2.1 (by omega)).2.1 l1.toNat (by omega)).1
  have ej : (mI M1 (a + 107) l1.toNat).toNat + l2.toNat = j := by omega
  rw [ej] at cm
  have A := w.pl4
  rw [w.pl3.2.2.1, w.pl3.2.2.2.2.2.2.1, e]
  have hN := w.nu (p := a + 113) (nums_o (by decide))
  refine ⟨w.1.1, A.2.2.1.1, by rw [A.2.2.1.2]; omega, hN.1, (s_MN_at r1.1 hN (by omega)).mono (fun z M2 q2 => ?_)⟩
  obtain ⟨e2, e3⟩ := q2
  subst e2
  have iz : i32 z := by rw [e3]; exact (r1.1 _ _).1
  refine ⟨iz, r1.1, ⟨iz, r1, F1⟩, ?_⟩
  unfold bnA9
  rw [cm, e3]
  show nt M2 (a + 113) j = (((brR M2 a (nt M2 (a + 111) j).toNat (nt M2 (a + 115) j) (nt M2 (a + 113) j).toNat).length : Nat) : Int)
  unfold brR
  rw [List.length_map, List.length_range]
  omega
theorem e_MM_branch1 {l1 l2 l3 l4 : Int} (i1 : i32 l1) (i2 : i32 l2) (i3 : i32 l3) (i4 : i32 l4) (h : RI Nt9 M a) : Ci G y_MM_branch1 (d + 2) [vr a, vi l1, vi l2, vi l3, vi l4] M (fun r M' => (RI Nt9 M' a ∧ FX M a M') ∧ r = brA9 Nt9.2.2.2.2.2.2.2.2.2 l1 l2 l3 l4) := by
  refine k_MM_branch1 h.1 i1 i2 i3 i4 ⟨h.2.1.1.1, (e_MM_isCommand i1 i2 h).mono (fun x M1 q => ?_)⟩
  obtain ⟨⟨ix, r1, F1⟩, hx⟩ := q
  have b := r1.n5
  have w := r1.2.1
  refine ⟨ix, r1.1, fun u => ⟨⟨r1, F1⟩, ?_⟩, fun y => ?_⟩
  · unfold brA9
    by_cases hc : cpR M1 a l1 l2
    · rw [r1.xe.cm2 hc]
      have u3 : l3 < 0 := by
        rcases u with u | u
        · exact absurd u (hx.mpr hc)
        · exact u
      show -1 = ((bqA9 _ l3).map _).getD (-1)
      unfold bqA9
      rw [if_pos u3]
      all_goals rfl
    · rw [r1.xe.cm1 hc]
      all_goals rfl
  have hc := hx.mp (fun z => y (Or.inl z))
  have cm := r1.xe.cm2 hc
  obtain ⟨q1, q2, q3⟩ := hc
  obtain ⟨j, e, j1, j2, j3, j4, j5, j6, -⟩ := r1.cm q1 q2 q3
  have y1 := ((r1.2.2.2.2.2.2.1 (by omega)).2.1 l1.toNat (by omega)).1
  have ej : (mI M1 (a + 107) l1.toNat).toNat + l2.toNat = j := by omega
  rw [ej] at cm
  have y3 : 0 ≤ l3 := Int.not_lt.mp (fun z => y (Or.inr z))
  have A := w.pl4
  rw [w.pl3.2.2.1, w.pl3.2.2.2.2.2.2.1, e]
  have hN := w.nu (p := a + 113) (nums_o (by decide))
  have hN1 := w.nu (p := a + 111) (nums_o (by decide))
  refine ⟨w.1.1, A.2.2.1.1, by rw [A.2.2.1.2]; omega, hN.1, (s_MN_at r1.1 hN (by omega)).mono (fun z M2 q2 => ?_)⟩
  obtain ⟨e2, e3⟩ := q2
  subst e2
  have iz : i32 z := by rw [e3]; exact (r1.1 _ _).1
  have bq : bqA9 (cmQ M2 a j) l3 = if l3 < z then some ((mI M2 (a + 21185) ((nt M2 (a + 111) j).toNat + l3.toNat)).toNat, mL M2 (a + 21186) ((nt M2 (a + 111) j).toNat + l3.toNat) * (nt M2 (a + 115) j / mL M2 (a + 21187) ((nt M2 (a + 111) j).toNat + l3.toNat))) else none := by
    unfold bqA9
    rw [if_neg (by omega)]
    show (brR M2 a (nt M2 (a + 111) j).toNat (nt M2 (a + 115) j) (nt M2 (a + 113) j).toNat)[l3.toNat]? = _
    unfold brR
    rw [rget, e3]
    by_cases u : l3 < nt M2 (a + 113) j
    · rw [if_pos (by omega), if_pos u]
    · rw [if_neg (by omega), if_neg u]
  refine ⟨iz, r1.1, fun u => ⟨⟨r1, F1⟩, ?_⟩, fun u => ?_⟩
  · unfold brA9
    rw [cm]
    show -1 = ((bqA9 (cmQ M2 a j) l3).map (b1A9 (nt M2 (a + 115) j) l4)).getD (-1)
    rw [bq]
    by_cases v : l3 < z
    · rw [if_pos v]
      show -1 = b1A9 _ l4 _
      unfold b1A9
      rw [if_neg (by omega), if_neg (by omega), if_neg (by omega)]
    · rw [if_neg v]
      all_goals rfl
  have uz : l3 < z := Int.not_le.mp (fun t => u (Or.inl t))
  rw [if_pos uz] at bq
  rw [w.pl3.2.2.1, w.pl3.2.2.2.2.2.1, e]
  refine ⟨w.1.1, A.2.2.1.1, by rw [A.2.2.1.2]; omega, hN1.1, (s_MN_at r1.1 hN1 (by omega)).mono (fun t M3 q3 => ?_)⟩
  obtain ⟨e4, e5⟩ := q3
  subst e4
  have it : i32 t := by rw [e5]; exact (r1.1 _ _).1
  have B := w.pl6
  have C := w.pl5
  have bt : (0 : Int) ≤ t + l3 ∧ t + l3 < ((4096 : Nat) : Int) := by omega
  rw [C.1.1, C.1.2.1, C.1.2.2, B.1.2, B.2.1.2, B.2.2.1.2]
  refine ⟨it, r1.1, ⟨fun _ => ⟨w.1.1, B.1.1, bt⟩, fun _ => ⟨fun _ => ⟨w.1.1, B.2.1.1, bt⟩, fun _ => ⟨w.1.1, B.2.2.1.1, bt⟩⟩⟩, fun v ev => ⟨⟨r1, F1⟩, ?_⟩⟩
  obtain ⟨W, -, L, wn, Bn, -, -, hWy, ⟨hL, -⟩, ⟨hB0, hBL⟩, hok, hWc, -⟩ := r1.xe.xf q1
  have jL : j < L := by rw [hL] at j1; omega
  have ok := hok j jL
  have mono : ∀ m k, k + m ≤ L → Bn k ≤ Bn (k + m) := fun m => by
    induction m with
    | zero => exact fun k _ => Nat.le_refl _
    | succ m ih => exact fun k hk => Nat.le_trans (ih k (by omega)) (Nat.le_of_lt (hok (k + m) (by omega)).1.1)
  have bL : Bn (j + 1) ≤ wn := by
    have := mono (L - (j + 1)) (j + 1) (by omega)
    rw [show j + 1 + (L - (j + 1)) = L by first | rfl | omega, hBL] at this
    exact this
  obtain ⟨⟨o1, o2⟩, ⟨o3, o4⟩, ⟨o5, o6⟩, o7, -⟩ := ok
  have ei : (t + l3).toNat = (nt M3 (a + 111) j).toNat + l3.toNat := by omega
  have eB : (nt M3 (a + 111) j).toNat = Bn j := by omega
  have lt : l3.toNat < Bn (j + 1) - Bn j := by omega
  have Wyj := hWy (Bn j + l3.toNat) (by omega)
  have Wcj := hWc (Bn j + l3.toNat) (by omega)
  have dv := o7 (Bn j + l3.toNat) (by omega) (by omega)
  rw [ei, eB] at ev
  rw [eB] at bq
  unfold brA9
  rw [cm]
  show v = ((bqA9 (cmQ M3 a j) l3).map (b1A9 (nt M3 (a + 115) j) l4)).getD (-1)
  rw [bq]
  show v = b1A9 (nt M3 (a + 115) j) l4 _
  unfold b1A9
  have lw := low9 Wyj.2.1.1 Wyj.2.2.1 (show 0 < nt M3 (a + 115) j by omega) Wcj dv
  rw [ev]
  by_cases u0 : l4 = 0
  · rw [if_pos u0, if_pos u0]
    show _ = (((mI M3 (a + 21185) (Bn j + l3.toNat)).toNat : Nat) : Int)
    have := Wyj.1.1
    omega
  · rw [if_neg u0, if_neg u0]
    by_cases u1 : l4 = 1
    · rw [if_pos u1, if_pos u1]
      exact lw.1.symm
    · rw [if_neg u1, if_neg u1, if_pos (by omega)]
      exact lw.2.symm
theorem e_MM_variable {l1 l2 : Int} (i1 : i32 l1) (i2 : i32 l2) (h : RI Nt9 M a) : Ci G y_MM_variable d [vr a, vi l1, vi l2] M (fun r M' => rQ Nt9 M a r M' ∧ ((¬ ((0 ≤ l1 ∧ l1 < ((Nt9.2.2.2.2.2.2.2.2.1.length : Nat) : Int)) ∧ (0 ≤ l2 ∧ l2 < Nt9.2.2.2.1)) ∧ mI M' a 0 = 1) ∨ (((0 ≤ l1 ∧ l1 < ((Nt9.2.2.2.2.2.2.2.2.1.length : Nat) : Int)) ∧ (0 ≤ l2 ∧ l2 < Nt9.2.2.2.1)) ∧ mI M' a 0 = 0 ∧ r = vaA9 Nt9.2.2.2.2.2.2.2.2.1 l1 l2))) := by
  have k9 := (h.2.1.gp h.2.1.g9).1
  refine k_MM_variable h.1 i1 i2 ⟨fun _ => ⟨h.2.1.1.1, fun _ _ => k9⟩, fun v e => ⟨h.2.1.1.1, fun M2 e2 => ?_⟩⟩
  have iv : i32 v := by rw [e]; split <;> exact ⟨by decide, by decide⟩
  obtain ⟨r2, F2, f2⟩ := h.step iv ⟨by decide, by decide, by decide⟩ e2
  have n29 := h.xe.2.2.1
  have gw : mI M a 11 ≠ 0 → mI M (mR M a 9) 12 = Nt9.2.2.2.1 ∧ Nt9.2.2.2.1 ≤ 12 := fun kn => by
    obtain ⟨T, R, W, C, Z, E, tg, g1, g2, g3, g4, g5, g6, q1, -⟩ := h.2.2.2.2.2.1 kn
    have bW := g5.1
    have eW := g3.2.1
    exact ⟨q1, by rw [← q1]; omega⟩
  refine ⟨fun q => ?_, fun v18 e18 => ⟨⟨?_, r2, F2⟩, ?_⟩⟩
  · have b := h.2.2.2.1
    rw [f2, if_pos rfl] at q
    by_cases y : l1 < 0 ∨ mI M a 29 ≤ l1 ∨ l2 < 0 ∨ ¬ l2 < mI M (mR M a 9) 12
    · rw [if_pos y] at e
      omega
    · have kn : mI M a 11 ≠ 0 := (h.2.2.2.2.2.2.1 (by omega)).1
      have := gw kn
      rw [r2.2.1.pl3.1, r2.2.1.pl4.1.1, r2.2.1.pl4.1.2]
      exact ⟨rfl, by omega, by omega⟩
  · rw [e18]
    split
    · exact (r2.1 _ _).1
    · exact ⟨by decide, by decide⟩
  · have v0 : mI M2 a 0 = v := by rw [f2, if_pos rfl]
    rw [v0] at e18 ⊢
    by_cases y : l1 < 0 ∨ mI M a 29 ≤ l1 ∨ l2 < 0 ∨ ¬ l2 < mI M (mR M a 9) 12
    · rw [if_pos y] at e
      refine Or.inl ⟨fun z => ?_, e⟩
      have kn : mI M a 11 ≠ 0 := (h.2.2.2.2.2.2.1 (by omega)).1
      have := gw kn
      omega
    · rw [if_neg y] at e
      have kn : mI M a 11 ≠ 0 := (h.2.2.2.2.2.2.1 (by omega)).1
      have gg := gw kn
      have rg : (0 ≤ l1 ∧ l1 < ((Nt9.2.2.2.2.2.2.2.2.1.length : Nat) : Int)) ∧ (0 ≤ l2 ∧ l2 < Nt9.2.2.2.1) := ⟨⟨by omega, by omega⟩, by omega, by omega⟩
      refine Or.inr ⟨rg, e, ?_⟩
      rw [if_pos (by omega), r2.2.1.pl3.1] at e18
      have n2 : mI M2 a 29 = mI M a 29 := by rw [f2, if_neg (by decide)]
      obtain ⟨W, hW, L, wn, Bn, -, -, -, -, -, -, -, hS, -⟩ := r2.xe.xf (l := l1) (by rw [n2]; omega)
      unfold vaA9
      rw [← hS]
      unfold SmR
      rw [rget, if_pos (by omega)]
      show v18 = ((lsR M2 a W l1.toNat)[l2.toNat]?).getD 0
      unfold lsR
      rw [rget, if_pos (by omega), e18]
      show _ = mI M2 (a + 105) (12 * l1.toNat + l2.toNat)
      rw [show (12 * l1 + l2).toNat = 12 * l1.toNat + l2.toNat by first | rfl | omega]
end RAS
end
section
/-! The reference's choose: whether it is refused. -/
section RCH
variable {G : mG} {d a : Nat} {M M' : mM} {Nt9 : tP9} {i9 : tI9}
theorem e_MM_choose1 {l1 l2 : Int} (i1 : i32 l1) (i2 : i32 l2) (h : RI Nt9 M a) : Cv G y_MM_choose1 (d + 2) [vr a, vi l1, vi l2] M (fun M' => (RI Nt9 M' a ∧ FX M a M') ∧ ((cmA9 Nt9.2.2.2.2.2.2.2.2.2 l1 l2 = none ∧ mI M' a 0 = 1) ∨ (cmA9 Nt9.2.2.2.2.2.2.2.2.2 l1 l2 ≠ none ∧ mI M' a 0 = 0))) := by
  refine k_MM_choose1 h.1 i1 i2 ⟨h.2.1.1.1, (e_MM_isCommand i1 i2 h).mono (fun x M1 q => ?_)⟩
  obtain ⟨⟨ix, r1, F1⟩, hx⟩ := q
  refine ⟨ix, r1.1, fun v e => ⟨r1.2.1.1.1, fun M2 e2 => ?_⟩⟩
  have iv : i32 v := by rw [e]; split <;> exact ⟨by decide, by decide⟩
  obtain ⟨r2, F2, f2⟩ := r1.step iv ⟨by decide, by decide, by decide⟩ e2
  rw [r2.2.1.pl3.2.2.2.2.2.2.2.2]
  refine ⟨fun q => ?_, fun q => ⟨⟨r2, F1.trans F2⟩, Or.inl ?_⟩⟩
  · have x0 : x ≠ 0 := fun z => by
      rw [f2, if_pos rfl, e, if_pos z] at q
      omega
    have hc := hx.mp x0
    have cm := r1.xe.cm2 hc
    obtain ⟨q1, q2, q3⟩ := hc
    have e8 : mI M2 (a + 108) = mI M1 (a + 108) := by rw [e2]; funext j; rw [mI_UI, if_neg (fun z => by omega)]
    have e29 : mI M2 a 29 = mI M1 a 29 := by rw [f2, if_neg (by decide)]
    obtain ⟨j, -, -, -, -, -, -, -, j7⟩ := r2.cm (by rw [e29]; exact q1) q2 (by rw [e8]; exact q3)
    have t := s_MS_tell (G := G) (d := d + 1) (k := l1.toNat) (i := l2.toNat) r2.1 r2.sv (by omega) (by omega)
    rw [Int.toNat_of_nonneg q1.1, Int.toNat_of_nonneg q2] at t
    refine ⟨r2.sv.1.1, t.mono (fun M3 q => ?_)⟩
    obtain ⟨o, f, S3⟩ := q
    obtain ⟨r3, F3, e3⟩ := r2.sol o (fi_vk f).1 (fun x z => Or.inl z) S3 (fi_vk f).2
    exact ⟨o, ⟨r3, F1.trans (F2.trans F3)⟩, Or.inr ⟨by rw [cm]; exact Option.some_ne_none _, by rw [e3, f2, if_pos rfl, e, if_neg x0]⟩⟩
  · have x0 : x = 0 := Classical.byContradiction (fun z => by
      rw [f2, if_pos rfl, e, if_neg z] at q
      omega)
    exact ⟨r1.xe.cm1 (fun z => (hx.mpr z) x0), by rw [f2, if_pos rfl, e, if_pos x0]⟩
end RCH
end
section
/-! The class's natural numbers: places, values, small steps. -/
section NAA
variable {G : mG} {d a b Y Cy s n X Cx t : Nat} {M M' M1 M2 : mM}
/-- the value of k limbs of thirty bits -/
def dn (f : Nat → Int) : Nat → Int
  | 0 => 0
  | k + 1 => dn f k + f k * 2 ^ (30 * k)
theorem dn_cg {f g : Nat → Int} : ∀ k, (∀ j, j < k → f j = g j) → dn f k = dn g k
  | 0, _ => rfl
  | k + 1, h => by
    show dn f k + f k * 2 ^ (30 * k) = dn g k + g k * 2 ^ (30 * k)
    rw [dn_cg k (fun j hj => h j (by omega)), h k (by omega)]
/-- a number's places: Y its limbs, of Cy places -/
def Nl (M : mM) (a Y Cy : Nat) : Prop := mK M a = 10 ∧ mR M a 0 = Y ∧ mK M Y = 30 ∧ mN M Y = Cy ∧ (4 ≤ Cy ∧ Cy ≤ 100000) ∧ a ≠ Y ∧ (a < mZ M ∧ Y < mZ M)
/-- limbs that are limbs -/
def lim (M : mM) (Y n : Nat) : Prop := ∀ j, j < n → 0 ≤ mI M Y j ∧ mI M Y j < 1073741824
/-- a number of s limbs -/
def Nt (M : mM) (a Y Cy s : Nat) : Prop := Nl M a Y Cy ∧ mI M a 1 = ((s : Nat) : Int) ∧ s ≤ Cy ∧ lim M Y s ∧ (0 < s → mI M Y (s - 1) ≠ 0)
theorem Nl.fi {S : Nat → Prop} (h : Nl M a Y Cy) (f : FI S M M') : Nl M' a Y Cy := by
  obtain ⟨f1, f2, f3, -, f5, -⟩ := f
  unfold Nl at h ⊢
  rw [f1, f2, f3, f5]
  exact h
theorem s_Na_trim (hO : mOk M) (h : Nl M a Y Cy) (hn : n ≤ Cy) (hl : lim M Y n) : Cv G y_Na_trim d [vr a, vi n] M (fun M' => mOk M' ∧ FI (fun x => x = a) M M' ∧ (∀ i, i ≠ 1 → mI M' a i = mI M a i) ∧ ∃ s, s ≤ n ∧ Nt M' a Y Cy s ∧ dn (mI M' Y) s = dn (mI M Y) n) := by
  obtain ⟨k0, r0, kY, nY, ⟨c1, c2⟩, ne, z1, z2⟩ := id h
  refine k_Na_trim hO ⟨by omega, by omega⟩ ⟨k0, fun M2 e2 => ?_⟩
  have f2 : FI (fun x => x = a) M M2 := by rw [e2]; exact FI.ui rfl
  suffices HH : ∀ (t : Nat) (M1 : mM), t ≤ n → mOk M1 → FI (fun x => x = a) M M1 → (∀ i, i ≠ 1 → mI M1 a i = mI M a i) → mI M1 a 1 = ((t : Nat) : Int) → dn (mI M Y) t = dn (mI M Y) n → h_Na_trim_5 G d a M1 (fun M' => mOk M' ∧ FI (fun x => x = a) M M' ∧ (∀ i, i ≠ 1 → mI M' a i = mI M a i) ∧ ∃ s, s ≤ n ∧ Nt M' a Y Cy s ∧ dn (mI M' Y) s = dn (mI M Y) n) from HH n M2 (Nat.le_refl _) (by rw [e2]; exact mOk_UI hO ⟨by omega, by omega⟩) f2 (fun i hi => by rw [mI_ui a i e2, if_neg (fun u => hi u.2)]) (by rw [mI_ui a 1 e2, if_pos ⟨rfl, rfl⟩]) rfl
  intro t
  induction t with
  | zero =>
    intro M1 ht o f hi h1 hd
    have nb := f.2.2.2.2.2.2 Y (fun u => ne u.symm)
    refine k_Na_trim_5 o ⟨by rw [f.1]; exact k0, fun y => absurd y (by omega), fun _ => ⟨o, f, hi, 0, by omega, ⟨h.fi f, h1, by omega, fun j hj => absurd hj (by omega), fun u => absurd u (by omega)⟩, hd⟩, fun y => absurd (Or.inl (by omega)) y⟩
  | succ t ih =>
    intro M1 ht o f hi h1 hd
    have nb := f.2.2.2.2.2.2 Y (fun u => ne u.symm)
    refine k_Na_trim_5 o ?_
    rw [f.1, f.2.1, f.2.2.1, r0, nY, h1, show Int.toNat (((t + 1 : Nat) : Int) - 1) = t by first | rfl | omega, nb]
    refine ⟨k0, fun _ => ⟨kY, by omega⟩, fun y => ⟨o, f, hi, t + 1, ht, ⟨h.fi f, h1, by omega, fun j hj => by rw [nb]; exact hl j (by omega), fun _ => ?_⟩, hd⟩, fun y => ⟨⟨by omega, by omega⟩, fun M14 e14 => ?_⟩⟩
    · rw [nb, show t + 1 - 1 = t by first | rfl | omega]
      rcases y with y | y
      · omega
      · exact y
    · have y0 : mI M Y t = 0 := Classical.byContradiction (fun u => y (Or.inr u))
      have f14 : FI (fun x => x = a) M1 M14 := by rw [e14]; exact FI.ui rfl
      refine ih M14 (by omega) (by rw [e14]; exact mOk_UI o ⟨by omega, by omega⟩) (f.trans f14) (fun i hi' => by rw [mI_ui a i e14, if_neg (fun u => hi' u.2)]; exact hi i hi') (by rw [mI_ui a 1 e14, if_pos ⟨rfl, rfl⟩]; omega) ?_
      rw [← hd]
      show dn (mI M Y) t = dn (mI M Y) t + mI M Y t * 2 ^ (30 * t)
      rw [y0, Int.zero_mul, Int.add_zero]
/-- room for w limbs -/
theorem s_Na_reserve {w : Nat} (hO : mOk M) (h : Nl M a Y Cy) (hw : w ≤ 50000) (hC : Cy ≤ 50000) : Cv G y_Na_reserve (d + 2) [vr a, vi w] M (fun M' => mOk M' ∧ ∃ Y' Cy', Nl M' a Y' Cy' ∧ w ≤ Cy' ∧ Cy ≤ Cy' ∧ FA (fun _ => False) (fun x => x = a) M M' ∧ (∀ i, i ≠ 0 → mR M' a i = mR M a i) ∧ (∀ j, j < Cy → mI M' Y' j = mI M Y j) ∧ ((Y' = Y ∧ Cy' = Cy ∧ M' = M) ∨ (Y' = mZ M ∧ mZ M' = mZ M + 1 ∧ mS M' = mS M + Cy' ∧ 2 * Cy ≤ Cy' ∧ Cy' ≤ 2 * w))) := by
  obtain ⟨k0, r0, kY, nY, ⟨c1, c2⟩, ne, z1, z2⟩ := id h
  refine k_Na_reserve hO ⟨by omega, by omega⟩ ?_
  rw [r0, nY]
  refine ⟨k0, kY, ⟨by omega, by omega⟩, fun y => ⟨hO, Y, Cy, h, by omega, Nat.le_refl _, FA.refl, fun _ _ => rfl, fun _ _ => rfl, Or.inl ⟨rfl, rfl, rfl⟩⟩, fun y => ⟨⟨by omega, by omega⟩, ?_⟩⟩
  obtain ⟨l, el, l1, l2, l3⟩ : ∃ l : Nat, (if ((w : Nat) : Int) < 2 * ((Cy : Nat) : Int) then 2 * ((Cy : Nat) : Int) else ((w : Nat) : Int)) = ((l : Nat) : Int) ∧ 2 * Cy ≤ l ∧ w ≤ l ∧ l ≤ 2 * w := by
    by_cases u : ((w : Nat) : Int) < 2 * ((Cy : Nat) : Int)
    · exact ⟨2 * Cy, by rw [if_pos u]; omega, by omega, by omega, by omega⟩
    · exact ⟨w, by rw [if_neg u], by omega, by omega, by omega⟩
  rw [el]
  refine (s_JA_copyOf hO kY z2 (by omega) (by omega)).mono (fun x M9 q => ?_)
  obtain ⟨ex, o9, f9, Z9, S9, K9, N9, I9⟩ := q
  subst ex
  rw [nY] at I9
  refine ⟨o9, by rw [(f9.2 a z1).1]; exact k0, fun M15 e15 => ?_⟩
  have F15 : FA (fun _ => False) (fun x => x = a) M M15 := (f9.mono (fun _ _ y => y) (fun _ _ y => y.elim)).trans (FA.ur rfl e15)
  have Z15 : mZ M15 = mZ M + 1 := by rw [e15]; exact Z9
  refine ⟨by rw [e15]; exact mOk_UR o9, mZ M, l, ⟨by rw [(F15.2 a z1).1]; exact k0, by rw [e15, mR_UR, if_pos ⟨rfl, rfl⟩], by rw [e15]; exact K9, by rw [e15]; exact N9, ⟨by omega, by omega⟩, by omega, by omega, by omega⟩, l2, by omega, F15, fun i hi => by rw [e15, mR_UR, if_neg (fun u => hi u.2), (f9.2 a z1).2.2.2.1 (fun q => q)], fun j hj => by rw [e15, mI_UR]; exact I9 j hj, Or.inr ⟨rfl, Z15, by rw [e15, mS_UR]; exact S9, l1, l3⟩⟩
theorem s_Na_put0 {x : Int} (hx : 0 ≤ x ∧ x < 1073741824) (hO : mOk M) (h : Nl M a Y Cy) : Cv G y_Na_put0 d [vr a, vi x] M (fun M' => mOk M' ∧ FI (fun y => y = a ∨ y = Y) M M' ∧ ∃ s, s ≤ 1 ∧ Nt M' a Y Cy s ∧ dn (mI M' Y) s = x) := by
  obtain ⟨k0, r0, kY, nY, ⟨c1, c2⟩, ne, z1, z2⟩ := id h
  refine k_Na_put0 hO ⟨by omega, by omega⟩ ?_
  rw [r0, nY]
  refine ⟨k0, kY, ⟨by omega, by omega⟩, fun M4 e4 v7 e7 M12 e12 => ?_⟩
  have f4 : FI (fun y => y = Y) M M4 := by rw [e4]; exact FI.ui rfl
  have f12 : FI (fun y => y = a) M4 M12 := by rw [e12]; exact FI.ui rfl
  have ff : FI (fun y => y = a ∨ y = Y) M M12 := (f4.mono (fun _ y => Or.inr y)).trans (f12.mono (fun _ y => Or.inl y))
  have b7 : v7 = 0 ∨ v7 = 1 := by rw [e7]; split <;> omega
  have y12 : mI M12 Y 0 = x := by rw [f12.2.2.2.2.2.2 Y (fun u => ne u.symm), mI_ui Y 0 e4, if_pos ⟨rfl, rfl⟩]
  have a12 : mI M12 a 1 = v7 := by rw [mI_ui a 1 e12, if_pos ⟨rfl, rfl⟩]
  refine ⟨by rw [e12]; exact mOk_UI (by rw [e4]; exact mOk_UI hO ⟨by omega, by omega⟩) (m_b32 b7), ff, ?_⟩
  by_cases y : x = 0
  · rw [if_pos y] at e7
    exact ⟨0, by omega, ⟨h.fi ff, by rw [a12, e7]; rfl, by omega, fun j hj => absurd hj (by omega), fun u => absurd u (by omega)⟩, y.symm⟩
  · rw [if_neg y] at e7
    refine ⟨1, Nat.le_refl _, ⟨h.fi ff, by rw [a12, e7]; rfl, by omega, fun j hj => ?_, fun _ => by rw [show 1 - 1 = 0 by first | rfl | omega, y12]; exact y⟩, ?_⟩
    · rw [show j = 0 by first | rfl | omega, y12]
      exact hx
    · show 0 + mI M12 Y 0 * 2 ^ (30 * 0) = x
      rw [y12]
      simp
end NAA
end
section
/-! The class's natural numbers: questions. -/
section NAB
variable {G : mG} {d a b Y Cy s n X Cx r t : Nat} {M M' M1 M2 : mM}
theorem s_Na_isOne (hO : mOk M) (h : Nt M a Y Cy s) : Ci G y_Na_isOne d [vr a] M (fun x M' => M' = M ∧ (x = 0 ∨ x = 1) ∧ (x ≠ 0 → dn (mI M Y) s = 1)) := by
  obtain ⟨⟨k0, r0, kY, nY, ⟨c1, c2⟩, -⟩, sz1, -⟩ := h
  refine k_Na_isOne hO ?_
  rw [r0, nY]
  refine ⟨k0, fun _ => ⟨kY, ⟨by omega, by omega⟩⟩, fun v6 e6 => ⟨rfl, ?_⟩⟩
  rw [e6]
  split
  · rename_i hc
    refine ⟨Or.inr rfl, fun _ => ?_⟩
    obtain ⟨h1, h2⟩ := hc
    have s1 : s = 1 := by
      rw [sz1] at h1
      omega
    rw [s1]
    show 0 + mI M Y 0 * 2 ^ (30 * 0) = 1
    rw [h2]
    decide
  · exact ⟨Or.inl rfl, fun u => absurd rfl u⟩
end NAB
end
section
/-! Limbs of thirty bits: longs' bits, values, and Knuth's guess. -/
theorem j_and (x : Int) : andL x 1073741823 = x % 1073741824 := by
  unfold andL
  show (BitVec.ofInt 64 x &&& 1073741823#64).toInt = _
  have h0 : (BitVec.ofInt 64 x &&& 1073741823#64).toNat = (BitVec.ofInt 64 x).toNat % 1073741824 := by
    rw [BitVec.toNat_and]
    exact Nat.and_two_pow_sub_one_eq_mod _ 30
  have h1 : (BitVec.ofInt 64 x).toNat = (x % 18446744073709551616).toNat := by
    rw [BitVec.toNat_ofInt]; rfl
  rw [BitVec.toInt_eq_toNat_cond, h0, h1]
  have h3 : ((x % 18446744073709551616).toNat : Int) = x % 18446744073709551616 := Int.toNat_of_nonneg (Int.emod_nonneg _ (by decide))
  split <;> omega
theorem j_shr {x : Int} (h : i64 x) : shrL x 30 = x / 1073741824 := by
  unfold shrL
  show (BitVec.sshiftRight (BitVec.ofInt 64 x) _).toInt = _
  rw [BitVec.toInt_sshiftRight]
  have := i64_toInt h
  have e : (BitVec.ofInt 64 x).toInt = x := this
  rw [e]
  show x >>> 30 = _
  rw [Int.shiftRight_eq_div_pow]
  rfl
theorem j_ushr {x : Int} (h0 : 0 ≤ x) (h : x < 9223372036854775808) : ushrL x 30 = x / 1073741824 := by
  unfold ushrL
  show (BitVec.ushiftRight (BitVec.ofInt 64 x) 30).toInt = _
  have h1 : (BitVec.ofInt 64 x).toNat = x.toNat := by
    rw [BitVec.toNat_ofInt]
    show (x % 18446744073709551616).toNat = _
    rw [Int.emod_eq_of_lt h0 (by omega)]
  have h2 : (BitVec.ushiftRight (BitVec.ofInt 64 x) 30).toNat = x.toNat / 1073741824 := by
    show ((BitVec.ofInt 64 x) >>> 30).toNat = _
    rw [BitVec.toNat_ushiftRight, h1, Nat.shiftRight_eq_div_pow]
  rw [BitVec.toInt_eq_toNat_cond, h2]
  have h3 : ((x.toNat : Nat) : Int) = x := Int.toNat_of_nonneg h0
  split <;> omega
theorem j_shl {x : Int} (h : -8589934592 ≤ x ∧ x < 8589934592) : shlL x 30 = x * 1073741824 := by
  unfold shlL
  show ((BitVec.ofInt 64 x) <<< 30).toInt = _
  have e : (BitVec.ofInt 64 x) <<< 30 = BitVec.ofInt 64 (x * 1073741824) := by
    apply BitVec.eq_of_toNat_eq
    rw [BitVec.toNat_shiftLeft, BitVec.toNat_ofInt, BitVec.toNat_ofInt, Nat.shiftLeft_eq]
    show (x % 18446744073709551616).toNat * 1073741824 % 18446744073709551616 = ((x * 1073741824) % 18446744073709551616).toNat
    omega
  rw [e]
  exact i64_toInt (x := x * 1073741824) (by unfold i64; omega)
theorem j_c0 {x : Int} : cmpL x 0 = 0 ↔ x = 0 := by
  unfold cmpL; split
  · constructor <;> intro h <;> omega
  · split <;> constructor <;> intro h <;> first | omega | contradiction
theorem j_cn {x : Int} : cmpL x 0 < 0 ↔ x < 0 := by
  unfold cmpL; split
  · constructor <;> intro h <;> omega
  · split <;> constructor <;> intro h <;> omega
theorem j_cle {x z : Int} : cmpL x z ≤ 0 ↔ x ≤ z := by
  unfold cmpL; split
  · constructor <;> intro h <;> omega
  · split <;> constructor <;> intro h <;> omega
/-- powers of two as shifts of 1 -/
theorem j_sh1 : ∀ k : Nat, k ≤ 30 → shlI 1 (k : Int) = 2 ^ k := by
  have : ∀ k : Nat, k ≤ 30 → shlI 1 (k : Int) = ((2 ^ k : Nat) : Int) := by decide
  intro k hk
  rw [this k hk]
  norm_cast
section KNU
variable {P U V two u2 Ul v1 v2 Vl g : Int}
theorem kn_le {a b c : Int} (h : a ≤ b) (hc : 0 ≤ c) : a * c ≤ b * c := Int.mul_le_mul_of_nonneg_right h hc
/-- the guess is not too small -/
theorem kn_up (hP : 0 < P) (eU : U = (two * 1073741824 + u2) * P + Ul) (eV : V = (v1 * 1073741824 + v2) * P + Vl) (hl : Ul < P) (h2 : u2 < 1073741824) (k2 : 0 ≤ v2) (kl : 0 ≤ Vl) (hUV : U < V * 1073741824) (hg : 0 ≤ g) (h : g = 1073741823 ∨ two < (g + 1) * v1) : U < (g + 1) * V := by
  rcases h with h | h
  · rw [h]; omega
  · have a1 : (two + 1) * (1073741824 * P) ≤ ((g + 1) * v1) * (1073741824 * P) := kn_le (by omega) (by omega)
    have a2 : (u2 + 1) * P ≤ 1073741824 * P := kn_le (by omega) (by omega)
    have a3 : 0 ≤ (g + 1) * v2 * P := Int.mul_nonneg (Int.mul_nonneg (by omega) k2) (by omega)
    have a4 : 0 ≤ (g + 1) * Vl := Int.mul_nonneg (by omega) kl
    rw [eU, eV]
    clear eU eV hUV k2 kl h h2 hg
    grind
/-- and at most two too large -/
theorem kn_dn (hP : 0 < P) (eU : U = (two * 1073741824 + u2) * P + Ul) (eV : V = (v1 * 1073741824 + v2) * P + Vl) (hl : 0 ≤ Ul) (h2 : 0 ≤ u2) (k2 : 0 ≤ v2 ∧ v2 < 1073741824) (kl : 0 ≤ Vl ∧ Vl < P) (hv : 1073741824 ≤ 2 * v1) (hg : 0 ≤ g ∧ g < 1073741824) (h : g * v1 ≤ two) : (g - 2) * V ≤ U := by
  have a1 : (g * v1) * (1073741824 * P) ≤ two * (1073741824 * P) := kn_le h (by omega)
  have a2 : (v2 + 1) * P ≤ 1073741824 * P := kn_le (by omega) (by omega)
  have a3 : g * (v2 * P + Vl) ≤ g * (1073741824 * P) := Int.mul_le_mul_of_nonneg_left (by rw [Int.add_mul] at a2; omega) hg.1
  have a4 : g * (1073741824 * P) ≤ (2 * v1) * (1073741824 * P) := kn_le (by omega) (by omega)
  have a5 : 0 ≤ u2 * P := Int.mul_nonneg h2 (by omega)
  have a6 : 0 ≤ v2 * P := Int.mul_nonneg k2.1 (by omega)
  obtain ⟨k21, k22⟩ := k2
  obtain ⟨kl1, kl2⟩ := kl
  rw [eU, eV]
  clear eU eV h hg hv h2 a2 k21 k22
  grind
/-- a guess that the third limb tells to be too large -/
theorem kn_dec (hP : 0 < P) (eU : U = (two * 1073741824 + u2) * P + Ul) (eV : V = (v1 * 1073741824 + v2) * P + Vl) (hl : Ul < P) (kl : 0 ≤ Vl) (hg : 0 ≤ g) (h : (two - g * v1) * 1073741824 + u2 < g * v2) : U < (g - 1 + 1) * V := by
  have a1 : ((two - g * v1) * 1073741824 + u2 + 1) * P ≤ (g * v2) * P := kn_le (by omega) (by omega)
  have a4 : 0 ≤ g * Vl := Int.mul_nonneg hg kl
  rw [eU, eV]
  clear eU eV h hg
  grind
/-- a guess that the third limb lets pass is at most one too large -/
theorem kn_one (hP : 0 < P) (eU : U = (two * 1073741824 + u2) * P + Ul) (eV : V = (v1 * 1073741824 + v2) * P + Vl) (hl : 0 ≤ Ul) (k2 : 0 ≤ v2) (kl : 0 ≤ Vl ∧ Vl < P) (hv : 1 ≤ v1) (hg : 0 ≤ g ∧ g < 1073741824) (h : g * v2 ≤ (two - g * v1) * 1073741824 + u2) : (g - 1) * V ≤ U := by
  have a1 : (g * v2) * P ≤ ((two - g * v1) * 1073741824 + u2) * P := kn_le (by omega) (by omega)
  have a3 : g * Vl ≤ g * P := Int.mul_le_mul_of_nonneg_left (by omega) hg.1
  have a4 : g * P ≤ 1073741824 * P := kn_le (by omega) (by omega)
  have a5 : 1 * (1073741824 * P) ≤ v1 * (1073741824 * P) := kn_le hv (by omega)
  have a6 : 0 ≤ v2 * P := Int.mul_nonneg k2 (by omega)
  obtain ⟨kl1, kl2⟩ := kl
  rw [eU, eV]
  clear eU eV h hg hv k2
  grind
/-- what is left by the guess -/
theorem kn_rest (hP : 0 < P) (eU : U = (two * 1073741824 + u2) * P + Ul) (eV : V = (v1 * 1073741824 + v2) * P + Vl) (hl : 0 ≤ Ul) (h2 : 0 ≤ u2) (k2 : v2 < 1073741824) (kl : Vl < P) (hv : v1 < 1073741824) (hUV : U < V * 1073741824) (h1 : g * v1 ≤ two) (h : g = 1073741823 ∨ two < (g + 1) * v1) : 0 ≤ two - g * v1 ∧ two - g * v1 < 2147483648 := by
  refine ⟨by omega, ?_⟩
  rcases h with h | h
  · have a2 : (v2 + 1) * P ≤ 1073741824 * P := kn_le (by omega) (by omega)
    have a5 : 0 ≤ u2 * P := Int.mul_nonneg h2 (by omega)
    have a6 : two * (1073741824 * P) < ((v1 + 1) * 1073741824) * (1073741824 * P) := by
      clear h h1
      grind
    have a7 : two < (v1 + 1) * 1073741824 := Int.lt_of_mul_lt_mul_right a6 (by omega)
    rw [h]
    omega
  · rw [Int.add_mul, Int.one_mul] at h
    omega
/-- the true quotient -/
theorem kn_q {R : Int} (h1 : U < (g + 1) * V) (h0 : (g - 1) * V ≤ U) (hR : U - g * V = R) : (0 ≤ R → R < V) ∧ (R < 0 → 0 ≤ R + V) := by
  rw [Int.add_mul, Int.one_mul] at h1
  rw [Int.sub_mul, Int.one_mul] at h0
  omega
end KNU
theorem p30 (k : Nat) : (2 : Int) ^ (30 * (k + 1)) = 2 ^ (30 * k) * 1073741824 := by
  rw [show 30 * (k + 1) = 30 * k + 30 by first | rfl | omega, Int.pow_add]
  rfl
theorem p30p (k : Nat) : (0 : Int) < 2 ^ (30 * k) := Int.pow_pos (by decide)
theorem p30a (m k : Nat) : (2 : Int) ^ (30 * (m + k)) = 2 ^ (30 * m) * 2 ^ (30 * k) := by
  rw [show 30 * (m + k) = 30 * m + 30 * k by first | rfl | omega, Int.pow_add]
theorem p30m {m k : Nat} (h : m ≤ k) : (2 : Int) ^ (30 * m) ≤ 2 ^ (30 * k) := by
  obtain ⟨t, rfl⟩ := Nat.le.dest h
  rw [p30a]
  have h1 : (1 : Int) ≤ 2 ^ (30 * t) := p30p t
  have h2 := Int.mul_le_mul_of_nonneg_left h1 (Int.le_of_lt (p30p m))
  omega
theorem dn_s (f : Nat → Int) (k : Nat) : dn f (k + 1) = dn f k + f k * 2 ^ (30 * k) := rfl
/-- limbs -/
def lms (f : Nat → Int) (n : Nat) : Prop := ∀ j, j < n → 0 ≤ f j ∧ f j < 1073741824
theorem dn_nn {f : Nat → Int} : ∀ {n : Nat}, lms f n → 0 ≤ dn f n
  | 0, _ => Int.le_refl _
  | n + 1, h => by
    rw [dn_s]
    have h1 := dn_nn (n := n) (fun j hj => h j (by omega))
    have h2 := Int.mul_nonneg (h n (by omega)).1 (Int.le_of_lt (p30p n))
    omega
theorem dn_lt {f : Nat → Int} : ∀ {n : Nat}, lms f n → dn f n < 2 ^ (30 * n)
  | 0, _ => (by decide : (0 : Int) < 2 ^ (30 * 0))
  | n + 1, h => by
    rw [dn_s, p30]
    have h1 := dn_lt (n := n) (fun j hj => h j (by omega))
    have h2 := Int.mul_le_mul_of_nonneg_right (c := 2 ^ (30 * n)) (show f n ≤ 1073741823 by have := h n (by omega); omega) (Int.le_of_lt (p30p n))
    omega
theorem dn_ge {f : Nat → Int} {n : Nat} (h : lms f (n + 1)) (h0 : f n ≠ 0) : 2 ^ (30 * n) ≤ dn f (n + 1) := by
  rw [dn_s]
  have h1 := dn_nn (n := n) (fun j hj => h j (by omega))
  have h2 := Int.mul_le_mul_of_nonneg_right (c := 2 ^ (30 * n)) (show 1 ≤ f n by have := h n (by omega); omega) (Int.le_of_lt (p30p n))
  omega
/-- a number of s limbs without its highest is less -/
theorem dn_top {f : Nat → Int} {n : Nat} (h : lms f (n + 1)) (h0 : 2 ^ (30 * n) ≤ dn f (n + 1)) : f n ≠ 0 := by
  intro z
  rw [dn_s, z] at h0
  have h1 := dn_lt (n := n) (fun j hj => h j (by omega))
  omega
theorem dn_up {f g : Nat → Int} {i : Nat} : ∀ {n : Nat}, i < n → (∀ j, j < n → j ≠ i → g j = f j) → dn g n = dn f n + (g i - f i) * 2 ^ (30 * i)
  | 0, hi, _ => absurd hi (by omega)
  | n + 1, hi, h => by
    rw [dn_s, dn_s]
    by_cases z : i = n
    · subst z
      rw [dn_cg i (fun j hj => h j (by omega) (by omega)), Int.sub_mul]
      omega
    · rw [dn_up (n := n) (by omega) (fun j hj hj' => h j (by omega) hj'), h n (by omega) (fun u => z u.symm)]
      omega
theorem dn_z {f : Nat → Int} {s : Nat} : ∀ {n : Nat}, s ≤ n → (∀ j, s ≤ j → j < n → f j = 0) → dn f n = dn f s
  | 0, hs, _ => by rw [show s = 0 by first | rfl | omega]
  | n + 1, hs, h => by
    by_cases z : s = n + 1
    · rw [z]
    · rw [dn_s, h n (by omega) (by omega), dn_z (n := n) (by omega) (fun j h1 h2 => h j h1 (by omega))]
      omega
theorem dn_sp (f : Nat → Int) (m : Nat) : ∀ n, dn f (m + n) = dn f m + 2 ^ (30 * m) * dn (fun j => f (m + j)) n
  | 0 => by show dn f m = dn f m + 2 ^ (30 * m) * 0; omega
  | n + 1 => by
    show dn f (m + n) + f (m + n) * 2 ^ (30 * (m + n)) = dn f m + 2 ^ (30 * m) * (dn (fun j => f (m + j)) n + f (m + n) * 2 ^ (30 * n))
    rw [dn_sp f m n, p30a, Int.mul_add, Int.add_assoc, Int.mul_left_comm]
/-- the lowest limb apart -/
theorem dn_lo (f : Nat → Int) (n : Nat) : dn f (n + 1) = f 0 + 1073741824 * dn (fun j => f (1 + j)) n := by
  rw [show n + 1 = 1 + n by first | rfl | omega, dn_sp]
  show 0 + f 0 * 2 ^ (30 * 0) + _ = _
  rw [show (2 : Int) ^ (30 * 0) = 1 by decide, show (2 : Int) ^ (30 * 1) = 1073741824 by decide]
  omega
/-- sizes by values -/
theorem dn_sz {f : Nat → Int} {s n : Nat} (h : lms f s) (h0 : 0 < s → f (s - 1) ≠ 0) (hv : dn f s < 2 ^ (30 * n)) : s ≤ n := by
  refine Classical.byContradiction (fun u => ?_)
  obtain ⟨t, rfl⟩ : ∃ t, s = t + 1 := ⟨s - 1, by omega⟩
  have h1 := dn_ge h (h0 (by omega))
  have h2 := p30m (m := n) (k := t) (by omega)
  omega
/-- one step of a carry -/
theorem c_st {D D' l x : Int} {i : Nat} (e : D' = D + (x % 1073741824 - l) * 2 ^ (30 * i)) : D' + x / 1073741824 * 2 ^ (30 * (i + 1)) = D + (x - l) * 2 ^ (30 * i) := by
  rw [e, p30]
  have h := Int.emod_add_mul_ediv x 1073741824
  generalize (2 : Int) ^ (30 * i) = p at *
  have h2 : x * p = (x % 1073741824) * p + (x / 1073741824) * (p * 1073741824) := by
    conv => lhs; rw [← h]
    rw [Int.add_mul, Int.mul_comm 1073741824, Int.mul_assoc, Int.mul_comm 1073741824]
  rw [Int.sub_mul, Int.sub_mul, h2]
  omega
theorem al_mul {D1 D0 c f l p e : Int} (h : D1 + c * p = D0 + (f - 1) * e) : D1 + ((c + f * l) - l) * p = D0 + (f - 1) * (e + l * p) := by grind
theorem al_add {D1 D0 c f l p e x : Int} (h : D1 + c * p = D0 + f * e) : D1 + ((c + (l + f * x)) - l) * p = D0 + f * (e + x * p) := by grind
theorem al_car {D1 T c l p : Int} (h : D1 + c * p = T) : D1 + ((c + l) - l) * p = T := by grind
theorem al_prod {D1 D0 c f l pi pj e x : Int} (h : D1 + c * (pi * pj) = D0 + f * (pi * e)) : D1 + ((c + (l + f * x)) - l) * (pi * pj) = D0 + f * (pi * (e + x * pj)) := by grind
theorem al_div {N D e dv r p l q : Int} (h : N = dv * (D - (e + l * p)) + r * (p * 1073741824) + (e + l * p)) : N = dv * (D + (q - l) * p - e) + ((r * 1073741824 + l) - dv * q) * p + e := by grind
theorem al_sub {D1 D0 c f l p e x : Int} (h : D1 + c * p = D0 - f * e) : D1 + ((c + (l - f * x)) - l) * p = D0 - f * (e + x * p) := by grind
theorem al_cmb {D1 D0 c f g u v p e k : Int} (h : D1 + c * p = D0 - e + f * e + g * k) : D1 + ((c + (f * u + g * v)) - u) * p = D0 - (e + u * p) + f * (e + u * p) + g * (k + v * p) := by grind
theorem al_cmb2 {D1 D0 c f g u v p e k : Int} (h : D1 + c * p = D0 - k + f * e + g * k) : D1 + ((c + (f * u + g * v)) - v) * p = D0 - (k + v * p) + f * (e + u * p) + g * (k + v * p) := by grind
end
section
/-! The class's natural numbers: sums and multiples. -/
section NAC
variable {G : mG} {d a b Y Cy s n X Cx w : Nat} {M M' M1 M2 M3 : mM} {v : Int}
theorem i_ush {x : Int} (k : Nat) (hk : k < 32) (h0 : 0 ≤ x) (h : i32 x) : ushrI x k = x / 2 ^ k := by
  have e : ∀ k, k < 32 → ((Int32.ofInt ((k : Nat) : Int)).toUInt32 &&& Int32.toUInt32 31).toBitVec = BitVec.ofNat 32 k := by decide
  unfold ushrI
  show (BitVec.ofInt 32 x >>> (((Int32.ofInt ((k : Nat) : Int)).toUInt32 &&& Int32.toUInt32 31).toBitVec % 32#32)).toInt = _
  rw [e k hk]
  have e2 : ∀ k, k < 32 → (BitVec.ofNat 32 k % 32#32).toNat = k := by decide
  have h1 : (BitVec.ofInt 32 x).toNat = x.toNat := by
    rw [BitVec.toNat_ofInt]
    show (x % 4294967296).toNat = _
    rw [Int.emod_eq_of_lt h0 (by unfold i32 at h; omega)]
  have h2 : (BitVec.ofInt 32 x >>> (BitVec.ofNat 32 k % 32#32)).toNat = x.toNat / 2 ^ k := by
    rw [BitVec.ushiftRight_eq', e2 k hk, BitVec.toNat_ushiftRight, h1, Nat.shiftRight_eq_div_pow]
  rw [BitVec.toInt_eq_toNat_cond, h2]
  have h3 : ((x.toNat : Nat) : Int) = x := Int.toNat_of_nonneg h0
  have h4 : x.toNat / 2 ^ k ≤ x.toNat := Nat.div_le_self _ _
  have h5 : x.toNat < 2147483648 := by unfold i32 at h; omega
  rw [if_pos (by omega), Int.natCast_ediv, h3]
  norm_cast
theorem s_nlz {x : Int} (h0 : 0 < x) (h : i32 x) (hO : mOk M) : Ci G y_JI_nlz d [vi x] M (fun r M' => M' = M ∧ ∃ k : Nat, r = ((k : Nat) : Int) ∧ k ≤ 31 ∧ 2 ^ (31 - k) ≤ x ∧ x < 2 ^ (32 - k)) := by
  have us : ∀ (y : Int) (k : Nat), k < 32 → 0 ≤ y → i32 y → ushrI y (k : Int) = y / 2 ^ k := fun y k hk h0 h => i_ush k hk h0 h
  unfold i32 at h
  refine k_JI_nlz hO h ⟨fun _ v5 e5 v6 e6 v12 e12 v13 e13 v19 e19 v20 e20 v26 e26 v27 e27 => ⟨rfl, ?_⟩, fun y => absurd h0 y⟩
  have a1 : (x < 65536 ∧ v5 = x ∧ v6 = 31) ∨ (65536 ≤ x ∧ v5 = x / 65536 ∧ v6 = 15) := by
    by_cases c : x < 65536
    · rw [if_pos c] at e5 e6; exact Or.inl ⟨c, e5, e6⟩
    · rw [if_neg c] at e5 e6
      rw [show ushrI x 16 = x / 65536 from us x 16 (by decide) (by omega) h] at e5
      exact Or.inr ⟨by omega, e5, e6⟩
  have b5 : 0 < v5 ∧ v5 < 65536 := by omega
  have a2 : (v5 < 256 ∧ v12 = v5 ∧ v13 = v6) ∨ (256 ≤ v5 ∧ v12 = v5 / 256 ∧ v13 = v6 - 8) := by
    by_cases c : v5 < 256
    · rw [if_pos c] at e12 e13; exact Or.inl ⟨c, e12, e13⟩
    · rw [if_neg c] at e12 e13
      rw [show ushrI v5 8 = v5 / 256 from us v5 8 (by decide) (by omega) ⟨by omega, by omega⟩] at e12
      exact Or.inr ⟨by omega, e12, e13⟩
  have b12 : 0 < v12 ∧ v12 < 256 := by omega
  have a3 : (v12 < 16 ∧ v19 = v12 ∧ v20 = v13) ∨ (16 ≤ v12 ∧ v19 = v12 / 16 ∧ v20 = v13 - 4) := by
    by_cases c : v12 < 16
    · rw [if_pos c] at e19 e20; exact Or.inl ⟨c, e19, e20⟩
    · rw [if_neg c] at e19 e20
      rw [show ushrI v12 4 = v12 / 16 from us v12 4 (by decide) (by omega) ⟨by omega, by omega⟩] at e19
      exact Or.inr ⟨by omega, e19, e20⟩
  have b19 : 0 < v19 ∧ v19 < 16 := by omega
  have a4 : (v19 < 4 ∧ v26 = v19 ∧ v27 = v20) ∨ (4 ≤ v19 ∧ v26 = v19 / 4 ∧ v27 = v20 - 2) := by
    by_cases c : v19 < 4
    · rw [if_pos c] at e26 e27; exact Or.inl ⟨c, e26, e27⟩
    · rw [if_neg c] at e26 e27
      rw [show ushrI v19 2 = v19 / 4 from us v19 2 (by decide) (by omega) ⟨by omega, by omega⟩] at e26
      exact Or.inr ⟨by omega, e26, e27⟩
  have b26 : 0 < v26 ∧ v26 < 4 := by omega
  have e1 : ushrI v26 1 = v26 / 2 := us v26 1 (by decide) (by omega) ⟨by omega, by omega⟩
  rw [e1]
  clear e5 e6 e12 e13 e19 e20 e26 e27 us e1
  have fin : ∀ (k : Nat) (p q : Int), k ≤ 31 → v27 - v26 / 2 = (k : Int) → p = 2 ^ (31 - k) → q = 2 ^ (32 - k) → (p ≤ x ∧ x < q) → ∃ k : Nat, v27 - v26 / 2 = ((k : Nat) : Int) ∧ k ≤ 31 ∧ 2 ^ (31 - k) ≤ x ∧ x < 2 ^ (32 - k) := fun k p q hk e ep eq u => ⟨k, e, hk, by rw [← ep]; exact u.1, by rw [← eq]; exact u.2⟩
  rcases a1 with ⟨c1, q1, r1⟩ | ⟨c1, q1, r1⟩ <;> rcases a2 with ⟨c2, q2, r2⟩ | ⟨c2, q2, r2⟩ <;> rcases a3 with ⟨c3, q3, r3⟩ | ⟨c3, q3, r3⟩ <;> rcases a4 with ⟨c4, q4, r4⟩ | ⟨c4, q4, r4⟩ <;> rcases (show v26 = 1 ∨ 2 ≤ v26 by first | rfl | omega) with c5 | c5
  · exact fin 31 1 2 (by decide) (by omega) (by decide) (by decide) ⟨by omega, by omega⟩
  · exact fin 30 2 4 (by decide) (by omega) (by decide) (by decide) ⟨by omega, by omega⟩
  · exact fin 29 4 8 (by decide) (by omega) (by decide) (by decide) ⟨by omega, by omega⟩
  · exact fin 28 8 16 (by decide) (by omega) (by decide) (by decide) ⟨by omega, by omega⟩
  · exact fin 27 16 32 (by decide) (by omega) (by decide) (by decide) ⟨by omega, by omega⟩
  · exact fin 26 32 64 (by decide) (by omega) (by decide) (by decide) ⟨by omega, by omega⟩
  · exact fin 25 64 128 (by decide) (by omega) (by decide) (by decide) ⟨by omega, by omega⟩
  · exact fin 24 128 256 (by decide) (by omega) (by decide) (by decide) ⟨by omega, by omega⟩
  · exact fin 23 256 512 (by decide) (by omega) (by decide) (by decide) ⟨by omega, by omega⟩
  · exact fin 22 512 1024 (by decide) (by omega) (by decide) (by decide) ⟨by omega, by omega⟩
  · exact fin 21 1024 2048 (by decide) (by omega) (by decide) (by decide) ⟨by omega, by omega⟩
  · exact fin 20 2048 4096 (by decide) (by omega) (by decide) (by decide) ⟨by omega, by omega⟩
  · exact fin 19 4096 8192 (by decide) (by omega) (by decide) (by decide) ⟨by omega, by omega⟩
  · exact fin 18 8192 16384 (by decide) (by omega) (by decide) (by decide) ⟨by omega, by omega⟩
  · exact fin 17 16384 32768 (by decide) (by omega) (by decide) (by decide) ⟨by omega, by omega⟩
  · exact fin 16 32768 65536 (by decide) (by omega) (by decide) (by decide) ⟨by omega, by omega⟩
  · exact fin 15 65536 131072 (by decide) (by omega) (by decide) (by decide) ⟨by omega, by omega⟩
  · exact fin 14 131072 262144 (by decide) (by omega) (by decide) (by decide) ⟨by omega, by omega⟩
  · exact fin 13 262144 524288 (by decide) (by omega) (by decide) (by decide) ⟨by omega, by omega⟩
  · exact fin 12 524288 1048576 (by decide) (by omega) (by decide) (by decide) ⟨by omega, by omega⟩
  · exact fin 11 1048576 2097152 (by decide) (by omega) (by decide) (by decide) ⟨by omega, by omega⟩
  · exact fin 10 2097152 4194304 (by decide) (by omega) (by decide) (by decide) ⟨by omega, by omega⟩
  · exact fin 9 4194304 8388608 (by decide) (by omega) (by decide) (by decide) ⟨by omega, by omega⟩
  · exact fin 8 8388608 16777216 (by decide) (by omega) (by decide) (by decide) ⟨by omega, by omega⟩
  · exact fin 7 16777216 33554432 (by decide) (by omega) (by decide) (by decide) ⟨by omega, by omega⟩
  · exact fin 6 33554432 67108864 (by decide) (by omega) (by decide) (by decide) ⟨by omega, by omega⟩
  · exact fin 5 67108864 134217728 (by decide) (by omega) (by decide) (by decide) ⟨by omega, by omega⟩
  · exact fin 4 134217728 268435456 (by decide) (by omega) (by decide) (by decide) ⟨by omega, by omega⟩
  · exact fin 3 268435456 536870912 (by decide) (by omega) (by decide) (by decide) ⟨by omega, by omega⟩
  · exact fin 2 536870912 1073741824 (by decide) (by omega) (by decide) (by decide) ⟨by omega, by omega⟩
  · exact fin 1 1073741824 2147483648 (by decide) (by omega) (by decide) (by decide) ⟨by omega, by omega⟩
  · exact fin 0 2147483648 4294967296 (by decide) (by omega) (by decide) (by decide) ⟨by omega, by omega⟩
theorem s_JA_fillR {p q : Nat} (hO : mOk M) (hK : mK M a = 30) (hp : p ≤ q) (hq : q ≤ mN M a) (hN : mN M a ≤ 100000) (hv : i32 v) : Cv G y_JA_fillR (d + 2) [vr a, vi p, vi q, vi v] M (fun M' => mOk M' ∧ FI (fun x => x = a) M M' ∧ ∀ i, mI M' a i = if p ≤ i ∧ i < q then v else mI M a i) := by
  refine k_JA_fillR hO ⟨by omega, by omega⟩ ⟨by omega, by omega⟩ hv ⟨hK, ?_⟩
  refine k_JA_rangeCheck hO ⟨by omega, by omega⟩ ⟨by omega, by omega⟩ ⟨by omega, by omega⟩ ⟨fun _ => ⟨fun _ => ⟨fun _ => ⟨hO, ?_⟩, fun y => y (by omega)⟩, fun y => y (by omega)⟩, fun y => y (by omega)⟩
  suffices HH : ∀ (t i : Nat) (M1 : mM), q ≤ i + t → p ≤ i → i ≤ q → mOk M1 → FI (fun x => x = a) M M1 → (∀ j, mI M1 a j = if p ≤ j ∧ j < i then v else mI M a j) → h_JA_fillR_10 G (d + 1) a q v i M1 (fun M' => mOk M' ∧ FI (fun x => x = a) M M' ∧ ∀ i, mI M' a i = if p ≤ i ∧ i < q then v else mI M a i) from HH q p M (by omega) (by omega) hp hO FI.refl (fun j => by rw [if_neg (by omega)])
  intro t
  induction t with
  | zero =>
    intro i M1 h1 h2 h3 o f hj
    have e : i = q := by omega
    subst e
    exact k_JA_fillR_10 o ⟨by omega, by omega⟩ hv ⟨by omega, by omega⟩ ⟨fun _ => ⟨o, f, hj⟩, fun y => absurd y (by omega)⟩
  | succ t ih =>
    intro i M1 h1 h2 h3 o f hj
    refine k_JA_fillR_10 o ⟨by omega, by omega⟩ hv ⟨by omega, by omega⟩ ⟨fun y => ?_, fun y => ?_⟩
    · have e : i = q := by omega
      subst e
      exact ⟨o, f, hj⟩
    · rw [f.1, f.2.1, Int.toNat_natCast]
      refine ⟨hK, by omega, fun M8 e8 => ?_⟩
      rw [show ((i : Int) + 1) = ((i + 1 : Nat) : Int) by first | rfl | omega]
      refine ih (i + 1) M8 (by omega) (by omega) (by omega) (by rw [e8]; exact mOk_UI o hv) (f.trans (by rw [e8]; exact FI.ui rfl)) (fun j => ?_)
      rw [mI_ui a j e8, hj j]
      by_cases y1 : j = i
      · rw [if_pos ⟨rfl, y1⟩, if_pos (by omega)]
      · rw [if_neg (fun u => y1 u.2)]
        by_cases y2 : p ≤ j ∧ j < i
        · rw [if_pos y2, if_pos (by omega)]
        · rw [if_neg y2, if_neg (by omega)]
/-- a number becomes v; it wanted at most w limbs -/
def nst (M : mM) (a Y Cy w : Nat) (v : Int) (M' : mM) : Prop := mOk M' ∧ ∃ Y' Cy' s', Nt M' a Y' Cy' s' ∧ dn (mI M' Y') s' = v ∧ FA (fun x => x = a ∨ x = Y) (fun x => x = a) M M' ∧ ((Y' = Y ∧ Cy' = Cy ∧ mZ M' = mZ M ∧ mS M' = mS M) ∨ (Y' = mZ M ∧ Cy' ≤ 2 * w ∧ 2 * Cy ≤ Cy' ∧ mZ M' = mZ M + 1 ∧ mS M' = mS M + Cy'))
theorem nst_fi {s' : Nat} (h : Nt M' a Y Cy s') (o : mOk M') (f : FI (fun x => x = a ∨ x = Y) M M') (e : dn (mI M' Y) s' = v) : nst M a Y Cy w v M' :=
  ⟨o, Y, Cy, s', h, e, f.fa, Or.inl ⟨rfl, rfl, f.2.2.2.2.1, f.2.2.2.2.2.1⟩⟩
/-- what reserve left -/
def rsv (M : mM) (a Y Cy w Y' Cy' : Nat) (M' : mM) : Prop := (Y' = Y ∧ Cy' = Cy ∧ M' = M) ∨ (Y' = mZ M ∧ mZ M' = mZ M + 1 ∧ mS M' = mS M + Cy' ∧ 2 * Cy ≤ Cy' ∧ Cy' ≤ 2 * w)
theorem nst_rs {Y' Cy' s' : Nat} (F : FA (fun _ => False) (fun x => x = a) M M1) (g : rsv M a Y Cy w Y' Cy' M1) (f : FI (fun x => x = a ∨ x = Y') M1 M') (o : mOk M') (h : Nt M' a Y' Cy' s') (e : dn (mI M' Y') s' = v) : nst M a Y Cy w v M' := by
  refine ⟨o, Y', Cy', s', h, e, (F.mono (fun _ _ y => y.elim) (fun _ _ y => y)).trans2 (f.fa (R := fun _ => False)) ?_ (fun _ _ y => y.elim), ?_⟩
  · intro x hx u
    rcases u with u | u
    · exact Or.inl u
    · rcases g with ⟨g, -⟩ | ⟨g, -⟩
      · exact Or.inr (u.trans g)
      · omega
  · rcases g with ⟨g1, g2, g3⟩ | ⟨g1, g2, g3, g4, g5⟩
    · exact Or.inl ⟨g1, g2, by rw [f.2.2.2.2.1, g3], by rw [f.2.2.2.2.2.1, g3]⟩
    · exact Or.inr ⟨g1, g5, g4, by rw [f.2.2.2.2.1, g2], by rw [f.2.2.2.2.2.1, g3]⟩
theorem dn_ui {i : Nat} {x : Int} (hi : i < n) (e : M' = mUI M Y i x) : dn (mI M' Y) n = dn (mI M Y) n + (x - mI M Y i) * 2 ^ (30 * i) := by
  have h := dn_up (f := mI M Y) (g := mI M' Y) hi (fun j _ hj' => by rw [mI_ui Y j e, if_neg (fun u => hj' u.2)])
  rw [h, mI_ui Y i e, if_pos ⟨rfl, rfl⟩]
theorem lim_ui {i : Nat} {x : Int} (h : lim M Y n) (hx : 0 ≤ x ∧ x < 1073741824) (e : M' = mUI M Y i x) : lim M' Y n := fun j hj => by
  rw [mI_ui Y j e]
  by_cases c : Y = Y ∧ j = i
  · rw [if_pos c]; exact hx
  · rw [if_neg c]; exact h j hj
theorem m30 (x : Int) : 0 ≤ x % 1073741824 ∧ x % 1073741824 < 1073741824 := ⟨Int.emod_nonneg _ (by decide), Int.emod_lt_of_pos _ (by decide)⟩
theorem m30i (x : Int) : i32 (x % 1073741824) := ⟨by have := m30 x; omega, by have := m30 x; omega⟩
theorem l30i {x : Int} (h : 0 ≤ x ∧ x < 1073741824) : i32 x := ⟨by omega, by omega⟩
theorem s_Na_put0v {x : Int} (hx : 0 ≤ x ∧ x < 1073741824) (hO : mOk M) (h : Nl M a Y Cy) : Cv G y_Na_put0 d [vr a, vi x] M (nst M a Y Cy w x) := by
  refine (s_Na_put0 hx hO h).mono (fun M' q => ?_)
  obtain ⟨o, f, s, -, t, e⟩ := q
  exact nst_fi t o f e
theorem s_Na_putLong {x : Int} (hx : 0 ≤ x ∧ x < 1152921504606846976) (hO : mOk M) (h : Nl M a Y Cy) : Cv G y_Na_putLong (d + 1) [vr a, vl x] M (nst M a Y Cy w x) := by
  obtain ⟨k0, r0, kY, nY, ⟨c1, c2⟩, ne, z1, z2⟩ := id h
  refine k_Na_putLong hO ⟨by omega, by omega⟩ ?_
  rw [r0, nY, j_and, j_ushr hx.1 (by omega)]
  refine ⟨k0, kY, ⟨by omega, by omega⟩, m30i _, fun M5 e5 => ?_⟩
  have f5 : FI (fun y => y = Y) M M5 := by rw [e5]; exact FI.ui rfl
  rw [f5.1, f5.2.1, f5.2.2.1, r0, nY]
  refine ⟨kY, ⟨by omega, by omega⟩, ⟨by omega, by omega⟩, fun M10 e10 => ?_⟩
  have f10 : FI (fun y => y = Y) M5 M10 := by rw [e10]; exact FI.ui rfl
  have o10 : mOk M10 := by rw [e10]; exact mOk_UI (by rw [e5]; exact mOk_UI hO (m30i _)) ⟨by omega, by omega⟩
  have y0 : mI M10 Y 0 = x % 1073741824 := by rw [mI_ui Y 0 e10, if_neg (fun u => absurd u.2 (by decide)), mI_ui Y 0 e5, if_pos ⟨rfl, rfl⟩]
  have y1 : mI M10 Y 1 = x / 1073741824 := by rw [mI_ui Y 1 e10, if_pos ⟨rfl, rfl⟩]
  have ff := f5.trans f10
  refine (s_Na_trim (n := 2) o10 (h.fi ff) (by omega) (fun j hj => ?_)).mono (fun M12 q => ?_)
  · rcases (show j = 0 ∨ j = 1 by first | rfl | omega) with u | u
    · rw [u, y0]; exact m30 x
    · rw [u, y1]; omega
  · obtain ⟨o, f, -, s, -, t, e⟩ := q
    refine ⟨o, nst_fi t o ((ff.mono (fun _ u => Or.inr u)).trans (f.mono (fun _ u => Or.inl u))) ?_⟩
    rw [e]
    show 0 + mI M10 Y 0 * 2 ^ (30 * 0) + mI M10 Y 1 * 2 ^ (30 * 1) = x
    rw [y0, y1, show (2 : Int) ^ (30 * 0) = 1 by decide, show (2 : Int) ^ (30 * 1) = 1073741824 by decide]
    omega
end NAC
end
section
/-! The class's natural numbers: copies and multiples. -/
section NAD
variable {G : mG} {d a b Y Cy s n X Cx w : Nat} {M M' M1 M2 M3 : mM} {v : Int}
theorem cpy_fi (hO : mOk M) (e : M' = mCpy M X Y 0 0 n) : mOk M' ∧ FI (fun x => x = Y) M M' ∧ ∀ j, j < n → mI M' Y j = mI M X j := by
  have ii : ∀ q j, mI M' q j = if q = Y ∧ 0 ≤ j ∧ j < 0 + n then mI M X (0 + (j - 0)) else mI M q j := fun q j => by rw [e]; rfl
  refine ⟨by rw [e]; exact mOk_Cpy hO, ⟨by rw [e]; rfl, by rw [e]; rfl, by rw [e]; rfl, by rw [e]; rfl, by rw [e]; rfl, by rw [e]; rfl, fun x hx => ?_⟩, fun j hj => ?_⟩
  · funext j
    rw [ii x j, if_neg (fun u => hx u.1)]
  · rw [ii Y j, if_pos ⟨rfl, by omega, by omega⟩, show 0 + (j - 0) = j by first | rfl | omega]
/-- the copy's end -/
theorem s_p1e {M0 : mM} (hO : mOk M) (h : Nl M a Y Cy) (hn : n ≤ Cy) (g3 : lim M X n) (g4 : 0 < n → mI M X (n - 1) ≠ 0) (b1 : mI M b 1 = (n : Int)) (bY : b ≠ Y) (eM : M1 = mCpy M X Y 0 0 n) (e2 : M2 = mUI M1 a 1 (mI M1 b 1)) : mOk M2 ∧ FI (fun x => x = a ∨ x = Y) M M2 ∧ Nt M2 a Y Cy n ∧ dn (mI M2 Y) n = dn (mI M X) n := by
  obtain ⟨o1, f1, y1⟩ := cpy_fi hO eM
  have ne : a ≠ Y := h.2.2.2.2.2.1
  have cb : Cy ≤ 100000 := h.2.2.2.2.1.2
  rw [show mI M1 b 1 = (n : Int) by rw [f1.2.2.2.2.2.2 b bY]; exact b1] at e2
  have f2 : FI (fun x => x = a) M1 M2 := by rw [e2]; exact FI.ui rfl
  have ff : FI (fun x => x = a ∨ x = Y) M M2 := (f1.mono (fun _ u => Or.inr u)).trans (f2.mono (fun _ u => Or.inl u))
  have yy : ∀ j, j < n → mI M2 Y j = mI M X j := fun j hj => by rw [f2.2.2.2.2.2.2 Y (fun u => ne u.symm), y1 j hj]
  exact ⟨by rw [e2]; exact mOk_UI o1 ⟨by omega, by omega⟩, ff, ⟨h.fi ff, by rw [mI_ui a 1 e2, if_pos ⟨rfl, rfl⟩], hn, fun j hj => by rw [yy j hj]; exact g3 j hj, fun u => by rw [yy _ (by omega)]; exact g4 u⟩, dn_cg n yy⟩
theorem s_p1n {l : Nat} (hO : mOk M) (h : Nl M a Y Cy) (k : Nt M b X Cx n) (ab : a ≠ b) (hl : 4 ≤ l ∧ l ≤ 100000) (hn : n ≤ l) (l1 : 2 * Cy ≤ l) (l3 : l ≤ 2 * n) (e19 : M1 = mNew M 30 l l) : mK M1 a = 10 ∧ ∀ M22, M22 = mUR M1 a 0 (mZ M) → mK M22 b = 10 ∧ mK M22 (mR M22 b 0) = 30 ∧ mK M22 (mR M22 a 0) = 30 ∧ ((0 : Int) ≤ 0 ∧ (0 : Int) ≤ 0 ∧ (0 : Int) ≤ mI M22 b 1 ∧ 0 + (mI M22 b 1) ≤ (mN M22 (mR M22 b 0) : Int) ∧ 0 + (mI M22 b 1) ≤ (mN M22 (mR M22 a 0) : Int)) ∧ ∀ M28, M28 = mCpy M22 (mR M22 b 0) (mR M22 a 0) 0 0 (Int.toNat (mI M22 b 1)) → ∀ M30, M30 = mUI M28 a 1 (mI M28 b 1) → nst M a Y Cy n (dn (mI M X) n) M30 := by
  obtain ⟨k0, r0, kY, nY, ⟨c1, c2⟩, ne, z1, z2⟩ := id h
  obtain ⟨⟨q0, p0, kX, nX, ⟨e1, e2⟩, -, y1, y2⟩, g1, g2, g3, g4⟩ := id k
  have F19 : FA (fun _ => False) (fun x => x = a) M M1 := FA.new e19
  refine ⟨by rw [(F19.2 a z1).1]; exact k0, fun M22 e22 => ?_⟩
  have F22 : FA (fun _ => False) (fun x => x = a) M M22 := F19.trans (FA.ur rfl e22)
  have ra : mR M22 a 0 = mZ M := by rw [e22, mR_UR, if_pos ⟨rfl, rfl⟩]
  have rb : mR M22 b 0 = X := by rw [(F22.2 b y1).2.2.2.1 (fun u => ab u.symm)]; exact p0
  have KZ : mK M22 (mZ M) = 30 := by rw [e22]; show mK M1 (mZ M) = 30; rw [e19, mK_New, if_pos rfl]
  have NZ : mN M22 (mZ M) = l := by rw [e22]; show mN M1 (mZ M) = l; rw [e19, mN_New, if_pos rfl]
  have i1 : mI M22 b 1 = (n : Int) := by rw [(F22.2 b y1).2.2.2.2 (fun u => u)]; exact g1
  have iX : mI M22 X = mI M X := (F22.2 X y2).2.2.2.2 (fun u => u)
  have Z22 : mZ M22 = mZ M + 1 := by rw [e22]; show mZ M1 = _; rw [e19, mZ_New]
  have S22 : mS M22 = mS M + l := by rw [e22]; show mS M1 = _; rw [e19, mS_New]
  have K22a : mK M22 a = 10 := by rw [(F22.2 a z1).1]; exact k0
  have K22b : mK M22 b = 10 := by rw [(F22.2 b y1).1]; exact q0
  have K22X : mK M22 X = 30 := by rw [(F22.2 X y2).1]; exact kX
  have N22X : mN M22 X = Cx := by rw [(F22.2 X y2).2.1]; exact nX
  have o22 : mOk M22 := by rw [e22]; exact mOk_UR (by rw [e19]; exact mOk_New hO)
  have h22 : Nl M22 a (mZ M) l := ⟨K22a, ra, KZ, NZ, hl, Nat.ne_of_lt z1, by omega, by omega⟩
  rw [ra, rb, i1, KZ, NZ, K22X, N22X, Int.toNat_natCast]
  refine ⟨K22b, rfl, rfl, ⟨by omega, by omega, by omega, by omega, by omega⟩, fun M28 e28 M30 e30 => ?_⟩
  obtain ⟨o, ff, t, e⟩ := s_p1e (M0 := M) (b := b) o22 h22 hn (fun j hj => by rw [iX]; exact g3 j hj) (fun u => by rw [iX]; exact g4 u) i1 (Nat.ne_of_lt y1) e28 e30
  rw [iX] at e
  exact nst_rs F22 (Or.inr ⟨rfl, Z22, S22, l1, l3⟩) ff o t e
theorem s_Na_put1 (hO : mOk M) (h : Nl M a Y Cy) (k : Nt M b X Cx n) (ab : a ≠ b) (hC : Cy ≤ 50000) (hn : n ≤ 50000) : Cv G y_Na_put1 (d + 1) [vr a, vr b] M (nst M a Y Cy n (dn (mI M X) n)) := by
  obtain ⟨k0, r0, kY, nY, ⟨c1, c2⟩, ne, z1, z2⟩ := id h
  obtain ⟨⟨l0, p0, kX, nX, ⟨e1, e2⟩, -, y1, y2⟩, g1, g2, g3, g4⟩ := id k
  have bY : b ≠ Y := fun u => by rw [u, kY] at l0; omega
  refine k_Na_put1 hO ?_
  rw [r0, nY, g1]
  refine ⟨l0, k0, kY, ⟨by omega, by omega⟩, fun y => ?_, fun y => ?_⟩
  · rw [p0, nX, Int.toNat_natCast]
    refine ⟨kX, ⟨by omega, by omega, by omega, by omega, by omega⟩, fun M13 e13 M15 e15 => ?_⟩
    obtain ⟨o, ff, t, e⟩ := s_p1e (M0 := M) (b := b) hO h (by omega) g3 g4 g1 bY e13 e15
    exact nst_fi t o ff e
  · obtain ⟨l, el, l1, l2, l3⟩ : ∃ l : Nat, (if ((n : Nat) : Int) < 2 * ((Cy : Nat) : Int) then 2 * ((Cy : Nat) : Int) else ((n : Nat) : Int)) = ((l : Nat) : Int) ∧ 2 * Cy ≤ l ∧ n ≤ l ∧ l ≤ 2 * n := by
      by_cases u : ((n : Nat) : Int) < 2 * ((Cy : Nat) : Int)
      · exact ⟨2 * Cy, by rw [if_pos u]; omega, by omega, by omega, by omega⟩
      · exact ⟨n, by rw [if_neg u], by omega, by omega, by omega⟩
    rw [el, Int.toNat_natCast]
    refine ⟨⟨by omega, by omega⟩, ⟨by omega, by omega⟩, fun M19 e19 => ?_⟩
    exact s_p1n hO h k ab ⟨by omega, by omega⟩ l2 l1 l3 e19
theorem mul_bd {f c l : Int} (hf : 0 ≤ f ∧ f < 1073741824) (hc : 0 ≤ c ∧ c < f ∨ c = 0) (hl : 0 ≤ l ∧ l < 1073741824) : 0 ≤ c + f * l ∧ c + f * l < 1152921504606846976 ∧ (0 < f → c + f * l < f * 1073741824) := by
  have h1 := Int.mul_nonneg hf.1 hl.1
  have h2 : f * l ≤ f * 1073741823 := Int.mul_le_mul_of_nonneg_left (by omega) hf.1
  omega
theorem hm_mul {f c i : Int} {Q Q' : mM → Prop} (h : h_Na_multiply_40 G d a f c i M Q) (hq : ∀ M', Q M' → Q' M') : h_Na_multiply_40 G d a f c i M Q' := by
  unfold h_Na_multiply_40 at h ⊢
  exact mWm.mono h (fun r M' k => ⟨k.1, hq M' k.2⟩)
/-- the loop of multiply -/
theorem s_mul40 {f : Int} (hf : 2 ≤ f ∧ f < 1073741824) (h : Nt M a Y Cy s) (hs : 0 < s) (hC : s < Cy) (hO : mOk M) : h_Na_multiply_40 G d a f 0 0 M (fun M' => mOk M' ∧ FI (fun x => x = a ∨ x = Y) M M' ∧ ∃ s', (s ≤ s' ∧ s' ≤ s + 1) ∧ Nt M' a Y Cy s' ∧ dn (mI M' Y) s' = f * dn (mI M Y) s) := by
  obtain ⟨⟨k0, r0, kY, nY, ⟨c1, c2⟩, ne, z1, z2⟩, h1, h2, h3, h4⟩ := id h
  obtain ⟨t, rfl⟩ : ∃ t, s = t + 1 := ⟨s - 1, by omega⟩
  have dge := dn_ge h3 (h4 hs)
  suffices HH : ∀ (t' i : Nat) (c : Int) (M1 : mM), t + 1 ≤ i + t' → i ≤ t + 1 → (0 ≤ c ∧ c < f) → mOk M1 → FI (fun x => x = Y) M M1 → lim M1 Y (t + 1) → (∀ j, i ≤ j → mI M1 Y j = mI M Y j) → dn (mI M1 Y) (t + 1) + c * 2 ^ (30 * i) = dn (mI M Y) (t + 1) + (f - 1) * dn (mI M Y) i → h_Na_multiply_40 G d a f c i M1 (fun M' => mOk M' ∧ FI (fun x => x = a ∨ x = Y) M M' ∧ ∃ s', (t + 1 ≤ s' ∧ s' ≤ t + 1 + 1) ∧ Nt M' a Y Cy s' ∧ dn (mI M' Y) s' = f * dn (mI M Y) (t + 1)) from by
    have := HH (t + 1) 0 0 M (by omega) (by omega) (by omega) hO FI.refl h3 (fun _ _ => rfl) (by show _ + 0 * _ = _ + _ * 0; omega)
    exact this
  intro t'
  induction t' with
  | zero =>
    intro i c M1 g1 g2 gc o F L E V
    have ei : i = t + 1 := by omega
    subst ei
    have a1 : mI M1 a 1 = ((t + 1 : Nat) : Int) := by rw [F.2.2.2.2.2.2 a ne]; exact h1
    have hN := (Nl.fi ⟨k0, r0, kY, nY, ⟨c1, c2⟩, ne, z1, z2⟩ F : Nl M1 a Y Cy)
    rw [show dn (mI M Y) (t + 1) + (f - 1) * dn (mI M Y) (t + 1) = f * dn (mI M Y) (t + 1) by rw [Int.sub_mul]; omega] at V
    refine k_Na_multiply_40 o ⟨by omega, by omega⟩ ⟨by omega, by omega⟩ ⟨by omega, by omega⟩ ?_
    rw [a1, F.1, F.2.1, F.2.2.1, r0, nY, Int.toNat_natCast]
    refine ⟨k0, fun _ => ⟨fun y => ?_, fun y => ?_⟩, fun y => absurd (Int.le_refl _) y⟩
    · have c0 : c = 0 := j_c0.1 y
      rw [c0, Int.zero_mul, Int.add_zero] at V
      refine ⟨o, F.mono (fun _ u => Or.inr u), t + 1, ⟨by omega, by omega⟩, ⟨hN, a1, h2, L, fun _ => ?_⟩, V⟩
      show mI M1 Y t ≠ 0
      refine dn_top L ?_
      rw [V]
      have := Int.mul_le_mul_of_nonneg_right (show 1 ≤ f by omega) (dn_nn h3)
      omega
    · have c0 : c ≠ 0 := fun u => y (j_c0.2 u)
      refine ⟨kY, ⟨by omega, by omega⟩, ⟨by omega, by omega⟩, fun M39 e39 => ?_⟩
      have f39 : FI (fun x => x = Y) M1 M39 := by rw [e39]; exact FI.ui rfl
      have a39 : mI M39 a 1 = ((t + 1 : Nat) : Int) := by rw [f39.2.2.2.2.2.2 a ne]; exact a1
      rw [a39]
      refine ⟨⟨by omega, by omega⟩, fun M42 e42 => ?_⟩
      have f42 : FI (fun x => x = a) M39 M42 := by rw [e42]; exact FI.ui rfl
      have ff : FI (fun x => x = a ∨ x = Y) M M42 := ((F.trans f39).mono (fun _ u => Or.inr u)).trans (f42.mono (fun _ u => Or.inl u))
      have yy : mI M42 Y = mI M39 Y := f42.2.2.2.2.2.2 Y (fun u => ne u.symm)
      have yt : mI M39 Y (t + 1) = c := by rw [mI_ui Y (t + 1) e39, if_pos ⟨rfl, rfl⟩]
      have yl : ∀ j, j < t + 1 → mI M39 Y j = mI M1 Y j := fun j hj => by rw [mI_ui Y j e39, if_neg (fun u => by omega)]
      refine ⟨by rw [e42]; exact mOk_UI (by rw [e39]; exact mOk_UI o ⟨by omega, by omega⟩) ⟨by omega, by omega⟩, ff, t + 1 + 1, ⟨by omega, by omega⟩, ⟨Nl.fi ⟨k0, r0, kY, nY, ⟨c1, c2⟩, ne, z1, z2⟩ ff, by rw [mI_ui a 1 e42, if_pos ⟨rfl, rfl⟩]; omega, by omega, fun j hj => ?_, fun _ => ?_⟩, ?_⟩
      · rw [yy]
        by_cases u : j < t + 1
        · rw [yl j u]; exact L j u
        · rw [show j = t + 1 by first | rfl | omega, yt]; omega
      · rw [yy, show t + 1 + 1 - 1 = t + 1 by first | rfl | omega, yt]; exact c0
      · rw [yy, dn_s, yt, dn_cg (t + 1) yl]
        exact V
  | succ t' ih =>
    intro i c M1 g1 g2 gc o F L E V
    by_cases ei : i = t + 1
    · exact ih i c M1 (by omega) g2 gc o F L E V
    have li : i < t + 1 := by omega
    have a1 : mI M1 a 1 = ((t + 1 : Nat) : Int) := by rw [F.2.2.2.2.2.2 a ne]; exact h1
    obtain ⟨b1, b2, b3⟩ := mul_bd (f := f) (c := c) (l := mI M1 Y i) ⟨by omega, by omega⟩ (Or.inl gc) (L i li)
    refine k_Na_multiply_40 o ⟨by omega, by omega⟩ ⟨by omega, by omega⟩ ⟨by omega, by omega⟩ ?_
    rw [a1, F.1, F.2.1, F.2.2.1, r0, nY, Int.toNat_natCast, Int.toNat_natCast, j_and, j_ushr b1 (by omega)]
    refine ⟨k0, fun y => absurd y (by omega), fun _ => ⟨kY, by omega, by omega, m30i _, fun M48 e48 => ?_⟩⟩
    rw [show ((i : Int) + 1) = ((i + 1 : Nat) : Int) by first | rfl | omega]
    have b4 := b3 (by omega)
    have V48 := c_st (i := i) (dn_ui (M' := M48) li e48)
    refine ih (i + 1) _ M48 (by omega) (by omega) ⟨by omega, by omega⟩ (by rw [e48]; exact mOk_UI o (m30i _)) (F.trans (by rw [e48]; exact FI.ui rfl)) (lim_ui L (m30 _) e48) (fun j hj => by rw [mI_ui Y j e48, if_neg (fun u => by omega)]; exact E j (by omega)) ?_
    rw [V48, dn_s (mI M Y) i, ← E i (Nat.le_refl _)]
    exact al_mul V
theorem s_Na_multiply {f : Int} (hf : 1 ≤ f ∧ f < 1073741824) (hO : mOk M) (h : Nt M a Y Cy s) (hC : Cy ≤ 50000) : Cv G y_Na_multiply (d + 2) [vr a, vi f] M (nst M a Y Cy (s + 1) (f * dn (mI M Y) s)) := by
  obtain ⟨⟨k0, r0, kY, nY, ⟨c1, c2⟩, ne, z1, z2⟩, h1, h2, h3, h4⟩ := id h
  refine k_Na_multiply hO ⟨by omega, by omega⟩ ⟨fun y => ?_, fun y => ?_⟩
  · rw [y, Int.one_mul]
    exact nst_fi h hO FI.refl rfl
  · rw [r0, nY, h1]
    refine ⟨k0, kY, ⟨by omega, by omega⟩, fun e => ?_, fun e => ?_⟩
    · have es : s = Cy := by omega
      rw [show 2 * ((s : Nat) : Int) = ((2 * s : Nat) : Int) by first | rfl | omega]
      refine (s_JA_copyOf hO kY z2 (by omega) (by omega)).mono (fun x M15 q => ?_)
      obtain ⟨ex, o15, f15, Z15, S15, K15, N15, I15⟩ := q
      subst ex
      rw [nY] at I15
      refine ⟨o15, by rw [(f15.2 a z1).1]; exact k0, fun M19 e19 => ?_⟩
      have F19 : FA (fun _ => False) (fun x => x = a) M M19 := (f15.mono (fun _ _ y => y) (fun _ _ y => y.elim)).trans (FA.ur rfl e19)
      have Z19 : mZ M19 = mZ M + 1 := by rw [e19]; exact Z15
      have o19 : mOk M19 := by rw [e19]; exact mOk_UR o15
      have t19 : Nt M19 a (mZ M) (2 * s) s := ⟨⟨by rw [(F19.2 a z1).1]; exact k0, by rw [e19, mR_UR, if_pos ⟨rfl, rfl⟩], by rw [e19]; exact K15, by rw [e19]; exact N15, ⟨by omega, by omega⟩, by omega, by omega, by omega⟩, by rw [(F19.2 a z1).2.2.2.2 (fun u => u)]; exact h1, by omega, fun j hj => by rw [e19, mI_UR, I15 j (by omega)]; exact h3 j hj, fun u => by rw [e19, mI_UR, I15 _ (by omega)]; exact h4 u⟩
      refine hm_mul (s_mul40 ⟨by omega, hf.2⟩ t19 (by omega) (by omega) o19) (fun M' q => ?_)
      obtain ⟨o, F, s', -, T, V⟩ := q
      refine nst_rs (Y' := mZ M) (Cy' := 2 * s) F19 (Or.inr ⟨rfl, Z19, by rw [e19, mS_UR]; exact S15, by omega, by omega⟩) F o T ?_
      rw [V, e19, mI_UR, dn_cg s (fun j hj => I15 j (by omega))]
    · by_cases s0 : s = 0
      · subst s0
        refine k_Na_multiply_40 hO ⟨by omega, by omega⟩ ⟨by omega, by omega⟩ ⟨by omega, by omega⟩ ?_
        rw [h1]
        refine ⟨k0, fun _ => ⟨fun _ => ?_, fun u => absurd (j_c0.2 rfl) u⟩, fun u => absurd (Int.le_refl _) u⟩
        exact nst_fi h hO FI.refl (by show (0 : Int) = f * 0; omega)
      · refine hm_mul (s_mul40 ⟨by omega, hf.2⟩ h (by omega) (by omega) hO) (fun M' q => ?_)
        obtain ⟨o, F, s', -, T, V⟩ := q
        exact nst_fi T o F V
end NAD
end
section
/-! The class's natural numbers: a sum. -/
section NAE
variable {G : mG} {d a b Y Cy s n m X Cx w : Nat} {M M' M1 M2 M3 : mM} {v : Int}
theorem add_bd {f c l x : Int} (hf : 0 ≤ f ∧ f < 1073741824) (hc : 0 ≤ c ∧ c < 1073741824) (hl : 0 ≤ l ∧ l < 1073741824) (hx : 0 ≤ x ∧ x < 1073741824) : 0 ≤ c + (l + f * x) ∧ c + (l + f * x) < 1152921504606846976 := by
  have h1 := Int.mul_nonneg hf.1 hx.1
  have h2 : f * x ≤ 1073741823 * x := Int.mul_le_mul_of_nonneg_right (by omega) hx.1
  omega
theorem q30 {x : Int} (h : 0 ≤ x ∧ x < 1152921504606846976) : 0 ≤ x / 1073741824 ∧ x / 1073741824 < 1073741824 := by omega
theorem c30 {c : Int} (h : 0 ≤ c ∧ c < 1073741824) : i64 c := ⟨by omega, by omega⟩
theorem t30 {x : Int} (h : 0 ≤ x ∧ x < 1152921504606846976) : x < 9223372036854775808 := by omega
/-- the carry goes on -/
theorem s_add107 {T : Int} (h : Nl M a Y Cy) (hm : m < Cy) (hT : T < 2 ^ (30 * (m + 1))) : ∀ (t i : Nat) (c : Int) (M1 : mM), m + 1 ≤ i + t → i ≤ m + 1 → (0 ≤ c ∧ c < 1073741824) → mOk M1 → FI (fun x => x = Y) M M1 → lim M1 Y (m + 1) → dn (mI M1 Y) (m + 1) + c * 2 ^ (30 * i) = T → h_Na_add_107 G d a m c i M1 (fun M' => mOk M' ∧ FI (fun x => x = a ∨ x = Y) M M' ∧ ∃ s', Nt M' a Y Cy s' ∧ dn (mI M' Y) s' = T) := by
  have cb := h.2.2.2.2.1.2
  have fin : ∀ (M1 : mM), mOk M1 → FI (fun x => x = Y) M M1 → lim M1 Y (m + 1) → dn (mI M1 Y) (m + 1) = T → mK M1 a = 10 ∧ Cv G y_Na_trim d [vr a, vi ((m : Int) + 1)] M1 (fun M39 => mOk M39 ∧ (mOk M39 ∧ FI (fun x => x = a ∨ x = Y) M M39 ∧ ∃ s', Nt M39 a Y Cy s' ∧ dn (mI M39 Y) s' = T)) := by
    intro M1 o F L V
    refine ⟨by rw [F.1]; exact h.1, ?_⟩
    rw [show ((m : Int) + 1) = ((m + 1 : Nat) : Int) by first | rfl | omega]
    refine (s_Na_trim o (h.fi F) (by omega) L).mono (fun M' q => ?_)
    obtain ⟨o', F', -, s', -, t', e'⟩ := q
    exact ⟨o', o', (F.mono (fun _ u => Or.inr u)).trans (F'.mono (fun _ u => Or.inl u)), s', t', by rw [e', V]⟩
  intro t
  induction t with
  | zero =>
    intro i c M1 g1 g2 gc o F L V
    have ei : i = m + 1 := by omega
    subst ei
    have c0 : c = 0 := by
      have a1 := dn_nn L
      refine Classical.byContradiction (fun u => ?_)
      have a2 := Int.mul_le_mul_of_nonneg_right (show 1 ≤ c by omega) (Int.le_of_lt (p30p (m + 1)))
      omega
    rw [c0, Int.zero_mul, Int.add_zero] at V
    exact k_Na_add_107 o ⟨by omega, by omega⟩ (c30 gc) ⟨by omega, by omega⟩ ⟨fun _ => fin M1 o F L V, fun y => absurd (Or.inl (by omega)) y⟩
  | succ t ih =>
    intro i c M1 g1 g2 gc o F L V
    by_cases ei : i = m + 1
    · exact ih i c M1 (by omega) g2 gc o F L V
    have li : i < m + 1 := by omega
    refine k_Na_add_107 o ⟨by omega, by omega⟩ (c30 gc) ⟨by omega, by omega⟩ ⟨fun y => ?_, fun y => ?_⟩
    · have c0 : c = 0 := by
        rcases y with y | y
        · omega
        · exact j_c0.1 y
      rw [c0, Int.zero_mul, Int.add_zero] at V
      exact fin M1 o F L V
    · have Li := L i li
      have bd : 0 ≤ c + mI M1 Y i ∧ c + mI M1 Y i < 1152921504606846976 := by omega
      rw [F.1, F.2.1, F.2.2.1, h.2.1, h.2.2.2.1, Int.toNat_natCast, j_and, j_ushr bd.1 (t30 bd)]
      refine ⟨h.1, h.2.2.1, by omega, by omega, m30i _, fun M48 e48 => ?_⟩
      rw [show ((i : Int) + 1) = ((i + 1 : Nat) : Int) by first | rfl | omega]
      refine ih (i + 1) _ M48 (by omega) (by omega) (q30 bd) (by rw [e48]; exact mOk_UI o (m30i _)) (F.trans (by rw [e48]; exact FI.ui rfl)) (lim_ui L (m30 _) e48) ?_
      rw [c_st (i := i) (dn_ui (M' := M48) li e48)]
      exact al_car V
/-- the sum limb by limb -/
theorem s_add40 {f T : Int} (hf : 0 ≤ f ∧ f < 1073741824) (h : Nl M a Y Cy) (k : Nt M b X Cx n) (hm : m < Cy) (hn : n ≤ m) (bY : b ≠ Y) (XY : X ≠ Y) (hT : T < 2 ^ (30 * (m + 1))) (eT : T = dn (mI M Y) (m + 1) + f * dn (mI M X) n) : ∀ (t i : Nat) (c : Int) (M1 : mM), n ≤ i + t → i ≤ n → (0 ≤ c ∧ c < 1073741824) → mOk M1 → FI (fun x => x = Y) M M1 → lim M1 Y (m + 1) → dn (mI M1 Y) (m + 1) + c * 2 ^ (30 * i) = dn (mI M Y) (m + 1) + f * dn (mI M X) i → h_Na_add_40 G d a b f m c i M1 (fun M' => mOk M' ∧ FI (fun x => x = a ∨ x = Y) M M' ∧ ∃ s', Nt M' a Y Cy s' ∧ dn (mI M' Y) s' = T) := by
  obtain ⟨⟨l0, p0, kX, nX, ⟨e1, e2⟩, -, y1, y2⟩, g1, g2, g3, g4⟩ := id k
  have cb := h.2.2.2.2.1.2
  have fin : ∀ (c : Int) (M1 : mM), (0 ≤ c ∧ c < 1073741824) → mOk M1 → FI (fun x => x = Y) M M1 → lim M1 Y (m + 1) → dn (mI M1 Y) (m + 1) + c * 2 ^ (30 * n) = dn (mI M Y) (m + 1) + f * dn (mI M X) n → h_Na_add_107 G d a m c n M1 (fun M' => mOk M' ∧ FI (fun x => x = a ∨ x = Y) M M' ∧ ∃ s', Nt M' a Y Cy s' ∧ dn (mI M' Y) s' = T) := fun c M1 gc o F L V => s_add107 h hm hT (m + 1) n c M1 (by omega) (by omega) gc o F L (V.trans eT.symm)
  intro t
  induction t with
  | zero =>
    intro i c M1 h1 h2 gc o F L V
    have ei : i = n := by omega
    subst ei
    have b1 : mI M1 b 1 = ((i : Nat) : Int) := by rw [F.2.2.2.2.2.2 b bY]; exact g1
    refine k_Na_add_40 o (l30i hf) ⟨by omega, by omega⟩ (c30 gc) ⟨by omega, by omega⟩ ?_
    rw [b1]
    exact ⟨by rw [F.1]; exact l0, fun _ => fin c M1 gc o F L V, fun y => absurd (Int.le_refl _) y⟩
  | succ t ih =>
    intro i c M1 h1 h2 gc o F L V
    by_cases ei : i = n
    · exact ih i c M1 (by omega) h2 gc o F L V
    have li : i < m + 1 := by omega
    have b1 : mI M1 b 1 = ((n : Nat) : Int) := by rw [F.2.2.2.2.2.2 b bY]; exact g1
    have iX : mI M1 X = mI M X := F.2.2.2.2.2.2 X XY
    have bd := add_bd hf gc (L i li) (g3 i (by omega))
    refine k_Na_add_40 o (l30i hf) ⟨by omega, by omega⟩ (c30 gc) ⟨by omega, by omega⟩ ?_
    rw [b1, F.1, F.2.1, F.2.2.1, h.2.1, h.2.2.2.1, p0, nX, iX, Int.toNat_natCast, j_and, j_ushr bd.1 (t30 bd)]
    refine ⟨l0, fun y => absurd y (by omega), fun y => ⟨h.1, h.2.2.1, by omega, kX, by omega, by omega, m30i _, fun M27 e27 => ?_⟩⟩
    rw [show ((i : Int) + 1) = ((i + 1 : Nat) : Int) by first | rfl | omega]
    refine ih (i + 1) _ M27 (by omega) (by omega) (q30 bd) (by rw [e27]; exact mOk_UI o (m30i _)) (F.trans (by rw [e27]; exact FI.ui rfl)) (lim_ui L (m30 _) e27) ?_
    rw [c_st (i := i) (dn_ui (M' := M27) li e27), dn_s (mI M X) i]
    exact al_add V
theorem hm_add {f l c i : Int} {Q Q' : mM → Prop} (h : h_Na_add_40 G d a b f l c i M Q) (hq : ∀ M', Q M' → Q' M') : h_Na_add_40 G d a b f l c i M Q' := by
  unfold h_Na_add_40 at h ⊢
  exact mWm.mono h (fun r M' k => ⟨k.1, hq M' k.2⟩)
theorem add_T {f x z p : Int} (hf : 0 ≤ f ∧ f < 1073741824) (hx : x < p) (hz : 0 ≤ z ∧ z < p) : x + f * z < p * 1073741824 := by
  have h2 : f * z ≤ 1073741823 * z := Int.mul_le_mul_of_nonneg_right (by omega) hz.1
  omega
theorem s_Na_add {f : Int} (hf : 0 ≤ f ∧ f < 1073741824) (hO : mOk M) (h : Nt M a Y Cy s) (k : Nt M b X Cx n) (ab : a ≠ b) (YX : Y ≠ X) (hC : Cy ≤ 50000) (hs : s ≤ m) (hn : n ≤ m) (em : s = m ∨ n = m) (hm : m < 50000) : Cv G y_Na_add (d + 3) [vr a, vr b, vi f] M (nst M a Y Cy (m + 1) (dn (mI M Y) s + f * dn (mI M X) n)) := by
  obtain ⟨hl, h1, h2, h3, h4⟩ := id h
  obtain ⟨k0, r0, kY, nY, ⟨c1, c2⟩, ne, z1, z2⟩ := id hl
  obtain ⟨⟨l0, p0, kX, nX, ⟨e1, e2⟩, -, y1, y2⟩, g1, g2, g3, g4⟩ := id k
  have bY : b ≠ Y := fun u => by rw [u, kY] at l0; omega
  refine k_Na_add hO (l30i hf) ?_
  rw [h1, g1, show (if ((s : Nat) : Int) < ((n : Nat) : Int) then ((n : Nat) : Int) else ((s : Nat) : Int)) = ((m : Nat) : Int) by split <;> omega, show ((m : Nat) : Int) + 1 = ((m + 1 : Nat) : Int) by first | rfl | omega]
  refine ⟨k0, l0, (s_Na_reserve hO hl (by omega) hC).mono (fun M3 q => ?_)⟩
  obtain ⟨o3, Y', C', h3', hw, hC', F3, R3, I3, G3⟩ := q
  have yn : Y' = Y ∨ Y' = mZ M := by
    rcases G3 with ⟨u, -⟩ | ⟨u, -⟩
    · exact Or.inl u
    · exact Or.inr u
  have XY' : X ≠ Y' := by rcases yn with u | u <;> omega
  have bY' : b ≠ Y' := by rcases yn with u | u <;> omega
  have a3 : mI M3 a 1 = ((s : Nat) : Int) := by rw [(F3.2 a z1).2.2.2.2 (fun u => u)]; exact h1
  have k3 : Nt M3 b X Cx n := by
    refine ⟨⟨by rw [(F3.2 b y1).1]; exact l0, by rw [(F3.2 b y1).2.2.2.1 (fun u => ab u.symm)]; exact p0, by rw [(F3.2 X y2).1]; exact kX, by rw [(F3.2 X y2).2.1]; exact nX, ⟨e1, e2⟩, fun u => by rw [u, kX] at l0; omega, Nat.lt_of_lt_of_le y1 F3.1.1, Nat.lt_of_lt_of_le y2 F3.1.1⟩, by rw [(F3.2 b y1).2.2.2.2 (fun u => u)]; exact g1, g2, fun j hj => by rw [(F3.2 X y2).2.2.2.2 (fun u => u)]; exact g3 j hj, fun u => by rw [(F3.2 X y2).2.2.2.2 (fun u => u)]; exact g4 u⟩
  have iX : mI M3 X = mI M X := (F3.2 X y2).2.2.2.2 (fun u => u)
  obtain ⟨-, r0', kY', nY', ⟨-, c2'⟩, ne', -⟩ := id h3'
  refine ⟨o3, h3'.1, ?_⟩
  rw [r0', a3]
  refine (s_JA_fillR o3 kY' (by omega) (by omega) (by omega) ⟨by decide, by decide⟩).mono (fun M7 q => ?_)
  obtain ⟨o7, f7, i7⟩ := q
  have L7 : lim M7 Y' (m + 1) := fun j hj => by
    rw [i7 j]
    by_cases u : s ≤ j ∧ j < m + 1
    · rw [if_pos u]; omega
    · rw [if_neg u, I3 j (by omega)]; exact h3 j (by omega)
  have D7 : dn (mI M7 Y') (m + 1) = dn (mI M Y) s := by
    rw [dn_z (s := s) (by omega) (fun j u1 u2 => by rw [i7 j, if_pos ⟨u1, u2⟩])]
    exact dn_cg s (fun j hj => by rw [i7 j, if_neg (by omega), I3 j (by omega)])
  have k7 : Nt M7 b X Cx n := by
    obtain ⟨q1, q2, q3, q4, q5⟩ := k3
    exact ⟨q1.fi f7, by rw [f7.2.2.2.2.2.2 b bY']; exact q2, q3, fun j hj => by rw [f7.2.2.2.2.2.2 X XY']; exact q4 j hj, fun u => by rw [f7.2.2.2.2.2.2 X XY']; exact q5 u⟩
  have T7 : dn (mI M7 Y') (m + 1) + f * dn (mI M7 X) n < 2 ^ (30 * (m + 1)) := by
    rw [p30, f7.2.2.2.2.2.2 X XY', iX, D7]
    exact add_T hf (Int.lt_of_lt_of_le (dn_lt h3) (p30m hs)) ⟨dn_nn g3, Int.lt_of_lt_of_le (dn_lt g3) (p30m hn)⟩
  refine ⟨o7, hm_add (s_add40 (T := dn (mI M7 Y') (m + 1) + f * dn (mI M7 X) n) hf (h3'.fi f7) k7 (by omega) hn bY' XY' T7 rfl n 0 0 M7 (by omega) (by omega) ⟨by decide, by decide⟩ o7 FI.refl L7 (by show _ + 0 * _ = _ + _ * 0; rw [Int.zero_mul, Int.mul_zero])) (fun M' q => ?_)⟩
  obtain ⟨o, F, s', T, V⟩ := q
  refine nst_rs F3 G3 ((f7.mono (fun _ u => Or.inr u)).trans F) o T ?_
  rw [V, D7, f7.2.2.2.2.2.2 X XY', iX]
end NAE
end
section
/-! The class's natural numbers: a product. -/
section NAF
variable {G : mG} {d a b c Y Cy s n m X Cx Z Cz w : Nat} {M M' M1 M2 M3 : mM} {v : Int}
/-- a number that is not touched -/
theorem Nt.fi {S : Nat → Prop} (h : Nt M b X Cx n) (f : FI S M M') (hb : ¬ S b) (hX : ¬ S X) : Nt M' b X Cx n := by
  obtain ⟨q1, q2, q3, q4, q5⟩ := h
  exact ⟨q1.fi f, by rw [f.2.2.2.2.2.2 b hb]; exact q2, q3, fun j hj => by rw [f.2.2.2.2.2.2 X hX]; exact q4 j hj, fun u => by rw [f.2.2.2.2.2.2 X hX]; exact q5 u⟩
theorem Nt.fa {S R : Nat → Prop} (h : Nt M b X Cx n) (F : FA S R M M') (hb : ¬ S b) (hX : ¬ S X) (rb : ¬ R b) : Nt M' b X Cx n := by
  obtain ⟨⟨l0, p0, kX, nX, e, ne, y1, y2⟩, g1, g2, g3, g4⟩ := h
  exact ⟨⟨by rw [(F.2 b y1).1]; exact l0, by rw [(F.2 b y1).2.2.2.1 rb]; exact p0, by rw [(F.2 X y2).1]; exact kX, by rw [(F.2 X y2).2.1]; exact nX, e, ne, Nat.lt_of_lt_of_le y1 F.1.1, Nat.lt_of_lt_of_le y2 F.1.1⟩, by rw [(F.2 b y1).2.2.2.2 hb]; exact g1, g2, fun j hj => by rw [(F.2 X y2).2.2.2.2 hX]; exact g3 j hj, fun u => by rw [(F.2 X y2).2.2.2.2 hX]; exact g4 u⟩
/-- one limb times the other number -/
theorem s_pr56 {f : Int} {N i : Nat} {Q : mM → Prop} (hf : 0 ≤ f ∧ f < 1073741824) (h : Nl M a Y Cy) (k : Nt M c Z Cz m) (hN : N ≤ Cy) (hi : i + m < N) (cY : c ≠ Y) (ZY : Z ≠ Y)
    (hQ : ∀ M', mOk M' → FI (fun x => x = Y) M M' → lim M' Y N → (∀ j, i + 1 + m ≤ j → j < N → mI M' Y j = mI M Y j) → dn (mI M' Y) N = dn (mI M Y) N + f * (2 ^ (30 * i) * dn (mI M Z) m) → h_Na_putProduct_33 G d a b c ((i + 1 : Nat) : Int) M' Q)
    (z : mI M Y (i + m) = 0) : ∀ (t j : Nat) (e : Int) (M1 : mM), m ≤ j + t → j ≤ m → (0 ≤ e ∧ e < 1073741824) → mOk M1 → FI (fun x => x = Y) M M1 → lim M1 Y N → (∀ u, i + m ≤ u → u < N → mI M1 Y u = mI M Y u) → dn (mI M1 Y) N + e * (2 ^ (30 * i) * 2 ^ (30 * j)) = dn (mI M Y) N + f * (2 ^ (30 * i) * dn (mI M Z) j) → h_Na_putProduct_56 G d a b c i f e j M1 Q := by
  obtain ⟨⟨l0, p0, kX, nX, ⟨e1, e2⟩, -, y1, y2⟩, g1, g2, g3, g4⟩ := id k
  have cb := h.2.2.2.2.1.2
  intro t
  induction t with
  | zero =>
    intro j e M1 h1 h2 gc o F L U V
    have ej : j = m := by omega
    subst ej
    have b1 : mI M1 c 1 = ((j : Nat) : Int) := by rw [F.2.2.2.2.2.2 c cY]; exact g1
    refine k_Na_putProduct_56 o ⟨by omega, by omega⟩ (c30 hf) (c30 gc) ⟨by omega, by omega⟩ ?_
    rw [b1, F.1, F.2.1, F.2.2.1, h.2.1, h.2.2.2.1, show ((i : Nat) : Int) + ((j : Nat) : Int) = ((i + j : Nat) : Int) by first | rfl | omega, Int.toNat_natCast]
    refine ⟨l0, fun _ => ⟨h.1, h.2.2.1, by omega, l30i gc, fun M43 e43 => ?_⟩, fun y => absurd (Int.le_refl _) y⟩
    rw [show ((i : Int) + 1) = ((i + 1 : Nat) : Int) by first | rfl | omega]
    refine hQ M43 (by rw [e43]; exact mOk_UI o (l30i gc)) (F.trans (by rw [e43]; exact FI.ui rfl)) (lim_ui L gc e43) (fun u u1 u2 => by rw [mI_ui Y u e43, if_neg (fun q => by omega)]; exact U u (by omega) u2) ?_
    rw [dn_ui (M' := M43) hi e43, U (i + j) (Nat.le_refl _) hi, z, Int.sub_zero, p30a]
    exact V
  | succ t ih =>
    intro j e M1 h1 h2 gc o F L U V
    by_cases ej : j = m
    · exact ih j e M1 (by omega) h2 gc o F L U V
    have li : i + j < N := by omega
    have b1 : mI M1 c 1 = ((m : Nat) : Int) := by rw [F.2.2.2.2.2.2 c cY]; exact g1
    have iX : mI M1 Z = mI M Z := F.2.2.2.2.2.2 Z ZY
    have bd := add_bd hf gc (L (i + j) li) (g3 j (by omega))
    refine k_Na_putProduct_56 o ⟨by omega, by omega⟩ (c30 hf) (c30 gc) ⟨by omega, by omega⟩ ?_
    rw [b1, F.1, F.2.1, F.2.2.1, h.2.1, h.2.2.2.1, p0, nX, iX, show ((i : Nat) : Int) + ((j : Nat) : Int) = ((i + j : Nat) : Int) by first | rfl | omega, show ((i : Nat) : Int) + ((m : Nat) : Int) = ((i + m : Nat) : Int) by first | rfl | omega, Int.toNat_natCast, Int.toNat_natCast, Int.toNat_natCast, j_and, j_ushr bd.1 (t30 bd)]
    refine ⟨l0, fun y => absurd y (by omega), fun y => ⟨h.1, h.2.2.1, by omega, kX, by omega, by omega, m30i _, fun M27 e27 => ?_⟩⟩
    rw [show ((j : Int) + 1) = ((j + 1 : Nat) : Int) by first | rfl | omega]
    refine ih (j + 1) _ M27 (by omega) (by omega) (q30 bd) (by rw [e27]; exact mOk_UI o (m30i _)) (F.trans (by rw [e27]; exact FI.ui rfl)) (lim_ui L (m30 _) e27) (fun u u1 u2 => by rw [mI_ui Y u e27, if_neg (fun q => by omega)]; exact U u u1 u2) ?_
    rw [← p30a, show i + (j + 1) = i + j + 1 by first | rfl | omega, c_st (i := i + j) (dn_ui (M' := M27) li e27), dn_s (mI M Z) j, p30a]
    exact al_prod V
theorem al_row {D x z f p : Int} (h : D = x * z) : D + f * (p * z) = (x + f * p) * z := by rw [h, Int.add_mul, Int.mul_assoc]
theorem s_pr33 {N : Nat} (h : Nl M a Y Cy) (k1 : Nt M b X Cx n) (k : Nt M c Z Cz m) (hN : N ≤ Cy) (eN : N = n + m) (bY : b ≠ Y) (XY : X ≠ Y) (cY : c ≠ Y) (ZY : Z ≠ Y) : ∀ (t i : Nat) (M1 : mM), n ≤ i + t → i ≤ n → mOk M1 → FI (fun x => x = Y) M M1 → lim M1 Y N → (∀ u, i + m ≤ u → u < N → mI M1 Y u = 0) → dn (mI M1 Y) N = dn (mI M X) i * dn (mI M Z) m → h_Na_putProduct_33 G d a b c i M1 (fun M' => mOk M' ∧ FI (fun x => x = a ∨ x = Y) M M' ∧ ∃ s', Nt M' a Y Cy s' ∧ dn (mI M' Y) s' = dn (mI M X) n * dn (mI M Z) m) := by
  obtain ⟨⟨l0, p0, kX, nX, ⟨e1, e2⟩, -, y1, y2⟩, g1, g2, g3, g4⟩ := id k1
  have cb := h.2.2.2.2.1.2
  intro t
  induction t with
  | zero =>
    intro i M1 h1 h2 o F L U V
    have ei : i = n := by omega
    subst ei
    have b1 : mI M1 b 1 = ((i : Nat) : Int) := by rw [F.2.2.2.2.2.2 b bY]; exact g1
    have c1 : mI M1 c 1 = ((m : Nat) : Int) := by rw [F.2.2.2.2.2.2 c cY]; exact k.2.1
    refine k_Na_putProduct_33 o ⟨by omega, by omega⟩ ?_
    rw [b1, c1, F.1, show ((i : Nat) : Int) + ((m : Nat) : Int) = ((N : Nat) : Int) by first | rfl | omega]
    refine ⟨l0, fun _ => ⟨k.1.1, h.1, ?_⟩, fun y => absurd (Int.le_refl _) y⟩
    refine (s_Na_trim o (h.fi F) hN L).mono (fun M' q => ?_)
    obtain ⟨o', F', -, s', -, t', e'⟩ := q
    exact ⟨o', o', (F.mono (fun _ u => Or.inr u)).trans (F'.mono (fun _ u => Or.inl u)), s', t', by rw [e', V]⟩
  | succ t ih =>
    intro i M1 h1 h2 o F L U V
    by_cases ei : i = n
    · exact ih i M1 (by omega) h2 o F L U V
    have b1 : mI M1 b 1 = ((n : Nat) : Int) := by rw [F.2.2.2.2.2.2 b bY]; exact g1
    have iX : mI M1 X = mI M X := F.2.2.2.2.2.2 X XY
    have iZ : mI M1 Z = mI M Z := F.2.2.2.2.2.2 Z ZY
    have im : i + m < N := by omega
    refine k_Na_putProduct_33 o ⟨by omega, by omega⟩ ?_
    rw [b1, F.1, F.2.1, F.2.2.1, p0, nX, iX, Int.toNat_natCast]
    refine ⟨l0, fun y => absurd y (by omega), fun y => ⟨kX, by omega, ?_⟩⟩
    have kM1 := k.fi F cY ZY
    refine s_pr56 (M := M1) (N := N) (g3 i (by omega)) (h.fi F) kM1 hN im cY ZY (fun M' o' F' L' U' V' => ?_) (U (i + m) (Nat.le_refl _) im) m 0 0 M1 (by omega) (by omega) ⟨by decide, by decide⟩ o FI.refl L (fun _ _ _ => rfl) (by show _ + 0 * _ = _ + _ * (_ * 0); rw [Int.zero_mul, Int.mul_zero, Int.mul_zero])
    refine ih (i + 1) M' (by omega) (by omega) o' (F.trans F') L' (fun u u1 u2 => by rw [U' u u1 u2]; exact U u (by omega) u2) ?_
    rw [V', iZ, dn_s]
    exact al_row V
theorem hm_pr {i : Int} {Q Q' : mM → Prop} (h : h_Na_putProduct_33 G d a b c i M Q) (hq : ∀ M', Q M' → Q' M') : h_Na_putProduct_33 G d a b c i M Q' := by
  unfold h_Na_putProduct_33 at h ⊢
  exact mWm.mono h (fun r M' k => ⟨k.1, hq M' k.2⟩)
theorem s_Na_putProduct (hO : mOk M) (hl : Nl M a Y Cy) (k1 : Nt M b X Cx n) (k : Nt M c Z Cz m) (ab : a ≠ b) (ac : a ≠ c) (YX : Y ≠ X) (YZ : Y ≠ Z) (hC : Cy ≤ 50000) (hm : n + m ≤ 50000) : Cv G y_Na_putProduct (d + 3) [vr a, vr b, vr c] M (nst M a Y Cy (n + m) (dn (mI M X) n * dn (mI M Z) m)) := by
  obtain ⟨k0, r0, kY, nY, ⟨c1, c2⟩, ne, z1, z2⟩ := id hl
  have yb := k1.1.2.2.2.2.2.2
  have yc := k.1.2.2.2.2.2.2
  refine k_Na_putProduct hO ?_
  rw [k1.2.1, k.2.1, show ((n : Nat) : Int) + ((m : Nat) : Int) = ((n + m : Nat) : Int) by first | rfl | omega]
  refine ⟨k1.1.1, k.1.1, k0, (s_Na_reserve hO hl hm hC).mono (fun M3 q => ?_)⟩
  obtain ⟨o3, Y', C', h3', hw, hC', F3, R3, I3, G3⟩ := q
  have yn : Y' = Y ∨ Y' = mZ M := by
    rcases G3 with ⟨u, -⟩ | ⟨u, -⟩
    · exact Or.inl u
    · exact Or.inr u
  have kb : mK M b ≠ 30 := by rw [k1.1.1]; decide
  have kc : mK M c ≠ 30 := by rw [k.1.1]; decide
  have XY' : X ≠ Y' := by rcases yn with u | u <;> omega
  have ZY' : Z ≠ Y' := by rcases yn with u | u <;> omega
  have bY' : b ≠ Y' := by
    rcases yn with u | u
    · rw [u]; intro q; rw [q] at kb; exact kb kY
    · omega
  have cY' : c ≠ Y' := by
    rcases yn with u | u
    · rw [u]; intro q; rw [q] at kc; exact kc kY
    · omega
  have k13 := k1.fa F3 (fun u => u) (fun u => u) (fun u => ab u.symm)
  have k3 := k.fa F3 (fun u => u) (fun u => u) (fun u => ac u.symm)
  have iX : mI M3 X = mI M X := (F3.2 X yb.2).2.2.2.2 (fun u => u)
  have iZ : mI M3 Z = mI M Z := (F3.2 Z yc.2).2.2.2.2 (fun u => u)
  obtain ⟨-, r0', kY', nY', ⟨-, c2'⟩, ne', -⟩ := id h3'
  rw [r0', k13.2.1, k3.2.1, show ((n : Nat) : Int) + ((m : Nat) : Int) = ((n + m : Nat) : Int) by first | rfl | omega]
  refine ⟨o3, h3'.1, k13.1.1, k3.1.1, ?_⟩
  refine (s_JA_fillR (p := 0) o3 kY' (by omega) (by omega) (by omega) ⟨by decide, by decide⟩).mono (fun M7 q => ?_)
  obtain ⟨o7, f7, i7⟩ := q
  have z7 : ∀ j, j < n + m → mI M7 Y' j = 0 := fun j hj => by rw [i7 j, if_pos ⟨by omega, hj⟩]
  have L7 : lim M7 Y' (n + m) := fun j hj => by rw [z7 j hj]; exact ⟨by decide, by decide⟩
  have D7 : dn (mI M7 Y') (n + m) = 0 := dn_z (s := 0) (by omega) (fun j _ u2 => z7 j u2)
  refine ⟨o7, hm_pr (s_pr33 (h3'.fi f7) (k13.fi f7 bY' XY') (k3.fi f7 cY' ZY') hw rfl bY' XY' cY' ZY' n 0 M7 (by omega) (by omega) o7 FI.refl L7 (fun u _ u2 => z7 u u2) (by rw [D7]; show (0 : Int) = 0 * _; rw [Int.zero_mul])) (fun M' q => ?_)⟩
  obtain ⟨o, F, s', T, V⟩ := q
  refine nst_rs F3 G3 ((f7.mono (fun _ u => Or.inr u)).trans F) o T ?_
  rw [V, f7.2.2.2.2.2.2 X XY', f7.2.2.2.2.2.2 Z ZY', iX, iZ]
end NAF
end
section
/-! The class's natural numbers: division by a limb, bits. -/
section NAG
variable {G : mG} {d a b c Y Cy s n m X Cx w : Nat} {M M' M1 M2 M3 : mM} {v : Int}
theorem dv_bd {r l dv : Int} (hd : 0 < dv ∧ dv < 1073741824) (hr : 0 ≤ r ∧ r < dv) (hl : 0 ≤ l ∧ l < 1073741824) : (0 ≤ r * 1073741824 + l ∧ r * 1073741824 + l < 1152921504606846976) ∧ (0 ≤ (r * 1073741824 + l) / dv ∧ (r * 1073741824 + l) / dv < 1073741824) ∧ (0 ≤ (r * 1073741824 + l) % dv ∧ (r * 1073741824 + l) % dv < dv) := by
  refine ⟨⟨by omega, by omega⟩, ⟨Int.ediv_nonneg (by omega) (by omega), Int.ediv_lt_of_lt_mul hd.1 (by omega)⟩, Int.emod_nonneg _ (by omega), Int.emod_lt_of_pos _ hd.1⟩
theorem s_ds56 {r : Int} {Q : Int → mM → Prop} (h : Nl M a Y Cy) (hr : 0 ≤ r ∧ r < 1073741824) (hQ : ∀ M' t, mOk M' → FI (fun x => x = a) M M' → Nt M' a Y Cy t → dn (mI M' Y) t = v → Q r M') : ∀ (t : Nat) (M1 : mM), t ≤ Cy → mOk M1 → FI (fun x => x = a) M M1 → mI M1 a 1 = ((t : Nat) : Int) → lim M Y t → dn (mI M Y) t = v → h_Na_divideSmall_56 G d a r M1 Q := by
  obtain ⟨k0, r0, kY, nY, ⟨c1, c2⟩, ne, z1, z2⟩ := id h
  intro t
  induction t with
  | zero =>
    intro M1 ht o f h1 hl hd
    have nb := f.2.2.2.2.2.2 Y (fun u => ne u.symm)
    refine k_Na_divideSmall_56 o (c30 hr) ⟨by rw [f.1]; exact k0, fun y => absurd y (by omega), fun _ => hQ M1 0 o f ⟨h.fi f, h1, by omega, fun j hj => absurd hj (by omega), fun u => absurd u (by omega)⟩ (by rw [nb]; exact hd), fun y => absurd (Or.inl (by omega)) y⟩
  | succ t ih =>
    intro M1 ht o f h1 hl hd
    have nb := f.2.2.2.2.2.2 Y (fun u => ne u.symm)
    refine k_Na_divideSmall_56 o (c30 hr) ?_
    rw [f.1, f.2.1, f.2.2.1, r0, nY, h1, show Int.toNat (((t + 1 : Nat) : Int) - 1) = t by first | rfl | omega, nb]
    refine ⟨k0, fun _ => ⟨kY, by omega⟩, fun y => hQ M1 (t + 1) o f ⟨h.fi f, h1, ht, fun j hj => by rw [nb]; exact hl j hj, fun _ => ?_⟩ (by rw [nb]; exact hd), fun y => ⟨⟨by omega, by omega⟩, fun M14 e14 => ?_⟩⟩
    · rw [nb, show t + 1 - 1 = t by first | rfl | omega]
      rcases y with y | y
      · omega
      · exact y
    · have y0 : mI M Y t = 0 := Classical.byContradiction (fun u => y (Or.inr u))
      refine ih M14 (by omega) (by rw [e14]; exact mOk_UI o ⟨by omega, by omega⟩) (f.trans (by rw [e14]; exact FI.ui rfl)) (by rw [mI_ui a 1 e14, if_pos ⟨rfl, rfl⟩]; omega) (fun j hj => hl j (by omega)) ?_
      rw [← hd, dn_s, y0, Int.zero_mul, Int.add_zero]
/-- the quotient by a small number; the rest is answered -/
theorem s_Na_divideSmall {dv : Int} (hd : 0 < dv ∧ dv < 1073741824) (hO : mOk M) (h : Nt M a Y Cy s) : Ci G y_Na_divideSmall d [vr a, vi dv] M (fun x M' => (0 ≤ x ∧ x < dv) ∧ mOk M' ∧ FI (fun y => y = a ∨ y = Y) M M' ∧ ∃ t, Nt M' a Y Cy t ∧ dn (mI M Y) s = dv * dn (mI M' Y) t + x) := by
  obtain ⟨hl, h1, h2, h3, h4⟩ := id h
  obtain ⟨k0, r0, kY, nY, ⟨c1, c2⟩, ne, z1, z2⟩ := id hl
  refine k_Na_divideSmall hO (l30i ⟨by omega, hd.2⟩) ⟨k0, ?_⟩
  rw [h1]
  suffices HH : ∀ (i : Nat) (r : Int) (M1 : mM), i ≤ s → (0 ≤ r ∧ r < dv) → mOk M1 → FI (fun x => x = Y) M M1 → lim M1 Y s → (∀ j, j < i → mI M1 Y j = mI M Y j) → dn (mI M Y) s = dv * (dn (mI M1 Y) s - dn (mI M Y) i) + r * 2 ^ (30 * i) + dn (mI M Y) i → h_Na_divideSmall_10 G d a dv r ((i : Int) - 1) M1 (fun x M' => (0 ≤ x ∧ x < dv) ∧ mOk M' ∧ FI (fun y => y = a ∨ y = Y) M M' ∧ ∃ t, Nt M' a Y Cy t ∧ dn (mI M Y) s = dv * dn (mI M' Y) t + x) from
    HH s 0 M (Nat.le_refl _) ⟨by omega, by omega⟩ hO FI.refl h3 (fun _ _ => rfl) (by rw [Int.sub_self, Int.mul_zero, Int.zero_mul]; omega)
  intro i
  induction i with
  | zero =>
    intro r M1 hi hr o F L E V
    refine k_Na_divideSmall_10 o (l30i ⟨by omega, hd.2⟩) (c30 ⟨hr.1, by omega⟩) ⟨by omega, by omega⟩ ⟨fun _ => ?_, fun y => absurd (Or.inl (by omega)) y⟩
    refine s_ds56 (M := M1) (v := dn (mI M1 Y) s) (hl.fi F) ⟨hr.1, by omega⟩ (fun M' t o' F' T' V' => ⟨hr, o', (F.mono (fun _ u => Or.inr u)).trans (F'.mono (fun _ u => Or.inl u)), t, T', ?_⟩) s M1 h2 o FI.refl (by rw [F.2.2.2.2.2.2 a ne]; exact h1) L rfl
    · rw [V']
      have e0 : (2 : Int) ^ (30 * 0) = 1 := by decide
      have e1 : dn (mI M Y) 0 = 0 := rfl
      rw [e0, e1, Int.sub_zero, Int.mul_one, Int.add_zero] at V
      exact V
  | succ i ih =>
    intro r M1 hi hr o F L E V
    obtain ⟨b1, b2, b3⟩ := dv_bd hd hr (L i (by omega))
    refine k_Na_divideSmall_10 o (l30i ⟨by omega, hd.2⟩) (c30 ⟨hr.1, by omega⟩) ⟨by omega, by omega⟩ ⟨fun y => absurd y (by omega), fun y => ?_⟩
    rw [F.1, F.2.1, F.2.2.1, r0, nY, show Int.toNat (((i + 1 : Nat) : Int) - 1) = i by first | rfl | omega, j_shl ⟨by omega, by omega⟩, Int.tdiv_eq_ediv_of_nonneg b1.1, Int.tmod_eq_emod_of_nonneg b1.1]
    refine ⟨k0, kY, by omega, ⟨by omega, by omega⟩, by omega, by omega, l30i b2, fun M22 e22 => ⟨by omega, ?_⟩⟩
    rw [show ((i + 1 : Nat) : Int) - 1 + (-1) = ((i : Nat) : Int) - 1 by first | rfl | omega]
    refine ih _ M22 (by omega) b3 (by rw [e22]; exact mOk_UI o (l30i b2)) (F.trans (by rw [e22]; exact FI.ui rfl)) (lim_ui L b2 e22) (fun j hj => by rw [mI_ui Y j e22, if_neg (fun q => by omega)]; exact E j (by omega)) ?_
    rw [dn_ui (M' := M22) (n := s) (by omega) e22, Int.emod_def, E i (by omega)]
    rw [dn_s, p30] at V
    exact al_div V
theorem s_Na_modulo {dv : Int} (hd : 0 < dv ∧ dv < 1073741824) (hO : mOk M) (h : Nt M a Y Cy s) : Ci G y_Na_modulo d [vr a, vi dv] M (fun x M' => M' = M ∧ 0 ≤ x ∧ x < dv) := by
  obtain ⟨hl, h1, h2, h3, h4⟩ := id h
  obtain ⟨k0, r0, kY, nY, ⟨c1, c2⟩, ne, z1, z2⟩ := id hl
  refine k_Na_modulo hO (l30i ⟨by omega, hd.2⟩) ⟨k0, ?_⟩
  rw [h1]
  suffices HH : ∀ (i : Nat) (r : Int), i ≤ s → (0 ≤ r ∧ r < dv) → h_Na_modulo_10 G d a dv r ((i : Int) - 1) M (fun x M' => M' = M ∧ 0 ≤ x ∧ x < dv) from
    HH s 0 (Nat.le_refl _) ⟨by omega, by omega⟩
  intro i
  induction i with
  | zero =>
    intro r hi hr
    exact k_Na_modulo_10 hO (l30i ⟨by omega, hd.2⟩) (c30 ⟨hr.1, by omega⟩) ⟨by omega, by omega⟩ ⟨fun _ => ⟨rfl, hr⟩, fun y => absurd (Or.inl (by omega)) y⟩
  | succ i ih =>
    intro r hi hr
    obtain ⟨b1, b2, b3⟩ := dv_bd hd hr (h3 i (by omega))
    refine k_Na_modulo_10 hO (l30i ⟨by omega, hd.2⟩) (c30 ⟨hr.1, by omega⟩) ⟨by omega, by omega⟩ ⟨fun y => absurd y (by omega), fun y => ?_⟩
    rw [r0, nY, show Int.toNat (((i + 1 : Nat) : Int) - 1) = i by first | rfl | omega, j_shl ⟨by omega, by omega⟩, Int.tmod_eq_emod_of_nonneg b1.1]
    refine ⟨k0, kY, by omega, ⟨by omega, by omega⟩, by omega, ?_⟩
    rw [show ((i + 1 : Nat) : Int) - 1 + (-1) = ((i : Nat) : Int) - 1 by first | rfl | omega]
    exact ih _ (by omega) b3
theorem p2m {m k : Nat} (h : m ≤ k) : (2 : Int) ^ m ≤ 2 ^ k := by
  obtain ⟨t, rfl⟩ := Nat.le.dest h
  rw [Int.pow_add]
  have h1 : (1 : Int) ≤ 2 ^ t := Int.pow_pos (by decide)
  have h2 := Int.mul_le_mul_of_nonneg_left h1 (Int.le_of_lt (show (0 : Int) < 2 ^ m from Int.pow_pos (by decide)))
  omega
theorem p2l {m k : Nat} (h : (2 : Int) ^ m < 2 ^ k) : m < k := Classical.byContradiction (fun u => by
  have := p2m (m := k) (k := m) (by omega)
  omega)
/-- how many bits a number has -/
theorem s_Na_bits (hO : mOk M) (h : Nt M a Y Cy s) : Ci G y_Na_bits (d + 1) [vr a] M (fun x M' => M' = M ∧ ∃ n : Nat, x = ((n : Nat) : Int) ∧ n ≤ 30 * s ∧ dn (mI M Y) s < 2 ^ n ∧ (0 < s → 30 * (s - 1) < n ∧ 2 ^ (n - 1) ≤ dn (mI M Y) s) ∧ (s = 0 → n = 0)) := by
  obtain ⟨hl, h1, h2, h3, h4⟩ := id h
  obtain ⟨k0, r0, kY, nY, ⟨c1, c2⟩, ne, z1, z2⟩ := id hl
  refine k_Na_bits hO ?_
  rw [h1, r0, nY]
  refine ⟨k0, fun y => ⟨rfl, 0, rfl, by omega, ?_, fun u => absurd u (by omega), fun _ => rfl⟩, fun y => ⟨kY, by omega, ?_⟩⟩
  · rw [show s = 0 by first | rfl | omega]
    exact (by decide : (0 : Int) < 2 ^ 0)
  · obtain ⟨t, rfl⟩ : ∃ t, s = t + 1 := ⟨s - 1, by omega⟩
    rw [show Int.toNat (((t + 1 : Nat) : Int) - 1) = t by first | rfl | omega]
    have ht := h3 t (by omega)
    have h0 : mI M Y t ≠ 0 := h4 (by omega)
    have hnn := dn_nn (n := t) (fun j hj => h3 j (by omega))
    have hlt := dn_lt (n := t) (fun j hj => h3 j (by omega))
    have hp := p30p t
    refine (s_nlz (by omega) (l30i ht) hO).mono (fun x M' q => ?_)
    obtain ⟨e, k, ek, k31, q1, q2⟩ := q
    rw [e]
    have kk : 31 - k < 30 := p2l (by rw [show (2 : Int) ^ 30 = 1073741824 by decide]; exact Int.lt_of_le_of_lt q1 ht.2)
    refine ⟨⟨by omega, by omega⟩, hO, rfl, 30 * (t + 1) + 2 - k, by omega, by omega, ?_, fun _ => ⟨by omega, ?_⟩, fun u => absurd u (by omega)⟩
    · rw [show 30 * (t + 1) + 2 - k = (32 - k) + 30 * t by first | rfl | omega, Int.pow_add, dn_s]
      have a1 := Int.mul_le_mul_of_nonneg_right (show mI M Y t + 1 ≤ 2 ^ (32 - k) by omega) (Int.le_of_lt hp)
      rw [Int.add_mul] at a1
      omega
    · rw [show 30 * (t + 1) + 2 - k - 1 = (31 - k) + 30 * t by first | rfl | omega, Int.pow_add, dn_s]
      have a1 := Int.mul_le_mul_of_nonneg_right q1 (Int.le_of_lt hp)
      omega
end NAG
end
section
/-! The class's natural numbers: the bits from one on. -/
theorem bf_pure {N E P a0 a1 a2 : Int} {r : Nat} (hr : r < 30) (eN : N = E + P * (a0 + 1073741824 * (a1 + 1073741824 * a2))) (hE : 0 ≤ E ∧ E < P) : N / (P * 2 ^ r) = a0 / 2 ^ r + a1 * 2 ^ (30 - r) + a2 * 2 ^ (60 - r) := by
  have h1 : (2 : Int) ^ r * 2 ^ (30 - r) = 1073741824 := by rw [← Int.pow_add, show r + (30 - r) = 30 by first | rfl | omega]; decide
  have h2 : (2 : Int) ^ r * 2 ^ (60 - r) = 1073741824 * 1073741824 := by rw [← Int.pow_add, show r + (60 - r) = 60 by first | rfl | omega]; decide
  have hp : (0 : Int) < 2 ^ r := Int.pow_pos (by decide)
  rw [← Int.ediv_ediv_of_nonneg (by omega), eN, Int.add_mul_ediv_left _ _ (by omega), Int.ediv_eq_zero_of_lt hE.1 hE.2, Int.zero_add]
  have e : a0 + 1073741824 * (a1 + 1073741824 * a2) = a0 + 2 ^ r * (a1 * 2 ^ (30 - r) + a2 * 2 ^ (60 - r)) := by
    rw [Int.mul_add (2 ^ r), Int.mul_left_comm (2 ^ r) a1, h1, Int.mul_left_comm (2 ^ r) a2, h2]
    omega
  rw [e, Int.add_mul_ediv_left _ _ (by omega), Int.add_assoc]
theorem bf_top {N E P a0 a1 a2 : Int} {r : Nat} (eN : N = E + P * (a0 + 1073741824 * (a1 + 1073741824 * a2))) (hE : 0 ≤ E) (hP : 0 < P) (h0 : 0 ≤ a0) (h1 : 0 ≤ a1) (hN : N < P * (2 ^ r * 1152921504606846976)) : a2 < 2 ^ r := by
  have e1 : P * (a0 + 1073741824 * (a1 + 1073741824 * a2)) < P * (2 ^ r * 1152921504606846976) := by omega
  have e2 := Int.lt_of_mul_lt_mul_left e1 (Int.le_of_lt hP)
  omega
theorem sh_bd {x : Int} {k m : Nat} (h0 : 0 ≤ x) (h : x < 2 ^ m) (hk : m + k ≤ 60) : 0 ≤ x * 2 ^ k ∧ x * 2 ^ k < 1152921504606846976 := by
  have hp : (0 : Int) < 2 ^ k := Int.pow_pos (by decide)
  refine ⟨Int.mul_nonneg h0 (Int.le_of_lt hp), ?_⟩
  have h1 : x * 2 ^ k < 2 ^ m * 2 ^ k := Int.mul_lt_mul_of_pos_right h hp
  rw [← Int.pow_add] at h1
  have h2 : (2 : Int) ^ (m + k) ≤ 2 ^ 60 := by
    obtain ⟨t, ht⟩ := Nat.le.dest hk
    rw [← ht, Int.pow_add _ (m + k)]
    have h3 : (1 : Int) ≤ 2 ^ t := Int.pow_pos (by decide)
    have h4 := Int.mul_le_mul_of_nonneg_left h3 (Int.le_of_lt (show (0 : Int) < 2 ^ (m + k) from Int.pow_pos (by decide)))
    omega
  have h5 : (2 : Int) ^ 60 = 1152921504606846976 := by decide
  omega
theorem j_shlk {x : Int} (k : Nat) (hk : k < 64) (h : i64 (x * 2 ^ k)) : shlL x (k : Int) = x * 2 ^ k := by
  have e1 : ∀ k : Nat, k < 64 → ((((Int32.ofInt (k : Int)).toInt64 &&& 63).toBitVec.smod 64)) = BitVec.ofNat 64 k := by decide
  unfold shlL
  show ((BitVec.ofInt 64 x) <<< ((((Int32.ofInt (k : Int)).toInt64 &&& 63).toBitVec.smod 64))).toInt = _
  rw [e1 k hk]
  have e : (BitVec.ofInt 64 x) <<< (BitVec.ofNat 64 k) = BitVec.ofInt 64 (x * 2 ^ k) := by
    rw [BitVec.shiftLeft_eq', BitVec.toNat_ofNat, Nat.mod_eq_of_lt (by omega), BitVec.ofInt_mul, BitVec.shiftLeft_eq_mul_twoPow]
    congr 1
    apply BitVec.eq_of_toNat_eq
    rw [BitVec.toNat_twoPow, BitVec.toNat_ofInt]
    norm_cast
  rw [e]
  exact i64_toInt h
section NAH
variable {G : mG} {d a Y Cy s : Nat} {M : mM}
/-- a limb, 0 where there is none -/
def lb (f : Nat → Int) (s j : Nat) : Int := if j < s then f j else 0
theorem lb_dn {f : Nat → Int} {s n : Nat} (h : s ≤ n) : dn (lb f s) n = dn f s := by
  rw [dn_z (s := s) h (fun j h1 _ => by unfold lb; rw [if_neg (by omega)])]
  exact dn_cg s (fun j hj => by unfold lb; rw [if_pos hj])
theorem lb_l {f : Nat → Int} {s j : Nat} (h : lms f s) : 0 ≤ lb f s j ∧ lb f s j < 1073741824 := by
  unfold lb
  by_cases u : j < s
  · rw [if_pos u]; exact h j u
  · rw [if_neg u]; omega
theorem lb_3 {f : Nat → Int} {q : Nat} : dn f (q + 3) = dn f q + 2 ^ (30 * q) * (f q + 1073741824 * (f (q + 1) + 1073741824 * f (q + 2))) := by
  show dn f q + f q * 2 ^ (30 * q) + f (q + 1) * 2 ^ (30 * (q + 1)) + f (q + 2) * 2 ^ (30 * (q + 1 + 1)) = _
  rw [p30 (q + 1), p30 q]
  generalize (2 : Int) ^ (30 * q) = p
  grind
theorem s_Na_bitsFrom {bit : Nat} (hO : mOk M) (h : Nt M a Y Cy s) (hb : bit ≤ 1000000000) (hv : dn (mI M Y) s < 2 ^ (bit + 60)) : Cj G y_Na_bitsFrom d [vr a, vi bit] M (fun x M' => M' = M ∧ x = dn (mI M Y) s / 2 ^ bit) := by
  obtain ⟨hl, h1, h2, h3, h4⟩ := id h
  obtain ⟨k0, r0, kY, nY, ⟨c1, c2⟩, ne, z1, z2⟩ := id hl
  obtain ⟨q, r, eb, hr⟩ : ∃ q r, bit = 30 * q + r ∧ r < 30 := ⟨bit / 30, bit % 30, by omega, by omega⟩
  have sq : s ≤ q + 3 := by
    refine Classical.byContradiction (fun u => ?_)
    obtain ⟨t, rfl⟩ : ∃ t, s = t + 1 := ⟨s - 1, by omega⟩
    have a1 := dn_ge h3 (h4 (by omega))
    have a2 := p2m (m := bit + 60) (k := 30 * t) (by omega)
    omega
  have l0 := lb_l (j := q) h3
  have l1 := lb_l (j := q + 1) h3
  have l2 := lb_l (j := q + 2) h3
  have eN : dn (mI M Y) s = dn (lb (mI M Y) s) q + 2 ^ (30 * q) * (lb (mI M Y) s q + 1073741824 * (lb (mI M Y) s (q + 1) + 1073741824 * lb (mI M Y) s (q + 2))) := by rw [← lb_3, lb_dn sq]
  have hE : 0 ≤ dn (lb (mI M Y) s) q ∧ dn (lb (mI M Y) s) q < 2 ^ (30 * q) := ⟨dn_nn (fun j _ => lb_l h3), dn_lt (fun j _ => lb_l h3)⟩
  have t2 : lb (mI M Y) s (q + 2) < 2 ^ r := by
    refine bf_top eN hE.1 (p30p q) l0.1 l1.1 ?_
    rw [eb, show 30 * q + r + 60 = 30 * q + (r + 60) by first | rfl | omega, Int.pow_add, Int.pow_add] at hv
    exact hv
  have ans := bf_pure hr eN hE
  rw [← Int.pow_add, ← eb] at ans
  have ir : (r : Int) < 30 := by omega
  refine k_Na_bitsFrom hO ⟨by omega, by omega⟩ ?_
  rw [show Int.tdiv ((bit : Nat) : Int) 30 = ((q : Nat) : Int) by rw [Int.tdiv_eq_ediv_of_nonneg (by omega)]; omega, show Int.tmod ((bit : Nat) : Int) 30 = ((r : Nat) : Int) by rw [Int.tmod_eq_emod_of_nonneg (by omega)]; omega, h1, r0, nY, show ((q : Nat) : Int) + 1 = ((q + 1 : Nat) : Int) by first | rfl | omega, show ((q : Nat) : Int) + 2 = ((q + 2 : Nat) : Int) by first | rfl | omega, Int.toNat_natCast, Int.toNat_natCast, Int.toNat_natCast, show (30 : Int) - ((r : Nat) : Int) = ((30 - r : Nat) : Int) by first | rfl | omega, show (60 : Int) - ((r : Nat) : Int) = ((60 - r : Nat) : Int) by first | rfl | omega, j_sh1 r (by omega)]
  refine ⟨k0, fun y => ⟨kY, by omega⟩, fun v5 e5 => ⟨⟨by omega, by omega⟩, fun y => ⟨kY, by omega⟩, fun v12 e12 => ⟨⟨by omega, by omega⟩, fun y => ⟨kY, by omega⟩, fun v19 e19 => ⟨rfl, ?_⟩⟩⟩⟩
  rw [ans]
  have f5 : v5 = lb (mI M Y) s q / 2 ^ r := by
    rw [e5]
    unfold lb at l0 ⊢
    by_cases u : q < s
    · rw [if_neg (by omega), if_pos u]
      rw [if_pos u] at l0
      exact i_ush r (by omega) l0.1 (l30i l0)
    · rw [if_pos (by omega), if_neg u, Int.zero_ediv]
  have f12 : v12 = lb (mI M Y) s (q + 1) * 2 ^ (30 - r) := by
    rw [e12]
    unfold lb at l1 ⊢
    by_cases u : q + 1 < s
    · rw [if_neg (by omega), if_pos u]
      rw [if_pos u] at l1
      have bd := sh_bd (k := 30 - r) (m := 30) l1.1 (by rw [show (2 : Int) ^ 30 = 1073741824 by decide]; exact l1.2) (by omega)
      exact j_shlk (30 - r) (by omega) ⟨by omega, by omega⟩
    · rw [if_pos (by omega), if_neg u, Int.zero_mul]
  have f19 : v19 = lb (mI M Y) s (q + 2) * 2 ^ (60 - r) := by
    rw [e19]
    unfold lb at l2 t2 ⊢
    by_cases u : q + 2 < s
    · rw [if_neg (by omega), if_pos u]
      rw [if_pos u] at l2 t2
      have m1 : (2 : Int) ^ r ≤ 2 ^ 29 := p2m (by omega)
      have m2 : (2 : Int) ^ 29 = 536870912 := by decide
      have m3 : (0 : Int) < 2 ^ r := Int.pow_pos (by decide)
      rw [i_and r (by omega) (2 ^ r - 1) rfl ⟨by omega, by omega⟩, Int.emod_eq_of_lt l2.1 t2]
      have bd := sh_bd (k := 60 - r) (m := r) l2.1 t2 (by omega)
      exact j_shlk (60 - r) (by omega) ⟨by omega, by omega⟩
    · rw [if_pos (by omega), if_neg u, Int.zero_mul]
  rw [f5, f12, f19]
end NAH
end
section
/-! The class's natural numbers: a multiple of the divisor is taken off (Knuth's step). -/
section NAI
variable {G : mG} {d a b c Y Cy s n m X Cx w K e : Nat} {M M' M1 M2 M3 : mM} {v U V g : Int}
/-- the window's value -/
def wn (M : mM) (Y e n : Nat) : Int := dn (fun j => mI M Y (e + j)) n
theorem wn_ui {i : Nat} {x : Int} (hi : i < n) (q : M' = mUI M Y (e + i) x) : wn M' Y e n = wn M Y e n + (x - mI M Y (e + i)) * 2 ^ (30 * i) := by
  unfold wn
  have h := dn_up (f := fun j => mI M Y (e + j)) (g := fun j => mI M' Y (e + j)) hi (fun j _ hj' => by show mI M' Y (e + j) = mI M Y (e + j); rw [mI_ui Y (e + j) q, if_neg (fun u => hj' (by omega))])
  rw [h]
  show _ + (mI M' Y (e + i) - mI M Y (e + i)) * _ = _
  rw [mI_ui Y (e + i) q, if_pos ⟨rfl, rfl⟩]
theorem wn_cg (h : ∀ j, j < n → mI M' Y (e + j) = mI M Y (e + j)) : wn M' Y e n = wn M Y e n := dn_cg n h
theorem wn_nn (L : lim M Y K) (h : e + n ≤ K) : 0 ≤ wn M Y e n := dn_nn (fun j hj => L (e + j) (by omega))
theorem wn_lt (L : lim M Y K) (h : e + n ≤ K) : wn M Y e n < 2 ^ (30 * n) := dn_lt (fun j hj => L (e + j) (by omega))
/-- what a step leaves behind -/
def tmQ (M : mM) (Y K e n : Nat) (U V : Int) (x : Int) (M' : mM) : Prop := mOk M' ∧ FI (fun y => y = Y) M M' ∧ (0 ≤ x ∧ x < 1073741824) ∧ (∀ j, (j < e ∨ e + n < j) → mI M' Y j = mI M Y j) ∧ mI M' Y (e + n) = 0 ∧ lim M' Y K ∧ wn M' Y e n = U - x * V ∧ wn M' Y e n < V
theorem tm_hi {W p k R V : Int} (hW : 0 ≤ W ∧ W < p) (e : R = W + k * p) (hR : 0 ≤ R ∧ R < p) : k = 0 := by
  refine Classical.byContradiction (fun u => ?_)
  rcases (show 1 ≤ k ∨ k ≤ -1 by omega) with q | q
  · have := Int.mul_le_mul_of_nonneg_right (c := p) q (by omega)
    omega
  · have := Int.mul_le_mul_of_nonneg_right (c := p) q (by omega)
    omega
/-- the divisor comes back once -/
theorem s_tm234 {q0 W1 : Int} (h : Nl M a Y Cy) (k : Nt M b X Cx n) (hK : e + n < K) (hC : K ≤ Cy) (bY : b ≠ Y) (XY : X ≠ Y) (hg : 1 ≤ g ∧ g < 1073741824)
    (eR : U - (g - 1) * V = W1 + q0 * 2 ^ (30 * n) + V) (eV : V = dn (mI M X) n) (hR : 0 ≤ U - (g - 1) * V ∧ U - (g - 1) * V < V) : ∀ (t i : Nat) (c : Int) (M1 : mM), n ≤ i + t → i ≤ n → (0 ≤ c ∧ c ≤ 1) → mOk M1 → FI (fun x => x = Y) M M1 → lim M1 Y K → (∀ j, (j < e ∨ e + n < j) → mI M1 Y j = mI M Y j) → mI M1 Y (e + n) = 0 → wn M1 Y e n + c * 2 ^ (30 * i) = W1 + dn (mI M X) i → h_Na_takeMultiple_234 G d a b e n g c i M1 (tmQ M Y K e n U V) := by
  obtain ⟨⟨l0, p0, kX, nX, ⟨e1, e2⟩, -, y1, y2⟩, g1, g2, g3, g4⟩ := id k
  have cb := h.2.2.2.2.1.2
  have fin : ∀ (c : Int) (M1 : mM), (0 ≤ c ∧ c ≤ 1) → mOk M1 → FI (fun x => x = Y) M M1 → lim M1 Y K → (∀ j, (j < e ∨ e + n < j) → mI M1 Y j = mI M Y j) → mI M1 Y (e + n) = 0 → wn M1 Y e n + c * 2 ^ (30 * n) = W1 + dn (mI M X) n → tmQ M Y K e n U V (g - 1) M1 := by
    intro c M1 gc o F L E Z W
    have wl := wn_nn L (show e + n ≤ K by omega)
    have wh := wn_lt L (show e + n ≤ K by omega)
    have Vl := dn_lt g3
    have eR2 : U - (g - 1) * V = wn M1 Y e n + (c + q0) * 2 ^ (30 * n) := by
      rw [eR, eV, Int.add_mul]
      omega
    have z0 := tm_hi (V := V) ⟨wl, wh⟩ eR2 ⟨hR.1, by omega⟩
    rw [z0, Int.zero_mul, Int.add_zero] at eR2
    exact ⟨o, F, ⟨by omega, by omega⟩, E, Z, L, eR2.symm, by omega⟩
  intro t
  induction t with
  | zero =>
    intro i c M1 h1 h2 gc o F L E Z W
    have ei : i = n := by omega
    subst ei
    exact k_Na_takeMultiple_234 o ⟨by omega, by omega⟩ ⟨by omega, by omega⟩ ⟨by omega, by omega⟩ ⟨by omega, by omega⟩ ⟨by omega, by omega⟩ ⟨fun _ => fin c M1 gc o F L E Z W, fun y => absurd (Int.le_refl _) y⟩
  | succ t ih =>
    intro i c M1 h1 h2 gc o F L E Z W
    by_cases ei : i = n
    · exact ih i c M1 (by omega) h2 gc o F L E Z W
    have iX : mI M1 X = mI M X := F.2.2.2.2.2.2 X XY
    have Li := L (e + i) (by omega)
    have Xi := g3 i (by omega)
    have bd : i64 (c + (mI M1 Y (e + i) + mI M X i)) := ⟨by omega, by omega⟩
    refine k_Na_takeMultiple_234 o ⟨by omega, by omega⟩ ⟨by omega, by omega⟩ ⟨by omega, by omega⟩ ⟨by omega, by omega⟩ ⟨by omega, by omega⟩ ⟨fun y => absurd y (by omega), fun y => ?_⟩
    rw [F.1, F.2.1, F.2.2.1, h.2.1, h.2.2.2.1, p0, nX, iX, show ((e : Nat) : Int) + ((i : Nat) : Int) = ((e + i : Nat) : Int) by first | rfl | omega, Int.toNat_natCast, Int.toNat_natCast, j_and, j_shr bd]
    refine ⟨h.1, h.2.2.1, by omega, l0, kX, by omega, ⟨by omega, by omega⟩, by omega, m30i _, fun M27 e27 => ?_⟩
    rw [show ((i : Int) + 1) = ((i + 1 : Nat) : Int) by first | rfl | omega]
    refine ih (i + 1) _ M27 (by omega) (by omega) ⟨by omega, by omega⟩ (by rw [e27]; exact mOk_UI o (m30i _)) (F.trans (by rw [e27]; exact FI.ui rfl)) (lim_ui L (m30 _) e27) (fun j hj => by rw [mI_ui Y j e27, if_neg (fun q => by omega)]; exact E j hj) (by rw [mI_ui Y (e + n) e27, if_neg (fun q => by omega)]; exact Z) ?_
    rw [c_st (i := i) (wn_ui (M' := M27) (show i < n by omega) e27), dn_s (mI M X) i]
    have := al_add (D1 := wn M1 Y e n) (D0 := W1) (c := c) (f := 1) (l := mI M1 Y (e + i)) (p := 2 ^ (30 * i)) (e := dn (mI M X) i) (x := mI M X i) (by rw [Int.one_mul]; exact W)
    rw [Int.one_mul, Int.one_mul] at this
    exact this
theorem sb_bd {f c l x : Int} (hf : 0 ≤ f ∧ f < 1073741824) (hc : -1073741824 ≤ c ∧ c ≤ 0) (hl : 0 ≤ l ∧ l < 1073741824) (hx : 0 ≤ x ∧ x < 1073741824) : i64 (c + (l - f * x)) ∧ -1073741824 ≤ (c + (l - f * x)) / 1073741824 ∧ (c + (l - f * x)) / 1073741824 ≤ 0 := by
  have h1 := Int.mul_nonneg hf.1 hx.1
  have h2 : f * x ≤ 1073741823 * x := Int.mul_le_mul_of_nonneg_right (by omega) hx.1
  unfold i64
  omega
/-- the multiple is taken off -/
theorem s_tm132 (h : Nl M a Y Cy) (k : Nt M b X Cx n) (hK : e + n < K) (hC : K ≤ Cy) (bY : b ≠ Y) (XY : X ≠ Y) (hg : 0 ≤ g ∧ g < 1073741824) (hL : lim M Y K) (eU : U = wn M Y e (n + 1)) (eV : V = dn (mI M X) n) (hV : 0 < V) (q1 : U < (g + 1) * V) (q0 : (g - 1) * V ≤ U) : ∀ (t i : Nat) (c : Int) (M1 : mM), n ≤ i + t → i ≤ n → (-1073741824 ≤ c ∧ c ≤ 0) → mOk M1 → FI (fun x => x = Y) M M1 → lim M1 Y K → (∀ j, (j < e ∨ e + n ≤ j) → mI M1 Y j = mI M Y j) → wn M1 Y e n + c * 2 ^ (30 * i) = wn M Y e n - g * dn (mI M X) i → h_Na_takeMultiple_132 G d a b e n g c i M1 (tmQ M Y K e n U V) := by
  obtain ⟨⟨l0, p0, kX, nX, ⟨e1, e2⟩, -, y1, y2⟩, g1, g2, g3, g4⟩ := id k
  have cb := h.2.2.2.2.1.2
  intro t
  induction t with
  | zero =>
    intro i c M1 h1 h2 gc o F L E W
    have ei : i = n := by omega
    subst ei
    have En : mI M1 Y (e + i) = mI M Y (e + i) := E (e + i) (Or.inr (Nat.le_refl _))
    have Ln := hL (e + i) (by omega)
    have eU2 : U = wn M Y e i + mI M Y (e + i) * 2 ^ (30 * i) := eU
    have R : U - g * V = wn M1 Y e i + (c + mI M Y (e + i)) * 2 ^ (30 * i) := by
      rw [eU2, eV, Int.add_mul]
      omega
    have wl := wn_nn L (show e + i ≤ K by omega)
    have wh := wn_lt L (show e + i ≤ K by omega)
    have Vl := dn_lt g3
    have kq := kn_q q1 q0 R
    have hp := p30p i
    refine k_Na_takeMultiple_132 o ⟨by omega, by omega⟩ ⟨by omega, by omega⟩ ⟨by omega, by omega⟩ ⟨by omega, by omega⟩ ⟨by omega, by omega⟩ ⟨fun _ => ?_, fun y => absurd (Int.le_refl _) y⟩
    rw [F.1, F.2.1, F.2.2.1, h.2.1, h.2.2.2.1, show ((e : Nat) : Int) + ((i : Nat) : Int) = ((e + i : Nat) : Int) by first | rfl | omega, Int.toNat_natCast, En]
    refine ⟨h.1, h.2.2.1, by omega, by omega, fun M46 e46 => ⟨⟨by omega, by omega⟩, fun y => ?_, fun y => ?_⟩⟩
    · have neg := j_cn.1 y
      have o46 : mOk M46 := by rw [e46]; exact mOk_UI o ⟨by decide, by decide⟩
      have F46 : FI (fun x => x = Y) M M46 := F.trans (by rw [e46]; exact FI.ui rfl)
      have W46 : wn M46 Y e i = wn M1 Y e i := wn_cg (fun j hj => by rw [mI_ui Y (e + j) e46, if_neg (fun q => by omega)])
      have Rn : wn M1 Y e i + (c + mI M Y (e + i)) * 2 ^ (30 * i) < 0 := by
        have := Int.mul_le_mul_of_nonneg_right (show c + mI M Y (e + i) ≤ -1 by omega) (Int.le_of_lt hp)
        omega
      have hg1 : 1 ≤ g := by
        refine Classical.byContradiction (fun u => ?_)
        have : g = 0 := by omega
        rw [this, Int.zero_mul, Int.sub_zero] at R
        have := wn_nn hL (show e + (i + 1) ≤ K by omega)
        omega
      have r1 := kq.2 Rn
      refine s_tm234 (q0 := c + mI M Y (e + i)) (W1 := wn M1 Y e i) h k hK hC bY XY ⟨hg1, hg.2⟩ (by rw [Int.sub_mul, Int.one_mul]; omega) eV (by rw [Int.sub_mul, Int.one_mul]; omega) i 0 0 M46 (by omega) (by omega) ⟨by decide, by decide⟩ o46 F46 (lim_ui L ⟨by decide, by decide⟩ e46) (fun j hj => by rw [mI_ui Y j e46, if_neg (fun q => by omega)]; exact E j (by omega)) (by rw [mI_ui Y (e + i) e46, if_pos ⟨rfl, rfl⟩]) (by rw [W46]; show _ + 0 * _ = _ + (0 : Int); rw [Int.zero_mul])
    · have pos : 0 ≤ c + mI M Y (e + i) := by
        refine Classical.byContradiction (fun u => y (j_cn.2 (by omega)))
      have Rp : 0 ≤ wn M1 Y e i + (c + mI M Y (e + i)) * 2 ^ (30 * i) := by
        have := Int.mul_nonneg pos (Int.le_of_lt hp)
        omega
      have r1 := kq.1 Rp
      have z0 := tm_hi (V := V) ⟨wl, wh⟩ R ⟨by omega, by omega⟩
      have W46 : wn M46 Y e i = wn M1 Y e i := wn_cg (fun j hj => by rw [mI_ui Y (e + j) e46, if_neg (fun q => by omega)])
      rw [z0, Int.zero_mul, Int.add_zero] at R r1
      refine ⟨by rw [e46]; exact mOk_UI o ⟨by decide, by decide⟩, F.trans (by rw [e46]; exact FI.ui rfl), hg, fun j hj => by rw [mI_ui Y j e46, if_neg (fun q => by omega)]; exact E j (by omega), by rw [mI_ui Y (e + i) e46, if_pos ⟨rfl, rfl⟩], lim_ui L ⟨by decide, by decide⟩ e46, by rw [W46]; exact R.symm, by rw [W46]; exact r1⟩
  | succ t ih =>
    intro i c M1 h1 h2 gc o F L E W
    by_cases ei : i = n
    · exact ih i c M1 (by omega) h2 gc o F L E W
    have iX : mI M1 X = mI M X := F.2.2.2.2.2.2 X XY
    obtain ⟨b0, b1, b2⟩ := sb_bd hg gc (L (e + i) (by omega)) (g3 i (by omega))
    refine k_Na_takeMultiple_132 o ⟨by omega, by omega⟩ ⟨by omega, by omega⟩ ⟨by omega, by omega⟩ ⟨by omega, by omega⟩ ⟨by omega, by omega⟩ ⟨fun y => absurd y (by omega), fun y => ?_⟩
    rw [F.1, F.2.1, F.2.2.1, h.2.1, h.2.2.2.1, p0, nX, iX, show ((e : Nat) : Int) + ((i : Nat) : Int) = ((e + i : Nat) : Int) by first | rfl | omega, Int.toNat_natCast, Int.toNat_natCast, j_and, j_shr b0]
    refine ⟨h.1, h.2.2.1, by omega, l0, kX, by omega, by omega, m30i _, fun M27 e27 => ?_⟩
    rw [show ((i : Int) + 1) = ((i + 1 : Nat) : Int) by first | rfl | omega]
    refine ih (i + 1) _ M27 (by omega) (by omega) ⟨b1, b2⟩ (by rw [e27]; exact mOk_UI o (m30i _)) (F.trans (by rw [e27]; exact FI.ui rfl)) (lim_ui L (m30 _) e27) (fun j hj => by rw [mI_ui Y j e27, if_neg (fun q => by omega)]; exact E j hj) ?_
    rw [c_st (i := i) (wn_ui (M' := M27) (show i < n by omega) e27), dn_s (mI M X) i]
    exact al_sub W
end NAI
end
section
/-! The class's natural numbers: the guess, and the step as a whole. -/
section NAJ
variable {G : mG} {d a b c Y Cy s n m X Cx w K e : Nat} {M M' M1 M2 M3 : mM} {v U V g : Int}
theorem g_bd {g v2 : Int} (hg : 0 ≤ g ∧ g < 1073741824) (h : 0 ≤ v2 ∧ v2 < 1073741824) : i64 (g * v2) := by
  have h1 := Int.mul_nonneg hg.1 h.1
  have h2 : g * v2 ≤ 1073741823 * v2 := Int.mul_le_mul_of_nonneg_right (by omega) h.1
  unfold i64
  omega
/-- what the guess stands on -/
def gsS (P U V two u2 Ul v1 v2 Vl : Int) : Prop := 0 < P ∧ U = (two * 1073741824 + u2) * P + Ul ∧ V = (v1 * 1073741824 + v2) * P + Vl ∧ (0 ≤ Ul ∧ Ul < P) ∧ (0 ≤ u2 ∧ u2 < 1073741824) ∧ (0 ≤ v2 ∧ v2 < 1073741824) ∧ (0 ≤ Vl ∧ Vl < P) ∧ (1073741824 ≤ 2 * v1 ∧ v1 < 1073741824) ∧ U < V * 1073741824
theorem s_tm68 {P two u2 Ul v1 v2 Vl : Int} {Q : Int → mM → Prop} (S : gsS P U V two u2 Ul v1 v2 Vl) (hO : mOk M) (h : Nl M a Y Cy) (k : Nt M b X Cx n) (hn : 2 ≤ n) (hK : e + n < Cy) (e2 : mI M X (n - 2) = v2) (eu : mI M Y (e + n - 2) = u2) (hQ : ∀ g : Int, (0 ≤ g ∧ g < 1073741824) → U < (g + 1) * V → (g - 1) * V ≤ U → h_Na_takeMultiple_132 G d a b e n g 0 0 M Q) : ∀ (t i : Nat) (g : Int), 2 ≤ i + t → i ≤ 2 → (0 ≤ g ∧ g < 1073741824) → U < (g + 1) * V → (g - 2 + i) * V ≤ U → (0 ≤ two - g * v1 ∧ two - g * v1 < 2147483648 + i * 1073741824) → h_Na_takeMultiple_68 G d a b e n v1 g (two - g * v1) i M Q := by
  obtain ⟨hP, eU, eV, ⟨ul0, ul1⟩, ⟨u20, u21⟩, hv2, hVl, hv1, hUV⟩ := S
  obtain ⟨⟨l0, p0, kX, nX, ⟨e1, e2'⟩, -, y1, y2⟩, g1, g2, g3, g4⟩ := id k
  have cb := h.2.2.2.2.1.2
  intro t
  induction t with
  | zero =>
    intro i g h1 h2 hg q1 q0 hr
    have ei : i = 2 := by omega
    subst ei
    refine k_Na_takeMultiple_68 hO ⟨by omega, by omega⟩ ⟨by omega, by omega⟩ ⟨by omega, by omega⟩ ⟨by omega, by omega⟩ ⟨by omega, by omega⟩ ⟨by omega, by omega⟩ ⟨fun y => absurd (by omega) y, fun _ => hQ g hg q1 ?_, fun y => absurd (Or.inl (by omega)) y⟩
    have V0 : 0 ≤ V := by
      rw [eV]
      have := Int.mul_nonneg (show 0 ≤ v1 * 1073741824 + v2 by omega) (Int.le_of_lt hP)
      omega
    rw [show g - 2 + ((2 : Nat) : Int) = g by first | rfl | omega] at q0
    rw [Int.sub_mul, Int.one_mul]
    omega
  | succ t ih =>
    intro i g h1 h2 hg q1 q0 hr
    by_cases ei : i = 2
    · exact ih i g (by omega) h2 hg q1 q0 hr
    refine k_Na_takeMultiple_68 hO ⟨by omega, by omega⟩ ⟨by omega, by omega⟩ ⟨by omega, by omega⟩ ⟨by omega, by omega⟩ ⟨by omega, by omega⟩ ⟨by omega, by omega⟩ ?_
    rw [p0, nX, h.2.1, h.2.2.2.1, show Int.toNat (((n : Nat) : Int) - 2) = n - 2 by first | rfl | omega, show Int.toNat ((((e : Nat) : Int) + ((n : Nat) : Int)) - 2) = e + n - 2 by first | rfl | omega, e2, eu, j_shl ⟨by omega, by omega⟩]
    refine ⟨fun _ => ⟨l0, kX, by omega, h.1, h.2.2.1, by omega, g_bd hg hv2, ⟨by omega, by omega⟩⟩, fun y => ?_, fun y => ?_⟩
    · have y2 : g * v2 ≤ (two - g * v1) * 1073741824 + u2 := by
        rcases y with y | y
        · omega
        · exact j_cle.1 y
      exact hQ g hg q1 (kn_one hP eU eV ul0 hv2.1 hVl (by omega) hg y2)
    · have y2 : (two - g * v1) * 1073741824 + u2 < g * v2 := by
        refine Classical.byContradiction (fun u => y (Or.inr (j_cle.2 (by omega))))
      have gp : 1 ≤ g := by
        refine Classical.byContradiction (fun u => ?_)
        have g0 : g = 0 := by omega
        rw [g0, Int.zero_mul, Int.zero_mul] at y2
        rw [g0, Int.zero_mul] at hr
        omega
      have er : two - g * v1 + v1 = two - (g - 1) * v1 := by rw [Int.sub_mul, Int.one_mul]; omega
      rw [er, show ((i : Int) + 1) = ((i + 1 : Nat) : Int) by first | rfl | omega]
      refine ih (i + 1) (g - 1) (by omega) (by omega) ⟨by omega, by omega⟩ (kn_dec hP eU eV ul1 hVl.1 hg.1 y2) ?_ ⟨by omega, by omega⟩
      rw [show g - 1 - 2 + ((i + 1 : Nat) : Int) = g - 2 + (i : Int) by first | rfl | omega]
      exact q0
theorem two_bd {x y : Int} (hx : 0 ≤ x ∧ x < 1073741824) (hy : 0 ≤ y ∧ y < 1073741824) : 0 ≤ x * 1073741824 + y ∧ x * 1073741824 + y < 1152921504606846976 := by omega
/-- the first guess -/
theorem g_first {two v1 g : Int} (ht : 0 ≤ two) (hv : 0 < v1) (eg : g = if 1073741823 < two / v1 then 1073741823 else two / v1) : (0 ≤ g ∧ g < 1073741824) ∧ g * v1 ≤ two ∧ (g = 1073741823 ∨ two < (g + 1) * v1) := by
  have h0 := Int.ediv_nonneg ht (Int.le_of_lt hv)
  have h1 := Int.ediv_mul_le two (show v1 ≠ 0 by omega)
  have h2 := Int.lt_ediv_add_one_mul_self two hv
  by_cases c : 1073741823 < two / v1
  · rw [if_pos c] at eg
    have h3 : g * v1 ≤ two / v1 * v1 := Int.mul_le_mul_of_nonneg_right (by omega) (Int.le_of_lt hv)
    exact ⟨⟨by omega, by omega⟩, by omega, Or.inl eg⟩
  · rw [if_neg c] at eg
    rw [eg]
    exact ⟨⟨h0, by omega⟩, h1, Or.inr h2⟩
theorem s_Na_takeMultiple (hO : mOk M) (h : Nl M a Y Cy) (k : Nt M b X Cx n) (hn : 2 ≤ n) (hK : e + n < K) (hC : K ≤ Cy) (bY : b ≠ Y) (XY : X ≠ Y) (hL : lim M Y K) (top : 1073741824 ≤ 2 * mI M X (n - 1)) (hU : wn M Y e (n + 1) < dn (mI M X) n * 1073741824) : Ci G y_Na_takeMultiple (d + 1) [vr a, vr b, vi e] M (tmQ M Y K e n (wn M Y e (n + 1)) (dn (mI M X) n)) := by
  obtain ⟨⟨l0, p0, kX, nX, ⟨e1, e2⟩, -, y1, y2⟩, g1, g2, g3, g4⟩ := id k
  have cb := h.2.2.2.2.1.2
  obtain ⟨t, rfl⟩ : ∃ t, n = t + 2 := ⟨n - 2, by omega⟩
  have X1 := g3 (t + 1) (by omega)
  have X2 := g3 t (by omega)
  have Y1 := hL (e + (t + 2)) (by omega)
  have Y2 := hL (e + (t + 1)) (by omega)
  have Y3 := hL (e + t) (by omega)
  have b2 := two_bd Y1 Y2
  have eU : wn M Y e (t + 2 + 1) = ((mI M Y (e + (t + 2)) * 1073741824 + mI M Y (e + (t + 1))) * 1073741824 + mI M Y (e + t)) * 2 ^ (30 * t) + wn M Y e t := by
    show dn (fun j => mI M Y (e + j)) (t + 3) = _
    rw [lb_3]
    show wn M Y e t + 2 ^ (30 * t) * (mI M Y (e + t) + 1073741824 * (mI M Y (e + (t + 1)) + 1073741824 * mI M Y (e + (t + 2)))) = _
    generalize (2 : Int) ^ (30 * t) = p
    rw [Int.mul_comm p, show mI M Y (e + t) + 1073741824 * (mI M Y (e + (t + 1)) + 1073741824 * mI M Y (e + (t + 2))) = (mI M Y (e + (t + 2)) * 1073741824 + mI M Y (e + (t + 1))) * 1073741824 + mI M Y (e + t) by first | rfl | omega]
    omega
  have eV : dn (mI M X) (t + 2) = (mI M X (t + 1) * 1073741824 + mI M X t) * 2 ^ (30 * t) + dn (mI M X) t := by
    show dn (mI M X) t + mI M X t * 2 ^ (30 * t) + mI M X (t + 1) * 2 ^ (30 * (t + 1)) = _
    rw [p30, Int.add_mul, Int.mul_assoc, Int.mul_comm 1073741824]
    omega
  have S : gsS (2 ^ (30 * t)) (wn M Y e (t + 2 + 1)) (dn (mI M X) (t + 2)) (mI M Y (e + (t + 2)) * 1073741824 + mI M Y (e + (t + 1))) (mI M Y (e + t)) (wn M Y e t) (mI M X (t + 1)) (mI M X t) (dn (mI M X) t) := ⟨p30p t, eU, eV, ⟨wn_nn hL (by omega), wn_lt hL (by omega)⟩, Y3, X2, ⟨dn_nn (fun j hj => g3 j (by omega)), dn_lt (fun j hj => g3 j (by omega))⟩, ⟨top, X1.2⟩, hU⟩
  have v1 : 0 < mI M X (t + 1) := by
    have : 1073741824 ≤ 2 * mI M X (t + 1) := top
    omega
  refine k_Na_takeMultiple hO ⟨by omega, by omega⟩ ?_
  rw [g1, p0, nX, h.2.1, h.2.2.2.1, show Int.toNat (((t + 2 : Nat) : Int) - 1) = t + 1 by first | rfl | omega, show ((e : Nat) : Int) + ((t + 2 : Nat) : Int) = ((e + (t + 2) : Nat) : Int) by first | rfl | omega, show Int.toNat (((e + (t + 2) : Nat) : Int) - 1) = e + (t + 1) by first | rfl | omega, Int.toNat_natCast, j_shl ⟨by omega, by omega⟩, Int.tdiv_eq_ediv_of_nonneg b2.1]
  generalize eg : (if 1073741823 < (mI M Y (e + (t + 2)) * 1073741824 + mI M Y (e + (t + 1))) / mI M X (t + 1) then 1073741823 else (mI M Y (e + (t + 2)) * 1073741824 + mI M Y (e + (t + 1))) / mI M X (t + 1)) = g
  obtain ⟨f1, f2, f3⟩ := g_first b2.1 v1 eg.symm
  have dl : (mI M Y (e + (t + 2)) * 1073741824 + mI M Y (e + (t + 1))) / mI M X (t + 1) ≤ mI M Y (e + (t + 2)) * 1073741824 + mI M Y (e + (t + 1)) := Int.ediv_le_self _ b2.1
  have dp := Int.ediv_nonneg b2.1 (Int.le_of_lt v1)
  refine ⟨l0, kX, by omega, h.1, h.2.2.1, by omega, by omega, ⟨by omega, by omega⟩, by omega, ⟨by omega, by omega⟩, ?_⟩
  obtain ⟨hP, -, -, ⟨ul0, ul1⟩, ⟨u20, u21⟩, hv2, hVl, hv1, hUV⟩ := id S
  have V0 : 0 < dn (mI M X) (t + 2) := by
    have h1 : 2 ^ (30 * (t + 1)) ≤ dn (mI M X) (t + 2) := dn_ge g3 (g4 (by omega))
    exact Int.lt_of_lt_of_le (p30p (t + 1)) h1
  refine s_tm68 S hO h k hn (by omega) rfl (by rw [show e + (t + 2) - 2 = e + t by first | rfl | omega]) (fun g' hg' q1 q0 => ?_) 2 0 g (by omega) (by omega) f1 (kn_up hP eU eV ul1 u21 hv2.1 hVl.1 hUV f1.1 f3) ?_ ?_
  · exact s_tm132 h k hK hC bY XY hg' hL rfl rfl V0 q1 q0 (t + 2) 0 0 M (by omega) (by omega) ⟨by decide, by decide⟩ hO FI.refl hL (fun _ _ => rfl) (by show _ + 0 * _ = _ - _ * (0 : Int); rw [Int.zero_mul, Int.mul_zero, Int.add_zero, Int.sub_zero])
  · rw [show g - 2 + ((0 : Nat) : Int) = g - 2 by first | rfl | omega]
    exact kn_dn hP eU eV ul0 u20 hv2 hVl hv1.1 f1 f2
  · have := kn_rest hP eU eV ul0 u20 hv2.2 hVl.2 hv1.2 hUV f2 f3
    exact ⟨this.1, by omega⟩
end NAJ
end
section
/-! The class's natural numbers as a family: L their places, W how many limbs each may want. -/
section NAK
variable {G : mG} {d a b c Y Cy s n m X Cx w : Nat} {M M' M1 M2 M3 : mM} {v : Int} {L : List Nat} {W : Nat → Nat} {T T' : Nat → Prop}
def Nn (M : mM) (a : Nat) : Prop := ∃ s, Nt M a (mR M a 0) (cp M a) s
/-- how many limbs -/
def sz (M : mM) (a : Nat) : Nat := Int.toNat (mI M a 1)
/-- its value -/
def nv (M : mM) (a : Nat) : Int := dn (mI M (mR M a 0)) (sz M a)
def NF (L : List Nat) (W : Nat → Nat) (M : mM) : Prop := L.Nodup ∧ (∀ a, a ∈ L → Nn M a ∧ cp M a ≤ 2 * W a ∧ (2 ≤ W a ∧ W a ≤ 20000)) ∧ (∀ a b, a ∈ L → b ∈ L → mR M a 0 = mR M b 0 → a = b)
/-- the cells of the numbers of T -/
def nsS (M : mM) (T : Nat → Prop) (x : Nat) : Prop := T x ∨ ∃ t, T t ∧ x = mR M t 0
def RmN (L : List Nat) (M M' : mM) : Prop := mS M' + 2 * psum (cp M) L ≤ mS M + 2 * psum (cp M') L ∧ mZ M' + psum (fun p => cp M p / 4) L ≤ mZ M + psum (fun p => cp M' p / 4) L
/-- the numbers of T have changed -/
def NC (L : List Nat) (W : Nat → Nat) (T : Nat → Prop) (M M' : mM) : Prop := (mOk M' ∧ NF L W M') ∧ (∀ t, T t → t ∈ L) ∧ FA (nsS M T) T M M' ∧ (∀ t, T t → mR M' t 0 = mR M t 0 ∨ mZ M ≤ mR M' t 0) ∧ RmN L M M'
theorem Nt.sz (h : Nt M a Y Cy s) : sz M a = s := by unfold Jvm.Pilot.CChanceArenaLaw_law_r3235_da7f30.sz; rw [h.2.1, Int.toNat_natCast]
theorem Nt.cp (h : Nt M a Y Cy s) : cp M a = Cy := by unfold Jvm.Pilot.CChanceArenaLaw_law_r3235_da7f30.cp; rw [h.1.2.1, h.1.2.2.2.1]
theorem Nt.nn (h : Nt M a Y Cy s) : Nn M a := ⟨s, by rw [h.cp, h.1.2.1]; exact h⟩
theorem Nt.nv (h : Nt M a Y Cy s) : nv M a = dn (mI M Y) s := by unfold Jvm.Pilot.CChanceArenaLaw_law_r3235_da7f30.nv; rw [h.sz, h.1.2.1]
theorem NF.nt (h : NF L W M) (ha : a ∈ L) : Nt M a (mR M a 0) (cp M a) (sz M a) := by
  obtain ⟨s, t⟩ := (h.2.1 a ha).1
  have e := t.sz
  rw [e]
  exact t
theorem NF.cb (h : NF L W M) (ha : a ∈ L) : cp M a ≤ 40000 := by have := h.2.1 a ha; omega
theorem NF.sc (h : NF L W M) (ha : a ∈ L) : sz M a ≤ cp M a := (h.nt ha).2.2.1
theorem NF.ne (h : NF L W M) (ha : a ∈ L) (hb : b ∈ L) (ab : a ≠ b) : mR M a 0 ≠ mR M b 0 := fun u => ab (h.2.2 a b ha hb u)
theorem NF.lt (h : NF L W M) (ha : a ∈ L) : a < mZ M ∧ mR M a 0 < mZ M := (h.nt ha).1.2.2.2.2.2.2
theorem NF.kd (h : NF L W M) (ha : a ∈ L) : mK M a = 10 := (h.nt ha).1.1
theorem NF.ka (h : NF L W M) (ha : a ∈ L) : mK M (mR M a 0) = 30 := (h.nt ha).1.2.2.1
/-- a number is no other's limbs -/
theorem NF.na (h : NF L W M) (ha : a ∈ L) (hb : b ∈ L) : a ≠ mR M b 0 := fun u => by
  have h1 := h.kd ha
  have h2 := h.ka hb
  rw [u, h2] at h1
  omega
theorem NF.nn0 (h : NF L W M) (ha : a ∈ L) : 0 ≤ nv M a := dn_nn (h.nt ha).2.2.2.1
theorem NF.vlt (h : NF L W M) (ha : a ∈ L) : nv M a < 2 ^ (30 * sz M a) := dn_lt (h.nt ha).2.2.2.1
/-- few limbs by a small value -/
theorem NF.szv (h : NF L W M) (ha : a ∈ L) (hv : nv M a < 2 ^ (30 * n)) : sz M a ≤ n := dn_sz (h.nt ha).2.2.2.1 (h.nt ha).2.2.2.2 hv
theorem NF.sz0 (h : NF L W M) (ha : a ∈ L) : sz M a = 0 ↔ nv M a = 0 := by
  constructor
  · intro u
    unfold nv
    rw [u]
    rfl
  · intro u
    have := h.szv (n := 0) ha (by rw [u]; decide)
    omega
theorem NF.sw (h : NF L W M) (ha : a ∈ L) : 2 ≤ W a ∧ W a ≤ 20000 := (h.2.1 a ha).2.2
theorem RmN.refl : RmN L M M := ⟨Nat.le_refl _, Nat.le_refl _⟩
theorem RmN.trans (h : RmN L M M1) (k : RmN L M1 M2) : RmN L M M2 := by
  obtain ⟨h1, h2⟩ := h
  obtain ⟨k1, k2⟩ := k
  exact ⟨by omega, by omega⟩
theorem NC.refl (hO : mOk M) (h : NF L W M) (hT : ∀ t, T t → t ∈ L) : NC L W T M M := ⟨⟨hO, h⟩, hT, FA.refl, fun _ _ => Or.inl rfl, RmN.refl⟩
theorem NC.trans (h : NC L W T M M1) (k : NC L W T M1 M2) : NC L W T M M2 := by
  obtain ⟨-, h2, h3, h4, h5⟩ := h
  obtain ⟨k1, -, k3, k4, k5⟩ := k
  refine ⟨k1, h2, h3.trans2 k3 ?_ (fun _ _ y => y), fun t ht => ?_, h5.trans k5⟩
  · intro x hx u
    rcases u with u | ⟨t, ht, u⟩
    · exact Or.inl u
    · rcases h4 t ht with q | q
      · exact Or.inr ⟨t, ht, by rw [u, q]⟩
      · omega
  · rcases k4 t ht with q | q
    · rw [q]; exact h4 t ht
    · exact Or.inr (Nat.le_trans h3.1.1 q)
theorem NC.mono (h : NC L W T M M1) (hT : ∀ t, T t → T' t) (hL : ∀ t, T' t → t ∈ L) (hr : NF L W M) : NC L W T' M M1 := by
  obtain ⟨h1, h2, h3, h4, h5⟩ := h
  refine ⟨h1, hL, h3.mono (fun x _ u => ?_) (fun x _ u => hT x u), fun t ht => ?_, h5⟩
  · rcases u with u | ⟨t, ht, u⟩
    · exact Or.inl (hT x u)
    · exact Or.inr ⟨t, hT t ht, u⟩
  · by_cases c : T t
    · exact h4 t c
    · refine Or.inl ?_
      rw [(h3.2 t (hr.lt (hL t ht)).1).2.2.2.1 c]
/-- what is not of T stays -/
theorem NC.num (h : NC L W T M M') (hF : NF L W M) (hb : b ∈ L) (hT : ¬ T b) : mR M' b = mR M b ∧ mI M' b = mI M b ∧ mI M' (mR M b 0) = mI M (mR M b 0) ∧ sz M' b = sz M b ∧ nv M' b = nv M b ∧ cp M' b = cp M b := by
  obtain ⟨-, h2, h3, h4, -⟩ := h
  obtain ⟨z1, z2⟩ := hF.lt hb
  have n1 : ¬ nsS M T b := by
    rintro (u | ⟨t, ht, u⟩)
    · exact hT u
    · exact hF.na hb (h2 t ht) u
  have n2 : ¬ nsS M T (mR M b 0) := by
    rintro (u | ⟨t, ht, u⟩)
    · exact hF.na (h2 _ u) hb rfl
    · exact hT (by rw [hF.2.2 b t hb (h2 t ht) u]; exact ht)
  have a1 := (h3.2 b z1).2.2.2.1 hT
  have a2 := (h3.2 b z1).2.2.2.2 n1
  have a3 := (h3.2 _ z2).2.2.2.2 n2
  have a4 : sz M' b = sz M b := by unfold sz; rw [a2]
  refine ⟨a1, a2, a3, a4, ?_, ?_⟩
  · unfold nv
    rw [a4, a1, a3]
  · unfold cp
    rw [a1, (h3.2 _ z2).2.1]
theorem NC.nf (h : NC L W T M M') : NF L W M' := h.1.2
theorem NC.ok (h : NC L W T M M') : mOk M' := h.1.1
/-- one number's step -/
theorem NF.step (hF : NF L W M) (ha : a ∈ L) (hw : w ≤ W a) (h : nst M a (mR M a 0) (cp M a) w v M') : NC L W (fun x => x = a) M M' ∧ nv M' a = v := by
  obtain ⟨o, Y', C', s', t, e, F, g⟩ := h
  have W1 := hF.2.1 a ha
  have z := hF.lt ha
  have C4 : 4 ≤ cp M a := (hF.nt ha).1.2.2.2.2.1.1
  have F' : FA (nsS M (fun x => x = a)) (fun x => x = a) M M' := F.mono (fun x _ u => by
    rcases u with u | u
    · exact Or.inl u
    · exact Or.inr ⟨a, rfl, u⟩) (fun _ _ u => u)
  have ra : mR M' a 0 = Y' := t.1.2.1
  have ca : cp M' a = C' := t.cp
  have old : ∀ b, b ∈ L → b ≠ a → mR M' b 0 = mR M b 0 ∧ cp M' b = cp M b ∧ ∃ s, Nt M' b (mR M b 0) (cp M b) s := by
    intro b hb ba
    have zb := hF.lt hb
    have rb : mR M' b 0 = mR M b 0 := by rw [(F.2 b zb.1).2.2.2.1 ba]
    have n1 : ¬ (b = a ∨ b = mR M a 0) := by
      rintro (u | u)
      · exact ba u
      · exact hF.na hb ha u
    have n2 : ¬ (mR M b 0 = a ∨ mR M b 0 = mR M a 0) := by
      rintro (u | u)
      · exact hF.na ha hb u.symm
      · exact hF.ne hb ha ba u
    exact ⟨rb, by unfold cp; rw [rb, (F.2 _ zb.2).2.1], sz M b, (hF.nt hb).fa F n1 n2 ba⟩
  have ps1 := psum_one (f := cp M) (g := cp M') (p := a) L hF.1 ha (fun q hq hqa => (old q hq hqa).2.1)
  have ps2 := psum_one (f := fun p => cp M p / 4) (g := fun p => cp M' p / 4) (p := a) L hF.1 ha (fun q hq hqa => by show cp M' q / 4 = cp M q / 4; rw [(old q hq hqa).2.1])
  have g2 : (Y' = mR M a 0 ∨ mZ M ≤ Y') ∧ C' ≤ 2 * W a ∧ mS M' + 2 * cp M a ≤ mS M + 2 * C' ∧ mZ M' + cp M a / 4 ≤ mZ M + C' / 4 := by
    rcases g with ⟨g1, g2, g3, g4⟩ | ⟨g1, g2, g3, g4, g5⟩
    · exact ⟨Or.inl g1, by omega, by omega, by omega⟩
    · exact ⟨Or.inr (by omega), by omega, by omega, by omega⟩
  refine ⟨⟨⟨o, hF.1, fun b hb => ?_, fun b c hb hc u => ?_⟩, fun t ht => by rw [ht]; exact ha, F', fun t ht => by rw [ht, ra]; exact g2.1, ?_⟩, ?_⟩
  · by_cases ba : b = a
    · rw [ba]
      exact ⟨t.nn, by rw [ca]; exact g2.2.1, W1.2.2⟩
    · obtain ⟨r1, r2, s, ts⟩ := old b hb ba
      exact ⟨ts.nn, by rw [r2]; exact (hF.2.1 b hb).2.1, (hF.2.1 b hb).2.2⟩
  · by_cases ba : b = a
    · by_cases cca : c = a
      · rw [ba, cca]
      · rw [ba, ra, (old c hc cca).1] at u
        have zc := hF.lt hc
        rcases g2.1 with q | q
        · rw [ba]
          exact hF.2.2 a c ha hc (by rw [← q]; exact u)
        · omega
    · by_cases cca : c = a
      · rw [cca, ra, (old b hb ba).1] at u
        have zc := hF.lt hb
        rcases g2.1 with q | q
        · rw [cca]
          exact hF.2.2 b a hb ha (by rw [← q]; exact u)
        · omega
      · rw [(old b hb ba).1, (old c hc cca).1] at u
        exact hF.2.2 b c hb hc u
  · rw [ca] at ps1
    have ps2' : psum (fun p => cp M' p / 4) L + cp M a / 4 = psum (fun p => cp M p / 4) L + C' / 4 := by rw [← ca]; exact ps2
    exact ⟨by omega, by omega⟩
  · rw [t.nv]
    exact e
/-- ints of the numbers of T have changed -/
theorem NF.chg (hF : NF L W M) (hT : ∀ t, T t → t ∈ L) (f : FI (nsS M T) M M') (o : mOk M') (hn : ∀ t, T t → ∃ s, Nt M' t (mR M t 0) (cp M t) s) : NC L W T M M' := by
  have rr : ∀ b, mR M' b 0 = mR M b 0 := fun b => by rw [f.2.2.1]
  have cc : ∀ b, cp M' b = cp M b := fun b => by unfold cp; rw [f.2.2.1, f.2.1]
  refine ⟨⟨o, hF.1, fun b hb => ?_, fun b c hb hc u => ?_⟩, hT, f.fa, fun t _ => Or.inl (rr t), ?_⟩
  · refine ⟨?_, by rw [cc]; exact (hF.2.1 b hb).2.1, (hF.2.1 b hb).2.2⟩
    by_cases c : T b
    · obtain ⟨s, t⟩ := hn b c
      exact t.nn
    · refine ((hF.nt hb).fi f ?_ ?_).nn
      · rintro (u | ⟨t, ht, u⟩)
        · exact c u
        · exact hF.na hb (hT t ht) u
      · rintro (u | ⟨t, ht, u⟩)
        · exact hF.na (hT _ u) hb rfl
        · exact c (by rw [hF.2.2 b t hb (hT t ht) u]; exact ht)
  · rw [rr, rr] at u
    exact hF.2.2 b c hb hc u
  · unfold RmN
    rw [show cp M' = cp M from funext cc, f.2.2.2.2.1, f.2.2.2.2.2.1]
    exact ⟨Nat.le_refl _, Nat.le_refl _⟩
end NAK
end
section
/-! The class's natural numbers: division, the loop. -/
section NAL
variable {G : mG} {d a b q c e Y Z E Cy Cq Ce s n m w K P : Nat} {M M' M1 M2 M3 : mM} {v V A : Int}
/-- the quotient's limbs from t on -/
def qf (M : mM) (Z t P : Nat) : Int := dn (fun j => if t ≤ j then mI M Z j else 0) P
theorem qf_top : qf M Z P P = 0 := dn_z (s := 0) (by omega) (fun j _ h2 => by show (if P ≤ j then _ else _) = _; rw [if_neg (by omega)])
theorem qf_bot : qf M Z 0 P = dn (mI M Z) P := dn_cg P (fun j _ => by show (if 0 ≤ j then _ else _) = _; rw [if_pos (by omega)])
theorem qf_up {t : Nat} {x : Int} (ht : t < P) (u : M' = mUI M Z t x) : qf M' Z t P = qf M Z (t + 1) P + x * 2 ^ (30 * t) := by
  unfold qf
  have h := dn_up (f := fun j => if t + 1 ≤ j then mI M Z j else 0) (g := fun j => if t ≤ j then mI M' Z j else 0) ht (fun j _ hj => by
    show (if t ≤ j then mI M' Z j else 0) = (if t + 1 ≤ j then mI M Z j else 0)
    by_cases c : t ≤ j
    · rw [if_pos c, if_pos (by omega), mI_ui Z j u, if_neg (fun y => hj y.2)]
    · rw [if_neg c, if_neg (by omega)])
  rw [h]
  show _ + ((if t ≤ t then mI M' Z t else 0) - (if t + 1 ≤ t then mI M Z t else 0)) * _ = _
  rw [if_pos (Nat.le_refl _), if_neg (by omega), mI_ui Z t u, if_pos ⟨rfl, rfl⟩, Int.sub_zero]
/-- the value with its window at t -/
theorem dn_win {t : Nat} (h : t + n + 1 ≤ K) (z : ∀ j, t + n + 1 ≤ j → j < K → mI M Y j = 0) : dn (mI M Y) K = dn (mI M Y) t + 2 ^ (30 * t) * wn M Y t (n + 1) := by
  rw [dn_z (s := t + (n + 1)) h (fun j h1 h2 => z j h1 h2), dn_sp]
  rfl
theorem wn_s (M : mM) (Y t n : Nat) : wn M Y t (n + 1) = wn M Y t n + mI M Y (t + n) * 2 ^ (30 * n) := rfl
theorem wn_lo (M : mM) (Y t n : Nat) : wn M Y t (n + 1) = mI M Y t + 1073741824 * wn M Y (t + 1) n := by
  unfold wn
  rw [dn_lo]
  show mI M Y t + 1073741824 * dn (fun j => mI M Y (t + (1 + j))) n = mI M Y t + 1073741824 * dn (fun j => mI M Y (t + 1 + j)) n
  rw [dn_cg n (fun j _ => show mI M Y (t + (1 + j)) = mI M Y (t + 1 + j) by rw [show t + (1 + j) = t + 1 + j by omega])]
/-- what the loop leaves behind -/
def dvQ (M : mM) (a Y Cy q Z Cq : Nat) (sc V A : Int) (M' : mM) : Prop := mOk M' ∧ FI (fun x => (x = a ∨ x = Y) ∨ (x = q ∨ x = Z)) M M' ∧ ∃ sq sa R x, Nt M' q Z Cq sq ∧ Nt M' a Y Cy sa ∧ A = V * dn (mI M' Z) sq + R ∧ (0 ≤ R ∧ R < V) ∧ R = sc * dn (mI M' Y) sa + x ∧ (0 ≤ x ∧ x < sc)
theorem s_dvEnd {sc : Int} (hsc : 0 < sc ∧ sc < 1073741824) (h : Nl M a Y Cy) (h1 : mI M a 1 = ((m : Nat) : Int)) (hK : m + 1 ≤ Cy) (hq : Nl M q Z Cq) (hP : P ≤ Cq) (aq : a ≠ q) (YZ : Y ≠ Z) (o : mOk M1) (F : FI (fun x => x = Y ∨ x = Z) M M1) (L : lim M1 Y (m + 1)) (LZ : lim M1 Z P) (hn : n ≤ m) (z : ∀ j, n ≤ j → j < m + 1 → mI M1 Y j = 0) (hw : wn M1 Y 0 n < V) (hA : dn (mI M1 Y) (m + 1) + V * qf M1 Z 0 P = A) : mK M1 q = 10 ∧ Cv G y_Na_trim d [vr q, vi P] M1 (fun M67 => mOk M67 ∧ (mK M67 a = 10 ∧ Cv G y_Na_trim d [vr a, vi (mI M67 a 1)] M67 (fun M71 => mOk M71 ∧ (mK M71 a = 10 ∧ Ci G y_Na_divideSmall d [vr a, vi sc] M71 (fun x76 M75 => i32 x76 ∧ mOk M75 ∧ dvQ M a Y Cy q Z Cq sc V A M75))))) := by
  have aY : a ≠ Y := h.2.2.2.2.2.1
  have qZ : q ≠ Z := hq.2.2.2.2.2.1
  have aZ : a ≠ Z := fun u => by have h1 := h.1; have h2 := hq.2.2.1; rw [u, h2] at h1; omega
  have qY : q ≠ Y := fun u => by have h1 := hq.1; have h2 := h.2.2.1; rw [u, h2] at h1; omega
  have n1 : ∀ x, x ≠ Y → x ≠ Z → mI M1 x = mI M x := fun x u1 u2 => F.2.2.2.2.2.2 x (fun u => u.elim u1 u2)
  refine ⟨by rw [F.1]; exact hq.1, (s_Na_trim o (hq.fi F) hP LZ).mono (fun M67 k => ?_)⟩
  obtain ⟨o67, F67, -, sq, -, tq, vq⟩ := k
  have F2 := (F.mono (S' := fun x => (x = a ∨ x = Y) ∨ (x = q ∨ x = Z)) (fun _ u => u.elim (fun u => Or.inl (Or.inr u)) (fun u => Or.inr (Or.inr u)))).trans (F67.mono (fun _ u => Or.inr (Or.inl u)))
  have y67 : mI M67 Y = mI M1 Y := F67.2.2.2.2.2.2 Y (fun u => qY u.symm)
  have a67 : mI M67 a 1 = ((m : Nat) : Int) := by rw [F67.2.2.2.2.2.2 a aq, n1 a aY aZ]; exact h1
  rw [a67]
  refine ⟨o67, by rw [F2.1]; exact h.1, (s_Na_trim (n := m) o67 (h.fi F2) (by omega) (fun j hj => by rw [y67]; exact L j (by omega))).mono (fun M71 k => ?_)⟩
  obtain ⟨o71, F71, -, sa, -, ta, va⟩ := k
  have tq71 := tq.fi F71 (fun u => aq u.symm) (fun u => aZ u.symm)
  have F3 := F2.trans (F71.mono (fun _ u => Or.inl (Or.inl u)))
  refine ⟨o71, by rw [F3.1]; exact h.1, (s_Na_divideSmall hsc o71 ta).mono (fun x M75 k => ?_)⟩
  obtain ⟨hx, o75, F75, s', t', ve⟩ := k
  have qn : ¬ (q = a ∨ q = Y) := fun u => u.elim (fun u => aq u.symm) qY
  have Zn : ¬ (Z = a ∨ Z = Y) := fun u => u.elim (fun u => aZ u.symm) (fun u => YZ u.symm)
  have tq75 := tq71.fi F75 qn Zn
  have iZ : mI M75 Z = mI M67 Z := by rw [F75.2.2.2.2.2.2 Z Zn, F71.2.2.2.2.2.2 Z (fun u => aZ u.symm)]
  have z0 : mI M1 Y m = 0 := z m hn (by omega)
  have d1 : dn (mI M1 Y) (m + 1) = dn (mI M1 Y) m := by rw [dn_s, z0, Int.zero_mul, Int.add_zero]
  have d2 : dn (mI M1 Y) (m + 1) = wn M1 Y 0 n := by
    rw [dn_z (s := n) (by omega) z]
    exact dn_cg n (fun j _ => show mI M1 Y j = mI M1 Y (0 + j) by rw [show 0 + j = j by omega])
  have d3 := wn_nn (e := 0) (n := n) L (by omega)
  refine ⟨⟨by omega, by omega⟩, o75, o75, F3.trans (F75.mono (fun _ u => Or.inl u)), sq, s', dn (mI M1 Y) m, x, tq75, t', ?_, ⟨by omega, by omega⟩, ?_, hx⟩
  · rw [iZ, vq, ← d1, ← hA, qf_bot]
    omega
  · rw [← ve, va, y67]
/-- the loop -/
theorem s_dv134 {sc : Int} (hsc : 0 < sc ∧ sc < 1073741824) (h : Nl M a Y Cy) (h1 : mI M a 1 = ((m : Nat) : Int)) (hK : m + 1 ≤ Cy) (hq : Nl M q Z Cq) (hP : P ≤ Cq) (eP : P + n = m + 1) (hn : 2 ≤ n) (P0 : 0 < P) (k : Nt M e E Ce n) (aq : a ≠ q) (YZ : Y ≠ Z) (eY : e ≠ Y ∧ e ≠ Z) (EY : E ≠ Y ∧ E ≠ Z) (top : 1073741824 ≤ 2 * mI M E (n - 1)) (eV : V = dn (mI M E) n) : ∀ (t : Nat) (M1 : mM), t ≤ P → mOk M1 → FI (fun x => x = Y ∨ x = Z) M M1 → lim M1 Y (m + 1) → (∀ j, t ≤ j → j < P → 0 ≤ mI M1 Z j ∧ mI M1 Z j < 1073741824) → (∀ j, t + n ≤ j → j < m + 1 → mI M1 Y j = 0) → wn M1 Y t n < V → dn (mI M1 Y) (m + 1) + V * qf M1 Z t P = A → h_Na_divide_134 G (d + 1) a q e sc P ((t : Int) - 1) M1 (dvQ M a Y Cy q Z Cq sc V A) := by
  have aY : a ≠ Y := h.2.2.2.2.2.1
  have cb := h.2.2.2.2.1.2
  have cq := hq.2.2.2.2.1.2
  intro t
  induction t with
  | zero =>
    intro M1 ht o F L LZ z hw hA
    refine k_Na_divide_134 o ⟨by omega, by omega⟩ ⟨by omega, by omega⟩ ⟨by omega, by omega⟩ ⟨fun _ => ?_, fun y => absurd (by omega) y⟩
    exact s_dvEnd (n := n) hsc h h1 hK hq hP aq YZ o F L (fun j hj => LZ j (by omega) hj) (by omega) (fun j u1 u2 => z j (by omega) u2) hw hA
  | succ t ih =>
    intro M1 ht o F L LZ z hw hA
    have k1 : Nt M1 e E Ce n := k.fi F (fun u => u.elim eY.1 eY.2) (fun u => u.elim EY.1 EY.2)
    have iE : mI M1 E = mI M E := F.2.2.2.2.2.2 E (fun u => u.elim EY.1 EY.2)
    have hU : wn M1 Y t (n + 1) < dn (mI M1 E) n * 1073741824 := by
      rw [wn_lo, iE, ← eV]
      have := L t (by omega)
      omega
    refine k_Na_divide_134 o ⟨by omega, by omega⟩ ⟨by omega, by omega⟩ ⟨by omega, by omega⟩ ⟨fun y => absurd y (by omega), fun _ => ⟨by rw [F.1]; exact hq.1, by rw [F.1]; exact h.1, ?_⟩⟩
    rw [show ((t + 1 : Nat) : Int) - 1 = ((t : Nat) : Int) by first | rfl | omega]
    refine (s_Na_takeMultiple (K := m + 1) o (h.fi F) k1 hn (by omega) hK eY.1 EY.1 L (by rw [iE]; exact top) hU).mono (fun x M80 g => ?_)
    obtain ⟨o80, F80, hx, E80, z80, L80, w80, v80⟩ := g
    rw [iE, ← eV] at w80 v80
    have r1 : mR M1 q 0 = Z := by rw [F.2.2.1]; exact hq.2.1
    rw [r1, F80.1, F80.2.1, F.1, F.2.1, hq.2.2.2.1, Int.toNat_natCast]
    refine ⟨l30i hx, o80, hq.2.2.1, by omega, fun M85 e85 => ?_⟩
    have F85 : FI (fun x => x = Z) M80 M85 := by rw [e85]; exact FI.ui rfl
    have y85 : mI M85 Y = mI M80 Y := F85.2.2.2.2.2.2 Y YZ
    have iZ : mI M80 Z = mI M1 Z := F80.2.2.2.2.2.2 Z (fun u => YZ u.symm)
    have w85 : ∀ t n, wn M85 Y t n = wn M80 Y t n := fun t n => by unfold wn; rw [y85]
    have ww : dn (mI M80 Y) (m + 1) = dn (mI M1 Y) (m + 1) - 2 ^ (30 * t) * (x * V) := by
      rw [dn_win (M := M80) (t := t) (n := n) (by omega) (fun j u1 u2 => by rw [E80 j (Or.inr (by omega))]; exact z j (by omega) u2), dn_win (M := M1) (t := t) (n := n) (by omega) (fun j u1 u2 => z j (by omega) u2), wn_s M80, z80, Int.zero_mul, Int.add_zero, w80, Int.mul_sub, dn_cg t (fun j hj => E80 j (Or.inl hj))]
      omega
    rw [show ((t : Nat) : Int) + (-1) = ((t : Nat) : Int) - 1 by first | rfl | omega]
    refine ih M85 (by omega) (by rw [e85]; exact mOk_UI o80 (l30i hx)) ((F.trans (F80.mono (fun _ u => Or.inl u))).trans (F85.mono (fun _ u => Or.inr u))) (fun j hj => by rw [y85]; exact L80 j hj) (fun j u1 u2 => ?_) (fun j u1 u2 => ?_) (by rw [w85]; exact v80) ?_
    · rw [mI_ui Z j e85]
      by_cases c : j = t
      · rw [if_pos ⟨rfl, c⟩]; exact hx
      · rw [if_neg (fun u => c u.2), iZ]; exact LZ j (by omega) u2
    · rw [y85]
      by_cases c : j = t + n
      · rw [c]; exact z80
      · rw [E80 j (Or.inr (by omega))]; exact z j (by omega) u2
    · have q80 : qf M80 Z (t + 1) P = qf M1 Z (t + 1) P := by unfold qf; rw [iZ]
      rw [y85, ww, qf_up (M' := M85) (by omega) e85, q80, ← hA, Int.mul_add, Int.mul_comm (2 ^ (30 * t)), Int.mul_comm x V, Int.mul_assoc]
      omega
end NAL
end
