/-! The reference's draft is the game: exploring it comes to what the words tell. -/
section GPO
variable {G : mG} {d a g R W C Z T n : Nat} {M : mM} {E : Eg9} {tg : Int} {γ : gW9} {sg : List Int}
/-- what a resolved name is worth in a state -/
noncomputable def XVg (γ : gW9) (sg : List Int) (x : Int) : vrs := if x < 100 then fvs γ.1 γ.2.1 γ.2.2.1 γ.2.2.2.1 γ.2.2.2.2.1 (fun v => sg.getD v 0) γ.2.2.2.2.2.1.reverse x.toNat else (0, sg.getD (x - 100).toNat 0, 1)
/-- what a rule is worth in a state -/
noncomputable abbrev evG (γ : gW9) : List Int → Nat → Nat → vrs := evq γ.1 γ.2.1 γ.2.2.1 γ.2.2.2.1 γ.2.2.2.2.1 γ.2.2.2.2.2.1
theorem xvg_fv {l1 l2 : List nm9} {e : nm9} (h : γ.2.2.2.2.2.1 = l1 ++ e :: l2) (h3 : e.2.1 ≠ 3) (hr : rcn l1 < 100) : XVg γ sg ((rcn l1 : Nat) : Int) = nvs γ.1 γ.2.1 γ.2.2.1 γ.2.2.2.1 γ.2.2.2.2.1 (fun v => sg.getD v 0) e l1.reverse := by
  unfold XVg
  rw [if_pos (show ((rcn l1 : Nat) : Int) < 100 by omega), Int.toNat_natCast, h]
  have e9 : (l1 ++ e :: l2).reverse = l2.reverse ++ e :: l1.reverse := by simp
  have e8 := fvs_at (w := γ.1) (pl := γ.2.1) (nq := γ.2.2.1) (sm := γ.2.2.2.1) (N := γ.2.2.2.2.1) (sg := fun v => sg.getD v 0) (r := l1.reverse) h3 l2.reverse
  rw [rcn_rev] at e8
  rw [e9]
  exact e8
theorem xvg_v {v : Nat} : XVg γ sg (100 + (v : Int)) = (0, sg.getD v 0, 1) := by
  unfold XVg
  rw [if_neg (show ¬ (100 + (v : Int) < 100) by omega), show (100 + (v : Int) - 100).toNat = v by omega]
theorem leaf_xv {r l : List nm9} {nv : Nat → Int} (hr : γ.2.2.2.2.2.1 = r ++ l) (hR : rcn γ.2.2.2.2.2.1 ≤ 60) (hnv : Nvq γ.1 γ.2.2.1 γ.2.2.2.1 r nv) : ∀ k, (γ.1 k = 1 ∨ γ.1 k = 2 ∨ γ.1 k = 12 ∨ γ.1 k = 13) → (γ.1 k = 1 → E9 γ.2.2.2.1 r 0 k ≠ -1) → cvn9 γ.1 (XVg γ sg) nv k = cvs γ.1 γ.2.1 γ.2.2.1 γ.2.2.2.1 γ.2.2.2.2.1 (fun v => sg.getD v 0) γ.2.2.2.2.2.1.reverse k := by
  intro k hk hne
  unfold cvn9
  by_cases h1 : γ.1 k = 1
  · obtain ⟨l1, e, l2, q1, q2, q3, -⟩ := E9_sp (hne h1)
    have hn := hnv.2 k h1 l1 e l2 q1 q2 q3
    have full : γ.2.2.2.2.2.1 = l1 ++ e :: (l2 ++ l) := by rw [hr, q1]; simp
    have old := cvs_old (pl := γ.2.1) (nq := γ.2.2.1) (N := γ.2.2.2.2.1) (sg := fun v => sg.getD v 0) (l := l) h1 q1 q2 q3
    rw [← hr] at old
    rw [if_pos h1, old, hn]
    by_cases h3 : e.2.1 = 3
    · rw [if_pos h3, xvg_v]
      unfold nvs
      rw [if_neg (show ¬ e.2.1 = 1 by omega), if_pos h3, vcn_rev]
    · rw [if_neg h3]
      have lt : rcn l1 < 100 := by
        have := congrArg rcn full
        rw [rcn_app] at this
        omega
      exact xvg_fv full h3 lt
  · rw [if_neg h1, cvs_no h1]
    by_cases h2 : γ.1 k = 2
    · rw [if_pos h2, if_pos h2, hnv.1 k h2]
    · rw [if_neg h2, if_neg h2]
theorem vlx_eq {r l : List nm9} {nv : Nat → Int} {i j : Nat} (hr : γ.2.2.2.2.2.1 = r ++ l) (hR : rcn γ.2.2.2.2.2.1 ≤ 60) (hnv : Nvq γ.1 γ.2.2.1 γ.2.2.2.1 r nv) (he : Eo γ.1 6 i j) (hf : (fl γ.1 (E9 γ.2.2.2.1 r 0) γ.2.1 0 i j).1 = 0) : vlq γ.1 (cvn9 γ.1 (XVg γ sg) nv) γ.2.1 0 0 i j = evG γ sg i j := vl_cg0 (E := E9 γ.2.2.2.1 r 0) (leaf_xv hr hR hnv) he hf
theorem Rtw.rtq {m t : Int} {i j : Nat} (h : Rtw E.2 M g R W T E.1 m t i j) (hR : rcn E.2.2.2.2.2.2.1 ≤ 60) : Rtq E.2.1 E.2.2.1 (XVg E.2) (evG E.2) M g R W T E m t i j := by
  obtain ⟨r, l, n', b, f, e, nv, h1, h2, ⟨h3, -, h5⟩, h6, h7⟩ := h
  exact ⟨n', b, f, e, nv, h2, h3, h7, fun sg => vlx_eq h1 hR h6 h3 h5⟩
theorem RBw.rbr {x : Nat} {br : br9} (h : RBw E.2 M g R W T E.1 Z x br) (hR : rcn E.2.2.2.2.2.2.1 ≤ 60) : RBr E.2.1 E.2.2.1 (XVg E.2) (evG E.2) M g R W T E x br := by
  obtain ⟨h1, h2, h3, fs, h4, h5, h6⟩ := h
  exact ⟨h1, h2.rtq hR, h3, fs, h4, fun i q hq => ⟨(h6 i q hq).1, (h6 i q hq).2.1, (h6 i q hq).2.2.1, (h6 i q hq).2.2.2.rtq hR⟩⟩
theorem two9 {x : Nat} (h : 1 ≤ x ∧ x ≤ 3) (h3 : ¬ x = 3) (h1 : ¬ x = 1) : x = 2 := by omega
theorem RGq.gp (h : RGq E.2 M g R W C Z T E.1 tg) (hn : NmO E.2.1 E.2.2.1 E.2.2.2.2.1 E.2.2.2.2.2.1 n E.2.2.2.2.2.2.1) (hR : R ≤ 60) (e17 : mI M g 17 = tg) (t0 : 0 ≤ tg) : GP E.2.1 E.2.2.1 (XVg E.2) (evG E.2) M g R W C T E (E.2.2.2.2.2.2.2.2.1.getD (0, 0)) E.2.2.2.2.2.2.2.2.2 (fun v => (E.2.2.2.2.2.2.2.1.getD v (0, 0, 0)).1) (fun v => (E.2.2.2.2.2.2.2.1.getD v (0, 0, 0)).2.1) := by
  obtain ⟨⟨hr, hw⟩, hN, ⟨hv, hv'⟩, ht, hc, hcm⟩ := h
  have hR' : rcn E.2.2.2.2.2.2.1 ≤ 60 := by rw [hr]; exact hR
  refine ⟨fun sg r hlt z => ?_, fun sg r hlt z => ?_, fun sg v _ => xvg_v, fun v hlt => ?_, ?_, hc, fun c cm hcc => ?_⟩
  · rw [← hr] at hlt
    obtain ⟨l1, e, l2, q1, q2, q3⟩ := rcn_sp _ r hlt
    subst q3
    obtain ⟨a0, a1, a2⟩ := hN l1 e l2 q1 q2
    obtain ⟨b1, -, -, b4⟩ := hn l1 e l2 q1
    have e2 : e.2.1 = 2 := by
      by_cases y : e.2.1 = 1
      · exact absurd (a1 y).1 z
      · exact two9 b1 q2 y
    obtain ⟨c1, nn, nv, c2, c3, c4, c5⟩ := a2 e2
    obtain ⟨d1, d2, d3, d4⟩ := b4 e2
    refine ⟨nn, nv, _, _, c2, c3, c5, ?_⟩
    rw [xvg_fv q1 q2 (by omega)]
    unfold nvs
    rw [if_neg (show ¬ e.2.1 = 1 by omega), if_neg q2]
    exact vl_cg0 (E := E9 _ l1 0) (fun k hk hne => ((leaf_xv (sg := sg) q1 hR' c4 k hk hne).trans (by rw [q1]; exact cvs_pre hne)).symm) c3 d3
  · rw [← hr] at hlt
    obtain ⟨l1, e, l2, q1, q2, q3⟩ := rcn_sp _ r hlt
    subst q3
    obtain ⟨a0, a1, a2⟩ := hN l1 e l2 q1 q2
    obtain ⟨b1, -, -, -⟩ := hn l1 e l2 q1
    have e1 : e.2.1 = 1 := by
      by_cases y : e.2.1 = 2
      · exact absurd z (a2 y).1
      · omega
    rw [xvg_fv q1 q2 (by omega)]
    unfold nvs
    rw [if_pos e1]
    exact (a1 e1).2
  · have hx := List.getElem?_eq_getElem (l := E.2.2.2.2.2.2.2.1) (i := v) (by rw [hv]; exact hlt)
    obtain ⟨y1, y2, y3⟩ := hv' v _ hx
    have gd : E.2.2.2.2.2.2.2.1.getD v (0, 0, 0) = E.2.2.2.2.2.2.2.1[v]'(by rw [hv]; exact hlt) := by
      rw [List.getD_eq_getElem?_getD, hx]
      rfl
    show mI M (g + 19) v = (E.2.2.2.2.2.2.2.1.getD v (0, 0, 0)).1 ∧ mI M (g + 20) v = (E.2.2.2.2.2.2.2.1.getD v (0, 0, 0)).2.1
    rw [gd]
    exact ⟨y1, y2⟩
  · rcases ht with ⟨u, -⟩ | ⟨ij, u1, u2⟩
    · omega
    · rw [e17, u1]
      exact u2.rtq hR'
  · obtain ⟨k1, k2, k3, ⟨k4, -⟩, k5⟩ := hcm c cm hcc
    exact ⟨k1, k2, k3.rtq hR', k4, fun b x hb => (k5 b x hb).rbr hR'⟩
theorem RGq.gok (h : RGq E.2 M g R W C Z T E.1 tg) (hq : NqO E.2.1 E.2.2.2.1 (E.2.2.2.2.2.1 - 1)) (hn : NmO E.2.1 E.2.2.1 E.2.2.2.2.1 E.2.2.2.2.2.1 (E.2.2.2.2.2.1 - 1) E.2.2.2.2.2.2.1) (hs : SgO (fun v => sg.getD v 0) E.2.2.2.2.2.2.1) : GOk (evG E.2) E.2.2.2.2.2.2.2.2.2 sg := fun c cm hc b br hb h0 => by
  obtain ⟨-, -, -, -, k5⟩ := h.2.2.2.2.2 c cm hc
  obtain ⟨-, ⟨r, l, n', b', f, e, nv, h1, -, ⟨h3, h4, h5⟩, -, -⟩, -⟩ := k5 b br hb
  have g := vls_ok hq hn hs h1 h3 (by omega) h5
  exact (vgd.un g h0).2.2
theorem Gd.gdx {i9 : tI9} (h : Gd i9 M g) : ∃ E : Eg9, GaO E.2 ∧ i9.2.2.2.2.1 = XpG E.2 ∧ vcn E.2.2.2.2.2.2.1 = E.2.2.2.2.2.2.2.1.length ∧ GdX E.2.1 E.2.2.1 (XVg E.2) (evG E.2) i9 M g E.2.2.2.2.2.2.2.1.length (E.2.2.2.2.2.2.2.2.1.getD (0, 0)) E.2.2.2.2.2.2.2.2.2 (fun v => (E.2.2.2.2.2.2.2.1.getD v (0, 0, 0)).1) (fun v => (E.2.2.2.2.2.2.2.1.getD v (0, 0, 0)).2.1) (E.2.2.2.2.2.2.2.1.map (fun x => x.2.2)) ∧ ∀ sg, SgO (fun v => sg.getD v 0) E.2.2.2.2.2.2.1 → GOk (evG E.2) E.2.2.2.2.2.2.2.2.2 sg := by
  obtain ⟨T, R, W, C, Z, E, tg, h1, h2, h3, h4, h5, h6, c1, c2, c3, ga, hX⟩ := h
  have hG := h5.2.2.2.2.2.2.2
  have hR := h5.1.1
  have hw := hG.1.2
  have hv := hG.2.2.1.1
  have gp := hG.gp ga.2.1 hR h3.2.2.2 h6
  have s0 : E.2.2.2.2.2.2.2.1.map (fun x => x.2.2) = (List.range W).map (fun v => mI M (g + 21) v) := by
    refine List.ext_getElem? (fun v => ?_)
    by_cases y : v < W
    · have hx := List.getElem?_eq_getElem (l := E.2.2.2.2.2.2.2.1) (i := v) (by rw [hv]; exact y)
      rw [List.getElem?_map, hx, List.getElem?_map, List.getElem?_range y]
      exact congrArg some (hG.2.2.1.2 v _ hx).2.2.symm
    · rw [List.getElem?_eq_none (by rw [List.length_map, hv]; omega), List.getElem?_eq_none (by rw [List.length_map, List.length_range]; omega)]
  subst hv
  exact ⟨E, ga, hX, hw, ⟨T, R, C, Z, E, tg, h1, h2, h3, h4, h5, h6, ⟨c1, c2, c3, ga, hX⟩, gp, s0⟩, fun sg hs => hG.gok ga.1 ga.2.1 hs⟩
theorem x_MM_expl {Nt9 : tP9} (h : RI0 Nt9 M a) : Ci G y_MM_explore (d + 10) [vr a] M (fun r M' => (i32 r ∧ RI0 Nt9 M' a ∧ FR M a M') ∧ ((Nt9.2.2.1 = 0 ∧ mI M' a 0 = 1 ∧ xU M M' a) ∨ (Nt9.2.2.1 ≠ 0 ∧ (∃ W : Nat, (W : Int) = Nt9.2.2.2.1 ∧ xpR Nt9.2.2.2.2.2.2.1 a (mR M a 9) W r M') ∧ mI M' a 0 = 0))) := by
  have e11 := h.2.2.2.2.2.2.2.2.2
  by_cases z : mI M a 11 = 0
  · refine (x_MM_explore (G := G) (d := d) (W := 0) (ww := fun _ => 0) (pl := fun _ => 0) (lo := fun _ => 0) (hi := fun _ => 0) (XV := fun _ _ => (0, 0, 1)) (cvS := fun _ _ => (0, 0, 1)) (ev := fun sg i j => vlq (fun _ => 0) (fun _ => (0, 0, 1)) (fun _ => 0) 0 0 i j) (stp := fun sg l => ((stq9 (fun _ => 0) (fun _ => (0, 0, 1)) (fun _ => 0) (fun _ => 0) (fun _ => 0) l (fun v => sg.getD v 0)).1, (List.range 0).map (stq9 (fun _ => 0) (fun _ => (0, 0, 1)) (fun _ => 0) (fun _ => 0) (fun _ => 0) l (fun v => sg.getD v 0)).2)) (tgI := (0, 0)) (cms := []) (Ok := fun _ => True) (s0 := []) (fun _ _ _ => rfl) (fun _ _ => rfl) (fun _ _ _ _ => trivial) (fun _ _ c cm hc => absurd hc (by simp)) rfl trivial (fun u => absurd z u) h).mono (fun r M' q => ?_)
    obtain ⟨q1, q2, q3, q4⟩ := q
    refine ⟨⟨q1, q2, q3⟩, Or.inl ?_⟩
    rcases q4 with ⟨-, -, y2, y⟩ | ⟨y, -⟩
    · exact ⟨by rw [← e11]; exact z, y, y2⟩
    · exact absurd z y
  · obtain ⟨E, ga, hX, hw, gx, gok⟩ := (h.2.2.2.2.2.1 z).gdx
    refine (x_MM_explore (G := G) (d := d) (cvS := fun sg => cvs E.2.1 E.2.2.1 E.2.2.2.1 E.2.2.2.2.1 E.2.2.2.2.2.1 (fun v => sg.getD v 0) E.2.2.2.2.2.2.1.reverse) (stp := stpq E.2.1 E.2.2.1 E.2.2.2.1 E.2.2.2.2.1 E.2.2.2.2.2.1 E.2.2.2.2.2.2.1 E.2.2.2.2.2.2.2.1.length (fun v => (E.2.2.2.2.2.2.2.1.getD v (0, 0, 0)).1) (fun v => (E.2.2.2.2.2.2.2.1.getD v (0, 0, 0)).2.1)) (Ok := fun sg => SgO (fun v => sg.getD v 0) E.2.2.2.2.2.2.1) (X := XpG E.2) (fun _ _ _ => rfl) (fun _ _ => rfl) (fun sg l so h0 => stp_ok hw (vlo_vr ga.2.2) so h0) gok rfl (vlo_s0 ga.2.2) (fun _ => gx) h).mono (fun r M' q => ?_)
    obtain ⟨q1, q2, q3, q4⟩ := q
    refine ⟨⟨q1, q2, q3⟩, Or.inr ?_⟩
    rcases q4 with ⟨y, -⟩ | ⟨-, y, y0⟩
    · exact absurd y z
    · obtain ⟨T, R, C, Z, E', tg, -, -, g3, -, -, -, g7, -⟩ := gx
      refine ⟨by rw [← e11]; exact z, ⟨_, g3.2.1.symm.trans g7.1, ?_⟩, y0⟩
      have hX' : Nt9.2.2.2.2.2.2.1 = XpG E.2 := hX
      rw [hX']
      exact y
end GPO
