section
/-! The reference's draft is the game: exploring it comes to what the words tell. -/
section GPO
variable {G : mG} {d a g R W C Z T n : Nat} {M : mM} {E : Eg9} {tg : Int} {γ : gW9} {sg : List Int}
/-- what a resolved name is worth in a state -/
noncomputable def XVg (γ : gW9) (sg : List Int) (x : Int) : vrs := if x < 100 then fvs γ.1 γ.2.1 γ.2.2.1 γ.2.2.2.1 γ.2.2.2.2.1 (fun v => sg.getD v 0) γ.2.2.2.2.2.1.reverse x.toNat else (0, sg.getD (x - 100).toNat 0, 1)
/-- what a rule is worth in a state -/
noncomputable abbrev evG (γ : gW9) : List Int → Nat → Nat → vrs := evq γ.1 γ.2.1 γ.2.2.1 γ.2.2.2.1 γ.2.2.2.2.1 γ.2.2.2.2.2.1
theorem xvg_fv {l1 l2 : List nm9} {e : nm9} (h : γ.2.2.2.2.2.1 = l1 ++ e :: l2) (h3 : e.2.1 ≠ 3) (hr : rcn l1 < 100) : XVg γ sg ((rcn l1 : Nat) : Int) = nvs γ.1 γ.2.1 γ.2.2.1 γ.2.2.2.1 γ.2.2.2.2.1 (fun v => sg.getD v 0) e l1.reverse := by
  unfold XVg
  rw [if_pos (show ((rcn l1 : Nat) : Int) < 100 by omega), Int.toNat_natCast, h]
  have e9 : (l1 ++ e :: l2).reverse = l2.reverse ++ e :: l1.reverse := by simp
  have e8 := fvs_at (w := γ.1) (pl := γ.2.1) (nq := γ.2.2.1) (sm := γ.2.2.2.1) (N := γ.2.2.2.2.1) (sg := fun v => sg.getD v 0) (r := l1.reverse) h3 l2.reverse
  rw [rcn_rev] at e8
  rw [e9]
  exact e8
theorem xvg_v {v : Nat} : XVg γ sg (100 + (v : Int)) = (0, sg.getD v 0, 1) := by
  unfold XVg
  rw [if_neg (show ¬ (100 + (v : Int) < 100) by omega), show (100 + (v : Int) - 100).toNat = v by omega]
theorem leaf_xv {r l : List nm9} {nv : Nat → Int} (hr : γ.2.2.2.2.2.1 = r ++ l) (hR : rcn γ.2.2.2.2.2.1 ≤ 60) (hnv : Nvq γ.1 γ.2.2.1 γ.2.2.2.1 r nv) : ∀ k, (γ.1 k = 1 ∨ γ.1 k = 2 ∨ γ.1 k = 12 ∨ γ.1 k = 13) → (γ.1 k = 1 → E9 γ.2.2.2.1 r 0 k ≠ -1) → cvn9 γ.1 (XVg γ sg) nv k = cvs γ.1 γ.2.1 γ.2.2.1 γ.2.2.2.1 γ.2.2.2.2.1 (fun v => sg.getD v 0) γ.2.2.2.2.2.1.reverse k := by
  intro k hk hne
  unfold cvn9
  by_cases h1 : γ.1 k = 1
  · obtain ⟨l1, e, l2, q1, q2, q3, -⟩ := E9_sp (hne h1)
    have hn := hnv.2 k h1 l1 e l2 q1 q2 q3
    have full : γ.2.2.2.2.2.1 = l1 ++ e :: (l2 ++ l) := by rw [hr, q1]; simp
    have old := cvs_old (pl := γ.2.1) (nq := γ.2.2.1) (N := γ.2.2.2.2.1) (sg := fun v => sg.getD v 0) (l := l) h1 q1 q2 q3
    rw [← hr] at old
    rw [if_pos h1, old, hn]
    by_cases h3 : e.2.1 = 3
    · rw [if_pos h3, xvg_v]
      unfold nvs
      rw [if_neg (show ¬ e.2.1 = 1 by omega), if_pos h3, vcn_rev]
    · rw [if_neg h3]
      have lt : rcn l1 < 100 := by
        have := congrArg rcn full
        rw [rcn_app] at this
        omega
      exact xvg_fv full h3 lt
  · rw [if_neg h1, cvs_no h1]
    by_cases h2 : γ.1 k = 2
    · rw [if_pos h2, if_pos h2, hnv.1 k h2]
    · rw [if_neg h2, if_neg h2]
theorem vlx_eq {r l : List nm9} {nv : Nat → Int} {i j : Nat} (hr : γ.2.2.2.2.2.1 = r ++ l) (hR : rcn γ.2.2.2.2.2.1 ≤ 60) (hnv : Nvq γ.1 γ.2.2.1 γ.2.2.2.1 r nv) (he : Eo γ.1 6 i j) (hf : (fl γ.1 (E9 γ.2.2.2.1 r 0) γ.2.1 0 i j).1 = 0) : vlq γ.1 (cvn9 γ.1 (XVg γ sg) nv) γ.2.1 0 0 i j = evG γ sg i j := vl_cg0 (E := E9 γ.2.2.2.1 r 0) (leaf_xv hr hR hnv) he hf
theorem Rtw.rtq {m t : Int} {i j : Nat} (h : Rtw E.2 M g R W T E.1 m t i j) (hR : rcn E.2.2.2.2.2.2.1 ≤ 60) : Rtq E.2.1 E.2.2.1 (XVg E.2) (evG E.2) M g R W T E m t i j := by
  obtain ⟨r, l, n', b, f, e, nv, h1, h2, ⟨h3, -, h5⟩, h6, h7⟩ := h
  exact ⟨n', b, f, e, nv, h2, h3, h7, fun sg => vlx_eq h1 hR h6 h3 h5⟩
theorem RBw.rbr {x : Nat} {br : br9} (h : RBw E.2 M g R W T E.1 Z x br) (hR : rcn E.2.2.2.2.2.2.1 ≤ 60) : RBr E.2.1 E.2.2.1 (XVg E.2) (evG E.2) M g R W T E x br := by
  obtain ⟨h1, h2, h3, fs, h4, h5, h6⟩ := h
  exact ⟨h1, h2.rtq hR, h3, fs, h4, fun i q hq => ⟨(h6 i q hq).1, (h6 i q hq).2.1, (h6 i q hq).2.2.1, (h6 i q hq).2.2.2.rtq hR⟩⟩
theorem two9 {x : Nat} (h : 1 ≤ x ∧ x ≤ 3) (h3 : ¬ x = 3) (h1 : ¬ x = 1) : x = 2 := by omega
theorem RGq.gp (h : RGq E.2 M g R W C Z T E.1 tg) (hn : NmO E.2.1 E.2.2.1 E.2.2.2.2.1 E.2.2.2.2.2.1 n E.2.2.2.2.2.2.1) (hR : R ≤ 60) (e17 : mI M g 17 = tg) (t0 : 0 ≤ tg) : GP E.2.1 E.2.2.1 (XVg E.2) (evG E.2) M g R W C T E (E.2.2.2.2.2.2.2.2.1.getD (0, 0)) E.2.2.2.2.2.2.2.2.2 (fun v => (E.2.2.2.2.2.2.2.1.getD v (0, 0, 0)).1) (fun v => (E.2.2.2.2.2.2.2.1.getD v (0, 0, 0)).2.1) := by
  obtain ⟨⟨hr, hw⟩, hN, ⟨hv, hv'⟩, ht, hc, hcm⟩ := h
  have hR' : rcn E.2.2.2.2.2.2.1 ≤ 60 := by rw [hr]; exact hR
  refine ⟨fun sg r hlt z => ?_, fun sg r hlt z => ?_, fun sg v _ => xvg_v, fun v hlt => ?_, ?_, hc, fun c cm hcc => ?_⟩
  · rw [← hr] at hlt
    obtain ⟨l1, e, l2, q1, q2, q3⟩ := rcn_sp _ r hlt
    subst q3
    obtain ⟨a0, a1, a2⟩ := hN l1 e l2 q1 q2
    obtain ⟨b1, -, -, b4⟩ := hn l1 e l2 q1
    have e2 : e.2.1 = 2 := by
      by_cases y : e.2.1 = 1
      · exact absurd (a1 y).1 z
      · exact two9 b1 q2 y
    obtain ⟨c1, nn, nv, c2, c3, c4, c5⟩ := a2 e2
    obtain ⟨d1, d2, d3, d4⟩ := b4 e2
    refine ⟨nn, nv, _, _, c2, c3, c5, ?_⟩
    rw [xvg_fv q1 q2 (by omega)]
    unfold nvs
    rw [if_neg (show ¬ e.2.1 = 1 by omega), if_neg q2]
    exact vl_cg0 (E := E9 _ l1 0) (fun k hk hne => ((leaf_xv (sg := sg) q1 hR' c4 k hk hne).trans (by rw [q1]; exact cvs_pre hne)).symm) c3 d3
  · rw [← hr] at hlt
    obtain ⟨l1, e, l2, q1, q2, q3⟩ := rcn_sp _ r hlt
    subst q3
    obtain ⟨a0, a1, a2⟩ := hN l1 e l2 q1 q2
    obtain ⟨b1, -, -, -⟩ := hn l1 e l2 q1
    have e1 : e.2.1 = 1 := by
      by_cases y : e.2.1 = 2
      · exact absurd z (a2 y).1
      · omega
    rw [xvg_fv q1 q2 (by omega)]
    unfold nvs
    rw [if_pos e1]
    exact (a1 e1).2
  · have hx := List.getElem?_eq_getElem (l := E.2.2.2.2.2.2.2.1) (i := v) (by rw [hv]; exact hlt)
    obtain ⟨y1, y2, y3⟩ := hv' v _ hx
    have gd : E.2.2.2.2.2.2.2.1.getD v (0, 0, 0) = E.2.2.2.2.2.2.2.1[v]'(by rw [hv]; exact hlt) := by
      rw [List.getD_eq_getElem?_getD, hx]
      rfl
    show mI M (g + 19) v = (E.2.2.2.2.2.2.2.1.getD v (0, 0, 0)).1 ∧ mI M (g + 20) v = (E.2.2.2.2.2.2.2.1.getD v (0, 0, 0)).2.1
    rw [gd]
    exact ⟨y1, y2⟩
  · rcases ht with ⟨u, -⟩ | ⟨ij, u1, u2⟩
    · omega
    · rw [e17, u1]
      exact u2.rtq hR'
  · obtain ⟨k1, k2, k3, ⟨k4, -⟩, k5⟩ := hcm c cm hcc
    exact ⟨k1, k2, k3.rtq hR', k4, fun b x hb => (k5 b x hb).rbr hR'⟩
theorem RGq.gok (h : RGq E.2 M g R W C Z T E.1 tg) (hq : NqO E.2.1 E.2.2.2.1 (E.2.2.2.2.2.1 - 1)) (hn : NmO E.2.1 E.2.2.1 E.2.2.2.2.1 E.2.2.2.2.2.1 (E.2.2.2.2.2.1 - 1) E.2.2.2.2.2.2.1) (hs : SgO (fun v => sg.getD v 0) E.2.2.2.2.2.2.1) : GOk (evG E.2) E.2.2.2.2.2.2.2.2.2 sg := fun c cm hc b br hb h0 => by
  obtain ⟨-, -, -, -, k5⟩ := h.2.2.2.2.2 c cm hc
  obtain ⟨-, ⟨r, l, n', b', f, e, nv, h1, -, ⟨h3, h4, h5⟩, -, -⟩, -⟩ := k5 b br hb
  have g := vls_ok hq hn hs h1 h3 (by omega) h5
  exact (vgd.un g h0).2.2
theorem Gd.gdx {i9 : tI9} (h : Gd i9 M g) : ∃ E : Eg9, GaO E.2 ∧ i9.2.2.2.2.1 = XpG E.2 ∧ vcn E.2.2.2.2.2.2.1 = E.2.2.2.2.2.2.2.1.length ∧ GdX E.2.1 E.2.2.1 (XVg E.2) (evG E.2) i9 M g E.2.2.2.2.2.2.2.1.length (E.2.2.2.2.2.2.2.2.1.getD (0, 0)) E.2.2.2.2.2.2.2.2.2 (fun v => (E.2.2.2.2.2.2.2.1.getD v (0, 0, 0)).1) (fun v => (E.2.2.2.2.2.2.2.1.getD v (0, 0, 0)).2.1) (E.2.2.2.2.2.2.2.1.map (fun x => x.2.2)) ∧ ∀ sg, SgO (fun v => sg.getD v 0) E.2.2.2.2.2.2.1 → GOk (evG E.2) E.2.2.2.2.2.2.2.2.2 sg := by
  obtain ⟨T, R, W, C, Z, E, tg, h1, h2, h3, h4, h5, h6, c1, c2, c3, ga, hX⟩ := h
  have hG := h5.2.2.2.2.2.2.2
  have hR := h5.1.1
  have hw := hG.1.2
  have hv := hG.2.2.1.1
  have gp := hG.gp ga.2.1 hR h3.2.2.2 h6
  have s0 : E.2.2.2.2.2.2.2.1.map (fun x => x.2.2) = (List.range W).map (fun v => mI M (g + 21) v) := by
    refine List.ext_getElem? (fun v => ?_)
    by_cases y : v < W
    · have hx := List.getElem?_eq_getElem (l := E.2.2.2.2.2.2.2.1) (i := v) (by rw [hv]; exact y)
      rw [List.getElem?_map, hx, List.getElem?_map, List.getElem?_range y]
      exact congrArg some (hG.2.2.1.2 v _ hx).2.2.symm
    · rw [List.getElem?_eq_none (by rw [List.length_map, hv]; omega), List.getElem?_eq_none (by rw [List.length_map, List.length_range]; omega)]
  subst hv
  exact ⟨E, ga, hX, hw, ⟨T, R, C, Z, E, tg, h1, h2, h3, h4, h5, h6, ⟨c1, c2, c3, ga, hX⟩, gp, s0⟩, fun sg hs => hG.gok ga.1 ga.2.1 hs⟩
theorem x_MM_expl {Nt9 : tP9} (h : RI0 Nt9 M a) : Ci G y_MM_explore (d + 10) [vr a] M (fun r M' => (i32 r ∧ RI0 Nt9 M' a ∧ FR M a M') ∧ ((Nt9.2.2.1 = 0 ∧ mI M' a 0 = 1 ∧ xU M M' a) ∨ (Nt9.2.2.1 ≠ 0 ∧ (∃ W : Nat, (W : Int) = Nt9.2.2.2.1 ∧ xpR Nt9.2.2.2.2.2.2.1 a (mR M a 9) W r M') ∧ mI M' a 0 = 0))) := by
  have e11 := h.2.2.2.2.2.2.2.2.2
  by_cases z : mI M a 11 = 0
  · refine (x_MM_explore (G := G) (d := d) (W := 0) (ww := fun _ => 0) (pl := fun _ => 0) (lo := fun _ => 0) (hi := fun _ => 0) (XV := fun _ _ => (0, 0, 1)) (cvS := fun _ _ => (0, 0, 1)) (ev := fun sg i j => vlq (fun _ => 0) (fun _ => (0, 0, 1)) (fun _ => 0) 0 0 i j) (stp := fun sg l => ((stq9 (fun _ => 0) (fun _ => (0, 0, 1)) (fun _ => 0) (fun _ => 0) (fun _ => 0) l (fun v => sg.getD v 0)).1, (List.range 0).map (stq9 (fun _ => 0) (fun _ => (0, 0, 1)) (fun _ => 0) (fun _ => 0) (fun _ => 0) l (fun v => sg.getD v 0)).2)) (tgI := (0, 0)) (cms := []) (Ok := fun _ => True) (s0 := []) (fun _ _ _ => rfl) (fun _ _ => rfl) (fun _ _ _ _ => trivial) (fun _ _ c cm hc => absurd hc (by simp)) rfl trivial (fun u => absurd z u) h).mono (fun r M' q => ?_)
    obtain ⟨q1, q2, q3, q4⟩ := q
    refine ⟨⟨q1, q2, q3⟩, Or.inl ?_⟩
    rcases q4 with ⟨-, -, y2, y⟩ | ⟨y, -⟩
    · exact ⟨by rw [← e11]; exact z, y, y2⟩
    · exact absurd z y
  · obtain ⟨E, ga, hX, hw, gx, gok⟩ := (h.2.2.2.2.2.1 z).gdx
    refine (x_MM_explore (G := G) (d := d) (cvS := fun sg => cvs E.2.1 E.2.2.1 E.2.2.2.1 E.2.2.2.2.1 E.2.2.2.2.2.1 (fun v => sg.getD v 0) E.2.2.2.2.2.2.1.reverse) (stp := stpq E.2.1 E.2.2.1 E.2.2.2.1 E.2.2.2.2.1 E.2.2.2.2.2.1 E.2.2.2.2.2.2.1 E.2.2.2.2.2.2.2.1.length (fun v => (E.2.2.2.2.2.2.2.1.getD v (0, 0, 0)).1) (fun v => (E.2.2.2.2.2.2.2.1.getD v (0, 0, 0)).2.1)) (Ok := fun sg => SgO (fun v => sg.getD v 0) E.2.2.2.2.2.2.1) (X := XpG E.2) (fun _ _ _ => rfl) (fun _ _ => rfl) (fun sg l so h0 => stp_ok hw (vlo_vr ga.2.2) so h0) gok rfl (vlo_s0 ga.2.2) (fun _ => gx) h).mono (fun r M' q => ?_)
    obtain ⟨q1, q2, q3, q4⟩ := q
    refine ⟨⟨q1, q2, q3⟩, Or.inr ?_⟩
    rcases q4 with ⟨y, -⟩ | ⟨-, y, y0⟩
    · exact absurd y z
    · obtain ⟨T, R, C, Z, E', tg, -, -, g3, -, -, -, g7, -⟩ := gx
      refine ⟨by rw [← e11]; exact z, ⟨_, g3.2.1.symm.trans g7.1, ?_⟩, y0⟩
      have hX' : Nt9.2.2.2.2.2.2.1 = XpG E.2 := hX
      rw [hX']
      exact y
end GPO
end
section
/-! What exploring a text comes to hangs on its own words alone: pure. -/
section XCA
variable {ev ev' : List Int → Nat → Nat → vrs} {stp stp' : List Int → List (Nat × Nat × Nat × Nat) → (Int × Int) × List Int} {sg : List Int}
theorem chq_cg : ∀ (l : List br9), (∀ b, b ∈ l → ev sg b.2.1.1 b.2.1.2 = ev' sg b.2.1.1 b.2.1.2) → chq9 ev sg l = chq9 ev' sg l
  | [], _ => rfl
  | b :: r, h => by
    have hb := h b List.mem_cons_self
    have ih := chq_cg r (fun x hx => h x (List.mem_cons_of_mem _ hx))
    unfold chq9
    rw [hb, ih]
theorem flq_cg {pc m : Int} {nb : Nat} : ∀ (l : List (br9 × (Int × Int))), (∀ x, x ∈ l → stp sg x.1.2.2 = stp' sg x.1.2.2) → ∀ S B, flq9 stp sg pc m nb l S B = flq9 stp' sg pc m nb l S B
  | [], _ => fun _ _ => rfl
  | x :: r, h => fun S B => by
    have hx := h x List.mem_cons_self
    have ih := flq_cg (pc := pc) (m := m) (nb := nb) r (fun y hy => h y (List.mem_cons_of_mem _ hy))
    simp only [flq9, hx, ih]
theorem tcq_cg {nb c : Nat} {cm : cm9} {s : sl9} (hg : ev sg cm.2.2.1.1 cm.2.2.1.2 = ev' sg cm.2.2.1.1 cm.2.2.1.2) (hb : ∀ b, b ∈ cm.2.2.2 → ev sg b.2.1.1 b.2.1.2 = ev' sg b.2.1.1 b.2.1.2 ∧ stp sg b.2.2 = stp' sg b.2.2) : tcq9 ev stp sg nb c cm s = tcq9 ev' stp' sg nb c cm s := by
  have hch := chq_cg (ev := ev) (ev' := ev') (sg := sg) cm.2.2.2 (fun b hx => (hb b hx).1)
  have hf : ∀ (pc m : Int) (n9 : Nat) (l : List (Int × Int)) S B, flq9 stp sg pc m n9 (cm.2.2.2.zip l) S B = flq9 stp' sg pc m n9 (cm.2.2.2.zip l) S B := fun pc m n9 l S B => flq_cg _ (fun x hx => (hb x.1 (List.of_mem_zip hx).1).2) S B
  unfold tcq9
  rw [hg, hch]
  simp only [hf]
theorem tsq_cg {nb : Nat} : ∀ (l : List cm9), (∀ cm, cm ∈ l → ev sg cm.2.2.1.1 cm.2.2.1.2 = ev' sg cm.2.2.1.1 cm.2.2.1.2 ∧ ∀ b, b ∈ cm.2.2.2 → ev sg b.2.1.1 b.2.1.2 = ev' sg b.2.1.1 b.2.1.2 ∧ stp sg b.2.2 = stp' sg b.2.2) → ∀ (c : Nat) (s : sl9), tsq9 ev stp sg nb l c s = tsq9 ev' stp' sg nb l c s
  | [], _ => fun _ _ => rfl
  | cm :: r, h => fun c s => by
    have h1 := h cm List.mem_cons_self
    have ih := tsq_cg (nb := nb) r (fun y hy => h y (List.mem_cons_of_mem _ hy))
    show (if s.1.1 ≠ 0 then s else tsq9 ev stp sg nb r (c + 1) (tcq9 ev stp sg nb c cm s)) = (if s.1.1 ≠ 0 then s else tsq9 ev' stp' sg nb r (c + 1) (tcq9 ev' stp' sg nb c cm s))
    rw [tcq_cg h1.1 h1.2, ih]
theorem ssq_cg {nb : Nat} {tg : Nat × Nat} {cms : List cm9} {S : List (List Int)} (ht : ev sg tg.1 tg.2 = ev' sg tg.1 tg.2) (h : ∀ cm, cm ∈ cms → ev sg cm.2.2.1.1 cm.2.2.1.2 = ev' sg cm.2.2.1.1 cm.2.2.1.2 ∧ ∀ b, b ∈ cm.2.2.2 → ev sg b.2.1.1 b.2.1.2 = ev' sg b.2.1.1 b.2.1.2 ∧ stp sg b.2.2 = stp' sg b.2.2) : ssq9 ev stp tg cms sg nb S = ssq9 ev' stp' tg cms sg nb S := by
  unfold ssq9
  rw [ht, tsq_cg cms h]
theorem exq_cg {tg : Nat × Nat} {cms : List cm9} (ht : ∀ sg, ev sg tg.1 tg.2 = ev' sg tg.1 tg.2) (h : ∀ cm, cm ∈ cms → (∀ sg, ev sg cm.2.2.1.1 cm.2.2.1.2 = ev' sg cm.2.2.1.1 cm.2.2.1.2) ∧ ∀ b, b ∈ cm.2.2.2 → (∀ sg, ev sg b.2.1.1 b.2.1.2 = ev' sg b.2.1.1 b.2.1.2) ∧ ∀ sg, stp sg b.2.2 = stp' sg b.2.2) : ∀ (f k : Nat) (S : List (List Int)) (T : xt9), exq9 ev stp tg cms f k S T = exq9 ev' stp' tg cms f k S T := by
  have hs : ∀ (sg : List Int) (nb : Nat) (S : List (List Int)), ssq9 ev stp tg cms sg nb S = ssq9 ev' stp' tg cms sg nb S := fun sg nb S => ssq_cg (ht sg) (fun cm hc => ⟨(h cm hc).1 sg, fun b hb => ⟨((h cm hc).2 b hb).1 sg, ((h cm hc).2 b hb).2 sg⟩⟩)
  intro f
  induction f with
  | zero => intro k S T; rfl
  | succ f ih =>
    intro k S T
    simp only [exq9, hs, ih]
theorem xpl_cg {tg : Nat × Nat} {cms : List cm9} {s0 : List Int} (ht : ∀ sg, ev sg tg.1 tg.2 = ev' sg tg.1 tg.2) (h : ∀ cm, cm ∈ cms → (∀ sg, ev sg cm.2.2.1.1 cm.2.2.1.2 = ev' sg cm.2.2.1.1 cm.2.2.1.2) ∧ ∀ b, b ∈ cm.2.2.2 → (∀ sg, ev sg b.2.1.1 b.2.1.2 = ev' sg b.2.1.1 b.2.1.2) ∧ ∀ sg, stp sg b.2.2 = stp' sg b.2.2) : xpl9 ev stp tg cms s0 = xpl9 ev' stp' tg cms s0 := exq_cg ht h _ _ _ _
end XCA
section XCB
variable {w w' pl pl' nq nq' lo lo' hi hi' : Nat → Int} {sm sm' : Nat → Nat → Prop} {N i j k V : Nat} {nms : List nm9} {sg : List Int} {cv cv' : Nat → vrs} {sf : Nat → Int}
theorem nxq_ge {x : Int} : ∀ (f k : Nat), k ≤ nxq w x f k
  | 0, k => Nat.le_refl k
  | f + 1, k => by
    unfold nxq
    by_cases c : w k = x
    · rw [if_pos c]; exact Nat.le_refl k
    · rw [if_neg c]
      exact Nat.le_trans (Nat.le_succ k) (nxq_ge f (k + 1))
theorem nxq_ag (hw : ∀ j, j < N → w j = w' j) {x : Int} : ∀ (f k e : Nat), nxq w x f k = e → e < N → nxq w' x f k = e
  | 0, k, e, h, _ => h
  | f + 1, k, e, h, he => by
    unfold nxq at h ⊢
    by_cases c : w k = x
    · rw [if_pos c] at h
      rw [if_pos (by rw [← hw k (by omega)]; exact c)]
      exact h
    · rw [if_neg c] at h
      have := nxq_ge (w := w) (x := x) f (k + 1)
      rw [if_neg (by rw [← hw k (by omega)]; exact c)]
      exact nxq_ag hw f (k + 1) e h he
/-- the formulas' words stand among the words -/
def NmF (w : Nat → Int) (N : Nat) (l : List nm9) : Prop := ∀ e, e ∈ l → (e.1 < N ∧ w e.1 = 1) ∧ (e.2.1 ≠ 1 → e.2.1 ≠ 3 → Eo w 6 (e.1 + 2) (nxq w 34 N e.1) ∧ nxq w 34 N e.1 < N)
theorem rl_v (ag : AgW w w' pl pl' nq nq' sm sm' N) (eo : Eo w 6 i j) (hj : j ≤ N) (hc : ∀ k, k < N → cv k = cv' k) : vlq w cv pl 0 0 i j = vlq w' cv' pl' 0 0 i j := (rl_cg0 (E := fun _ => 0) (E' := fun _ => 0) eo (fun k _ k2 => ⟨(ag.1 k (by omega)).1, (ag.1 k (by omega)).2.1, fun _ => rfl, fun _ => hc k (by omega)⟩)).2.2
theorem cvs_cg (ag : AgW w w' pl pl' nq nq' sm sm' N) : ∀ (l : List nm9), NmF w N l → ∀ k, k < N → cvs w pl nq sm N sf l k = cvs w' pl' nq' sm' N sf l k
  | [], _, k, hk => by
    obtain ⟨a1, -, a3⟩ := ag.1 k hk
    show (if w k = 2 then ((0, nq k, 1) : vrs) else if w k = 12 then (0, 1, 1) else (0, 0, 1)) = (if w' k = 2 then ((0, nq' k, 1) : vrs) else if w' k = 12 then (0, 1, 1) else (0, 0, 1))
    rw [← a1]
    by_cases h2 : w k = 2
    · rw [if_pos h2, if_pos h2, a3 h2]
    · rw [if_neg h2, if_neg h2]
  | e :: r, h, k, hk => by
    have ih := cvs_cg ag r (fun x hx => h x (List.mem_cons_of_mem _ hx))
    obtain ⟨⟨e1, e2⟩, e3⟩ := h e List.mem_cons_self
    have a1 := (ag.1 k hk).1
    have hc : (w k = 1 ∧ sm e.1 k ∧ ∀ e', e' ∈ r → ¬ sm e'.1 k) ↔ (w' k = 1 ∧ sm' e.1 k ∧ ∀ e', e' ∈ r → ¬ sm' e'.1 k) := by
      rw [← a1]
      refine ⟨fun u => ⟨u.1, (ag.2 e.1 k e1 hk e2 u.1).mp u.2.1, fun e' he' y => u.2.2 e' he' ?_⟩, fun u => ⟨u.1, (ag.2 e.1 k e1 hk e2 u.1).mpr u.2.1, fun e' he' y => u.2.2 e' he' ?_⟩⟩
      · obtain ⟨⟨y1, y2⟩, -⟩ := h e' (List.mem_cons_of_mem _ he')
        exact (ag.2 e'.1 k y1 hk y2 u.1).mpr y
      · obtain ⟨⟨y1, y2⟩, -⟩ := h e' (List.mem_cons_of_mem _ he')
        exact (ag.2 e'.1 k y1 hk y2 u.1).mp y
    by_cases c : w k = 1 ∧ sm e.1 k ∧ ∀ e', e' ∈ r → ¬ sm e'.1 k
    · rw [cvs, if_pos c, cvs, if_pos (hc.mp c)]
      by_cases y1 : e.2.1 = 1
      · rw [if_pos y1, if_pos y1]
      rw [if_neg y1, if_neg y1]
      by_cases y3 : e.2.1 = 3
      · rw [if_pos y3, if_pos y3]
      rw [if_neg y3, if_neg y3]
      obtain ⟨z1, z2⟩ := e3 y1 y3
      rw [nxq_ag (fun j hj => (ag.1 j hj).1) N e.1 _ rfl z2]
      exact rl_v ag z1 (Nat.le_of_lt z2) (fun k hk => ih k hk)
    · rw [cvs, if_neg c, cvs, if_neg (fun u => c (hc.mpr u))]
      exact ih k hk
theorem cvr_cg (ag : AgW w w' pl pl' nq nq' sm sm' N) (nf : NmF w N nms) : ∀ k, k < N → cvs w pl nq sm N sf nms.reverse k = cvs w' pl' nq' sm' N sf nms.reverse k := cvs_cg ag _ (fun e he => nf e (List.mem_reverse.mp he))
theorem evq_cg (ag : AgW w w' pl pl' nq nq' sm sm' N) (nf : NmF w N nms) (eo : Eo w 6 i j) (hj : j ≤ N) : evq w pl nq sm N nms sg i j = evq w' pl' nq' sm' N nms sg i j := rl_v ag eo hj (cvr_cg ag nf)
theorem stq_ag (ag : AgW w w' pl pl' nq nq' sm sm' N) (hc : ∀ k, k < N → cv k = cv' k) : ∀ (l : List (Nat × Nat × Nat × Nat)), (∀ q, q ∈ l → (Eo w 6 q.2.1 q.2.2.1 ∧ q.2.2.1 ≤ N ∧ q.2.2.2 < N) ∧ lo q.1 = lo' q.1 ∧ hi q.1 = hi' q.1) → ∀ nx, stq9 w cv pl lo hi l nx = stq9 w' cv' pl' lo' hi' l nx
  | [], _ => fun _ => rfl
  | q :: r, h => fun nx => by
    obtain ⟨⟨a1, a2, a3⟩, a4, a5⟩ := h q List.mem_cons_self
    have ih := stq_ag ag hc r (fun x hx => h x (List.mem_cons_of_mem _ hx))
    rw [stq9, stq9, rl_v ag a1 a2 hc, a4, a5, (ag.1 q.2.2.2 a3).2.1, ih]
/-- other bounds, the same where sets look at them -/
theorem stq_lo : ∀ (l : List (Nat × Nat × Nat × Nat)), (∀ q, q ∈ l → lo q.1 = lo' q.1 ∧ hi q.1 = hi' q.1) → ∀ nx, stq9 w cv pl lo hi l nx = stq9 w cv pl lo' hi' l nx
  | [], _ => fun _ => rfl
  | q :: r, h => fun nx => by
    obtain ⟨a4, a5⟩ := h q List.mem_cons_self
    have ih := stq_lo r (fun x hx => h x (List.mem_cons_of_mem _ hx))
    rw [stq9, stq9, a4, a5, ih]
theorem stpq_lo {l : List (Nat × Nat × Nat × Nat)} (h : ∀ q, q ∈ l → lo q.1 = lo' q.1 ∧ hi q.1 = hi' q.1) : stpq w pl nq sm N nms V lo hi sg l = stpq w pl nq sm N nms V lo' hi' sg l := by
  unfold stpq
  rw [stq_lo l h]
theorem stpq_cg (ag : AgW w w' pl pl' nq nq' sm sm' N) (nf : NmF w N nms) {l : List (Nat × Nat × Nat × Nat)} (h : ∀ q, q ∈ l → Eo w 6 q.2.1 q.2.2.1 ∧ q.2.2.1 ≤ N ∧ q.2.2.2 < N) : stpq w pl nq sm N nms V lo hi sg l = stpq w' pl' nq' sm' N nms V lo hi sg l := by
  unfold stpq
  rw [stq_ag ag (cvr_cg ag nf) l (fun q hq => ⟨h q hq, rfl, rfl⟩)]
/-- the game's words stand among the words -/
def GmO (w : Nat → Int) (N : Nat) (g : gm9) : Prop := (∀ tg, g.2.1 = some tg → Eo w 6 tg.1 tg.2 ∧ tg.2 < N) ∧ ∀ cm, cm ∈ g.2.2 → (Eo w 6 cm.2.2.1.1 cm.2.2.1.2 ∧ cm.2.2.1.2 < N) ∧ ∀ b, b ∈ cm.2.2.2 → (Eo w 6 b.2.1.1 b.2.1.2 ∧ b.2.1.2 < N) ∧ ∀ q, q ∈ b.2.2 → Eo w 6 q.2.1 q.2.2.1 ∧ q.2.2.1 ≤ N ∧ q.2.2.2 < N
theorem xpg_cg {g : gm9} (ag : AgW w w' pl pl' nq nq' sm sm' N) (nf : NmF w N nms) (go : GmO w N g) (hg : g.2.1 ≠ none) : XpG (w, pl, nq, sm, N, nms, g) = XpG (w', pl', nq', sm', N, nms, g) := by
  unfold XpG
  refine xpl_cg (fun sg => ?_) (fun cm hc => ⟨fun sg => ?_, fun b hb => ⟨fun sg => ?_, fun sg => ?_⟩⟩)
  · show evq w pl nq sm N nms sg (g.2.1.getD (0, 0)).1 (g.2.1.getD (0, 0)).2 = evq w' pl' nq' sm' N nms sg (g.2.1.getD (0, 0)).1 (g.2.1.getD (0, 0)).2
    cases e : g.2.1 with
    | none => exact absurd e hg
    | some tg =>
      obtain ⟨a, b⟩ := go.1 tg e
      exact evq_cg ag nf a (Nat.le_of_lt b)
  · obtain ⟨⟨a, b⟩, -⟩ := go.2 cm hc
    exact evq_cg ag nf a (Nat.le_of_lt b)
  · obtain ⟨⟨a, b'⟩, -⟩ := (go.2 cm hc).2 b hb
    exact evq_cg ag nf a (Nat.le_of_lt b')
  · exact stpq_cg ag nf ((go.2 cm hc).2 b hb).2
end XCB
end
section
/-! The game that a text tells hangs on its own words alone: pure. -/
theorem tw_cg {α : Type} {p q : α → Bool} : ∀ (l : List α), (∀ x, x ∈ l → p x = q x) → l.takeWhile p = l.takeWhile q
  | [], _ => rfl
  | a :: t, h => by
    rw [List.takeWhile_cons, List.takeWhile_cons, h a List.mem_cons_self, tw_cg t (fun x hx => h x (List.mem_cons_of_mem _ hx))]
section XCC
variable {w w' pl pl' nq nq' : Nat → Int} {sm sm' : Nat → Nat → Prop} {N i j k e q : Nat} {nms : List nm9} {s : st9} {g : gm9}
theorem vix_cg (ag : AgW w w' pl pl' nq nq' sm sm' N) (nm : NmW w N nms) (hk : k < N) (h1 : w k = 1) : vix9 sm nms k = vix9 sm' nms k := by
  unfold vix9
  refine congrArg vcn (tw_cg nms (fun e he => ?_))
  have eq : sm e.1 k = sm' e.1 k := propext (ag.2 e.1 k (nm e he).1 hk (nm e he).2 h1)
  show (!@decide (sm e.1 k) (Classical.propDecidable _)) = (!@decide (sm' e.1 k) (Classical.propDecidable _))
  rw [eq]
theorem sel_cg (ag : AgW w w' pl pl' nq nq' sm sm' N) (nm : NmW w N nms) : ∀ (f0 k q : Nat), Se w f0 k q → q < N → ∀ (f : Nat), sel9 w sm N nms f k = sel9 w' sm' N nms f k ∧ ∀ x, x ∈ sel9 w sm N nms f k → Eo w 6 x.2.1 x.2.2.1 ∧ x.2.2.1 ≤ N ∧ x.2.2.2 < N := by
  intro f0
  induction f0 with
  | zero => intro k q h; exact h.elim
  | succ f0 ih =>
    intro k q h hq f
    have sg := h.sg.1
    obtain ⟨h0, h1, h2, h3, c, eo, h5, h6⟩ := h
    have lt := eo.pr.1
    have cq : c + 1 ≤ q := by
      rcases h6 with ⟨y, -⟩ | ⟨-, y⟩
      · omega
      · have := y.sg.1
        omega
    cases f with
    | zero => exact ⟨rfl, fun x hx => absurd hx (by simp [sel9])⟩
    | succ f =>
      have c1 : cpq w (k + 4) N = c := cpq_at eo h5 (by omega)
      have c2 : cpq w' (k + 4) N = c := cpq_at (ag.eo eo (by omega)) (by rw [← (ag.1 c (by omega)).1]; exact h5) (by omega)
      have vx := vix_cg (k := k + 1) ag nm (by omega) h1
      rw [sel9, sel9, c1, c2, vx, ← (ag.1 (c + 1) (by omega)).1]
      by_cases w29 : w (c + 1) = 29
      · rw [if_pos w29, if_pos w29]
        have y := (h6.resolve_left (fun u => u.2 w29)).2
        obtain ⟨i1, i2⟩ := ih (c + 2) q y hq f
        refine ⟨by rw [i1], fun x hx => ?_⟩
        rcases List.mem_cons.mp hx with u | u
        · rw [u]
          exact ⟨eo, by show c ≤ N; omega, by show k < N; omega⟩
        · exact i2 x u
      · rw [if_neg w29, if_neg w29]
        refine ⟨rfl, fun x hx => ?_⟩
        rw [List.mem_singleton.mp hx]
        exact ⟨eo, by show c ≤ N; omega, by show k < N; omega⟩
theorem brs_cg (ag : AgW w w' pl pl' nq nq' sm sm' N) (nm : NmW w N nms) (he : e < N) : ∀ (f0 p : Nat), Br w f0 p e → 1 ≤ p → ∀ (f b : Nat), (brf w pl sm N nms e f p b).1 = 0 → brs9 w pl sm N nms e f p = brs9 w' pl' sm' N nms e f p ∧ ∀ x, x ∈ brs9 w pl sm N nms e f p → (Eo w 6 x.2.1.1 x.2.1.2 ∧ x.2.1.2 < N) ∧ ∀ q, q ∈ x.2.2 → Eo w 6 q.2.1 q.2.2.1 ∧ q.2.2.1 ≤ N ∧ q.2.2.2 < N := by
  intro f0
  induction f0 with
  | zero => intro p h; exact h.elim
  | succ f0 ih =>
    intro p h hp f b h0
    have sg := h.sg.1
    obtain ⟨q, s, eo5, w33, ss, h4⟩ := h
    have eo := eo5.one (show 5 ≤ 6 by omega)
    have lt := eo.pr.1
    have sgs := ss.sg.1
    have se : s ≤ e := by
      rcases h4 with ⟨y, -⟩ | ⟨-, y⟩
      · omega
      · have := y.sg.1
        omega
    cases f with
    | zero => exact ⟨rfl, fun x hx => absurd hx (by simp [brs9])⟩
    | succ f =>
      have c1 : clq w (p - 1) N = q := clq_eo (by rw [show p - 1 + 1 = p by omega]; exact eo) w33 (by omega)
      have c2 : clq w' (p - 1) N = q := clq_eo (by rw [show p - 1 + 1 = p by omega]; exact ag.eo eo (by omega)) (by rw [← (ag.1 q (by omega)).1]; exact w33) (by omega)
      have nl : ¬ e ≤ p := by omega
      have nxt : ∀ b, (brf w pl sm N nms e f (s + 1) b).1 = 0 → brs9 w pl sm N nms e f (s + 1) = brs9 w' pl' sm' N nms e f (s + 1) ∧ ∀ x, x ∈ brs9 w pl sm N nms e f (s + 1) → (Eo w 6 x.2.1.1 x.2.1.2 ∧ x.2.1.2 < N) ∧ ∀ q, q ∈ x.2.2 → Eo w 6 q.2.1 q.2.2.1 ∧ q.2.2.1 ≤ N ∧ q.2.2.2 < N := fun b hb => by
        rcases h4 with ⟨y, -⟩ | ⟨-, y⟩
        · rw [brs_e (by omega), brs_e (by omega)]
          exact ⟨rfl, fun x hx => absurd hx (by simp)⟩
        · exact ih (s + 1) y (by omega) f b hb
      rw [brf, if_neg nl] at h0
      by_cases b8 : b = 8
      · rw [if_pos b8] at h0
        exact absurd h0 (by simp)
      rw [if_neg b8, c1] at h0
      by_cases r0 : (rf9 w pl sm nms 0 0 p q).1 ≠ 0
      · rw [if_pos r0] at h0
        exact absurd h0 r0
      rw [if_neg r0] at h0
      rw [brs9, if_neg nl, brs9, if_neg nl, c1, c2, ← (ag.1 (q + 1) (by omega)).1, ← (ag.1 p (by omega)).2.1]
      rcases ss with ⟨w10, es⟩ | ⟨w10, f1, hse⟩
      · rw [if_pos w10] at h0
        rw [if_pos w10, if_pos w10]
        have e3 : q + 3 = s + 1 := by omega
        rw [e3] at h0 ⊢
        obtain ⟨n1, n2⟩ := nxt (b + 1) h0
        refine ⟨by rw [n1], fun x hx => ?_⟩
        rcases List.mem_cons.mp hx with u | u
        · rw [u]
          exact ⟨⟨eo, by show q < N; omega⟩, fun y hy => absurd hy (by simp)⟩
        · exact n2 x u
      · rw [if_neg w10] at h0
        rw [if_neg w10, if_neg w10]
        have s1 := sef_cg ag nm f1 (q + 1) s hse (by omega) N []
        by_cases z : (sef w pl sm N nms N (q + 1) []).1.1 ≠ 0
        · rw [if_pos z] at h0
          exact absurd h0 z
        rw [if_neg z] at h0
        have s2 := sef_at (pl := pl) (sm := sm) (nms := nms) f1 (q + 1) s hse (by omega) N [] (by omega) (Decidable.not_not.mp z)
        rw [s2] at h0
        rw [← s1, s2]
        obtain ⟨n1, n2⟩ := nxt (b + 1) h0
        obtain ⟨l1, l2⟩ := sel_cg ag nm f1 (q + 1) s hse (by omega) N
        refine ⟨by rw [n1, l1], fun x hx => ?_⟩
        rcases List.mem_cons.mp hx with u | u
        · rw [u]
          exact ⟨⟨eo, by show q < N; omega⟩, l2⟩
        · exact n2 x u
theorem var_cg (ag : AgW w w' pl pl' nq nq' sm sm' N) (nm : NmW w N nms) (he : e < N) (vs : Vs w (k + 3) i) (hi : (w i ≠ 9 ∧ i = e) ∨ (w i = 9 ∧ Eo w 6 (i + 1) e)) : var9 w pl nq sm N nms k e = var9 w' pl' nq' sm' N nms k e := by
  have ie : i ≤ e := by
    rcases hi with ⟨-, y⟩ | ⟨-, y⟩
    · omega
    · have := y.pr.1
      omega
  have ki := vs.sg.1
  have wk := (ag.1 (k + 3) (by omega)).1
  have wi := (ag.1 i (by omega)).1
  have ini : (if w (k + 3) = 5 then k + 4 else nxq w 9 (e - (k + 3)) (k + 3)) = i ∧ (if w' (k + 3) = 5 then k + 4 else nxq w' 9 (e - (k + 3)) (k + 3)) = i := by
    rcases vs with ⟨w5, ei⟩ | ⟨w5, j, eo0, w16, eo1⟩
    · rw [if_pos w5, if_pos (by rw [← wk]; exact w5)]
      omega
    · have a0 := eo0.pr.1
      have a1 := eo1.pr.1
      have no9 : ∀ t, k + 3 ≤ t → t < i → w t ≠ 9 := fun t t1 t2 => by
        by_cases c1 : t < j
        · exact eo0.no9 (Or.inl rfl) t1 c1
        · by_cases c2 : t = j
          · rw [c2, w16]; decide
          · exact eo1.no9 (Or.inl rfl) (by omega) t2
      have no9' : ∀ t, k + 3 ≤ t → t < i → w' t ≠ 9 := fun t t1 t2 => by
        rw [← (ag.1 t (by omega)).1]
        exact no9 t t1 t2
      rw [if_neg w5, if_neg (by rw [← wk]; exact w5)]
      rcases hi with ⟨-, ei⟩ | ⟨w9, eo2⟩
      · rw [nxq_no (fun t t1 t2 => no9 t t1 (by omega)), nxq_no (fun t t1 t2 => no9' t t1 (by omega))]
        omega
      · have := eo2.pr.1
        exact ag.nx (by omega) (by omega) (by omega) w9 no9
  have r2 : w i = 9 → vlq w (cv9 w nq sm nms) pl 0 0 (i + 1) e = vlq w' (cv9 w' nq' sm' nms) pl' 0 0 (i + 1) e := fun w9 => by
    have eo := (hi.resolve_left (fun u => u.1 w9)).2
    exact vq_cg ag nm eo (by omega)
  have r01 : w (k + 3) ≠ 5 → ∃ j, (nxq w 16 N (k + 3) = j ∧ nxq w' 16 N (k + 3) = j) ∧ vlq w (cv9 w nq sm nms) pl 0 0 (k + 3) j = vlq w' (cv9 w' nq' sm' nms) pl' 0 0 (k + 3) j ∧ vlq w (cv9 w nq sm nms) pl 0 0 (j + 1) i = vlq w' (cv9 w' nq' sm' nms) pl' 0 0 (j + 1) i := fun w5 => by
    obtain ⟨-, j, eo0, w16, eo1⟩ := vs.resolve_left (fun u => w5 u.1)
    have a0 := eo0.pr.1
    have a1 := eo1.pr.1
    exact ⟨j, ag.nx (by omega) (by omega) (by omega) w16 (fun t t1 t2 => eo0.no9 (Or.inr (Or.inl rfl)) t1 t2), vq_cg ag nm eo0 (by omega), vq_cg ag nm eo1 (by omega)⟩
  unfold var9
  simp only []
  rw [ini.1, ini.2, ← wk, ← wi]
  by_cases w5 : w (k + 3) = 5
  · simp only [if_pos w5]
    by_cases w9 : w i = 9
    · simp only [if_pos w9]
      rw [r2 w9]
    · simp only [if_neg w9]
  · obtain ⟨j, ⟨j1, j2⟩, j3, j4⟩ := r01 w5
    simp only [if_neg w5]
    rw [j1, j2, j3, j4]
    by_cases w9 : w i = 9
    · simp only [if_pos w9]
      rw [r2 w9]
    · simp only [if_neg w9]
theorem ite_cg (ag : AgW w w' pl pl' nq nq' sm sm' N) (nm : NmW w N s.1) (hit : It w k e) (eN : e < N) (n1 : nxq w 34 N k = e) (n2 : nxq w' 34 N k = e) : ite9 w pl nq sm N 60 k s = ite9 w' pl' nq' sm' N 60 k s := by
  have kN : k < N := by
    have := hit.2.1
    omega
  have wk := (ag.1 k kN).1
  unfold ite9
  simp only [n1, n2]
  rw [← wk]
  rcases hit.2.2 with ⟨h0, h1, h2, eo⟩ | ⟨h0, h1, h2, i, vs, hi⟩ | ⟨h0, j, f1, eo, w17, br⟩ | ⟨h0, eo⟩
  · rw [if_pos h0, if_pos h0, itr_cg ag nm (by omega) h1 eo]
  · rw [if_neg (show ¬ (w k = 3 ∨ w k = 6) by omega), if_neg (show ¬ (w k = 3 ∨ w k = 6) by omega), if_pos h0, if_pos h0, itv_cg ag nm (by omega) h1 vs hi]
  · rw [if_neg (show ¬ (w k = 3 ∨ w k = 6) by omega), if_neg (show ¬ (w k = 3 ∨ w k = 6) by omega), if_neg (show ¬ (w k = 4) by omega), if_neg (show ¬ (w k = 4) by omega), if_neg (show ¬ (w k = 11) by omega), if_neg (show ¬ (w k = 11) by omega), itc_cg ag nm (by omega) eo w17 br]
  · rw [if_neg (show ¬ (w k = 3 ∨ w k = 6) by omega), if_neg (show ¬ (w k = 3 ∨ w k = 6) by omega), if_neg (show ¬ (w k = 4) by omega), if_neg (show ¬ (w k = 4) by omega), if_pos h0, if_pos h0, itt_cg ag nm (by omega) eo]
theorem itc_0 (h : (itc w pl sm N 60 k e s).2.2.1 = 0) (hj : nxq w 17 N (k + 1) = j) : (brf w pl sm N s.1 e N (j + 1) 0).1 = 0 := by
  unfold itc at h
  simp only [hj] at h
  by_cases c1 : s.2.1.2.2.1 = 60
  · rw [if_pos c1] at h
    exact absurd h (by simp)
  rw [if_neg c1] at h
  by_cases c2 : (fst9 (rf9 w pl sm s.1 0 1 (k + 1) j) (brf w pl sm N s.1 e N (j + 1) 0)).1 ≠ 0
  · rw [if_pos c2] at h
    exact absurd h c2
  exact (fst9_1.mp (Decidable.not_not.mp c2)).2
theorem igm_cg (ag : AgW w w' pl pl' nq nq' sm sm' N) (nm : NmW w N s.1) (hit : It w k e) (eN : e < N) (n1 : nxq w 34 N k = e) (n2 : nxq w' 34 N k = e) (z : (ite9 w pl nq sm N 60 k s).2.2.1 = 0) (go : GmO w N g) : igm9 w pl nq sm N s.1 k g = igm9 w' pl' nq' sm' N s.1 k g ∧ GmO w N (igm9 w pl nq sm N s.1 k g) := by
  have kN : k < N := by
    have := hit.2.1
    omega
  have wk := (ag.1 k kN).1
  unfold ite9 at z
  simp only [n1] at z
  unfold igm9
  rw [← wk, n1, n2]
  rcases hit.2.2 with ⟨h0, h1, h2, eo⟩ | ⟨h0, h1, h2, i, vs, hi⟩ | ⟨h0, j, f1, eo, w17, br⟩ | ⟨h0, eo⟩
  · rw [if_pos h0, if_pos h0]
    exact ⟨rfl, go⟩
  · rw [if_neg (show ¬ (w k = 3 ∨ w k = 6) by omega), if_neg (show ¬ (w k = 3 ∨ w k = 6) by omega), if_pos h0, if_pos h0, var_cg ag nm eN vs hi]
    exact ⟨rfl, go.1, go.2⟩
  · have h36 : ¬ (w k = 3 ∨ w k = 6) := by omega
    have h4 : ¬ w k = 4 := by omega
    have h11 : ¬ w k = 11 := by omega
    rw [if_neg h36, if_neg h4, if_neg h11] at z
    rw [if_neg h36, if_neg h36, if_neg h4, if_neg h4, if_neg h11, if_neg h11]
    have lt := eo.pr.1
    have je := br.sg.1
    obtain ⟨a1, a2⟩ := ag.nx (x := 17) (f := N) (k := k + 1) (e := j) (by omega) (by omega) (by omega) w17 (fun t t1 t2 => eo.no9 (Or.inr (Or.inr rfl)) t1 t2)
    obtain ⟨b1, b2⟩ := brs_cg ag nm eN f1 (j + 1) br (by omega) N 0 (itc_0 z a1)
    have ec : cmd9 w pl sm N s.1 k e = cmd9 w' pl' sm' N s.1 k e := by
      unfold cmd9
      rw [a1, a2, b1, ← wk, (ag.1 k kN).2.1]
    refine ⟨by rw [ec], go.1, fun cm hc => ?_⟩
    rcases List.mem_append.mp hc with u | u
    · exact go.2 cm u
    · rw [List.mem_singleton.mp u]
      unfold cmd9
      rw [a1]
      exact ⟨⟨eo, by show j < N; omega⟩, b2⟩
  · have h36 : ¬ (w k = 3 ∨ w k = 6) := by omega
    have h4 : ¬ w k = 4 := by omega
    rw [if_neg h36, if_neg h36, if_neg h4, if_neg h4, if_pos h0, if_pos h0]
    refine ⟨rfl, fun tg ht => ?_, go.2⟩
    have : (k + 1, e) = tg := Option.some.inj ht
    rw [← this]
    exact ⟨eo, eN⟩
theorem igs_cg (ag : AgW w w' pl pl' nq nq' sm sm' N) : ∀ (f f' k : Nat) (s : st9) (g : gm9), Ac w N f [50] k → NmW w N s.1 → GmO w N g → igs9 w pl nq sm N 60 f' k s g = igs9 w' pl' nq' sm' N 60 f' k s g ∧ GmO w N (igs9 w pl nq sm N 60 f' k s g) := by
  intro f
  induction f using Nat.strongRecOn with
  | ind f ih =>
    intro f' k s g hac nm go
    cases f' with
    | zero => exact ⟨rfl, go⟩
    | succ f' =>
      rw [igs9, igs9]
      by_cases f0 : s.2.2.1 = 0
      · rw [if_neg (show ¬ s.2.2.1 ≠ 0 from fun u => u f0), if_neg (show ¬ s.2.2.1 ≠ 0 from fun u => u f0)]
        rcases ac_item hac with ⟨c0, c1⟩ | ⟨c0, e, g', hg, hit, hac'⟩
        · rw [if_pos c0, if_pos (show w' k = 0 by rw [← (ag.1 k (by omega)).1]; exact c0)]
          exact ⟨rfl, go⟩
        · have eN := ac_le hac'
          have sg := hit.sg
          have kN : k < N := by
            have := hit.2.1
            omega
          obtain ⟨n1, n2⟩ := ag.nx (x := 34) (f := N) (k := k) (e := e) sg.1 (by omega) (by omega) hit.1 sg.2.2.2
          have wk := (ag.1 k kN).1
          have es := ite_cg ag nm hit (by omega) n1 n2
          have nm' : NmW w N (ite9 w pl nq sm N 60 k s).1 := ite_nm nm (by have := hit.2.1; omega) (fun u => by
            rcases hit.2.2 with ⟨h0, h1, -⟩ | ⟨h0, h1, -⟩ | ⟨h0, -⟩ | ⟨h0, -⟩
            · exact h1
            · exact h1
            · omega
            · omega)
          rw [if_neg c0, if_neg (show ¬ w' k = 0 by rw [← wk]; exact c0), n1, n2, ← es]
          by_cases z : (ite9 w pl nq sm N 60 k s).2.2.1 ≠ 0
          · rw [if_pos z, if_pos z]
            exact ih g' hg f' (e + 1) _ g hac' nm' go
          · obtain ⟨m1, m2⟩ := igm_cg (g := g) ag nm hit (by omega) n1 n2 (Decidable.not_not.mp z) go
            rw [if_neg z, if_neg z, ← m1]
            exact ih g' hg f' (e + 1) _ _ hac' nm' m2
      · rw [if_pos f0, if_pos f0]
        exact ⟨rfl, go⟩
theorem NmF.add (h : NmF w N nms) {y : nm9} (h1 : y.1 < N ∧ w y.1 = 1) (h2 : y.2.1 ≠ 1 → y.2.1 ≠ 3 → Eo w 6 (y.1 + 2) (nxq w 34 N y.1) ∧ nxq w 34 N y.1 < N) : NmF w N (nms ++ [y]) := fun e he => by
  rcases List.mem_append.mp he with u | u
  · exact h e u
  · rw [List.mem_singleton.mp u]
    exact ⟨h1, h2⟩
theorem ite_nmf (nf : NmF w N s.1) (it : It w k e) (nx : nxq w 34 N k = e) (he : e < N) : NmF w N (ite9 w pl nq sm N 60 k s).1 := by
  have lt := it.2.1
  have nx1 : nxq w 34 N (k + 1) = e := nxq_at (by omega) (by omega) it.1 (fun m m1 m2 => it.sg.2.2.2 m (by omega) m2)
  unfold ite9
  simp only [nx]
  rcases it.2.2 with ⟨h0, h1, h2, eo⟩ | ⟨h0, h1, h2, i, vs, hi⟩ | ⟨h0, j, f1, eo, w17, br⟩ | ⟨h0, eo⟩
  · have ad : ∀ y : Nat × Int × vrs, NmF w N (s.1 ++ [(k + 1, y)]) := fun y => nf.add ⟨by show k + 1 < N; omega, h1⟩ (fun _ _ => by
      show Eo w 6 (k + 1 + 2) (nxq w 34 N (k + 1)) ∧ nxq w 34 N (k + 1) < N
      rw [nx1]
      exact ⟨eo, he⟩)
    rw [if_pos h0]
    unfold itr
    simp only []
    repeat' split
    all_goals first | exact nf | exact ad _
  · have ad : ∀ y : Int × vrs, NmF w N (s.1 ++ [(k + 1, 3, y)]) := fun y => nf.add ⟨by show k + 1 < N; omega, h1⟩ (fun _ u => absurd rfl u)
    rw [if_neg (show ¬ (w k = 3 ∨ w k = 6) by omega), if_pos h0]
    unfold itv
    simp only []
    repeat' split
    all_goals first | exact nf | exact ad _
  · rw [if_neg (show ¬ (w k = 3 ∨ w k = 6) by omega), if_neg (show ¬ (w k = 4) by omega), if_neg (show ¬ (w k = 11) by omega)]
    unfold itc
    simp only []
    repeat' split
    all_goals exact nf
  · rw [if_neg (show ¬ (w k = 3 ∨ w k = 6) by omega), if_neg (show ¬ (w k = 4) by omega), if_pos h0]
    unfold itt
    simp only []
    repeat' split
    all_goals exact nf
theorem its_nmf : ∀ (f f' k : Nat) (s : st9), Ac w N f [50] k → NmF w N s.1 → NmF w N (its9 w pl nq sm N 60 f' k s).1 := by
  intro f
  induction f using Nat.strongRecOn with
  | ind f ih =>
    intro f' k s hac nf
    cases f' with
    | zero => exact nf
    | succ f' =>
      rw [its9]
      by_cases f0 : s.2.2.1 = 0
      · rw [if_neg (show ¬ s.2.2.1 ≠ 0 from fun u => u f0)]
        rcases ac_item hac with ⟨c0, c1⟩ | ⟨c0, e, g, hg, hit, hac'⟩
        · rw [if_pos c0]
          split
          · exact nf
          · exact nf
        · have eN := ac_le hac'
          have lt := hit.2.1
          have nx : nxq w 34 N k = e := nxq_at (by omega) (by omega) hit.1 (fun m m1 m2 => hit.sg.2.2.2 m m1 m2)
          rw [if_neg c0, nx]
          exact ih g hg f' (e + 1) _ hac' (ite_nmf nf hit nx (by omega))
      · rw [if_pos f0]
        exact nf
/-- two readings of the same words: exploring comes to the same -/
theorem xpg_same {f : Nat} (ag : AgW w w' pl pl' nq nq' sm sm' N) (hac : Ac w N f [50] 0) (hg : (igs9 w pl nq sm N 60 N 0 ([], (0, 0, 0, 0), (0, 0)) ([], none, [])).2.1 ≠ none) : XpG (w, pl, nq, sm, N, (its9 w pl nq sm N 60 N 0 ([], (0, 0, 0, 0), (0, 0))).1, igs9 w pl nq sm N 60 N 0 ([], (0, 0, 0, 0), (0, 0)) ([], none, [])) = XpG (w', pl', nq', sm', N, (its9 w pl nq sm N 60 N 0 ([], (0, 0, 0, 0), (0, 0))).1, igs9 w' pl' nq' sm' N 60 N 0 ([], (0, 0, 0, 0), (0, 0)) ([], none, [])) := by
  have nf := its_nmf (pl := pl) (nq := nq) (sm := sm) f N 0 ([], (0, 0, 0, 0), (0, 0)) hac (fun e he => absurd he (by simp))
  obtain ⟨g1, g2⟩ := igs_cg ag f N 0 ([], (0, 0, 0, 0), (0, 0)) ([], none, []) hac (fun e he => absurd he (by simp)) ⟨fun tg h => absurd h (by simp), fun cm h => absurd h (by simp)⟩
  rw [← g1]
  exact xpg_cg ag nf g2 hg
end XCC
end
