section
section
variable {G : mG} {d a : Nat} {M : mM} {N : Nat}
theorem x_MM_readText (hO : mOk M) (h : Wd M a) (hw : wrds M a N) : Ci G y_MM_readText (d + 4) [vr a] M (fun v M' => rdQ M a N v M' ∧ rdV M a N v M') := by
  obtain ⟨n1, n2, n3, n4, n5⟩ := hw
  have i5 : a + 5 ∈ nums a := nums_o (by decide)
  refine k_MM_readText hO ?_
  rw [h.1.2.2.1.2.2.2]
  refine ⟨h.1.1, (h.nu q11).1, fun M1 e1 M2 e2 M3 e3 => ?_⟩
  obtain ⟨m1, l1, -⟩ := mv_set hO h q11 (v := 0) (by omega) (h.nu q11).2.2.2.1.1 e1
  have w1 := m1.2.1
  have f1 := (m1.fld h (fun q hq => by rw [hq]; exact q11) (fun hq => hq)).1
  have r1 : rdI M a M1 := ⟨m1.mono (fun q hq => hq) (fun x hx => hx.elim) (fun q hq => by rw [hq]; exact h.lt q11), fun j _ _ => by rw [f1]⟩
  obtain ⟨r2, f2, s2⟩ := r1.fld (i32s (by omega) (by omega)) (Or.inl rfl) e2
  obtain ⟨r3, f3, s3⟩ := r2.fld (i32s (by omega) (by omega)) (Or.inr rfl) e3
  have w3 := r3.1.2.1
  have l3 : ln M3 (a + 11) = 0 := by rw [(s3 _ q11).1, (s2 _ q11).1]; exact l1
  rw [w3.1.2.2.1.2.2.2]
  refine ⟨(w3.nu q11).1, (s_MN_add (i32s (by omega) (by omega)) r3.1.1 (w3.nu q11) (by omega)).mono (fun M4 t4 => ?_)⟩
  have m4 := mv_add w3 q11 t4
  have f4 := (m4.fld w3 (fun q hq => by rw [hq]; exact q11) (fun hq => hq)).1
  have r4 : rdI M a M4 := ⟨r3.1.trans (m4.mono (fun q hq => hq) (fun x hx => hx.elim) (fun q hq => by rw [hq]; exact w3.lt q11)), fun j j7 j8 => by rw [f4]; exact r3.2 j j7 j8⟩
  have st4 : St M4 (a + 11) [50] := St.add (st := []) ⟨l3, fun i hi => by simp at hi⟩ t4
  refine ⟨m4.1, ?_⟩
  -- a wrong word ends it
  have hbad : ∀ (M5 : mM) (k : Nat), rdI M a M5 → 0 ≤ mI M5 a 8 → mI M5 a 8 < N → k ≤ 20000 → (∃ q : Nat, mI M5 a 8 = q ∧ ∀ W : Nat → Int, (∀ j, j < N → W j = nt M (a + 5) j) → Rf W [50] 0 q) → h_MM_readText_29 G (d + 3) a k M5 (fun v M' => rdQ M a N v M' ∧ rdV M a N v M') := fun M5 k r5 b0 b1 hk hq => by
    refine k_MM_readText_29 r5.1.1 (i32s (by omega) (by omega)) ⟨r5.1.2.1.1.1, fun q => absurd b0 q, fun _ v hv => ?_, fun q => absurd (Or.inl b0) q⟩
    rw [if_pos b0] at hv
    exact ⟨⟨r5, Or.inl ⟨hv, b0, b1⟩⟩, Or.inl ⟨hv, hq⟩⟩
  suffices H : ∀ (μ k : Nat) (st : List Int) (M5 : mM), (N - k) * 40 + swt st ≤ μ → rdI M a M5 → mI M5 a 8 = -1 → St M5 (a + 11) st → gdS st → mI M5 a 7 = (c75 st : Int) - c76 st → mI M5 a 7 ≤ 40 → ((st = [] ∧ k = N ∧ nt M (a + 5) (N - 1) = 0) ∨ (k < N ∧ ∃ s, st = s ++ [50] ∧ 50 ∉ s)) → (∀ f, Ac (nt M (a + 5)) N f st k → ∃ f', Ac (nt M (a + 5)) N f' [50] 0) → (∀ W : Nat → Int, (∀ j, j < N → W j = nt M (a + 5) j) → Rc W [50] 0 st k) → h_MM_readText_29 G (d + 3) a k M5 (fun v M' => rdQ M a N v M' ∧ rdV M a N v M') by
    refine H _ 0 [50] M4 (Nat.le_refl _) r4 (by rw [f4, f3, if_pos rfl]) st4 ⟨⟨by decide, trivial⟩, fun x hx => by rw [List.mem_singleton.1 hx]; decide, by decide⟩ (by rw [f4, f3, if_neg (by omega), f2, if_pos rfl]; rfl) (by rw [f4, f3, if_neg (by omega), f2, if_pos rfl]; omega) (Or.inr ⟨by omega, [], rfl, by simp⟩) (fun f hf => ⟨f, hf⟩) (fun _ _ => Rc.refl)
  intro μ
  induction μ with
  | zero =>
    intro k st M5 hμ r5 b5 s5 g5 l5 l4 bt ac rc
    rcases bt with ⟨e1, e2, e3⟩ | ⟨e1, -⟩
    · subst e1
      refine k_MM_readText_29 r5.1.1 (i32s (by omega) (by omega)) ?_
      have w5 := r5.1.2.1
      rw [w5.1.2.2.1.2.2.2]
      refine ⟨w5.1.1, fun _ => (w5.nu q11).1, fun _ v hv => ?_, fun q => absurd (Or.inr (by have := s5.1; exact Int.le_of_eq this)) q⟩
      rw [if_neg (by omega)] at hv
      exact ⟨⟨r5, Or.inr ⟨hv, e3, ac 0 ⟨rfl, e2⟩⟩⟩, Or.inr ⟨hv, fun W hW => by have := rc W hW; rw [e2] at this; exact this⟩⟩
    · omega
  | succ μ ih =>
    intro k st M5 hμ r5 b5 s5 g5 l5 l4 bt ac rc
    have w5 := r5.1.2.1
    have o5 := r5.1.1
    cases st with
    | nil =>
      rcases bt with ⟨-, e2, e3⟩ | ⟨-, s, e2, -⟩
      · refine k_MM_readText_29 o5 (i32s (by omega) (by omega)) ?_
        rw [w5.1.2.2.1.2.2.2]
        refine ⟨w5.1.1, fun _ => (w5.nu q11).1, fun _ v hv => ?_, fun q => absurd (Or.inr (by have := s5.1; exact Int.le_of_eq this)) q⟩
        rw [if_neg (by omega)] at hv
        exact ⟨⟨r5, Or.inr ⟨hv, e3, ac 0 ⟨rfl, e2⟩⟩⟩, Or.inr ⟨hv, fun W hW => by have := rc W hW; rw [e2] at this; exact this⟩⟩
      · exact absurd e2 (by simp)
    | cons x r =>
      obtain ⟨hkN, s, hs1, hs2⟩ : k < N ∧ ∃ s, x :: r = s ++ [50] ∧ 50 ∉ s := by
        rcases bt with ⟨e1, -, -⟩ | w
        · exact absurd e1 (by simp)
        · exact w
      have hlen := g5.len l5 l4
      have hxs := g5.2.1 x (List.mem_cons_self ..)
      have hxb := sgs_b x hxs
      -- the rest of the pile, where x is not the bottom
      have hrest : x ≠ 50 → ∃ s', r = s' ++ [50] ∧ 50 ∉ s' := fun hx => by
        cases s with
        | nil =>
          have : x = 50 := by
            have := hs1
            simp at this
            exact this.1
          exact absurd this hx
        | cons y s' =>
          rw [List.cons_append] at hs1
          obtain ⟨-, e⟩ := List.cons.inj hs1
          exact ⟨s', e, fun q => hs2 (List.mem_cons_of_mem _ q)⟩
      have hbot : x = 50 → r = [] := fun hx => by
        cases s with
        | nil =>
          have := hs1
          simp at this
          exact this.2
        | cons y s' =>
          rw [List.cons_append] at hs1
          obtain ⟨e, -⟩ := List.cons.inj hs1
          exact absurd (by rw [← e, hx]; exact List.mem_cons_self ..) hs2
      have sN := r5.1.2.2.2.2 (a + 5) i5 (by omega)
      have el : mI M5 (a + 11) 1 = (r.length : Int) + 1 := by have := s5.1; rw [List.length_cons] at this; unfold ln at this; omega
      refine k_MM_readText_29 o5 (i32s (by omega) (by omega)) ?_
      rw [w5.1.2.2.1.2.2.2, el, b5]
      refine ⟨w5.1.1, fun _ => (w5.nu q11).1, fun q => by omega, fun _ => ⟨(w5.nu q11).1, (s_MN_take o5 (w5.nu q11) (by have := s5.1; rw [List.length_cons] at this; omega)).mono (fun y M6 t6 => ?_)⟩⟩
      obtain ⟨s6, ey⟩ := s5.take t6
      subst ey
      have m6 := mv_take w5 q11 t6
      have w6 := m6.2.1
      have f6 := (m6.fld w5 (fun q hq => by rw [hq]; exact q11) (fun hq => hq)).1
      have sN6 := m6.2.2.2.2 (a + 5) i5 (by omega)
      have r6 : rdI M a M6 := ⟨r5.1.trans (m6.mono (fun q hq => hq) (fun z hz => hz.elim) (fun q hq => by rw [hq]; exact w5.lt q11)), fun j j7 j8 => by rw [f6]; exact r5.2 j j7 j8⟩
      rw [w6.1.2.2.1.1]
      refine ⟨i32s (by omega) (by omega), t6.1, w6.1.1, (w6.nu i5).1, (s_MN_at t6.1 (w6.nu i5) (by rw [sN6.1, sN.1, n3]; omega)).mono (fun nx M7 h7 => ?_)⟩
      obtain ⟨e7, hnx⟩ := h7
      subst e7
      rw [sN6.2.1, sN.2.1] at hnx
      have hnx32 : i32 nx := by rw [hnx]; exact (hO _ _).1
      have o7 := t6.1
      refine ⟨hnx32, o7, fun x75 => ?_, fun x75 => ⟨fun x50 => ?_, fun x50 => ?_⟩⟩
      · -- a level ends
        rw [f6]
        refine ⟨w6.1.1, i32s (by omega) (by omega), fun M8 e8 => ?_⟩
        obtain ⟨r8, f8, s8⟩ := r6.fld (i32s (by omega) (by omega)) (Or.inl rfl) e8
        have c1 : c75 (y :: r) = 1 + c75 r := by show (if y = 75 then 1 else 0) + c75 r = _; rw [if_pos x75]
        have c2 : c76 (y :: r) = c76 r := by show (if y = 76 then 1 else 0) + c76 r = _; rw [if_neg (by omega)]; omega
        refine ih k r M8 ?_ r8 (by rw [f8, if_neg (by omega), f6]; exact b5) (s6.same (s8 _ q11)) ⟨g5.1.2, fun z hz => g5.2.1 z (List.mem_cons_of_mem _ hz), fun q => g5.2.2 (List.mem_of_mem_tail q)⟩ (by rw [f8, if_pos rfl]; omega) (by rw [f8, if_pos rfl]; omega) (Or.inr ⟨hkN, hrest (by omega)⟩) (fun f hf => ac (f + 1) ?_) (fun W hW => (rc W hW).trans (Rc.zero (by rw [x75]; exact mst_75)))
        · have e : swt (y :: r) = wgt y + swt r := rfl
          have := wgt_pos (x := y)
          omega
        · show (if y = 75 then Ac _ N f r k else _)
          rw [if_pos x75]
          exact hf
      · -- a step of the grammar
        have hpq : ∀ (rr : Int) (M8 : mM), pQx M7 a r y nx rr M8 → h_MM_readText_129 G (d + 3) a k rr M8 (fun v M' => rdQ M a N v M' ∧ rdV M a N v M') := fun rr M8 p8 => by
          obtain ⟨⟨m8, f8, pr⟩, pf⟩ := p8
          have sl : slv (y :: r) = mI M7 a 7 := by rw [f6]; exact slv_cons l5
          have r8 : rdI M a M8 := ⟨r6.1.trans m8, fun j j7 j8 => by rw [f8 j j7]; exact r6.2 j j7 j8⟩
          have b8 : mI M8 a 8 = -1 := by rw [f8 8 (by omega), f6]; exact b5
          have hrr : i32 rr := by
            rcases pr with q | ⟨ys, t, e, q, -⟩
            · rw [q]; exact i32s (by omega) (by omega)
            · have := (g5.step e).2.1
              exact i32s (by omega) (by omega)
          refine k_MM_readText_129 m8.1 (i32s (by omega) (by omega)) hrr (fun v hv => ⟨m8.2.1.1.1, fun M9 e9 u hu => ?_⟩)
          obtain ⟨r9, f9, s9⟩ := r8.fld (v := v) (by split at hv <;> exact i32s (by omega) (by omega)) (Or.inr rfl) e9
          have b9 : mI M9 a 8 = v := by rw [f9, if_pos rfl]
          rcases pr with q | ⟨ys, t, e, q, sY, l8, l8'⟩
          · subst q
            rw [if_neg (by omega)] at hv
            rw [if_pos (by omega)] at hu
            subst hu
            exact hbad M9 k r9 (by omega) (by omega) (by omega) ⟨k, by rw [b9]; exact hv, fun W hW => (rc W hW).rf (Rf.of (by
              rw [hW k hkN, ← hnx]
              rcases pf rfl with pf | ⟨ys, t, p1, p2, p3⟩
              · exact mst_no x50 x75 pf
              · exact mst_deep x50 x75 p1 p2 (by rw [sl]; exact p3)))⟩
          · subst q
            obtain ⟨gd, t01, wt, h50, hn50⟩ := g5.step e
            rw [if_pos (by omega)] at hv
            have l9 : mI M9 a 7 = mI M8 a 7 := by rw [f9, if_neg (by omega)]
            have hu' : u = ((k + t : Nat) : Int) := by
              rcases t01 with z | z
              · rw [if_pos (by omega)] at hu; omega
              · rw [if_neg (by omega)] at hu; omega
            rw [hu']
            have hlast : t = 1 → k + 1 = N → y = 50 ∧ nx = 0 ∧ ys = [] := fun z1 z2 => by
              subst z1
              refine ex_t1 e ?_
              rw [hnx, show k = N - 1 by omega]
              exact n5
            refine ih (k + t) (ys ++ r) M9 ?_ r9 (by omega) (sY.same (s9 _ q11)) gd ?_ (by rw [l9]; rcases l8' with z | z; rw [z, f6]; exact l4; exact z) ?_ (fun f hf => ac (f + 1) ?_) (fun W hW => (rc W hW).trans (Rc.one (mst_n x50 x75 (by rw [hW k hkN, ← hnx]; exact e) (by
              rw [sl]
              by_cases dd : dlv y ys = 1
              · right
                rw [dd] at l8
                rcases l8' with z | z
                · omega
                · omega
              · exact Or.inl dd))))
            · have e1 : swt (y :: r) = wgt y + swt r := rfl
              rw [swt_app]
              rcases t01 with z | z <;> subst z <;> omega
            · rw [l9, l8, f6, l5, c75_app, c76_app]
              unfold dlv
              have e1 : c75 (y :: r) = (if y = 75 then 1 else 0) + c75 r := rfl
              have e2 : c76 (y :: r) = (if y = 76 then 1 else 0) + c76 r := rfl
              rw [if_neg x75] at e1
              by_cases z : y = 76
              · rw [if_pos z] at e2 ⊢
                omega
              · rw [if_neg z] at e2 ⊢
                omega
            · by_cases z : t = 1 ∧ k + 1 = N
              · obtain ⟨z1, z2, z3⟩ := hlast z.1 z.2
                left
                refine ⟨by rw [z3, hbot z1]; rfl, by omega, ?_⟩
                rw [show N - 1 = k by omega, ← hnx]
                exact z2
              · right
                refine ⟨by omega, ?_⟩
                by_cases y5 : y = 50
                · rcases h50 y5 with z1 | ⟨s', z1, z2⟩
                  · -- nothing is put down only at the end
                    exfalso
                    subst y5 z1
                    have he : ex 50 nx = ex50 nx := rfl
                    rw [he] at e
                    unfold ex50 at e
                    have hn0 : nx = 0 := by
                      refine Classical.byContradiction (fun hn => ?_)
                      rw [if_neg hn] at e
                      repeat' (first | (cases e; done) | (split at e))
                      all_goals cases e
                    have hk1 : k + 1 = N := by
                      refine Classical.byContradiction (fun hk => ?_)
                      have := n4 k (by omega)
                      omega
                    rw [if_pos hn0] at e
                    cases e
                    exact z ⟨rfl, hk1⟩
                  · rw [z1, hbot y5]
                    exact ⟨s', by simp, z2⟩
                · obtain ⟨s', z1, z2⟩ := hrest y5
                  refine ⟨ys ++ s', by rw [z1, List.append_assoc], fun w => ?_⟩
                  rcases List.mem_append.1 w with w | w
                  · exact hn50 y5 w
                  · exact z2 w
            · show (if y = 75 then _ else if y < 50 then _ else ∃ ys t, ex y (nt M (a + 5) k) = some (ys, t) ∧ Ac _ N f (ys ++ r) (k + t))
              rw [if_neg x75, if_neg (by omega), ← hnx]
              exact ⟨ys, t, e, hf⟩
        have c76r : c76 r = 0 := c76_no r g5.2.2
        have lv6 : mI M7 a 7 = mI M5 a 7 := by rw [f6]
        rw [List.length_cons] at hlen
        refine ⟨fun x61 => ⟨w6.1.1, (x_MM_rule0 (d := d) (sgs_rule y hxs x61 x75) hnx32 o7 w6 s6 (by omega) (by omega) (by omega)).mono (fun rr M8 p8 => ⟨pq_i32 p8.1, p8.1.1.1, hpq rr M8 p8⟩)⟩, fun x61 => ⟨w6.1.1, (x_MM_item (d := d) (sgs_item y hxs x50 (by omega)) hnx32 o7 w6 s6 (by omega) (by omega) (by omega)).mono (fun rr M8 p8 => ⟨pq_i32 p8.1, p8.1.1.1, hpq rr M8 p8⟩)⟩⟩
      · -- a word is wanted
        intro v hv
        refine ⟨w6.1.1, fun M8 e8 => ?_⟩
        obtain ⟨r8, f8, s8⟩ := r6.fld (v := v) (by split at hv <;> exact i32s (by omega) (by omega)) (Or.inr rfl) e8
        have b8 : mI M8 a 8 = v := by rw [f8, if_pos rfl]
        by_cases z : y = nx
        · rw [if_pos z] at hv
          have ht := sgs_term y hxs (by omega)
          have hk1 : k + 1 < N := by
            refine Classical.byContradiction (fun hk => ?_)
            rw [show k = N - 1 by omega] at hnx
            omega
          have c1 : c75 (y :: r) = c75 r := by show (if y = 75 then 1 else 0) + c75 r = _; rw [if_neg x75]; omega
          have c2 : c76 (y :: r) = c76 r := by show (if y = 76 then 1 else 0) + c76 r = _; rw [if_neg (by omega)]; omega
          have l8 : mI M8 a 7 = mI M5 a 7 := by rw [f8, if_neg (by omega), f6]
          refine ih (k + 1) r M8 ?_ r8 (by omega) (s6.same (s8 _ q11)) ⟨g5.1.2, fun z hz => g5.2.1 z (List.mem_cons_of_mem _ hz), fun q => g5.2.2 (List.mem_of_mem_tail q)⟩ (by omega) (by omega) (Or.inr ⟨hk1, hrest (by omega)⟩) (fun f hf => ac (f + 1) ?_) (fun W hW => (rc W hW).trans (Rc.one (mst_t (by omega) (by rw [hW k hkN, ← hnx]; exact z))))
          · have e : swt (y :: r) = wgt y + swt r := rfl
            have := wgt_pos (x := y)
            omega
          · show (if y = 75 then _ else if y < 50 then nt M (a + 5) k = y ∧ Ac _ N f r (k + 1) else _)
            rw [if_neg x75, if_pos (by omega)]
            exact ⟨by rw [← hnx, z], hf⟩
        · rw [if_neg z] at hv
          exact hbad M8 (k + 1) r8 (by omega) (by omega) (by omega) ⟨k, by rw [b8]; exact hv, fun W hW => (rc W hW).rf (Rf.of (mst_tn (by omega) (by rw [hW k hkN, ← hnx]; exact z)))⟩
end
end
