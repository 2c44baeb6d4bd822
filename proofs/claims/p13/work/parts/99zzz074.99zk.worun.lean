/-! The reference: working out a tree. -/
section WR
variable {G : mG} {F : Prop} {d a g R W T : Nat} {M : mM} {Q : mM → Prop} {E : Nat → Nat}
theorem s_wo_run (h0 : Ev F M a g R W T) (hF : F → Fm M g R W T E) (hX : ∀ M3, EO F M a g R W T M3 → mI M3 a 16 ≠ 0 → Q M3) : ∀ (b f md n e n0 e0 Lk V kk : Nat) (u : Nat → Int) (M2 : mM), b ≤ R → (∀ r : Nat, r < b → mI M (g + 13) r ≠ 0 → E r ≤ n0) → kk = md + (1 - md) → Ty (nme F M g b W) (tn M g) M g f md n e u → n0 ≤ n → e ≤ e0 → e0 ≤ T → EO F M a g R W T M2 → mI M2 a 16 = 0 → ln M2 (a + 99) = (Lk + 2 * kk : Nat) → (∀ j, j < kk → nt M2 (a + 99) (Lk + 2 * (kk - 1 - j)) = 0 ∧ nt M2 (a + 99) (Lk + 2 * (kk - 1 - j) + 1) = ci M g n j) → mI M2 a 23 = (V : Int) → V + e0 ≤ T + (n - n0) → Lk + 2 * (e - n) ≤ 2 * (T - n0) → (∀ M3, woR F M a g R W T Lk V kk u M2 M3 → h_MM_workOut_19 G (d + 3) a g M3 Q) → h_MM_workOut_19 G (d + 3) a g M2 Q := by
  have w0 := h0.2.1
  have hBd := h0.2.2.2.2.1
  intro b
  induction b using Nat.strongRecOn with
  | _ b ihb =>
  intro f
  induction f using Nat.strongRecOn with
  | _ f ih =>
  intro md n e n0 e0 Lk V kk u M2 hbR hbE hkk ht hn0 he he0 h h16 lk pk hV hVb hLb hQ
  have hlt := ht.tn.lt
  cases f with
  | zero => exact ht.elim
  | succ f =>
    rw [Ty] at ht
    by_cases c0 : md = 0
    · subst c0
      have kk1 : kk = 1 := by omega
      subst kk1
      rw [if_pos rfl] at ht
      obtain ⟨p0, p1⟩ := pk 0 (by omega)
      rw [show Lk + 2 * (1 - 1 - 0) = Lk by omega] at p0 p1
      have pn : nt M2 (a + 99) (Lk + 1) = (n : Int) := p1
      obtain ⟨-, -, ht⟩ := ht
      rcases ht with ⟨b1, b2, b3, b4, b5, b6⟩ | ⟨k, c, b1, b2, b3, b4, b5⟩
      · -- a leaf
        refine s_wo2 (n := n) (X := Lk) (s := 0) h h16 lk (Or.inl rfl) p0 pn (fun _ M4 t4 => ?_) (fun z => absurd z (by decide)) (fun z => absurd z (by decide)) (fun z => absurd z (by decide))
        obtain ⟨m4, l4, e4⟩ := t4
        have E4 := h.pile m4
        have K4 := kp99 h.1.2.1 m4
        have nd4 := E4.nod n
        have gs4 := E4.gs w0
        refine (s_bg_leaf (t := u 0) (V := V) (X := Lk) E4.2.1 (by omega) (by rw [nd4.1]; exact b3) (by rw [nd4.1, nd4.2.1]; exact b4) (by rw [nd4.1, nd4.2.1]; exact fun z => ((b5 z).up hbR).gs gs4) (by rw [nd4.1, nd4.2.1, gs4.tyn]; exact b6) (by rw [K4.1]; exact hV) (by omega) l4 (by omega)).mono (fun M5 t5 => ⟨t5.1, ?_⟩)
        rcases t5.2 with ⟨A, B, v1, v2⟩ | ⟨q1, q2, q3⟩
        · obtain ⟨y1, y2, y3, y4, y5⟩ := v2
          have E5 := E4.step y1 (fun _ z => z.elim) (fun x hx => hx) (fun i _ _ i3 => y3 i i3)
          have s5 := y1.lst (n99 (a := a)) (fun z => z)
          refine hQ M5 ⟨E5, by rw [y3 16 (by omega), K4.1]; exact h16, by rw [s5.1]; exact l4, fun j hj => by rw [s5.2.1, e4], y2, fun j hj => ⟨by rw [y4, if_neg (by omega), K4.2.1], by rw [y5, if_neg (by omega), K4.2.2]⟩, fun j hj => ?_⟩
          have j0 : j = 0 := by omega
          subst j0
          rw [y4, y5, if_pos (by omega), if_pos (by omega)]
          exact v1
        · obtain ⟨fF, f1, f2, f3, m5, l5, e5, x3, xv, x0, xr⟩ := q3
          rw [nd4.2.1] at f1 f2 f3 xv xr q2
          rw [nd4.1] at q1
          rw [gs4.tyn] at q2
          rw [gs4.1] at f2
          rw [gs4.2.2.1] at xr
          have hv := b5 q1
          obtain ⟨r, hr, hrb⟩ : ∃ r : Nat, va M g n = (r : Int) ∧ r < b := by
            rcases hv with z | z
            · exact ⟨(va M g n).toNat, by omega, by omega⟩
            · exact absurd z.2.1 (by omega)
          rw [hr] at f2 f3 xv xr q2
          rw [Int.toNat_natCast] at f2 f3 xr
          obtain ⟨n', f', fr1, fr2, fr3, fr4⟩ := hF fF r (by omega) f2
          have E5 := E4.pile m5
          have K5 := kp99 E4.1.2.1 m5
          have hE := hbE r hrb f2
          have lt' := fr4.tn.lt
          refine ihb r hrb f' 0 n' (E r) n' (E r) (Lk + 2) V 1 (fun _ => tn M g r) M5 (by omega) fr3 (by omega) (fr4.mono (fun v z => ⟨z.tr fF, rfl⟩)) (Nat.le_refl _) (Nat.le_refl _) fr2 E5 (by rw [K5.1, K4.1]; exact h16) (by rw [l5]) (fun j hj => ?_) (by rw [K5.1, K4.1]; exact hV) (by omega) (by omega) (fun M6 h6 => ?_)
          · have j0 : j = 0 := by omega
            subst j0
            exact ⟨x0, xr.trans fr1⟩
          · obtain ⟨E6, z16, l6, e6, v6, k6, o6⟩ := h6
            refine s_wo2 (n := r) (X := Lk) (s := 3) E6 z16 l6 (Or.inr (Or.inr (Or.inr rfl))) (by rw [e6 Lk (by omega)]; exact x3) (by rw [e6 (Lk + 1) (by omega)]; exact xv) (fun z => absurd z (by decide)) (fun z => absurd z (by decide)) (fun z => absurd z (by decide)) (fun _ M7 t7 => ?_)
            obtain ⟨m7, l7, e7⟩ := t7
            have E7 := E6.pile m7
            have K7 := kp99 E6.1.2.1 m7
            refine ⟨by omega, V, by rw [K7.1]; exact v6, by omega, fun M8 M9 M10 e8 e9 e10 => ?_⟩
            have o := o6 0 (by omega)
            rw [show V + 0 = V by omega, ← K7.2.1, ← K7.2.2] at o
            obtain ⟨E10, i10, s10, la10, lb10⟩ := E7.met w0 o e8 e9 e10
            refine ⟨E10.1.1, hQ M10 ⟨E10, by rw [i10, K7.1]; exact z16, by rw [s10.1]; exact l7, fun j hj => by rw [s10.2.1, e7, e6 j (by omega), e5 j hj, e4], by rw [i10, K7.1]; exact v6, fun j hj => ⟨by rw [la10, K7.2.1, (k6 j hj).1, K5.2.1, K4.2.1], by rw [lb10, K7.2.2, (k6 j hj).2, K5.2.2, K4.2.2]⟩, fun j hj => ?_⟩⟩
            have j0 : j = 0 := by omega
            subst j0
            rw [q2, la10, lb10]
            exact o
      · -- a node with parts
        have hge := b4.tn.ge
        have nl : ¬ (so M g n = 1 ∨ so M g n = 2 ∨ so M g n = 12 ∨ so M g n = 13) := fun z => by unfold ari at b2; omega
        have hty : tyr (so M g n) k c (u 0) := by
          unfold tyn at b5
          rw [if_neg (by omega), if_neg (by omega), if_neg (by omega)] at b5
          exact b5
        by_cases cs : so M g n = 29 ∨ so M g n = 30 ∨ so M g n = 32
        · -- and, or, ask
          have k2 : 2 ≤ k := by unfold ari at b2; omega
          cases f with
          | zero => exact b4.elim
          | succ f1 =>
            have b4' := b4
            rw [Ty, if_neg (by omega), if_neg (by omega)] at b4'
            obtain ⟨m, q1, q2, q3⟩ := b4'
            have l1 := q2.tn.lt
            have l3 := q3.tn.ge
            refine s_wo2 (n := n) (X := Lk) (s := 0) h h16 lk (Or.inl rfl) p0 pn (fun _ M4 t4 => ?_) (fun z => absurd z (by decide)) (fun z => absurd z (by decide)) (fun z => absurd z (by decide))
            obtain ⟨m4, l4, e4⟩ := t4
            have E4 := h.pile m4
            have K4 := kp99 h.1.2.1 m4
            have nd4 := E4.nod n
            refine (s_bg_first (X := Lk) E4.2.1 (by omega) (by rw [nd4.1]; exact cs) l4 (by omega)).mono (fun M5 t5 => ⟨t5.1, ?_⟩)
            obtain ⟨-, m5, l5, e5, x2, xn, x0, xf⟩ := t5
            rw [nd4.2.2.1] at xf
            have E5 := E4.pile m5
            have K5 := kp99 E4.1.2.1 m5
            refine ih f1 (by omega) 0 (n + 1) m n0 e0 (Lk + 2) V 1 c M5 hbR hbE (by omega) q2 (by omega) (by omega) he0 E5 (by rw [K5.1, K4.1]; exact h16) (by rw [l5]) (fun j hj => ?_) (by rw [K5.1, K4.1]; exact hV) (by omega) (by omega) (fun M6 h6 => ?_)
            · have j0 : j = 0 := by omega
              subst j0
              exact ⟨x0, xf.trans b3⟩
            · obtain ⟨E6, z16, l6, e6, v6, k6, o6⟩ := h6
              refine s_wo2 (n := n) (X := Lk) (s := 2) E6 z16 l6 (Or.inr (Or.inr (Or.inl rfl))) (by rw [e6 Lk (by omega)]; exact x2) (by rw [e6 (Lk + 1) (by omega)]; exact xn) (fun z => absurd z (by decide)) (fun z => absurd z (by decide)) (fun _ M7 t7 => ?_) (fun z => absurd z (by decide))
              obtain ⟨m7, l7, e7⟩ := t7
              have E7 := E6.pile m7
              have K7 := kp99 E6.1.2.1 m7
              have nd7 := E7.nod
              refine (s_MM_choose0 (d := d + 1) (V := V) (X := Lk) (c1 := n + 1) (c2 := m) E7.2.1 (by omega) (by rw [(nd7 n).2.2.1]; exact b3) (by omega) (by rw [(nd7 (n + 1)).2.2.2]; exact q1) (by omega) (by rw [K7.1]; exact v6) (by omega) l7 (by omega)).mono (fun M8 t8 => ⟨t8.1, ?_⟩)
              have lowT : ∀ j, j < Lk → nt M7 (a + 99) j = nt M2 (a + 99) j := fun j hj => by rw [e7, e6 j (by omega), e5 j hj, e4]
              have lowV : ∀ j, j < V → mL M7 (a + 97) j = mL M2 (a + 97) j ∧ mL M7 (a + 98) j = mL M2 (a + 98) j := fun j hj => ⟨by rw [K7.2.1, (k6 j hj).1, K5.2.1, K4.2.1], by rw [K7.2.2, (k6 j hj).2, K5.2.2, K4.2.2]⟩
              rcases t8.2 with ⟨y1, y2⟩ | ⟨cc, hcc, m8, v8, f8, l8, e8, x8, y8⟩
              · subst y2
                rw [(nd7 n).1] at y1
                refine hQ M8 ⟨E7, by rw [K7.1]; exact z16, l7, lowT, by rw [K7.1]; exact v6, lowV, fun j hj => ?_⟩
                have j0 : j = 0 := by omega
                subst j0
                have o := o6 0 (by omega)
                rw [← K7.2.1, ← K7.2.2] at o
                unfold tyr at hty
                rw [if_pos (by omega)] at hty
                rw [hty.2, ← hty.1 0 (by omega)]
                exact o
              · have E8 := E7.step m8 (fun q hq => hq) (fun x hx => Or.inl hx) (fun i _ _ i3 => f8 i i3)
                have w7 := E7.1.2.1
                have in9 : ∀ q, q = a + 99 → q ∈ nums a := fun q hq => by rw [hq]; exact n99
                have l97 := (m8.cellL w7 in9 (offx (a := a) (o := 97) (by decide)) (by omega)).2
                have l98 := (m8.cellL w7 in9 (offx (a := a) (o := 98) (by decide)) (by omega)).2
                obtain ⟨n2, e2, f2, u2, d1, d2, d3, d4, d5, d6⟩ : ∃ (n2 e2 f2 : Nat) (u2 : Nat → Int), cc = (n2 : Int) ∧ f2 < f1 + 1 + 1 ∧ Ty (nme F M g b W) (tn M g) M g f2 0 n2 e2 u2 ∧ u2 0 = u 0 ∧ m ≤ n2 ∧ e2 ≤ e := by
                  unfold tyr at hty
                  cases f1 with
                  | zero => exact q3.elim
                  | succ f2 =>
                    by_cases c32 : so M g n = 32
                    · have k3 : k = 3 := by unfold ari at b2; omega
                      subst k3
                      rw [if_neg (by omega), if_neg (by omega), if_pos c32] at hty
                      rw [Ty, if_neg (by omega), if_neg (by omega)] at q3
                      obtain ⟨m2, r1, r2, r3⟩ := q3
                      have g1 := r2.tn.lt
                      have g2 := r3.tn.lt
                      rcases hcc with z | z
                      · exact ⟨m, m2, f2, _, z, by omega, r2, hty.2.1, Nat.le_refl _, by omega⟩
                      · cases f2 with
                        | zero => exact r3.elim
                        | succ f3 =>
                          rw [Ty, if_neg (by omega), if_pos (by omega)] at r3
                          exact ⟨m2, e, f3, _, z.2.trans ((nd7 m).2.2.2.trans r1), by omega, r3.2, hty.2.2, by omega, Nat.le_refl _⟩
                    · have k3 : k = 2 := by unfold ari at b2; omega
                      subst k3
                      rw [if_pos (by omega)] at hty
                      rw [Ty, if_neg (by omega), if_pos (by omega)] at q3
                      rcases hcc with z | z
                      · exact ⟨m, e, f2, _, z, by omega, q3.2, (hty.1 1 (by omega)).trans hty.2.symm, Nat.le_refl _, Nat.le_refl _⟩
                      · exact absurd ((nd7 n).1.symm.trans z.1) c32
                have g3 := d3.tn.lt
                refine ih f2 d2 0 n2 e2 n0 e0 Lk V 1 u2 M8 hbR hbE (by omega) d3 (by omega) (by omega) he0 E8 (by rw [f8 16 (by omega), K7.1]; exact z16) (by rw [l8]) (fun j hj => ?_) v8 (by omega) (by omega) (fun M9 h9 => hQ M9 ?_)
                · have j0 : j = 0 := by omega
                  subst j0
                  exact ⟨x8, y8.trans d1⟩
                · obtain ⟨E9, y16, l9, e9, v9, k9, o9⟩ := h9
                  refine ⟨E9, y16, l9, fun j hj => by rw [e9 j hj, e8 j hj, lowT j hj], v9, fun j hj => ⟨by rw [(k9 j hj).1, l97, (lowV j hj).1], by rw [(k9 j hj).2, l98, (lowV j hj).2]⟩, fun j hj => ?_⟩
                  have j0 : j = 0 := by omega
                  subst j0
                  rw [← d4]
                  exact o9 0 hj
        · -- the parts first
          refine s_wo2 (n := n) (X := Lk) (s := 0) h h16 lk (Or.inl rfl) p0 pn (fun _ M4 t4 => ?_) (fun z => absurd z (by decide)) (fun z => absurd z (by decide)) (fun z => absurd z (by decide))
          obtain ⟨m4, l4, e4⟩ := t4
          have E4 := h.pile m4
          have K4 := kp99 h.1.2.1 m4
          have nd4 := E4.nod n
          refine (s_bg_parts (X := Lk) E4.2.1 (by omega) b1 (by rw [nd4.1]; omega) (by rw [nd4.2.2.1]; exact b3) (E4.tnn b4.tn) (by omega) l4 (by omega)).mono (fun M5 t5 => ⟨t5.1, ?_⟩)
          obtain ⟨-, m5, l5, e5, x1, xn, v5⟩ := t5
          have E5 := E4.pile m5
          have K5 := kp99 E4.1.2.1 m5
          have cie : ∀ j, ci M4 g (n + 1) j = ci M g (n + 1) j := ci_cg (fun k => (E4.nod k).2.2.2)
          refine ih f (by omega) k (n + 1) e n0 e0 (Lk + 2) V k c M5 hbR hbE (by omega) b4 (by omega) he he0 E5 (by rw [K5.1, K4.1]; exact h16) (by rw [l5]) (fun j hj => ⟨(v5 j hj).1, (v5 j hj).2.trans (cie j)⟩) (by rw [K5.1, K4.1]; exact hV) (by omega) (by omega) (fun M6 h6 => ?_)
          obtain ⟨E6, z16, l6, e6, v6, k6, o6⟩ := h6
          refine s_wo2 (n := n) (X := Lk) (s := 1) E6 z16 l6 (Or.inr (Or.inl rfl)) (by rw [e6 Lk (by omega)]; exact x1) (by rw [e6 (Lk + 1) (by omega)]; exact xn) (fun z => absurd z (by decide)) (fun _ M7 t7 => ?_) (fun z => absurd z (by decide)) (fun z => absurd z (by decide))
          obtain ⟨m7, l7, e7⟩ := t7
          have E7 := E6.pile m7
          have K7 := kp99 E6.1.2.1 m7
          have nd7 := E7.nod n
          refine (s_MM_finish (d := d) (V := V) (k := k) (c := c) (t := u 0) E7.2.1 (by omega) b1 (by rw [nd7.1]; exact b2) (by rw [nd7.1]; omega) (by rw [nd7.2.2.1]; exact b3) (E7.tnn b4.tn) (by omega) (by rw [nd7.1]; exact hty) (fun j hj => by rw [K7.2.1, K7.2.2]; exact o6 j hj) (by rw [K7.1]; exact v6) (by omega)).mono (fun M8 t8 => ⟨t8.1, ?_⟩)
          obtain ⟨-, y1, y2, y3, y4⟩ := t8
          have E8 := E7.step y1 (fun _ z => z.elim) (fun x hx => hx) y2
          have s8 := y1.lst (n99 (a := a)) (fun z => z)
          refine s_wo_f hX E8 (fun z => hQ M8 ?_)
          rcases y4 with y | ⟨w1, w2, w3⟩
          · exact absurd z y
          · refine ⟨E8, z, by rw [s8.1]; exact l7, fun j hj => by rw [s8.2.1, e7, e6 j (by omega), e5 j hj, e4], w2, fun j hj => ⟨by rw [(y3 j hj).1, K7.2.1, (k6 j hj).1, K5.2.1, K4.2.1], by rw [(y3 j hj).2, K7.2.2, (k6 j hj).2, K5.2.2, K4.2.2]⟩, fun j hj => ?_⟩
            have j0 : j = 0 := by omega
            subst j0
            exact w3
    · rw [if_neg c0] at ht
      have kkm : kk = md := by omega
      subst kkm
      by_cases c1 : kk = 1
      · subst c1
        rw [if_pos rfl] at ht
        exact ih f (by omega) 0 n e n0 e0 Lk V 1 u M2 hbR hbE (by omega) ht.2 hn0 he he0 h h16 lk pk hV hVb hLb hQ
      · rw [if_neg c1] at ht
        obtain ⟨m, q1, q2, q3⟩ := ht
        have l1 := q2.tn.lt
        have l2 := q3.tn.ge
        refine ih f (by omega) 0 n m n0 e0 (Lk + 2 * (kk - 1)) V 1 u M2 hbR hbE (by omega) q2 hn0 (by omega) he0 h h16 (by rw [lk]; omega) (fun j hj => ?_) hV (by omega) (by omega) (fun M3 h3 => ?_)
        · have j0 : j = 0 := by omega
          subst j0
          have := pk 0 (by omega)
          rw [show Lk + 2 * (kk - 1) + 2 * (1 - 1 - 0) = Lk + 2 * (kk - 1 - 0) by omega]
          exact this
        · obtain ⟨g1, g2, g3, g4, g5, g6, g7⟩ := h3
          refine ih f (by omega) (kk - 1) m e n0 e0 Lk (V + 1) (kk - 1) (fun j => u (j + 1)) M3 hbR hbE (by omega) q3 (by omega) he he0 g1 g2 g3 (fun j hj => ?_) g5 (by omega) (by omega) (fun M4 h4 => hQ M4 ?_)
          · have := pk (j + 1) (by omega)
            rw [ci_succ q1, show Lk + 2 * (kk - 1 - (j + 1)) = Lk + 2 * (kk - 1 - 1 - j) by omega] at this
            rw [g4 _ (by omega), g4 _ (by omega)]
            exact this
          · obtain ⟨f1, f2, f3, f4, f5, f6, f7⟩ := h4
            refine ⟨f1, f2, f3, fun j hj => by rw [f4 j hj, g4 j (by omega)], by rw [f5]; omega, fun j hj => ⟨by rw [(f6 j (by omega)).1, (g6 j hj).1], by rw [(f6 j (by omega)).2, (g6 j hj).2]⟩, fun j hj => ?_⟩
            cases j with
            | zero =>
              rw [(f6 (V + 0) (by omega)).1, (f6 (V + 0) (by omega)).2]
              exact g7 0 (by omega)
            | succ j =>
              have := f7 j (by omega)
              rw [show V + 1 + j = V + (j + 1) by omega] at this
              exact this
end WR
