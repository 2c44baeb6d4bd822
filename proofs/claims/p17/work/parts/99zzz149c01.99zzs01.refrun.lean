section
/-! The reference's workOut, exactly: rules in a state. -/
section WRT
variable {G : mG} {d a g R W T : Nat} {M : mM} {Q : mM → Prop} {E : Nat → Nat} {ww pl : Nat → Int} {xv : Int → vrs}
theorem x_wo_runT (h0 : Ev True M a g R W T) (hF : Fm M g R W T E) (hFx : FmX ww pl xv M g R E) : ∀ (b : Nat) (nv : Nat → Int) (n0 : Nat), b ≤ R → (∀ r : Nat, r < b → mI M (g + 13) r ≠ 0 → E r ≤ n0) → ∀ (f md n e e0 Lk V kk : Nat) (u : Nat → Int) (M2 : mM) (rs : List (Nat × Nat)), kk = md + (1 - md) → Ty (nme True M g b W) (tn M g) M g f md n e u → TBy9 ww pl M g nv md rs n e → n0 ≤ n → e ≤ e0 → e0 ≤ T → EO True M a g R W T M2 → XVq M2 a g R W xv → mI M2 a 16 = 0 → ln M2 (a + 99) = (Lk + 2 * kk : Nat) → (∀ j, j < kk → nt M2 (a + 99) (Lk + 2 * (kk - 1 - j)) = 0 ∧ nt M2 (a + 99) (Lk + 2 * (kk - 1 - j) + 1) = ci M g n j) → mI M2 a 23 = (V : Int) → V + e0 ≤ T + (n - n0) → Lk + 2 * (e - n) ≤ 2 * (T - n0) → (∀ M3, EO True M a g R W T M3 → fvq M3 a (vfX ww pl xv nv rs) → Q M3) → (∀ M3, woR True M a g R W T Lk V kk u M2 M3 → woX ww pl xv nv a V rs u M3 → XVq M3 a g R W xv → h_MM_workOut_19 G (d + 3) a g M3 Q) → h_MM_workOut_19 G (d + 3) a g M2 Q := by
  have w0 := h0.2.1
  have hBd := h0.2.2.2.2.1
  have hg := h0.2.2.1
  intro b
  induction b using Nat.strongRecOn with
  | _ b ihb =>
  intro nv n0 hbR hbE f
  induction f using Nat.strongRecOn with
  | _ f ih =>
  intro md n e e0 Lk V kk u M2 rs hkk ht htb hn0 he he0 h hxv h16 lk pk hV hVb hLb hX hQ
  obtain ⟨hrs, htb⟩ := htb
  have hlt := ht.tn.lt
  have hVs := vbS hVb hn0
  have hLs := lbS hLb hlt
  have hVh : Hid (V + e0 ≤ T + (n - n0)) := hVb
  have hLh : Hid (Lk + 2 * (e - n) ≤ 2 * (T - n0)) := hLb
  clear hVb hLb
  cases f with
  | zero => exact ht.elim
  | succ f =>
    rw [Ty] at ht
    by_cases c0 : md = 0
    · subst c0
      have kk1 : kk = 1 := by omega
      subst kk1
      rw [if_pos rfl] at ht
      obtain ⟨p0, p1⟩ := pk 0 (by omega)
      rw [show Lk + 2 * (1 - 1 - 0) = Lk by first | rfl | omega] at p0 p1
      have pn : nt M2 (a + 99) (Lk + 1) = (n : Int) := p1
      obtain ⟨-, -, ht⟩ := ht
      rw [if_pos rfl] at htb
      obtain ⟨i, j, rfl, tm⟩ := htb
      have eo : Eo ww 6 i j := hrs (i, j) (List.mem_singleton.2 rfl)
      have tn9 := fun (_ : Unit) => tv_node (cv := cvn9 ww xv nv) _ 0 i j (Nat.le_refl _) (Or.inl ⟨rfl, eo⟩) rfl _ 0 _ _ tm
      have vf1 : vfX ww pl xv nv [(i, j)] = if (vlX ww pl xv nv (i, j)).1 = 0 then (0, 0, 1) else vlX ww pl xv nv (i, j) := rfl
      have w1 : ∀ {M3 : mM} {A B : Int}, vlX ww pl xv nv (i, j) = vr9 (u 0) A B → mL M3 (a + 97) (V + 0) = A → mL M3 (a + 98) (V + 0) = B → woX ww pl xv nv a V [(i, j)] u M3 := fun {M3 A B} e1 e2 e3 => by
        refine ⟨by rw [vf1, e1]; rfl, fun t ht => ?_⟩
        have t0 : t = 0 := by simp at ht; omega
        subst t0
        rw [e2, e3]
        exact e1
      have w1x : ∀ {M3 : mM}, EO True M a g R W T M3 → (vlX ww pl xv nv (i, j)).1 ≠ 0 → mI M3 a 16 = (vlX ww pl xv nv (i, j)).1 → mI M3 a 17 = (vlX ww pl xv nv (i, j)).2.1 → Q M3 := fun {M3} l3 z1 z2 z3 => hX M3 l3 (by rw [vf1, if_neg z1]; exact ⟨z1, z2, z3⟩)
      rcases ht with ⟨b1, b2, b3, b4, b5, b6⟩ | ⟨k, c, b1, b2, b3, b4, b5⟩
      · -- a leaf
        refine s_wo2 (n := n) (X := Lk) (s := 0) h h16 lk (Or.inl rfl) p0 pn (fun _ M4 t4 => ?_) (fun z => absurd z (by decide)) (fun z => absurd z (by decide)) (fun z => absurd z (by decide))
        obtain ⟨m4, l4, e4⟩ := t4
        have E4 := h.pile m4
        have K4 := kp99 h.1.2.1 m4
        have nd4 := E4.nod n
        have gs4 := E4.gs w0
        obtain ⟨-, -, kw, kl, ks, kv, kx⟩ : fp M g n = -1 ∧ e = n + 1 ∧ ∃ k, (ww k = 1 ∨ ww k = 2 ∨ ww k = 12 ∨ ww k = 13) ∧ so M g n = ww k ∧ va M g n = nv k ∧ vlq ww (cvn9 ww xv nv) pl 0 0 i j = cvn9 ww xv nv k := by
          rcases tn9 () with q | ⟨q, -⟩
          · exact q
          · rw [b2] at q; omega
        have X4 := hxv.pile hg h.1.2.1 m4
        have kvx : vlX ww pl xv nv (i, j) = cvn9 ww xv nv kw := kx
        refine (x_bg_leafT (t := u 0) (V := V) (X := Lk) X4 E4.2.1 (by omega) (by rw [nd4.1]; exact b3) (by rw [nd4.1, nd4.2.1]; exact b4) (by rw [nd4.1, nd4.2.1]; exact fun z => ((b5 z).up hbR).gs gs4) (by rw [nd4.1, nd4.2.1, gs4.tyn]; exact b6) (by rw [K4.1]; exact hV) (by omega) l4 (by omega)).mono (fun M5 t5 => ⟨t5.1, ?_⟩)
        rcases t5.2 with ⟨A, B, v1, v2, v3⟩ | ⟨q1, q2, q3⟩
        · rw [nd4.1, nd4.2.1] at v3
          have Y5 := v2
          obtain ⟨y1, y2, y3, y4, y5⟩ := v2
          have E5 := E4.step y1 (fun _ z => z.elim) (fun x hx => hx) (fun i _ _ i3 => y3 i i3)
          have X5 := X4.st hg E4.1.2.1 y1 (fun _ z => z.elim) (fun x hx => hx)
          have s5 := y1.lst (n99 (a := a)) (fun z => z)
          refine hQ M5 ⟨E5, by rw [y3 16 (by omega), K4.1]; exact h16, by rw [s5.1]; exact l4, fun j hj => by rw [s5.2.1, e4], y2, fun j hj => ⟨by rw [y4, if_neg (by omega), K4.2.1], by rw [y5, if_neg (by omega), K4.2.2]⟩, fun j hj => ?_⟩ (w1 (A := A) (B := B) ?_ (by rw [y4, if_pos (by omega)]) (by rw [y5, if_pos (by omega)])) X5
          · have j0 : j = 0 := by omega
            subst j0
            rw [y4, y5, if_pos (by omega), if_pos (by omega)]
            exact v1
          · rw [kvx, ← v3]
            unfold cvn9
            rw [← ks, ← kv]
        · obtain ⟨fF, f1, f2, f3, m5, l5, e5, x3, xv9, x0, xr⟩ := q3
          rw [nd4.2.1] at f1 f2 f3 xv9 xr q2
          rw [nd4.1] at q1
          rw [gs4.tyn] at q2
          rw [gs4.1] at f2
          rw [gs4.2.2.1] at xr
          have hv := b5 q1
          obtain ⟨r, hr, hrb⟩ : ∃ r : Nat, va M g n = (r : Int) ∧ r < b := by
            rcases hv with z | z
            · exact ⟨(va M g n).toNat, by omega, by omega⟩
            · exact absurd z.2.1 (by omega)
          rw [hr] at f2 f3 xv9 xr q2
          rw [Int.toNat_natCast] at f2 f3 xr
          obtain ⟨n', f', fr1, fr2, fr3, fr4⟩ := hF r (by omega) f2
          obtain ⟨n9, nv', i', j', gx1, gx2, gx3, gx4⟩ := hFx r (by omega) f2
          have n99' : n9 = n' := by
            have := gx1.symm.trans fr1
            omega
          subst n99'
          have E5 := E4.pile m5
          have K5 := kp99 E4.1.2.1 m5
          have X5 := X4.pile hg E4.1.2.1 m5
          have hE := hbE r hrb f2
          have lt' := fr4.tn.lt
          have w1v : ww kw = 1 := by rw [← ks]; exact q1
          have vlf : vlX ww pl xv nv (i, j) = xv (r : Int) := by
            rw [kvx]
            unfold cvn9
            rw [if_pos w1v, ← kv, hr]
          have vlg : vlX ww pl xv nv (i, j) = vlX ww pl xv nv' (i', j') := by rw [vlf, gx4]
          have vf1' : vfX ww pl xv nv' [(i', j')] = if (vlX ww pl xv nv' (i', j')).1 = 0 then (0, 0, 1) else vlX ww pl xv nv' (i', j') := rfl
          refine ihb r hrb nv' n9 (by omega) fr3 f' 0 n9 (E r) (E r) (Lk + 2) V 1 (fun _ => tn M g r) M5 [(i', j')] (by omega) fr4 ⟨fun x hx => by rw [List.mem_singleton.1 hx]; exact gx2, by rw [if_pos rfl]; exact ⟨i', j', rfl, gx3⟩⟩ (Nat.le_refl _) (Nat.le_refl _) fr2 E5 X5 (by rw [K5.1, K4.1]; exact h16) (by rw [l5]) (fun j hj => ?_) (by rw [K5.1, K4.1]; exact hV) (by first | exact sbV (by omega) | omega) (by first | exact sbL (by omega) (by omega) | omega) (fun M6 l6 p6 => ?_) (fun M6 h6 x6 X6 => ?_)
          · have j0 : j = 0 := by omega
            subst j0
            exact ⟨x0, xr.trans fr1⟩
          · rw [vf1'] at p6
            have z1 : (vlX ww pl xv nv' (i', j')).1 ≠ 0 := fun z => by rw [if_pos z] at p6; exact p6.1 rfl
            rw [if_neg z1] at p6
            exact w1x l6 (by rw [vlg]; exact z1) (by rw [vlg]; exact p6.2.1) (by rw [vlg]; exact p6.2.2)
          · have va0 : vlX ww pl xv nv' (i', j') = _ := x6.2 0 (by simp)
            obtain ⟨E6, z16, l6, e6, v6, k6, o6⟩ := h6
            refine s_wo2 (n := r) (X := Lk) (s := 3) E6 z16 l6 (Or.inr (Or.inr (Or.inr rfl))) (by rw [e6 Lk (by omega)]; exact x3) (by rw [e6 (Lk + 1) (by omega)]; exact xv9) (fun z => absurd z (by decide)) (fun z => absurd z (by decide)) (fun z => absurd z (by decide)) (fun _ M7 t7 => ?_)
            obtain ⟨m7, l7, e7⟩ := t7
            have E7 := E6.pile m7
            have K7 := kp99 E6.1.2.1 m7
            have X7 := X6.pile hg E6.1.2.1 m7
            refine ⟨by omega, V, by rw [K7.1]; exact v6, by omega, fun M8 M9 M10 e8 e9 e10 => ?_⟩
            have o := o6 0 (by omega)
            rw [show V + 0 = V by first | rfl | omega, ← K7.2.1, ← K7.2.2] at o
            rw [show V + 0 = V by first | rfl | omega, ← K7.2.1, ← K7.2.2] at va0
            obtain ⟨E10, i10, s10, la10, lb10⟩ := E7.met w0 o e8 e9 e10
            have t7 := (E7.gs w0).tyn
            have X10 := X7.met hg (r := r) (A := mL M7 (a + 97) V) (B := mL M7 (a + 98) V) (by rw [t7, ← vlf, vlg]; exact va0) e8 e9 e10
            refine ⟨E10.1.1, hQ M10 ⟨E10, by rw [i10, K7.1]; exact z16, by rw [s10.1]; exact l7, fun j hj => by rw [s10.2.1, e7, e6 j (by omega), e5 j hj, e4], by rw [i10, K7.1]; exact v6, fun j hj => ⟨by rw [la10, K7.2.1, (k6 j hj).1, K5.2.1, K4.2.1], by rw [lb10, K7.2.2, (k6 j hj).2, K5.2.2, K4.2.2]⟩, fun j hj => ?_⟩ (w1 (A := mL M7 (a + 97) V) (B := mL M7 (a + 98) V) (by rw [vlg, va0, q2]) (by rw [la10]; rfl) (by rw [lb10]; rfl)) X10⟩
            have j0 : j = 0 := by omega
            subst j0
            rw [q2, la10, lb10]
            exact o
      · -- a node with parts
        have hge := b4.tn.ge
        have nl : ¬ (so M g n = 1 ∨ so M g n = 2 ∨ so M g n = 12 ∨ so M g n = 13) := fun z => by unfold ari at b2; omega
        have hty : tyr (so M g n) k c (u 0) := by
          unfold tyn at b5
          rw [if_neg (by omega), if_neg (by omega), if_neg (by omega)] at b5
          exact b5
        obtain ⟨-, rs2, r1, r2, r3, r4, r5⟩ : fp M g n = ((n + 1 : Nat) : Int) ∧ ∃ rs : List (Nat × Nat), rs ≠ [] ∧ (∀ r, r ∈ rs → Eo ww 6 r.1 r.2) ∧ Tbq ww pl nv (so M g) (pm M g) (va M g) (fp M g) (np M g) (-1) rs (n + 1) e ∧ (so M g n ≠ 1 ∧ so M g n ≠ 2 ∧ so M g n ≠ 12 ∧ so M g n ≠ 13) ∧ (((so M g n ≠ 29 ∧ so M g n ≠ 30 ∧ so M g n ≠ 32) ∧ vlX ww pl xv nv (i, j) = vsq ww (cvn9 ww xv nv) pl rs (fnv (so M g n) (pm M g n) rs.length)) ∨ ((so M g n = 29 ∨ so M g n = 30) ∧ ∃ r1 r2, rs = [r1, r2] ∧ vlX ww pl xv nv (i, j) = vbd (vlX ww pl xv nv r1) (fun x y => if so M g n = 29 ↔ x = 0 then (0, x, y) else vlX ww pl xv nv r2)) ∨ (so M g n = 32 ∧ ∃ r1 r2 r3, rs = [r1, r2, r3] ∧ vlX ww pl xv nv (i, j) = vbd (vlX ww pl xv nv r1) (fun x _ => if x = 0 then vlX ww pl xv nv r3 else vlX ww pl xv nv r2))) := by
          rcases tn9 () with ⟨q, -⟩ | q
          · rw [b3] at q; omega
          · exact q
        have rk : rs2.length = k := tb_len2 r3 b4.tn b1
        by_cases cs : so M g n = 29 ∨ so M g n = 30 ∨ so M g n = 32
        · -- and, or, ask
          have k2 : 2 ≤ k := by unfold ari at b2; omega
          cases f with
          | zero => exact b4.elim
          | succ f1 =>
            have b4' := b4
            rw [Ty, if_neg (by omega), if_neg (by omega)] at b4'
            obtain ⟨m, q1, q2, q3⟩ := b4'
            have l1 := q2.tn.lt
            have l3 := q3.tn.ge
            -- the first part and the rest
            obtain ⟨ra, rt, rfl⟩ : ∃ ra rt, rs2 = ra :: rt := by
              cases rs2 with
              | nil => exact absurd rfl r1
              | cons r rs => exact ⟨r, rs, rfl⟩
            have lrt : rt.length = k - 1 := by simp only [List.length_cons] at rk; omega
            obtain ⟨rb, rt2, rfl⟩ : ∃ rb rt2, rt = rb :: rt2 := by
              cases rt with
              | nil => simp at lrt; omega
              | cons r rs => exact ⟨r, rs, rfl⟩
            obtain ⟨m', tb1, tb2, tb3⟩ := r3
            have em : m' = m := by omega
            subst em
            have eoa : Eo ww 6 ra.1 ra.2 := r2 ra (List.mem_cons_self ..)
            have vfa : vfX ww pl xv nv [ra] = if (vlX ww pl xv nv ra).1 = 0 then (0, 0, 1) else vlX ww pl xv nv ra := rfl
            -- a fault of the first part is the node's
            have xa : (vlX ww pl xv nv ra).1 ≠ 0 → vlX ww pl xv nv (i, j) = vlX ww pl xv nv ra := fun z => by
              rcases r5 with ⟨q, -⟩ | ⟨-, x1, x2, e1, e2⟩ | ⟨-, x1, x2, x3, e1, e2⟩
              · omega
              · have := (List.cons.inj e1).1
                subst this
                rw [e2, vbd, if_neg z]
              · have := (List.cons.inj e1).1
                subst this
                rw [e2, vbd, if_neg z]
            refine s_wo2 (n := n) (X := Lk) (s := 0) h h16 lk (Or.inl rfl) p0 pn (fun _ M4 t4 => ?_) (fun z => absurd z (by decide)) (fun z => absurd z (by decide)) (fun z => absurd z (by decide))
            obtain ⟨m4, l4, e4⟩ := t4
            have E4 := h.pile m4
            have K4 := kp99 h.1.2.1 m4
            have nd4 := E4.nod n
            refine (s_bg_first (X := Lk) E4.2.1 (by omega) (by rw [nd4.1]; exact cs) l4 (by omega)).mono (fun M5 t5 => ⟨t5.1, ?_⟩)
            obtain ⟨-, m5, l5, e5, x2, xn, x0, xf⟩ := t5
            rw [nd4.2.2.1] at xf
            have E5 := E4.pile m5
            have K5 := kp99 E4.1.2.1 m5
            refine ih f1 (by omega) 0 (n + 1) m' e0 (Lk + 2) V 1 c M5 [ra] (by omega) q2 ⟨fun x hx => by rw [List.mem_singleton.1 hx]; exact eoa, by rw [if_pos rfl]; exact ⟨ra.1, ra.2, rfl, tb1⟩⟩ (by omega) (by omega) he0 E5 ((hxv.pile hg h.1.2.1 m4).pile hg E4.1.2.1 m5) (by rw [K5.1, K4.1]; exact h16) (by rw [l5]) (fun j' hj' => ?_) (by rw [K5.1, K4.1]; exact hV) (by first | exact sbV (by omega) | omega) (by first | exact sbL (by omega) (by omega) | omega) (fun M6 l6 p6 => ?_) (fun M6 h6 x6 X6 => ?_)
            · have j0 : j' = 0 := by omega
              subst j0
              exact ⟨x0, xf.trans b3⟩
            · rw [vfa] at p6
              have z1 : (vlX ww pl xv nv ra).1 ≠ 0 := fun z => by rw [if_pos z] at p6; exact p6.1 rfl
              rw [if_neg z1] at p6
              have := xa z1
              exact w1x l6 (by rw [this]; exact z1) (by rw [this]; exact p6.2.1) (by rw [this]; exact p6.2.2)
            · have va0 := x6.2 0 (by simp)
              have va1 : (vlX ww pl xv nv ra).1 = 0 := by rw [show vlX ww pl xv nv ra = _ from va0]; rfl
              obtain ⟨E6, z16, l6, e6, v6, k6, o6⟩ := h6
              refine s_wo2 (n := n) (X := Lk) (s := 2) E6 z16 l6 (Or.inr (Or.inr (Or.inl rfl))) (by rw [e6 Lk (by omega)]; exact x2) (by rw [e6 (Lk + 1) (by omega)]; exact xn) (fun z => absurd z (by decide)) (fun z => absurd z (by decide)) (fun _ M7 t7 => ?_) (fun z => absurd z (by decide))
              obtain ⟨m7, l7, e7⟩ := t7
              have E7 := E6.pile m7
              have K7 := kp99 E6.1.2.1 m7
              have nd7 := E7.nod
              refine (x_MM_choose0 (d := d + 1) (V := V) (X := Lk) (c1 := n + 1) (c2 := m') E7.2.1 (by omega) (by rw [(nd7 n).2.2.1]; exact b3) (by omega) (by rw [(nd7 (n + 1)).2.2.2]; exact q1) (by omega) (by rw [K7.1]; exact v6) (by omega) l7 (by omega)).mono (fun M8 t8 => ⟨t8.1, ?_⟩)
              have lowT : ∀ j, j < Lk → nt M7 (a + 99) j = nt M2 (a + 99) j := fun j hj => by rw [e7, e6 j (by omega), e5 j hj, e4]
              have lowV : ∀ j, j < V → mL M7 (a + 97) j = mL M2 (a + 97) j ∧ mL M7 (a + 98) j = mL M2 (a + 98) j := fun j hj => ⟨by rw [K7.2.1, (k6 j hj).1, K5.2.1, K4.2.1], by rw [K7.2.2, (k6 j hj).2, K5.2.2, K4.2.2]⟩
              have u0t : c 0 = 1 := by
                unfold tyr at hty
                by_cases c32 : so M g n = 32
                · rw [if_neg (by omega), if_neg (by omega), if_pos c32] at hty
                  exact hty.1
                · rw [if_pos (by omega)] at hty
                  exact hty.1 0 (by omega)
              have va2 : vlX ww pl xv nv ra = (0, mL M7 (a + 97) V, 1) := by
                have q := show vlX ww pl xv nv ra = _ from va0
                rw [q, K7.2.1]
                unfold vr9
                rw [if_pos u0t]
                rfl
              have va3 : mL M7 (a + 97) V = 0 ∨ mL M7 (a + 97) V = 1 := by
                have o := o6 0 (by omega)
                rw [u0t, ← K7.2.1, ← K7.2.2] at o
                unfold vok at o
                rcases o with o | o
                · omega
                · exact o.2.1
              rcases t8.2 with ⟨y1, y3, y2⟩ | ⟨cc, hcc, m8, v8, f8, l8, e8, x8, y8⟩
              · subst y2
                rw [(nd7 n).1] at y1 y3
                refine hQ M8 ⟨E7, by rw [K7.1]; exact z16, l7, lowT, by rw [K7.1]; exact v6, lowV, fun j hj => ?_⟩ ?_ (X6.pile hg E6.1.2.1 m7)
                rotate_left
                · rcases r5 with ⟨q, -⟩ | ⟨q, x1, x2, e1, e2⟩ | ⟨q, -⟩
                  · omega
                  · have := (List.cons.inj e1).1
                    subst this
                    have hu1 : u 0 = 1 := by
                      unfold tyr at hty
                      rw [if_pos (by omega)] at hty
                      exact hty.2
                    have ob := (o6 0 (by omega))
                    rw [u0t, ← K7.2.1, ← K7.2.2] at ob
                    refine w1 (A := mL M8 (a + 97) V) (B := mL M8 (a + 98) V) ?_ rfl rfl
                    rw [e2, va2, vbd, if_pos rfl]
                    show (if so M g n = 29 ↔ mL M8 (a + 97) V = 0 then ((0, mL M8 (a + 97) V, 1) : vrs) else vlX ww pl xv nv x2) = _
                    rw [if_pos (by constructor <;> intro zz <;> omega)]
                    unfold vr9
                    rw [if_pos hu1]
                  · omega
                have j0 : j = 0 := by omega
                subst j0
                have o := o6 0 (by omega)
                rw [← K7.2.1, ← K7.2.2] at o
                unfold tyr at hty
                rw [if_pos (by omega)] at hty
                rw [hty.2, ← hty.1 0 (by omega)]
                exact o
              · have E8 := E7.step m8 (fun q hq => hq) (fun x hx => Or.inl hx) (fun i _ _ i3 => f8 i i3)
                have w7 := E7.1.2.1
                have in9 : ∀ q, q = a + 99 → q ∈ nums a := fun q hq => by rw [hq]; exact n99
                have l97 := (m8.cellL w7 in9 (offx (a := a) (o := 97) (by decide)) (by omega)).2
                have l98 := (m8.cellL w7 in9 (offx (a := a) (o := 98) (by decide)) (by omega)).2
                obtain ⟨n2, e2, f2, u2, d1, d2, d3, d4, d5, d6, rc, dr1, dr2, dr3⟩ : ∃ (n2 e2 f2 : Nat) (u2 : Nat → Int), cc = (n2 : Int) ∧ f2 < f1 + 1 + 1 ∧ Ty (nme True M g b W) (tn M g) M g f2 0 n2 e2 u2 ∧ u2 0 = u 0 ∧ m' ≤ n2 ∧ e2 ≤ e ∧ ∃ rc : Nat × Nat, Eo ww 6 rc.1 rc.2 ∧ Td ww pl nv (so M g) (pm M g) (va M g) (fp M g) (np M g) 0 0 rc.1 rc.2 n2 e2 ∧ vlX ww pl xv nv (i, j) = vlX ww pl xv nv rc := by
                  unfold tyr at hty
                  cases f1 with
                  | zero => exact q3.elim
                  | succ f2 =>
                    by_cases c32 : so M g n = 32
                    · have k3 : k = 3 := by unfold ari at b2; omega
                      subst k3
                      rw [if_neg (by omega), if_neg (by omega), if_pos c32] at hty
                      rw [Ty, if_neg (by omega), if_neg (by omega)] at q3
                      obtain ⟨m2, r1', r2', r3'⟩ := q3
                      have g1 := r2'.tn.lt
                      have g2 := r3'.tn.lt
                      obtain ⟨rd3, rfl⟩ : ∃ r, rt2 = [r] := by
                        cases rt2 with
                        | nil => simp at lrt
                        | cons r rs =>
                          cases rs with
                          | nil => exact ⟨r, rfl⟩
                          | cons r2 rs => simp at lrt
                      obtain ⟨m3, tc1, tc2, tc3⟩ := tb3
                      have em3 : m3 = m2 := by omega
                      subst em3
                      obtain ⟨x1, x2, x3, e1, e2⟩ : ∃ r1 r2 r3, ([ra, rb, rd3] : List (Nat × Nat)) = [r1, r2, r3] ∧ vlX ww pl xv nv (i, j) = vbd (vlX ww pl xv nv r1) (fun x _ => if x = 0 then vlX ww pl xv nv r3 else vlX ww pl xv nv r2) := by
                        rcases r5 with ⟨q, -⟩ | ⟨q, -⟩ | ⟨-, q⟩
                        · omega
                        · omega
                        · exact q
                      simp only [List.cons.injEq, and_true] at e1
                      obtain ⟨e1a, e1b, e1c⟩ := e1
                      subst e1a e1b e1c
                      rcases hcc with z | z
                      · refine ⟨m', m3, f2, _, z.1, by omega, r2', hty.2.1, Nat.le_refl _, by omega, rb, r2 rb (by simp), tc1, ?_⟩
                        rw [e2, va2, vbd, if_pos rfl]
                        show (if mL M7 (a + 97) V = 0 then _ else _) = _
                        rw [if_neg]
                        rw [(nd7 n).1] at z
                        omega
                      · cases f2 with
                        | zero => exact r3'.elim
                        | succ f3 =>
                          rw [Ty, if_neg (by omega), if_pos (by omega)] at r3'
                          refine ⟨m3, e, f3, _, z.2.1.trans ((nd7 m').2.2.2.trans r1'), by omega, r3'.2, hty.2.2, by omega, Nat.le_refl _, rd3, r2 rd3 (by simp), tc3.1, ?_⟩
                          rw [e2, va2, vbd, if_pos rfl]
                          show (if mL M7 (a + 97) V = 0 then _ else _) = _
                          rw [if_pos]
                          have := z.2.2
                          omega
                    · have k3 : k = 2 := by unfold ari at b2; omega
                      subst k3
                      rw [if_pos (by omega)] at hty
                      rw [Ty, if_neg (by omega), if_pos (by omega)] at q3
                      have rt0 : rt2 = [] := by
                        cases rt2 with
                        | nil => rfl
                        | cons r rs => simp at lrt
                      subst rt0
                      obtain ⟨x1, x2, e1, e2⟩ : ∃ r1 r2, ([ra, rb] : List (Nat × Nat)) = [r1, r2] ∧ vlX ww pl xv nv (i, j) = vbd (vlX ww pl xv nv r1) (fun x y => if so M g n = 29 ↔ x = 0 then (0, x, y) else vlX ww pl xv nv r2) := by
                        rcases r5 with ⟨q, -⟩ | ⟨-, q⟩ | ⟨q, -⟩
                        · omega
                        · exact q
                        · omega
                      simp only [List.cons.injEq, and_true] at e1
                      obtain ⟨e1a, e1b⟩ := e1
                      subst e1a e1b
                      rcases hcc with z | z
                      · refine ⟨m', e, f2, _, z.1, by omega, q3.2, (hty.1 1 (by omega)).trans hty.2.symm, Nat.le_refl _, Nat.le_refl _, rb, r2 rb (by simp), tb3.1, ?_⟩
                        rw [e2, va2, vbd, if_pos rfl]
                        show (if so M g n = 29 ↔ mL M7 (a + 97) V = 0 then _ else _) = _
                        rw [if_neg]
                        rw [(nd7 n).1] at z
                        omega
                      · exact absurd ((nd7 n).1.symm.trans z.1) c32
                have g3 := d3.tn.lt
                refine ih f2 d2 0 n2 e2 e0 Lk V 1 u2 M8 [rc] (by omega) d3 ⟨fun x hx => by rw [List.mem_singleton.1 hx]; exact dr1, by rw [if_pos rfl]; exact ⟨rc.1, rc.2, rfl, dr2⟩⟩ (by omega) (by omega) he0 E8 ((X6.pile hg E6.1.2.1 m7).st hg E7.1.2.1 m8 (fun q hq => hq) (fun x hx => Or.inl hx)) (by rw [f8 16 (by omega), K7.1]; exact z16) (by rw [l8]) (fun j hj => ?_) v8 (by first | exact sbV (by omega) | omega) (by first | exact sbL (by omega) (by omega) | omega) (fun M9 l9 p9 => hX M9 l9 (by rw [vf1, dr3]; exact p9)) (fun M9 h9 x9 X9 => hQ M9 ?_ ?_ X9)
                · have j0 : j = 0 := by omega
                  subst j0
                  exact ⟨x8, y8.trans d1⟩
                rotate_left
                · have q9 := x9.2 0 (by simp)
                  rw [d4] at q9
                  exact w1 (by rw [dr3]; exact q9) rfl rfl
                · obtain ⟨E9, y16, l9, e9, v9, k9, o9⟩ := h9
                  refine ⟨E9, y16, l9, fun j hj => by rw [e9 j hj, e8 j hj, lowT j hj], v9, fun j hj => ⟨by rw [(k9 j hj).1, l97, (lowV j hj).1], by rw [(k9 j hj).2, l98, (lowV j hj).2]⟩, fun j hj => ?_⟩
                  have j0 : j = 0 := by omega
                  subst j0
                  rw [← d4]
                  exact o9 0 hj
        · -- the parts first
          refine s_wo2 (n := n) (X := Lk) (s := 0) h h16 lk (Or.inl rfl) p0 pn (fun _ M4 t4 => ?_) (fun z => absurd z (by decide)) (fun z => absurd z (by decide)) (fun z => absurd z (by decide))
          obtain ⟨m4, l4, e4⟩ := t4
          have E4 := h.pile m4
          have K4 := kp99 h.1.2.1 m4
          have nd4 := E4.nod n
          refine (s_bg_parts (X := Lk) E4.2.1 (by omega) b1 (by rw [nd4.1]; omega) (by rw [nd4.2.2.1]; exact b3) (E4.tnn b4.tn) (by omega) l4 (by omega)).mono (fun M5 t5 => ⟨t5.1, ?_⟩)
          obtain ⟨-, m5, l5, e5, x1, xn, v5⟩ := t5
          have E5 := E4.pile m5
          have K5 := kp99 E4.1.2.1 m5
          have cie : ∀ j, ci M4 g (n + 1) j = ci M g (n + 1) j := ci_cg (fun k => (E4.nod k).2.2.2)
          refine ih f (by omega) k (n + 1) e e0 (Lk + 2) V k c M5 rs2 (by omega) b4 ⟨r2, by rw [if_neg (by omega)]; exact ⟨rk, r3⟩⟩ (by omega) he he0 E5 ((hxv.pile hg h.1.2.1 m4).pile hg E4.1.2.1 m5) (by rw [K5.1, K4.1]; exact h16) (by rw [l5]) (fun j hj => ⟨(v5 j hj).1, (v5 j hj).2.trans (cie j)⟩) (by rw [K5.1, K4.1]; exact hV) (by first | exact sbV (by omega) | omega) (by first | exact sbL (by omega) (by omega) | omega) (fun M6 l6 p6 => ?_) (fun M6 h6 x6 X6 => ?_)
          · have e9 : vlX ww pl xv nv (i, j) = vfX ww pl xv nv rs2 := by
              rcases r5 with ⟨-, q⟩ | ⟨q, -⟩ | ⟨q, -⟩
              · rw [q]; unfold vsq; rw [if_neg p6.1]
              · omega
              · omega
            exact w1x l6 (by rw [e9]; exact p6.1) (by rw [e9]; exact p6.2.1) (by rw [e9]; exact p6.2.2)
          have e9 : vlX ww pl xv nv (i, j) = fnv (so M g n) (pm M g n) k (fun t => vlX ww pl xv nv (rs2.getD t (0, 0))) := by
            rcases r5 with ⟨-, q⟩ | ⟨q, -⟩ | ⟨q, -⟩
            · rw [q]; unfold vsq; rw [if_pos x6.1, rk]
            · omega
            · omega
          obtain ⟨E6, z16, l6, e6, v6, k6, o6⟩ := h6
          refine s_wo2 (n := n) (X := Lk) (s := 1) E6 z16 l6 (Or.inr (Or.inl rfl)) (by rw [e6 Lk (by omega)]; exact x1) (by rw [e6 (Lk + 1) (by omega)]; exact xn) (fun z => absurd z (by decide)) (fun _ M7 t7 => ?_) (fun z => absurd z (by decide)) (fun z => absurd z (by decide))
          obtain ⟨m7, l7, e7⟩ := t7
          have E7 := E6.pile m7
          have K7 := kp99 E6.1.2.1 m7
          have nd7 := E7.nod n
          refine (x_MM_finish (d := d) (V := V) (k := k) (c := c) (t := u 0) E7.2.1 (by omega) b1 (by rw [nd7.1]; exact b2) (by rw [nd7.1]; omega) (by rw [nd7.2.2.1]; exact b3) (E7.tnn b4.tn) (by omega) (by rw [nd7.1]; exact hty) (fun j hj => by rw [K7.2.1, K7.2.2]; exact o6 j hj) (by rw [K7.1]; exact v6) (by omega)).mono (fun M8 t8 => ⟨t8.1, ?_⟩)
          obtain ⟨-, ⟨y1, y2, y3, y4⟩, y5⟩ := t8
          have ex : fnv (so M7 g n) (pm M7 g n) k (fun j => vr9 (c j) (mL M7 (a + 97) (V + j)) (mL M7 (a + 98) (V + j))) = vlX ww pl xv nv (i, j) := by
            rw [e9, nd7.1, E7.pm]
            refine fnv_cg b1 (by rw [← nd7.1, nd7.1]; exact b2) (fun t ht => ?_)
            rw [x6.2 t (by rw [rk]; exact ht), K7.2.1, K7.2.2]
          rw [ex] at y5
          have E8 := E7.step y1 (fun _ z => z.elim) (fun x hx => hx) y2
          have s8 := y1.lst (n99 (a := a)) (fun z => z)
          have z7 : mI M7 a 16 = 0 := by rw [K7.1]; exact z16
          by_cases z8 : mI M8 a 16 = 0
          rotate_left
          · have w8 := E8.1.2.1
            refine k_MM_workOut_19 E8.1.1 ?_
            rw [r24w w8]
            refine ⟨w8.1.1, (w8.nu n99).1, fun _ => ?_, fun q => absurd (Or.inr z8) q⟩
            rcases y5 with ⟨q1, q2, q3⟩ | ⟨q2, -⟩
            · exact w1x E8 q1 q2 q3
            · rw [q2] at z8; exact absurd z7 z8
          have z := z8
          refine hQ M8 ?_ ?_ ((X6.pile hg E6.1.2.1 m7).st hg E7.1.2.1 y1 (fun _ z => z.elim) (fun x hx => hx))
          rotate_left
          · rcases y5 with ⟨q1, q2, -⟩ | ⟨-, q2⟩
            · rw [z] at q2; exact absurd q2.symm q1
            · exact w1 q2 rfl rfl
          rcases y4 with y | ⟨w1', w2, w3⟩
          · exact absurd z y
          · refine ⟨E8, z, by rw [s8.1]; exact l7, fun j hj => by rw [s8.2.1, e7, e6 j (by omega), e5 j hj, e4], w2, fun j hj => ⟨by rw [(y3 j hj).1, K7.2.1, (k6 j hj).1, K5.2.1, K4.2.1], by rw [(y3 j hj).2, K7.2.2, (k6 j hj).2, K5.2.2, K4.2.2]⟩, fun j hj => ?_⟩
            have j0 : j = 0 := by omega
            subst j0
            exact w3
    · rw [if_neg c0] at ht htb
      obtain ⟨hlen, htb⟩ := htb
      have kkm : kk = md := by omega
      subst kkm
      by_cases c1 : kk = 1
      · subst c1
        rw [if_pos rfl] at ht
        obtain ⟨r, rfl⟩ : ∃ r, rs = [r] := by
          cases rs with
          | nil => simp at hlen
          | cons r rs =>
            cases rs with
            | nil => exact ⟨r, rfl⟩
            | cons r2 rs => simp at hlen
        exact ih f (by omega) 0 n e e0 Lk V 1 u M2 [r] (by omega) ht.2 ⟨hrs, by rw [if_pos rfl]; exact ⟨r.1, r.2, rfl, htb.1⟩⟩ hn0 he he0 h hxv h16 lk pk hV hVh hLh hX hQ
      · rw [if_neg c1] at ht
        obtain ⟨m, q1, q2, q3⟩ := ht
        have l1 := q2.tn.lt
        have l2 := q3.tn.ge
        obtain ⟨r, r2, rs2, rfl⟩ : ∃ r r2 rs2, rs = r :: r2 :: rs2 := by
          cases rs with
          | nil => simp at hlen; omega
          | cons r rs =>
            cases rs with
            | nil => simp at hlen; omega
            | cons r2 rs => exact ⟨r, r2, rs, rfl⟩
        obtain ⟨m', tb1, tb2, tb3⟩ := htb
        have em : m' = m := by omega
        subst em
        have eor : Eo ww 6 r.1 r.2 := hrs r (List.mem_cons_self ..)
        have vfc : vfX ww pl xv nv (r :: r2 :: rs2) = if (vlX ww pl xv nv r).1 = 0 then vfX ww pl xv nv (r2 :: rs2) else vlX ww pl xv nv r := rfl
        have vf1 : vfX ww pl xv nv [r] = if (vlX ww pl xv nv r).1 = 0 then (0, 0, 1) else vlX ww pl xv nv r := rfl
        refine ih f (by omega) 0 n m' e0 (Lk + 2 * (kk - 1)) V 1 u M2 [r] (by omega) q2 ⟨fun x hx => by rw [List.mem_singleton.1 hx]; exact eor, by rw [if_pos rfl]; exact ⟨r.1, r.2, rfl, tb1⟩⟩ hn0 (by omega) he0 h hxv h16 (by rw [lk]; omega) (fun j hj => ?_) hV (by first | exact sbV (by omega) | omega) (by first | exact sbL (by omega) (by omega) | omega) (fun M3 l3 p3 => hX M3 l3 (by
          rw [vf1] at p3
          have z1 : (vlX ww pl xv nv r).1 ≠ 0 := fun z => by rw [if_pos z] at p3; exact p3.1 rfl
          rw [if_neg z1] at p3
          rw [vfc, if_neg z1]
          exact p3)) (fun M3 h3 x3 X3 => ?_)
        · have j0 : j = 0 := by omega
          subst j0
          have := pk 0 (by omega)
          rw [show Lk + 2 * (kk - 1) + 2 * (1 - 1 - 0) = Lk + 2 * (kk - 1 - 0) by first | rfl | omega]
          exact this
        · obtain ⟨g1, g2, g3, g4, g5, g6, g7⟩ := h3
          have va0 := x3.2 0 (by simp)
          have va1 : (vlX ww pl xv nv r).1 = 0 := by rw [show vlX ww pl xv nv r = _ from va0]; rfl
          refine ih f (by omega) (kk - 1) m' e e0 Lk (V + 1) (kk - 1) (fun j => u (j + 1)) M3 (r2 :: rs2) (by omega) q3 ⟨fun x hx => hrs x (List.mem_cons_of_mem _ hx), by rw [if_neg (by omega)]; exact ⟨by simp only [List.length_cons] at hlen ⊢; omega, tb3⟩⟩ (by omega) he he0 g1 X3 g2 g3 (fun j hj => ?_) g5 (by first | exact sbV (by omega) | omega) (by first | exact sbL (by omega) (by omega) | omega) (fun M4 l4 p4 => hX M4 l4 (by rw [vfc, if_pos va1]; exact p4)) (fun M4 h4 x4 X4 => hQ M4 ?_ ?_ X4)
          · have := pk (j + 1) (by omega)
            rw [ci_succ q1, show Lk + 2 * (kk - 1 - (j + 1)) = Lk + 2 * (kk - 1 - 1 - j) by first | rfl | omega] at this
            rw [g4 _ (by omega), g4 _ (by omega)]
            exact this
          · obtain ⟨f1, f2, f3, f4, f5, f6, f7⟩ := h4
            refine ⟨f1, f2, f3, fun j hj => by rw [f4 j hj, g4 j (by omega)], by rw [f5]; omega, fun j hj => ⟨by rw [(f6 j (by omega)).1, (g6 j hj).1], by rw [(f6 j (by omega)).2, (g6 j hj).2]⟩, fun j hj => ?_⟩
            cases j with
            | zero =>
              rw [(f6 (V + 0) (by omega)).1, (f6 (V + 0) (by omega)).2]
              exact g7 0 (by omega)
            | succ j =>
              have := f7 j (by omega)
              rw [show V + 1 + j = V + (j + 1) by first | rfl | omega] at this
              exact this
          · obtain ⟨f1, f2, f3, f4, f5, f6, f7⟩ := h4
            refine ⟨by rw [vfc, if_pos va1]; exact x4.1, fun t ht => ?_⟩
            cases t with
            | zero =>
              rw [(f6 (V + 0) (by omega)).1, (f6 (V + 0) (by omega)).2]
              exact va0
            | succ t =>
              have := x4.2 t (by simp only [List.length_cons] at ht ⊢; omega)
              rw [show V + 1 + t = V + (t + 1) by first | rfl | omega] at this
              exact this
end WRT
section WTT
variable {G : mG} {d a g R W T : Nat} {M : mM} {E : Nat → Nat} {ww pl nv : Nat → Int} {xv : Int → vrs}
/-- a rule has been worked out in a state, or a fault told -/
def wrkT (M : mM) (a g R W T : Nat) (xv : Int → vrs) (t : Int) (v : vrs) (M' : mM) : Prop := wrkQ True M a g R W T t M' ∧ (mI M a 16 = 0 → fvq M' a v ∨ (mI M' a 16 = 0 ∧ v = vr9 t (mL M' (a + 97) 0) (mL M' (a + 98) 0) ∧ XVq M' a g R W xv))
theorem x_MM_workOutT {b f n e i j : Nat} {t : Int} (hx : XVq M a g R W xv) (h : Ev True M a g R W T) (hF : Fm M g R W T E) (hFx : FmX ww pl xv M g R E) (hb : b ≤ R) (hbE : ∀ r : Nat, r < b → mI M (g + 13) r ≠ 0 → E r ≤ n) (eo : Eo ww 6 i j) (tm : Td ww pl nv (so M g) (pm M g) (va M g) (fp M g) (np M g) 0 0 i j n e) (ht : Ty (nme True M g b W) (tn M g) M g f 0 n e (fun _ => t)) (he : e ≤ T) : Cv G y_MM_workOut (d + 4) [vr a, vr g, vi n] M (fun M' => mOk M' ∧ wrkT M a g R W T xv t (vlX ww pl xv nv (i, j)) M') := by
  obtain ⟨hO, w, hg, hd, hB, -, -⟩ := id h
  have hlt := ht.tn.lt
  refine k_MM_workOut hO (i32s (by omega) (by omega)) ⟨w.1.1, fun M2 e2 => ?_⟩
  obtain ⟨m2, f2⟩ := mv_fld (v := 0) ⟨by omega, by omega⟩ hO w e2
  have E2 : EO True M a g R W T M2 := (EO.refl h).step m2 (fun _ z => z.elim) (fun x hx => Or.inl hx) (fun i _ _ i3 => by rw [f2, if_neg i3])
  have X2 := hx.st hg w m2 (fun _ z => z.elim) (fun x hx => Or.inl hx)
  have w2 := m2.2.1
  rw [r24w w2]
  refine ⟨(w2.nu n99).1, fun M5 e5 => ?_⟩
  have b99 : 0 ≤ ln M2 (a + 99) := (w2.nu n99).2.2.2.1.1
  obtain ⟨m5, l5, -, -⟩ := mv_set m2.1 w2 n99 (v := 0) (by omega) b99 e5
  have E5 := E2.pile m5
  have X5 := X2.pile hg w2 m5
  have K5 := kp99 w2 m5
  refine (s_MM_todo (d := d + 2) (X := 0) ⟨by omega, by omega⟩ (i32s (by omega) (by omega)) m5.1 m5.2.1 l5 (by omega)).mono (fun M7 t7 => ⟨t7.1, ?_⟩)
  obtain ⟨o7, m7, l7, -, x7, y7⟩ := t7
  have E7 := E5.pile m7
  have X7 := X5.pile hg m5.2.1 m7
  have K7 := kp99 E5.1.2.1 m7
  have z17 : mI M7 a 16 = mI M a 16 := by rw [K7.1, K5.1, f2, if_neg (by omega)]
  by_cases z : mI M7 a 16 = 0
  · refine x_wo_runT h hF hFx b nv n hb hbE f 0 n e e 0 0 1 (fun _ => t) M7 [(i, j)] (by omega) ht ⟨fun r hr => by rw [List.mem_singleton.1 hr]; exact eo, by rw [if_pos rfl]; exact ⟨i, j, rfl, tm⟩⟩ (Nat.le_refl _) (Nat.le_refl _) he E7 X7 z l7 (fun j hj => ?_) (by rw [K7.1, K5.1, f2, if_pos rfl]; rfl) (by omega) (by omega) (fun M3 l3 p3 => ?_) (fun M8 h8 x8 X8 => ?_)
    · have j0 : j = 0 := by omega
      subst j0
      exact ⟨x7, y7⟩
    · have p3' : fvq M3 a (if (vlX ww pl xv nv (i, j)).1 = 0 then (0, 0, 1) else vlX ww pl xv nv (i, j)) := p3
      have z1 : (vlX ww pl xv nv (i, j)).1 ≠ 0 := fun z => by rw [if_pos z] at p3'; exact p3'.1 rfl
      rw [if_neg z1] at p3'
      exact ⟨l3.1.1, ⟨l3, Or.inl (by rw [p3'.2.1]; exact z1)⟩, fun _ => Or.inl p3'⟩
    · obtain ⟨E8, z16, l8, -, -, -, o8⟩ := h8
      have w8 := E8.1.2.1
      have l8' : mI M8 (a + 99) 1 = 0 := l8
      refine k_MM_workOut_19 E8.1.1 ?_
      rw [r24w w8, l8']
      exact ⟨w8.1.1, (w8.nu n99).1, fun _ => ⟨E8.1.1, ⟨E8, Or.inr ⟨z16, o8 0 (by omega)⟩⟩, fun _ => Or.inr ⟨z16, x8.2 0 (by simp), X8⟩⟩, fun q => absurd (Or.inl (Int.le_refl _)) q⟩
  · have w := E7.1.2.1
    refine k_MM_workOut_19 E7.1.1 ?_
    rw [r24w w]
    exact ⟨w.1.1, (w.nu n99).1, fun _ => ⟨E7.1.1, ⟨E7, Or.inl z⟩, fun y => absurd (z17.trans y) z⟩, fun q => absurd (Or.inr z) q⟩
end WTT
end
section
/-! The reference's game in pure words; rules are reached in a state. -/
section RGP
/-- a root, and the words that it stands for -/
def Rtq (ww pl : Nat → Int) (XV : List Int → Int → vrs) (ev : List Int → Nat → Nat → vrs) (M : mM) (g R W T : Nat) (E : Eg9) (n t : Int) (i j : Nat) : Prop := ∃ (n' b f e : Nat) (nv : Nat → Int), (n = (n' : Int) ∧ b ≤ R ∧ (∀ r : Nat, r < b → mI M (g + 13) r ≠ 0 → E.1 r ≤ n') ∧ Ty (nme True M g b W) (tn M g) M g f 0 n' e (fun _ => t) ∧ e ≤ T) ∧ Eo ww 6 i j ∧ Td ww pl nv (so M g) (pm M g) (va M g) (fp M g) (np M g) 0 0 i j n' e ∧ ∀ sg, vlX ww pl (XV sg) nv (i, j) = ev sg i j
/-- a branch -/
def RBr (ww pl : Nat → Int) (XV : List Int → Int → vrs) (ev : List Int → Nat → Nat → vrs) (M : mM) (g R W T : Nat) (E : Eg9) (x : Nat) (br : br9) : Prop := mI M (g + 27) x = br.1 ∧ Rtq ww pl XV ev M g R W T E (mI M (g + 26) x) 0 br.2.1.1 br.2.1.2 ∧ mI M (g + 29) x = ((br.2.2.length : Nat) : Int) ∧ ∃ fs : Nat, mI M (g + 28) x = (fs : Int) ∧ ∀ (i : Nat) (q : Nat × Nat × Nat × Nat), br.2.2[i]? = some q → nt M (g + 30) (fs + i) = ((q.1 : Nat) : Int) ∧ nt M (g + 32) (fs + i) = pl q.2.2.2 ∧ q.1 < W ∧ Rtq ww pl XV ev M g R W T E (nt M (g + 34) (fs + i)) (tn M g (100 + (q.1 : Int))) q.2.1 q.2.2.1
/-- a command -/
def RCm (ww pl : Nat → Int) (XV : List Int → Int → vrs) (ev : List Int → Nat → Nat → vrs) (M : mM) (g R W T : Nat) (E : Eg9) (c : Nat) (cm : cm9) : Prop := ((cm.1 = 1 ∧ mI M (g + 22) c = 0) ∨ (cm.1 = 2 ∧ mI M (g + 22) c ≠ 0)) ∧ mI M (g + 23) c = cm.2.1 ∧ Rtq ww pl XV ev M g R W T E (mI M (g + 24) c) 1 cm.2.2.1.1 cm.2.2.1.2 ∧ mI M (g + 25) c = ((cm.2.2.2.length : Nat) : Int) ∧ ∀ (b : Nat) (x : br9), cm.2.2.2[b]? = some x → RBr ww pl XV ev M g R W T E (8 * c + b) x
/-- the game -/
def GP (ww pl : Nat → Int) (XV : List Int → Int → vrs) (ev : List Int → Nat → Nat → vrs) (M : mM) (g R W C T : Nat) (E : Eg9) (tgI : Nat × Nat) (cms : List cm9) (lo hi : Nat → Int) : Prop := (∀ sg, FmX ww pl (XV sg) M g R E.1) ∧ (∀ sg (r : Nat), r < R → mI M (g + 13) r = 0 → XV sg (r : Int) = vr9 (tn M g r) (mL M (g + 16) r) (mL M (g + 17) r)) ∧ (∀ sg (v : Nat), v < W → XV sg (100 + (v : Int)) = (0, sg.getD v 0, 1)) ∧ (∀ v : Nat, v < W → mI M (g + 19) v = lo v ∧ mI M (g + 20) v = hi v) ∧ Rtq ww pl XV ev M g R W T E (mI M g 17) 1 tgI.1 tgI.2 ∧ cms.length = C ∧ ∀ (c : Nat) (cm : cm9), cms[c]? = some cm → RCm ww pl XV ev M g R W T E c cm
variable {G : mG} {d a g T R W C Z : Nat} {M M' M2 : mM} {E : Eg9} {tg : Int} {ww pl lo hi : Nat → Int} {XV : List Int → Int → vrs} {ev : List Int → Nat → Nat → vrs} {tgI : Nat × Nat} {cms : List cm9} {sg : List Int}
theorem gs_nt (k : Gs M M' g) {q : Nat} (hq : gL9 g q) : nt M' q = nt M q := funext (fun j => (k.2.2 q hq).2 j)
theorem gs_gn (k : Gs M M' g) : Gn M g R W T M' := ⟨fun n _ => ⟨(k.2.2 (g + 1) (by first | exact tLk1 g | exact gLk1 g | omega)).2 n, (k.2.2 (g + 7) (by first | exact tLk7 g | exact gLk7 g | omega)).2 n, (k.2.2 (g + 9) (by first | exact tLk9 g | exact gLk9 g | omega)).2 n, (k.2.2 (g + 11) (by first | exact tLk11 g | exact gLk11 g | omega)).2 n, (k.2.2 (g + 3) (by first | exact tLk3 g | exact gLk3 g | omega)).2 n⟩, fun r _ => ⟨by rw [(k.2.1 13 (by omega) (by omega)).1], by rw [(k.2.1 14 (by omega) (by omega)).1]⟩, fun v _ => by rw [(k.2.1 18 (by omega) (by omega)).1]⟩
theorem Rtq.gs {n t : Int} {i j : Nat} (h : Rtq ww pl XV ev M g R W T E n t i j) (k : Gs M M' g) (hR : R ≤ 60) : Rtq ww pl XV ev M' g R W T E n t i j := by
  obtain ⟨n', b, f, e, nv, ⟨h1, h2, h3, h4, h5⟩, h6, h7, h8⟩ := h
  refine ⟨n', b, f, e, nv, ⟨h1, h2, fun r hr z => h3 r hr (by rw [← (k.2.1 13 (by omega) (by omega)).1]; exact z), (gs_gn (R := R) (W := W) (T := T) k).ty hR h2 h5 h4, h5⟩, h6, ?_, h8⟩
  show Td ww pl nv (nt M' (g + 1)) (nt M' (g + 3)) (nt M' (g + 7)) (nt M' (g + 9)) (nt M' (g + 11)) 0 0 i j n' e
  rw [gs_nt k (q := g + 1) (by omega), gs_nt k (q := g + 3) (by omega), gs_nt k (q := g + 7) (by omega), gs_nt k (q := g + 9) (by omega), gs_nt k (q := g + 11) (by omega)]
  exact h7
theorem RBr.gs {x : Nat} {br : br9} (h : RBr ww pl XV ev M g R W T E x br) (k : Gs M M' g) (hR : R ≤ 60) : RBr ww pl XV ev M' g R W T E x br := by
  obtain ⟨h1, h2, h3, fs, h4, h5⟩ := h
  unfold RBr
  rw [(k.2.1 27 (by omega) (by omega)).1, (k.2.1 26 (by omega) (by omega)).1, (k.2.1 29 (by omega) (by omega)).1, (k.2.1 28 (by omega) (by omega)).1, gs_nt k (q := g + 30) (by omega), gs_nt k (q := g + 32) (by omega), gs_nt k (q := g + 34) (by omega), gs_tn k]
  exact ⟨h1, h2.gs k hR, h3, fs, h4, fun i q hq => ⟨(h5 i q hq).1, (h5 i q hq).2.1, (h5 i q hq).2.2.1, (h5 i q hq).2.2.2.gs k hR⟩⟩
theorem RCm.gs {c : Nat} {cm : cm9} (h : RCm ww pl XV ev M g R W T E c cm) (k : Gs M M' g) (hR : R ≤ 60) : RCm ww pl XV ev M' g R W T E c cm := by
  obtain ⟨h1, h2, h3, h4, h5⟩ := h
  unfold RCm
  rw [(k.2.1 22 (by omega) (by omega)).1, (k.2.1 23 (by omega) (by omega)).1, (k.2.1 24 (by omega) (by omega)).1, (k.2.1 25 (by omega) (by omega)).1]
  exact ⟨h1, h2, h3.gs k hR, h4, fun b x hb => (h5 b x hb).gs k hR⟩
theorem GP.gs (h : GP ww pl XV ev M g R W C T E tgI cms lo hi) (k : Gs M M' g) (hR : R ≤ 60) : GP ww pl XV ev M' g R W C T E tgI cms lo hi := by
  obtain ⟨h1, h2, h3, h4, h5, h6, h7⟩ := h
  refine ⟨fun sg r hr z => ?_, fun sg r hr z => ?_, h3, ?_, ?_, h6, fun c cm hc => (h7 c cm hc).gs k hR⟩
  · rw [(k.2.1 13 (by omega) (by omega)).1] at z
    obtain ⟨n, nv, i, j, e1, e2, e3, e4⟩ := h1 sg r hr z
    refine ⟨n, nv, i, j, by rw [(k.2.1 15 (by omega) (by omega)).1]; exact e1, e2, ?_, e4⟩
    show Td ww pl nv (nt M' (g + 1)) (nt M' (g + 3)) (nt M' (g + 7)) (nt M' (g + 9)) (nt M' (g + 11)) 0 0 i j n (E.1 r)
    rw [gs_nt k (q := g + 1) (by omega), gs_nt k (q := g + 3) (by omega), gs_nt k (q := g + 7) (by omega), gs_nt k (q := g + 9) (by omega), gs_nt k (q := g + 11) (by omega)]
    exact e3
  · rw [(k.2.1 13 (by omega) (by omega)).1] at z
    rw [gs_tn k, (k.2.1 16 (by omega) (by omega)).2, (k.2.1 17 (by omega) (by omega)).2]
    exact h2 sg r hr z
  · rw [(k.2.1 19 (by omega) (by omega)).1, (k.2.1 20 (by omega) (by omega)).1]
    exact h4
  · rw [k.1]
    exact h5.gs k hR
/-- what reaching comes to -/
def reX (v : vrs) (t : Int) (xv : Int → vrs) (a g R W : Nat) (M' : mM) : Prop := fvq M' a v ∨ (mI M' a 16 = 0 ∧ v = vr9 t (mL M' (a + 97) 0) (mL M' (a + 98) 0) ∧ XVq M' a g R W xv)
theorem x_MM_reach {n t : Int} {i j : Nat} (h : GG M a g T R W C Z E tg) (hn : En M a g R W) (hf : ∀ sg, FmX ww pl (XV sg) M g R E.1) (hx : XVq M a g R W (XV sg)) (hr : Rtq ww pl XV ev M g R W T E n t i j) (z16 : mI M a 16 = 0) : Cv G y_MM_reach (d + 5) [vr a, vi n] M (fun M' => mOk M' ∧ reQ M a g T R W C Z E tg t M' ∧ reX (ev sg i j) t (XV sg) a g R W M') := by
  obtain ⟨n', b, f, e, nv, ⟨r1, r2, r3, r4, r5⟩, r6, r7, r8⟩ := hr
  subst r1
  have ev' := h.ev hn
  have w := h.2.1
  have hg := h.2.2.1.2
  have hT := h.2.2.2.2.1
  have hlt := r4.tn.lt
  refine k_MM_reach h.1 (i32s (by omega) (by omega)) ⟨w.1.1, ?_⟩
  rw [h.2.2.1.1]
  refine (x_MM_workOutT (d := d) hx ev' h.2.2.2.2.2.2.2.1.2.2.1 (hf sg) r2 r3 r6 r7 r4 r5).mono (fun M' t' => ?_)
  obtain ⟨o', ⟨E', v'⟩, u'⟩ := t'
  have xr' : xr M a M' := ⟨E'.1, E'.2.2⟩
  have x : xe M a M' := xr'.xe w
  have gs := x.gs w hg
  rw [r8 sg] at u'
  refine ⟨o', o', ⟨xr', x.gg h, ⟨fun r hr q1 q2 => (E'.2.1.2.2.2.2.2.1 r hr).2 trivial q1 q2, fun v hv => ?_⟩, v'⟩, u' z16⟩
  rw [(gs.2.1 19 (by omega) (by omega)).1, (gs.2.1 20 (by omega) (by omega)).1, (E'.gs w).2.2.2.2.2.2]
  exact hn.2 v hv
end RGP
end
section
/-! The reference: a state is entered, exactly. -/
section ENX
variable {G : mG} {d a g T R W C Z : Nat} {M M' : mM} {E : Eg9} {tg : Int} {P S : Nat → Prop} {ww pl lo hi : Nat → Int} {XV : List Int → Int → vrs} {ev : List Int → Nat → Nat → vrs} {tgI : Nat × Nat} {cms : List cm9} {sg : List Int}
theorem x_MM_enter {k : Nat} (h : GG M a g T R W C Z E tg) (hk : k < 512) (hv : ∀ v : Nat, v < W → mI M (g + 19) v ≤ mI M (a + 105) (12 * k + v) ∧ mI M (a + 105) (12 * k + v) ≤ mI M (g + 20) v) : Cv G y_MM_enter d [vr a, vi k] M (fun M' => mOk M' ∧ Mv (fun _ => False) (fun x => x = a + 101 ∨ x = a + 102) M a M' ∧ En M' a g R W ∧ (∀ v : Nat, v < W → mI M' (a + 101) v = mI M (a + 105) (12 * k + v)) ∧ ∀ r : Nat, r < R → mI M' (a + 102) r = 0) := by
  have hO := h.1
  have w := h.2.1
  have hg := h.2.2.1.2
  have hBd := h.2.2.2.2.2.2.2.1.1
  have g6 := h.2.2.2.2.2.1.1
  have g12 := h.2.2.2.2.2.1.2.1
  have r9 := h.2.2.1.1
  have ik : i32 (k : Int) := i32s (by omega) (by omega)
  have no : ∀ q : Nat, False → q ∈ nums a := fun _ z => z.elim
  have gsl : ∀ {Mx : mM}, Mv (fun _ => False) (fun x => x = a + 101 ∨ x = a + 102) M a Mx → Gs M Mx g := fun m => gs_st w hg m no (fun _ z => z.elim) (fun x hx => by omega)
  -- the formulas are forgotten
  have L2 : ∀ (c r : Nat) (M2 : mM), r + c = R → Mv (fun _ => False) (fun x => x = a + 101 ∨ x = a + 102) M a M2 → (∀ v : Nat, v < W → mI M2 (a + 101) v = mI M (a + 105) (12 * k + v)) → (∀ r' : Nat, r' < r → mI M2 (a + 102) r' = 0) → h_MM_enter_38 G d a r M2 (fun M' => mOk M' ∧ Mv (fun _ => False) (fun x => x = a + 101 ∨ x = a + 102) M a M' ∧ En M' a g R W ∧ (∀ v : Nat, v < W → mI M' (a + 101) v = mI M (a + 105) (12 * k + v)) ∧ ∀ r : Nat, r < R → mI M' (a + 102) r = 0) := by
    intro c
    induction c with
    | zero =>
      intro r M2 hr m2 n2 f2
      have er : r = R := by omega
      subst er
      have w2 := m2.2.1
      have gs := gsl m2
      refine k_MM_enter_38 m2.1 (i32s (by omega) (by omega)) ⟨w2.1.1, ?_⟩
      rw [m2.rfl_a w no, r9, gs.1, g6]
      refine ⟨(w2.gp hg).1, fun _ => ⟨m2.1, m2, ⟨fun r hr _ q => absurd (f2 r hr) q, fun v hv' => ?_⟩, n2, f2⟩, fun q => absurd (Int.le_refl _) q⟩
      rw [(gs.2.1 19 (by omega) (by omega)).1, (gs.2.1 20 (by omega) (by omega)).1, n2 v hv']
      exact hv v hv'
    | succ c ih =>
      intro r M2 hr m2 n2 f2
      have w2 := m2.2.1
      have gs := gsl m2
      have A2 : mK M2 (a + 102) = 31 ∧ mN M2 (a + 102) = 60 := w2.1.2.2.2.2.2.2.2.1.2.2.2.1
      refine k_MM_enter_38 m2.1 (i32s (by omega) (by omega)) ⟨w2.1.1, ?_⟩
      rw [show mR M2 a 26 = a + 102 from w2.1.2.2.2.2.1.2.2.2.2.2.2.2.2.2.2.1, m2.rfl_a w no, r9, gs.1, g6, Int.toNat_natCast]
      refine ⟨(w2.gp hg).1, fun q => absurd q (by omega), fun _ => ⟨A2.1, by rw [A2.2]; omega, fun M3 e3 => ?_⟩⟩
      obtain ⟨m3, f3, l3⟩ := mv_cell (v := 0) ⟨by decide, by decide⟩ m2.1 w2 (show a ≤ a + 102 by omega) (offx (a := a) (o := 102) (by decide)) e3
      have nx := ih (r + 1) M3 (by omega) (m2.trans (m3.mono (fun _ z => z.elim) (fun x z => Or.inr z) (fun _ z => z.elim))) (fun v hv' => by rw [f3, if_neg (fun z => by omega)]; exact n2 v hv') (fun r' hr' => ?_)
      · rw [show ((r + 1 : Nat) : Int) = (r : Int) + 1 by first | rfl | omega] at nx
        exact nx
      · rw [f3]
        by_cases z : r' = r
        · rw [if_pos ⟨rfl, z⟩]
        · rw [if_neg (fun y => z y.2)]
          exact f2 r' (by omega)
  refine k_MM_enter hO ik ?_
  suffices L1 : ∀ (c v : Nat) (M2 : mM), v + c = W → Mv (fun _ => False) (fun x => x = a + 101 ∨ x = a + 102) M a M2 → mI M2 (a + 105) = mI M (a + 105) → (∀ v' : Nat, v' < v → mI M2 (a + 101) v' = mI M (a + 105) (12 * k + v')) → h_MM_enter_2 G d a k v M2 (fun M' => mOk M' ∧ Mv (fun _ => False) (fun x => x = a + 101 ∨ x = a + 102) M a M' ∧ En M' a g R W ∧ (∀ v : Nat, v < W → mI M' (a + 101) v = mI M (a + 105) (12 * k + v)) ∧ ∀ r : Nat, r < R → mI M' (a + 102) r = 0) from L1 W 0 M (by omega) (Mv.refl hO w (fun _ z => z.elim)) rfl (fun v hv' => absurd hv' (by omega))
  intro c
  induction c with
  | zero =>
    intro v M2 hc m2 e105 n2
    have ev : v = W := by omega
    subst ev
    have w2 := m2.2.1
    have gs := gsl m2
    refine k_MM_enter_2 m2.1 ik (i32s (by omega) (by omega)) ⟨w2.1.1, ?_⟩
    rw [m2.rfl_a w no, r9, gs.1, g12]
    exact ⟨(w2.gp hg).1, fun _ => L2 R 0 M2 (by omega) m2 n2 (fun r hr => absurd hr (by omega)), fun q => absurd (Int.le_refl _) q⟩
  | succ c ih =>
    intro v M2 hc m2 e105 n2
    have w2 := m2.2.1
    have gs := gsl m2
    have A1 : mK M2 (a + 101) = 30 ∧ mN M2 (a + 101) = 12 := w2.1.2.2.2.2.2.2.2.1.2.2.1
    have A5 : mK M2 (a + 105) = 30 ∧ mN M2 (a + 105) = 6144 := w2.1.2.2.2.2.2.2.2.2.1.1
    have r31 : mR M2 a 31 = a + 105 := w2.1.2.2.2.2.2.1.1
    have r25 : mR M2 a 25 = a + 101 := w2.1.2.2.2.2.1.2.2.2.2.2.2.2.2.2.1
    have e9 : mR M2 a 9 = g := by rw [m2.rfl_a w no]; exact r9
    refine k_MM_enter_2 m2.1 ik (i32s (by omega) (by omega)) ⟨w2.1.1, ?_⟩
    rw [r31, r25, e9, gs.1, g12, Int.toNat_natCast, show 12 * (k : Int) + (v : Int) = ((12 * k + v : Nat) : Int) by first | rfl | omega, Int.toNat_natCast, e105]
    refine ⟨(w2.gp hg).1, fun q => absurd q (by omega), fun _ => ⟨A5.1, by rw [A5.2]; omega, A1.1, by rw [A1.2]; omega, fun M3 e3 => ?_⟩⟩
    obtain ⟨m3, f3, l3⟩ := mv_cell (hO _ _).1 m2.1 w2 (show a ≤ a + 101 by omega) (offx (a := a) (o := 101) (by decide)) e3
    have nx := ih (v + 1) M3 (by omega) (m2.trans (m3.mono (fun _ z => z.elim) (fun x z => Or.inl z) (fun _ z => z.elim))) (by rw [← e105]; exact m3.cell w2 no (by omega) (offx (a := a) (o := 105) (by decide)).2.1 (offx (a := a) (o := 105) (by decide)).2.2 (by omega)) (fun v' hv' => ?_)
    · rw [show ((v + 1 : Nat) : Int) = (v : Int) + 1 by first | rfl | omega] at nx
      exact nx
    · rw [f3]
      by_cases z : v' = v
      · rw [if_pos ⟨rfl, z⟩, z]
      · rw [if_neg (fun y => z y.2)]
        exact n2 v' (by omega)
/-- a state's values -/
def lsR (M : mM) (a W k : Nat) : List Int := (List.range W).map (fun v => mI M (a + 105) (12 * k + v))
theorem getD_mp {V v : Nat} {f : Nat → Int} (h : v < V) : ((List.range V).map f).getD v 0 = f v := by
  rw [List.getD_eq_getElem?_getD, List.getElem?_map, List.getElem?_range h]
  rfl
/-- the state is entered: names are worth what they are worth there -/
theorem xv_ent (h : GG M' a g T R W C Z E tg) (hp : GP ww pl XV ev M' g R W C T E tgI cms lo hi) (h1 : ∀ v : Nat, v < W → mI M' (a + 101) v = sg.getD v 0) (h2 : ∀ r : Nat, r < R → mI M' (a + 102) r = 0) : XVq M' a g R W (XV sg) := by
  refine ⟨fun r hr => ⟨fun z => hp.2.1 sg r hr z, fun _ z => absurd (h2 r hr) z⟩, fun v hv => ?_⟩
  obtain ⟨v1, v2, v3, v4, v5, v6⟩ := h.2.2.2.2.2.2.2.1.2.2.2.1 v hv
  have e : tn M' g (100 + (v : Int)) = mI M' (g + 18) v := by
    unfold tn
    rw [if_pos (show (100 : Int) ≤ 100 + (v : Int) by omega), show (100 + (v : Int) - 100).toNat = v by first | rfl | omega]
    rcases v6 with y | y <;> rw [y] <;> rfl
  rw [hp.2.2.1 sg v hv, e, h1 v hv]
  unfold vr9
  rcases v6 with y | y
  · rw [y]; rfl
  · rw [y]; rfl
/-- a step elsewhere leaves the names' values -/
theorem XVq.mv {xv : Int → vrs} (h : XVq M a g R W xv) (w : Wd M a) (m : Mv P S M a M') (hin : ∀ q, P q → q ∈ nums a) (gs : Gs M M' g) (hS : ∀ x, S x → ¬ (a + 101 ≤ x ∧ x ≤ a + 104)) : XVq M' a g R W xv := by
  have c101 := m.cellL w hin (offx (a := a) (o := 101) (by decide)) (fun z => hS _ z (by omega))
  have c102 := m.cellL w hin (offx (a := a) (o := 102) (by decide)) (fun z => hS _ z (by omega))
  have c103 := m.cellL w hin (offx (a := a) (o := 103) (by decide)) (fun z => hS _ z (by omega))
  have c104 := m.cellL w hin (offx (a := a) (o := 104) (by decide)) (fun z => hS _ z (by omega))
  unfold XVq
  rw [gs_tn gs, c101.1, c102.1, c103.2, c104.2, (gs.2.1 13 (by omega) (by omega)).1, (gs.2.1 16 (by omega) (by omega)).2, (gs.2.1 17 (by omega) (by omega)).2, (gs.2.1 18 (by omega) (by omega)).1]
  exact h
end ENX
end
section
/-! The reference: the chances of a command, exactly. -/
section CHX
variable {G : mG} {d a g T R W C Z nb : Nat} {M M' : mM} {E : Eg9} {tg : Int} {ww pl lo hi : Nat → Int} {XV : List Int → Int → vrs} {ev : List Int → Nat → Nat → vrs} {tgI : Nat × Nat} {cms : List cm9} {sg : List Int}
/-- the first n chances -/
def lchR (M : mM) (a n : Nat) : List (Int × Int) := (List.range n).map (fun b => (mL M (a + 21189) b, mL M (a + 21190) b))
theorem lchR_len {n : Nat} : (lchR M a n).length = n := by
  unfold lchR
  rw [List.length_map, List.length_range]
theorem lchR_s {n : Nat} : lchR M a (n + 1) = lchR M a n ++ [(mL M (a + 21189) n, mL M (a + 21190) n)] := by
  unfold lchR
  rw [List.range_succ, List.map_append]
  rfl
theorem lchR_cg {n : Nat} (h : ∀ b, b < n → mL M' (a + 21189) b = mL M (a + 21189) b ∧ mL M' (a + 21190) b = mL M (a + 21190) b) : lchR M' a n = lchR M a n := by
  unfold lchR
  exact List.map_congr_left (fun b hb => by rw [(h b (List.mem_range.mp hb)).1, (h b (List.mem_range.mp hb)).2])
theorem lchR_get {n b : Nat} (h : b < n) : (lchR M a n)[b]? = some (mL M (a + 21189) b, mL M (a + 21190) b) := by
  unfold lchR
  rw [List.getElem?_map, List.getElem?_range h]
  rfl
theorem lchR_drop {n b : Nat} (h : b < n) : (lchR M a n).drop b = (mL M (a + 21189) b, mL M (a + 21190) b) :: (lchR M a n).drop (b + 1) := by
  obtain ⟨hl, he⟩ := List.getElem?_eq_some_iff.mp (lchR_get (M := M) (a := a) h)
  rw [List.drop_eq_getElem_cons hl, he]
theorem gcd_un {x A B : Int} (h1 : 1 ≤ x) (h2 : x ∣ A) (h3 : x ∣ B) (h4 : ∀ z : Int, z ∣ A → z ∣ B → z ∣ x) : x = (Int.gcd A B : Int) := by
  have d1 : x ∣ (Int.gcd A B : Int) := Int.dvd_coe_gcd h2 h3
  have d2 : (Int.gcd A B : Int) ∣ x := h4 _ (Int.gcd_dvd_left ..) (Int.gcd_dvd_right ..)
  exact Int.dvd_antisymm (by omega) (by omega) d1 d2
theorem Gs.trans {M2 : mM} (h : Gs M M2 g) (k : Gs M2 M' g) : Gs M M' g := ⟨k.1.trans h.1, fun i i1 i2 => ⟨(k.2.1 i i1 i2).1.trans (h.2.1 i i1 i2).1, (k.2.1 i i1 i2).2.trans (h.2.1 i i1 i2).2⟩, fun q hq => ⟨(k.2.2 q hq).1.trans (h.2.2 q hq).1, fun j => ((k.2.2 q hq).2 j).trans ((h.2.2 q hq).2 j)⟩⟩
/-- a fault of chances -/
def chE (ch : (Int × Int) × List (Int × Int)) (pc : Int) (M' : mM) (a : Nat) : Prop := (ch.1.1 ≠ 0 ∧ mI M' a 16 = ch.1.1 ∧ mI M' a 17 = ch.1.2) ∨ (ch.1.1 = 0 ∧ muq9 ch.2 1 = 0 ∧ mI M' a 16 = 6 ∧ mI M' a 17 = pc)
/-- what chances come to -/
def chY (ch : (Int × Int) × List (Int × Int)) (pc : Int) (nb : Nat) (xv : Int → vrs) (a g R W : Nat) (x : Int) (M' : mM) : Prop := chE ch pc M' a ∨ (ch.1.1 = 0 ∧ muq9 ch.2 1 ≠ 0 ∧ mI M' a 16 = 0 ∧ x = muq9 ch.2 1 ∧ lchR M' a nb = ch.2 ∧ XVq M' a g R W xv)
theorem x_ch129 {c nb : Nat} {pc : Int} {xv : Int → vrs} {ch : (Int × Int) × List (Int × Int)} (hc : c < C) (ipl : i32 pc) (hnb : nb ≤ 8) : ∀ (t b : Nat) (j : Int) (M2 : mM), b + t = nb → xg M a g T R W C Z E tg M2 → mI M2 (g + 25) c = (nb : Int) → i64 j → (mI M2 a 16 = 0 → chk1 M2 a nb ∧ 1 ≤ j ∧ j < 1000000000 ∧ ∀ b' : Nat, b' < b → mL M2 (a + 21190) b' ∣ j) → (mI M2 a 16 = 0 → ch = ((0, 0), lchR M2 a nb) ∧ muq9 ch.2 1 = muq9 (ch.2.drop b) j ∧ XVq M2 a g R W xv) → (mI M2 a 16 ≠ 0 → chE ch pc M2 a) → h_MM_chances_129 G d a c pc j b M2 (fun x M' => i64 x ∧ mOk M' ∧ chQ M a g T R W C Z E tg nb x M' ∧ chY ch pc nb xv a g R W x M') := by
  intro t
  induction t with
  | zero =>
    intro b j M2 hb h h25 ij hj hz hf
    have eb : b = nb := by omega
    subst eb
    have gg := h.2.1
    have w2 := gg.2.1
    have hg := gg.2.2.1.2
    have hBd := gg.2.2.2.2.2.2.2.1.1
    refine k_MM_chances_129 gg.1 (i32s (by omega) (by omega)) ipl ij (i32s (by omega) (by omega)) ⟨w2.1.1, ?_⟩
    rw [gg.2.2.1.1, show mR M2 g 22 = g + 25 from (w2.gp hg).2.2.1.2.2.2.2.2.2.2.1, Int.toNat_natCast, h25]
    have b60 : ((0 : Int) ≤ (c : Int) ∧ (c : Int) < ((60 : Nat) : Int)) := by omega
    refine ⟨(w2.gp hg).1, (w2.gp hg).2.2.2.2.2.2.2.2.1.1, by rw [(w2.gp hg).2.2.2.2.2.2.2.2.1.2]; exact b60, fun _ => ⟨ij, gg.1, ⟨ij, h, ?_⟩, ?_⟩, fun q => absurd (Or.inl (Int.le_refl _)) q⟩
    · by_cases z : mI M2 a 16 = 0
      · exact Or.inr ⟨z, hj z⟩
      · exact Or.inl z
    · by_cases z : mI M2 a 16 = 0
      · obtain ⟨z1, z2, z3⟩ := hz z
        obtain ⟨-, j1, -⟩ := hj z
        have e2 : ch.2 = lchR M2 a b := by rw [z1]
        have e3 : muq9 ch.2 1 = j := by
          rw [z2, e2, List.drop_eq_nil_of_le (by rw [lchR_len]; exact Nat.le_refl _)]
          rfl
        exact Or.inr ⟨by rw [z1], by rw [e3]; omega, z, e3.symm, e2.symm, z3⟩
      · exact Or.inl (hf z)
  | succ t ih =>
    intro b j M2 hb h h25 ij hj hz hf
    have gg := h.2.1
    have w2 := gg.2.1
    have hg := gg.2.2.1.2
    have hBd := gg.2.2.2.2.2.2.2.1.1
    have b60 : ((0 : Int) ≤ (c : Int) ∧ (c : Int) < ((60 : Nat) : Int)) := by omega
    have b8 : ((0 : Int) ≤ (b : Int) ∧ (b : Int) < ((8 : Nat) : Int)) := by omega
    have ib : i32 (b : Int) := i32s (by omega) (by omega)
    have ic : i32 (c : Int) := i32s (by omega) (by omega)
    have hbn : b < nb := by omega
    refine k_MM_chances_129 gg.1 ic ipl ij ib ⟨w2.1.1, ?_⟩
    rw [gg.2.2.1.1, show mR M2 g 22 = g + 25 from (w2.gp hg).2.2.1.2.2.2.2.2.2.2.1, Int.toNat_natCast, h25, (r4546 w2).1.2, Int.toNat_natCast]
    refine ⟨(w2.gp hg).1, (w2.gp hg).2.2.2.2.2.2.2.2.1.1, by rw [(w2.gp hg).2.2.2.2.2.2.2.2.1.2]; exact b60, fun q => ⟨ij, gg.1, ⟨ij, h, Or.inl ?_⟩, Or.inl (hf ?_)⟩, fun q => ?_⟩
    · rcases q with q | q
      · omega
      · exact q
    · rcases q with q | q
      · omega
      · exact q
    have z2 : mI M2 a 16 = 0 := Classical.byContradiction (fun z => q (Or.inr z))
    obtain ⟨c1, j1, j2, j3⟩ := hj z2
    obtain ⟨z1, zm, zx⟩ := hz z2
    obtain ⟨e1, e2, e3, e4⟩ := c1 b hbn
    refine ⟨(r4546 w2).2.2.1, by rw [(r4546 w2).2.2.2]; exact b8, (s_MM_divisor2 (by omega) ⟨by omega, by omega, by omega⟩ gg.1).mono (fun x M3 h3 => ?_)⟩
    obtain ⟨em, x1, x2, hxa, hxb, hxc⟩ := h3
    have xg9 : x = (Int.gcd j (mL M2 (a + 21190) b) : Int) := gcd_un x1 hxa hxb hxc
    obtain ⟨u, hu⟩ := hxa
    obtain ⟨v, hv⟩ := hxb
    subst em
    have xne : x ≠ 0 := by omega
    have td : Int.tdiv j x = u := by rw [hu]; exact Int.mul_tdiv_cancel_left u xne
    have u0 : 0 < u := by
      by_cases y : 0 < u
      · exact y
      · have := Int.mul_le_mul_of_nonneg_left (show u ≤ 0 by omega) (show 0 ≤ x by omega)
        rw [← hu] at this
        omega
    have u1 : u ≤ j := by
      have := Int.mul_le_mul_of_nonneg_right x1 (show 0 ≤ u by omega)
      rw [← hu] at this
      omega
    have pr : 0 ≤ u * mL M3 (a + 21190) b ∧ u * mL M3 (a + 21190) b ≤ 1000000000 * 1000000000 := ⟨Int.mul_nonneg (by omega) (by omega), Int.mul_le_mul (by omega) (by omega) (by omega) (by omega)⟩
    have p1 : 1 ≤ u * mL M3 (a + 21190) b := by
      have := Int.mul_le_mul (show 1 ≤ u by omega) e3 (by omega) (by omega)
      omega
    have ip : i64 (u * mL M3 (a + 21190) b) := ⟨by omega, by omega⟩
    have dv : ∀ b' : Nat, b' < b + 1 → mL M3 (a + 21190) b' ∣ u * mL M3 (a + 21190) b := fun b' hb' => by
      by_cases y : b' = b
      · rw [y]; exact Int.dvd_mul_left u _
      · refine Int.dvd_trans (j3 b' (by omega)) ?_
        rw [hu, hv, show u * (x * v) = x * u * v by rw [← Int.mul_assoc, Int.mul_comm u x]]
        exact Int.dvd_mul_right (x * u) v
    have uq : j / x = u := by rw [hu]; exact Int.mul_ediv_cancel_left u xne
    have mq : muq9 (ch.2.drop b) j = if 1000000000 ≤ u * mL M3 (a + 21190) b then 0 else muq9 (ch.2.drop (b + 1)) (u * mL M3 (a + 21190) b) := by
      have e2 : ch.2 = lchR M3 a nb := by rw [z1]
      rw [e2, lchR_drop hbn]
      show (if 1000000000 ≤ j / (Int.gcd j (mL M3 (a + 21190) b) : Int) * mL M3 (a + 21190) b then 0 else muq9 ((lchR M3 a nb).drop (b + 1)) (j / (Int.gcd j (mL M3 (a + 21190) b) : Int) * mL M3 (a + 21190) b)) = _
      rw [← xg9, uq]
    rw [(r4546 w2).1.2, td]
    refine ⟨⟨by omega, by omega⟩, gg.1, xne, w2.1.1, (r4546 w2).2.2.1, by rw [(r4546 w2).2.2.2]; exact b8, ip, fun q6 => ?_, fun q6 => ?_⟩
    · refine k_MM_chances_187 gg.1 ic ipl ip ib ?_
      rw [show (b : Int) + 1 = ((b + 1 : Nat) : Int) by first | rfl | omega]
      have q7 := (cmpz _ _).2.2.1.1 q6
      exact ih (b + 1) _ M3 (by omega) h h25 ip (fun _ => ⟨c1, p1, q7, dv⟩) (fun _ => ⟨z1, by rw [zm, mq, if_neg (by omega)], zx⟩) hf
    · refine (s_MM_stop ⟨by decide, by decide⟩ ipl gg.1 w2).mono (fun M4 h4 => ⟨h4.1.1, ?_⟩)
      have X4 := h.stp h4
      refine k_MM_chances_187 h4.1.1 ic ipl ip ib ?_
      rw [show (b : Int) + 1 = ((b + 1 : Nat) : Int) by first | rfl | omega]
      have q7 : 1000000000 ≤ u * mL M3 (a + 21190) b := by
        by_cases y : u * mL M3 (a + 21190) b < 1000000000
        · exact absurd ((cmpz _ _).2.2.1.2 y) q6
        · omega
      refine ih (b + 1) _ M4 (by omega) X4 ?_ ip (fun z => ?_) (fun z => ?_) (fun _ => Or.inr ⟨by rw [z1], by rw [zm, mq, if_pos q7], h4.2.1, h4.2.2.1⟩)
      · have gs := gs_st (P := fun _ => False) (S := fun x => x = a) w2 hg h4.1 (fun _ z => z.elim) (fun _ z => z.elim) (fun x z => by omega)
        rw [(gs.2.1 25 (by omega) (by omega)).1]
        exact h25
      · rw [h4.2.1] at z
        exact absurd z (by decide)
      · rw [h4.2.1] at z
        exact absurd z (by decide)
theorem x_MM_chances {c nb : Nat} {pc : Int} {cm : cm9} (h : GG M a g T R W C Z E tg) (hn : En M a g R W) (hp : GP ww pl XV ev M g R W C T E tgI cms lo hi) (hx : XVq M a g R W (XV sg)) (z16 : mI M a 16 = 0) (hcm : cms[c]? = some cm) (hc : c < C) (ipl : i32 pc) (hnb : mI M (g + 25) c = (nb : Int)) : Cj G y_MM_chances (d + 6) [vr a, vi c, vi pc] M (fun x M' => i64 x ∧ mOk M' ∧ chQ M a g T R W C Z E tg nb x M' ∧ chY (chq9 ev sg cm.2.2.2) pc nb (XV sg) a g R W x M') := by
  have hg := h.2.2.1.2
  have hBd := h.2.2.2.2.2.2.2.1.1
  have nb8 : nb ≤ 8 := by
    have := (h.2.2.2.2.2.2.2.1.2.2.2.2.1 c hc).2.2.1
    omega
  have ic : i32 (c : Int) := i32s (by omega) (by omega)
  refine k_MM_chances h.1 ic ipl ?_
  suffices H : ∀ (t b : Nat) (M2 : mM), b + t = nb → xg M a g T R W C Z E tg M2 → mI M2 (g + 25) c = (nb : Int) → (mI M2 a 16 = 0 → chk1 M2 a b) → (mI M2 a 16 = 0 → chq9 ev sg cm.2.2.2 = ((chq9 ev sg (cm.2.2.2.drop b)).1, lchR M2 a b ++ (chq9 ev sg (cm.2.2.2.drop b)).2) ∧ XVq M2 a g R W (XV sg)) → (mI M2 a 16 ≠ 0 → chE (chq9 ev sg cm.2.2.2) pc M2 a) → h_MM_chances_2 G (d + 5) a c pc b M2 (fun x M' => i64 x ∧ mOk M' ∧ chQ M a g T R W C Z E tg nb x M' ∧ chY (chq9 ev sg cm.2.2.2) pc nb (XV sg) a g R W x M') from H nb 0 M (by omega) ⟨xe.refl h.1 h.2.1, h, hn⟩ hnb (fun _ b' hb' => absurd hb' (by omega)) (fun _ => ⟨rfl, hx⟩) (fun z => absurd z16 z)
  have hR := h.2.2.2.2.2.2.2.1.1.1
  have hlen : cm.2.2.2.length = nb := by
    have e := (hp.2.2.2.2.2.2 c cm hcm).2.2.2.1
    rw [hnb] at e
    omega
  intro t
  induction t with
  | zero =>
    intro b M2 hb x h25 hch hz hf
    have eb : b = nb := by omega
    subst eb
    have gg := x.2.1
    have w2 := gg.2.1
    have b60 : ((0 : Int) ≤ (c : Int) ∧ (c : Int) < ((60 : Nat) : Int)) := by omega
    refine k_MM_chances_2 gg.1 ic ipl (i32s (by omega) (by omega)) ⟨w2.1.1, ?_⟩
    rw [gg.2.2.1.1, show mR M2 g 22 = g + 25 from (w2.gp hg).2.2.1.2.2.2.2.2.2.2.1, Int.toNat_natCast, h25]
    exact ⟨(w2.gp hg).1, (w2.gp hg).2.2.2.2.2.2.2.2.1.1, by rw [(w2.gp hg).2.2.2.2.2.2.2.2.1.2]; exact b60, fun _ => x_ch129 hc ipl nb8 b 0 1 M2 (by omega) x h25 ⟨by decide, by decide⟩ (fun z => ⟨hch z, by decide, by decide, fun b' hb' => absurd hb' (by omega)⟩) (fun z => by
      obtain ⟨z1, z2⟩ := hz z
      have e9 : chq9 ev sg cm.2.2.2 = ((0, 0), lchR M2 a b) := by
        rw [z1, List.drop_eq_nil_of_le (by omega)]
        show ((0, 0), lchR M2 a b ++ []) = _
        rw [List.append_nil]
      exact ⟨e9, by rw [e9]; rfl, z2⟩) hf, fun q => absurd (Or.inl (Int.le_refl _)) q⟩
  | succ t ih =>
    intro b M2 hb x h25 hch hz hf
    have gg := x.2.1
    have w2 := gg.2.1
    have b60 : ((0 : Int) ≤ (c : Int) ∧ (c : Int) < ((60 : Nat) : Int)) := by omega
    have b8 : ((0 : Int) ≤ (b : Int) ∧ (b : Int) < ((8 : Nat) : Int)) := by omega
    have b480 : ((0 : Int) ≤ ((8 * c + b : Nat) : Int) ∧ ((8 * c + b : Nat) : Int) < ((480 : Nat) : Int)) := by omega
    have ib : i32 (b : Int) := i32s (by omega) (by omega)
    have bc := (gg.2.2.2.2.2.2.2.1.2.2.2.2.1 c hc).2.2.2 b (by rw [h25]; omega)
    refine k_MM_chances_2 gg.1 ic ipl ib ⟨w2.1.1, ?_⟩
    rw [gg.2.2.1.1, show mR M2 g 22 = g + 25 from (w2.gp hg).2.2.1.2.2.2.2.2.2.2.1, show mR M2 g 23 = g + 26 from (w2.gp hg).2.2.1.2.2.2.2.2.2.2.2.1, Int.toNat_natCast, h25, show 8 * (c : Int) + (b : Int) = ((8 * c + b : Nat) : Int) by first | rfl | omega, Int.toNat_natCast, Int.toNat_natCast]
    refine ⟨(w2.gp hg).1, (w2.gp hg).2.2.2.2.2.2.2.2.1.1, by rw [(w2.gp hg).2.2.2.2.2.2.2.2.1.2]; exact b60, fun q => ?_, fun q => ⟨(w2.gp hg).2.2.2.2.2.2.2.2.2.1.1, by rw [(w2.gp hg).2.2.2.2.2.2.2.2.2.1.2]; exact b480, ?_⟩⟩
    · have z2 : ¬ (mI M2 a 16 = 0) := by
        rcases q with q | q
        · omega
        · exact q
      exact x_ch129 hc ipl nb8 nb 0 1 M2 (by omega) x h25 ⟨by decide, by decide⟩ (fun z => absurd z z2) (fun z => absurd z z2) hf
    have z2 : mI M2 a 16 = 0 := Classical.byContradiction (fun z => q (Or.inr z))
    have hch := hch z2
    obtain ⟨zq, zx⟩ := hz z2
    obtain ⟨br, hbr⟩ : ∃ br : br9, cm.2.2.2[b]? = some br := ⟨_, List.getElem?_eq_getElem (by omega)⟩
    have gsM : Gs M M2 g := x.1.gs h.2.1 hg
    have rb := ((hp.2.2.2.2.2.2 c cm hcm).2.2.2.2 b br hbr).gs gsM hR
    have dq : cm.2.2.2.drop b = br :: cm.2.2.2.drop (b + 1) := by
      obtain ⟨hl, he⟩ := List.getElem?_eq_some_iff.mp hbr
      rw [List.drop_eq_getElem_cons hl, he]
    rw [dq] at zq
    have hf2 : ∀ sg, FmX ww pl (XV sg) M2 g R E.1 := (hp.gs gsM hR).1
    refine (x_MM_reach (d := d) gg x.2.2 hf2 zx rb.2.1 z2).mono (fun M3 t3 => ?_)
    obtain ⟨o3, ⟨xr3, gg3, en3, v3⟩, u3⟩ := t3
    have x3 := xr3.xe w2
    have X3 : xg M a g T R W C Z E tg M3 := ⟨x.1.trans x3, gg3, en3⟩
    have w3 := gg3.2.1
    have gs3 := x3.gs w2 hg
    have nw : ∀ o, 21188 ≤ o → ¬ woS a (a + o) := fun o ho z => by
      have z' : a + o = a ∨ a + o = a + 97 ∨ a + o = a + 98 ∨ a + o = a + 102 ∨ a + o = a + 103 ∨ a + o = a + 104 := z
      omega
    have k89 := (xr3.1.cellL w2 in99 (offx (a := a) (o := 21189) (by decide)) (nw _ (by omega))).2
    have k90 := (xr3.1.cellL w2 in99 (offx (a := a) (o := 21190) (by decide)) (nw _ (by omega))).2
    have B3 : mR M3 a 21 = a + 97 ∧ mR M3 a 22 = a + 98 := ⟨w3.1.2.2.2.2.1.2.2.2.2.2.2.1, w3.1.2.2.2.2.1.2.2.2.2.2.2.2.1⟩
    have A3 : (mK M3 (a + 97) = 33 ∧ mN M3 (a + 97) = 16400) ∧ (mK M3 (a + 98) = 33 ∧ mN M3 (a + 98) = 16400) := ⟨w3.1.2.2.2.2.2.2.2.1.1, w3.1.2.2.2.2.2.2.2.1.2.1⟩
    rw [B3.1, (r4546 w3).1.1]
    refine ⟨o3, w3.1.1, A3.1.1, by rw [A3.1.2]; decide, (r4546 w3).2.1.1, by rw [(r4546 w3).2.1.2]; exact b8, fun M4 e4 => ?_⟩
    obtain ⟨m4, f4, n4, i4⟩ := mv_ulx (o3 _ _).2 o3 w3 e4
    have X4 := X3.st m4 (fun _ z => z.elim) (fun y z => Or.inr (Or.inr (by omega))) (fun i _ _ _ => by rw [i4])
    have w4 := X4.2.1.2.1
    have B4 : mR M4 a 21 = a + 97 ∧ mR M4 a 22 = a + 98 := ⟨w4.1.2.2.2.2.1.2.2.2.2.2.2.1, w4.1.2.2.2.2.1.2.2.2.2.2.2.2.1⟩
    have A4 : (mK M4 (a + 97) = 33 ∧ mN M4 (a + 97) = 16400) ∧ (mK M4 (a + 98) = 33 ∧ mN M4 (a + 98) = 16400) := ⟨w4.1.2.2.2.2.2.2.2.1.1, w4.1.2.2.2.2.2.2.2.1.2.1⟩
    rw [B4.2, (r4546 w4).1.2, n4 (a + 98) (by omega)]
    refine ⟨A4.2.1, by rw [A4.2.2]; decide, (r4546 w4).2.2.1, by rw [(r4546 w4).2.2.2]; exact b8, fun M5 e5 => ?_⟩
    obtain ⟨m5, f5, n5', i5⟩ := mv_ulx (o3 _ _).2 m4.1 w4 e5
    have X5 := X4.st m5 (fun _ z => z.elim) (fun y z => Or.inr (Or.inr (by omega))) (fun i _ _ _ => by rw [i5])
    have w5 := X5.2.1.2.1
    have B5 : mR M5 a 21 = a + 97 ∧ mR M5 a 22 = a + 98 := ⟨w5.1.2.2.2.2.1.2.2.2.2.2.2.1, w5.1.2.2.2.2.1.2.2.2.2.2.2.2.1⟩
    have A5 : (mK M5 (a + 97) = 33 ∧ mN M5 (a + 97) = 16400) ∧ (mK M5 (a + 98) = 33 ∧ mN M5 (a + 98) = 16400) := ⟨w5.1.2.2.2.2.2.2.2.1.1, w5.1.2.2.2.2.2.2.2.1.2.1⟩
    have iA : mI M5 = mI M3 := by rw [i5, i4]
    have l97 : mL M5 (a + 97) = mL M3 (a + 97) := by rw [n5' _ (by omega), n4 _ (by omega)]
    have l98 : mL M5 (a + 98) = mL M3 (a + 98) := by rw [n5' _ (by omega), n4 _ (by omega)]
    have q89 : ∀ k, mL M5 (a + 21189) k = if k = b then mL M3 (a + 97) 0 else mL M2 (a + 21189) k := fun k => by rw [n5' _ (by omega), f4, k89]
    have q90 : ∀ k, mL M5 (a + 21190) k = if k = b then mL M3 (a + 98) 0 else mL M2 (a + 21190) k := fun k => by rw [f5, n4 _ (by omega), k90]
    have h25' : mI M5 (g + 25) c = (nb : Int) := by rw [iA, (gs3.2.1 25 (by omega) (by omega)).1]; exact h25
    rw [B5.1, B5.2, l97, l98, X5.2.1.2.2.1.1, show mR M5 g 24 = g + 27 from (w5.gp hg).2.2.1.2.2.2.2.2.2.2.2.2.1]
    have z35 : mI M5 a 16 = 0 → vok 0 (mL M3 (a + 97) 0) (mL M3 (a + 98) 0) := fun z => by
      rw [iA] at z
      rcases v3 with y | ⟨-, y⟩
      · exact absurd z y
      · exact y
    have x35 : Mv (fun _ => False) (fun y => a + 21189 ≤ y ∧ y ≤ a + 21190) M3 a M5 := (m4.mono (fun _ z => z) (fun y z => by omega) (fun _ z => z.elim)).trans (m5.mono (fun _ z => z) (fun y z => by omega) (fun _ z => z.elim))
    have gs35 := gs_st w3 hg x35 (fun _ z => z.elim) (fun _ z => z.elim) (fun y z => by omega)
    have lR : lchR M5 a (b + 1) = lchR M2 a b ++ [(mL M3 (a + 97) 0, mL M3 (a + 98) 0)] := by
      rw [lchR_s, q89, q90, if_pos rfl, if_pos rfl, lchR_cg (M := M2) (fun b' hb' => by rw [q89, q90, if_neg (by omega), if_neg (by omega)]; exact ⟨rfl, rfl⟩)]
    have nx : ∀ M6, xg M a g T R W C Z E tg M6 → mI M6 (g + 25) c = (nb : Int) → (mI M6 a 16 = 0 → chk1 M6 a (b + 1)) → (mI M6 a 16 = 0 → chq9 ev sg cm.2.2.2 = ((chq9 ev sg (cm.2.2.2.drop (b + 1))).1, lchR M6 a (b + 1) ++ (chq9 ev sg (cm.2.2.2.drop (b + 1))).2) ∧ XVq M6 a g R W (XV sg)) → (mI M6 a 16 ≠ 0 → chE (chq9 ev sg cm.2.2.2) pc M6 a) → h_MM_chances_118 G (d + 5) a c pc b M6 (fun x M' => i64 x ∧ mOk M' ∧ chQ M a g T R W C Z E tg nb x M' ∧ chY (chq9 ev sg cm.2.2.2) pc nb (XV sg) a g R W x M') := fun M6 X6 k25 kc kz kf => by
      refine k_MM_chances_118 X6.2.1.1 ic ipl ib ?_
      rw [show (b : Int) + 1 = ((b + 1 : Nat) : Int) by first | rfl | omega]
      exact ih (b + 1) M6 (by omega) X6 k25 kc kz kf
    refine ⟨fun _ => ⟨A5.1.1, by rw [A5.1.2]; decide, fun _ => ⟨by rw [A5.1.2]; decide, A5.2.1, by rw [A5.2.2]; decide⟩⟩, fun q5 => ?_, fun q5 => ?_⟩
    · refine ⟨(w5.gp hg).1, (w5.gp hg).2.2.2.2.2.2.2.2.2.2.1.1, by rw [(w5.gp hg).2.2.2.2.2.2.2.2.2.2.1.2]; exact b480, (s_MM_stop ⟨by decide, by decide⟩ (m5.1 _ _).1 m5.1 w5).mono (fun M6 h6 => ⟨h6.1.1, nx M6 (X5.stp h6) ?_ (fun z => ?_) (fun z => ?_) (fun _ => Or.inl ?_)⟩)⟩
      · have gs := gs_st (P := fun _ => False) (S := fun x => x = a) w5 hg h6.1 (fun _ z => z.elim) (fun _ z => z.elim) (fun x z => by omega)
        rw [(gs.2.1 25 (by omega) (by omega)).1]
        exact h25'
      · rw [h6.2.1] at z
        exact absurd z (by decide)
      · rw [h6.2.1] at z
        exact absurd z (by decide)
      · have z3 : mI M3 a 16 = 0 := by rw [← iA]; exact q5.1
        rcases u3 with u3 | ⟨-, u3, -⟩
        · exact absurd (u3.2.1.symm.trans z3) u3.1
        have c1 := (cmpz (mL M3 (a + 97) 0) 0).2.2.1
        have c2 := (cmpz (mL M3 (a + 97) 0) (mL M3 (a + 98) 0)).2.1
        have q6 := q5.2
        rw [c1, c2] at q6
        have e9 : chq9 ev sg (br :: cm.2.2.2.drop (b + 1)) = ((11, br.1), []) := chq_r (by rw [u3]; rfl) (by rw [u3]; show mL M3 (a + 97) 0 < 0 ∨ (if (0 : Int) = 1 then (1 : Int) else mL M3 (a + 98) 0) < mL M3 (a + 97) 0; rw [if_neg (by decide)]; omega)
        rw [zq, e9]
        refine ⟨by show (11 : Int) ≠ 0; decide, h6.2.1, h6.2.2.1.trans ?_⟩
        have gs25 : Gs M2 M5 g := ((xr3.xe w2).gs w2 hg).trans gs35
        show mI M5 (g + 27) (8 * c + b) = br.1
        rw [(gs25.2.1 27 (by omega) (by omega)).1]
        exact rb.1
    · refine nx M5 X5 h25' (fun z b' hb' => ?_) (fun z => ?_) (fun z => ?_)
      rotate_left
      · have z3 : mI M3 a 16 = 0 := by rw [← iA]; exact z
        have q6 : ¬ (cmpL (mL M3 (a + 97) 0) 0 < 0 ∨ ¬ (cmpL (mL M3 (a + 97) 0) (mL M3 (a + 98) 0) ≤ 0)) := fun y => q5 ⟨z, y⟩
        have c1 := (cmpz (mL M3 (a + 97) 0) 0).2.2.1
        have c2 := (cmpz (mL M3 (a + 97) 0) (mL M3 (a + 98) 0)).2.1
        rw [c1, c2] at q6
        rcases u3 with u3 | ⟨-, u3, u4⟩
        · exact absurd (u3.2.1.symm.trans z3) u3.1
        have e9 : chq9 ev sg (br :: cm.2.2.2.drop (b + 1)) = ((chq9 ev sg (cm.2.2.2.drop (b + 1))).1, (mL M3 (a + 97) 0, mL M3 (a + 98) 0) :: (chq9 ev sg (cm.2.2.2.drop (b + 1))).2) := by
          rw [chq_s (by rw [u3]; rfl) (by rw [u3]; show ¬ (mL M3 (a + 97) 0 < 0 ∨ (if (0 : Int) = 1 then (1 : Int) else mL M3 (a + 98) 0) < mL M3 (a + 97) 0); rw [if_neg (by decide)]; omega), u3]
          rfl
        rw [e9] at zq
        refine ⟨?_, u4.mv w3 x35 (fun _ z => z.elim) gs35 (fun y z => by omega)⟩
        rw [zq, lR, List.append_assoc]
        rfl
      · rw [iA] at z
        rcases u3 with u3 | ⟨u3, -⟩
        · have e9 : chq9 ev sg (br :: cm.2.2.2.drop (b + 1)) = (((ev sg br.2.1.1 br.2.1.2).1, (ev sg br.2.1.1 br.2.1.2).2.1), []) := chq_f u3.1
          rw [zq, e9]
          exact Or.inl ⟨u3.1, by rw [iA]; exact u3.2.1, by rw [iA]; exact u3.2.2⟩
        · exact absurd u3 z
      rw [q89, q90]
      by_cases y : b' = b
      · rw [if_pos y, if_pos y]
        have vk := z35 z
        have q6 : ¬ (cmpL (mL M3 (a + 97) 0) 0 < 0 ∨ ¬ (cmpL (mL M3 (a + 97) 0) (mL M3 (a + 98) 0) ≤ 0)) := fun y => q5 ⟨z, y⟩
        have c1 := (cmpz (mL M3 (a + 97) 0) 0).2.2.1
        have c2 := (cmpz (mL M3 (a + 97) 0) (mL M3 (a + 98) 0)).2.1
        rw [c1, c2] at q6
        unfold vok at vk
        omega
      · rw [if_neg y, if_neg y]
        exact hch b' (by omega)
end CHX
end
section
/-! The reference: a variable's next value, and a state is found or made, exactly. -/
section SEX
variable {G : mG} {d a g T R W C Z n k : Nat} {M M' M2 : mM} {E : Eg9} {tg : Int} {ww pl : Nat → Int} {XV : List Int → Int → vrs} {ev : List Int → Nat → Nat → vrs} {sg : List Int}
/-- what setting comes to: v the rule's value, f the fault of the range -/
def seY9 (v : vrs) (f : Int × Int) (q : Nat) (xv : Int → vrs) (a g R W : Nat) (M M' : mM) : Prop := fvq M' a v ∨ (v.1 = 0 ∧ f.1 ≠ 0 ∧ mI M' a 16 = f.1 ∧ mI M' a 17 = f.2) ∨ (v.1 = 0 ∧ f = (0, 0) ∧ mI M' a 16 = 0 ∧ (∀ v', mI M' (a + 21188) v' = if v' = q then v.2.1 else mI M (a + 21188) v') ∧ XVq M' a g R W xv)
theorem x_MM_set1 {v i9 j9 : Nat} {root pc lv hv9 : Int} (h : GG M a g T R W C Z E tg) (hn : En M a g R W) (hx : Nxv M a g W) (hv : v < W) (hf : ∀ sg, FmX ww pl (XV sg) M g R E.1) (xv : XVq M a g R W (XV sg)) (z0 : mI M a 16 = 0) (elo : mI M (g + 19) v = lv) (ehi : mI M (g + 20) v = hv9) (hr : Rtq ww pl XV ev M g R W T E root (tn M g (100 + (v : Int))) i9 j9) (ipl : i32 pc) : Cv G y_MM_set1 (d + 6) [vr a, vi v, vi root, vi pc] M (fun M' => mOk M' ∧ seQ M a g T R W C Z E tg M' ∧ seY9 (ev sg i9 j9) (stfq (ev sg i9 j9).2.1 (ev sg i9 j9).2.2 lv hv9 pc) v (XV sg) a g R W M M') := by
  have w := h.2.1
  have hg := h.2.2.1.2
  have hD := h.2.2.2.2.2.2.2.1
  have hBd := hD.1
  obtain ⟨v1, v2, v3, v4, v5, v6⟩ := hD.2.2.2.1 v hv
  have e1 : tn M g (100 + (v : Int)) = mI M (g + 18) v := by
    unfold tn
    rw [if_pos (show (100 : Int) ≤ 100 + (v : Int) by omega), show (100 + (v : Int) - 100).toNat = v by first | rfl | omega]
    rcases v6 with y | y <;> rw [y] <;> rfl
  have ir : i32 root := by
    obtain ⟨n', b, f, e, nv, ⟨r1, r2, r3, r4, r5⟩, -⟩ := hr
    have := r4.tn.lt
    have := h.2.2.2.2.1
    rw [r1]
    exact i32s (by omega) (by omega)
  have b12 : ((0 : Int) ≤ (v : Int) ∧ (v : Int) < ((12 : Nat) : Int)) := by omega
  have toS : ∀ {Mx : mM}, Mv (fun x => x = a + 99) (woS a) M a Mx → Mv (fun x => x = a + 99) (sxS a) M a Mx := fun m => m.mono (fun q hq => hq) (fun x z => Or.inl z) (lt99 w)
  refine k_MM_set1 h.1 (i32s (by omega) (by omega)) ir ipl ⟨w.1.1, (x_MM_reach (d := d) h hn hf xv hr z0).mono (fun M2 t2 => ?_)⟩
  obtain ⟨o2, ⟨x2, gg2, en2, v2'⟩, u2⟩ := t2
  have w2 := gg2.2.1
  have gs2 := (x2.xe w).gs w hg
  have c88 : mI M2 (a + 21188) = mI M (a + 21188) := (x2.1.cellL w in99 (offx (a := a) (o := 21188) (by decide)) (fun z => by
    have z' : a + 21188 = a ∨ a + 21188 = a + 97 ∨ a + 21188 = a + 98 ∨ a + 21188 = a + 102 ∨ a + 21188 = a + 103 ∨ a + 21188 = a + 104 := z
    omega)).1
  have nx2 : Nxv M2 a g W := fun v' hv' => by
    rw [(gs2.2.1 19 (by omega) (by omega)).1, (gs2.2.1 20 (by omega) (by omega)).1, c88]
    exact hx v' hv'
  refine ⟨o2, w2.1.1, fun z16 => ?_, fun z16 => ⟨o2, ⟨toS x2.1, x2.2, gg2, en2, fun z => absurd z z16⟩, Or.inl (u2.elim id (fun u => absurd u.1 z16))⟩⟩
  have vk : vok (mI M (g + 18) v) (mL M2 (a + 97) 0) (mL M2 (a + 98) 0) := by
    rcases v2' with y | ⟨-, y⟩
    · exact absurd z16 y
    · rw [e1] at y; exact y
  obtain ⟨u3, u4⟩ : ev sg i9 j9 = vr9 (mI M (g + 18) v) (mL M2 (a + 97) 0) (mL M2 (a + 98) 0) ∧ XVq M2 a g R W (XV sg) := by
    rcases u2 with u | ⟨-, u, y⟩
    · exact absurd (u.2.1.symm.trans z16) u.1
    · rw [e1] at u
      exact ⟨u, y⟩
  have f1 : (ev sg i9 j9).1 = 0 := by rw [u3]; rfl
  have f2 : (ev sg i9 j9).2.1 = mL M2 (a + 97) 0 := by rw [u3]; rfl
  have f3 : (ev sg i9 j9).2.2 = if mI M (g + 18) v = 1 then 1 else mL M2 (a + 98) 0 := by rw [u3]; rfl
  have B2 : mR M2 a 21 = a + 97 ∧ mR M2 a 22 = a + 98 ∧ mR M2 a 44 = a + 21188 := ⟨w2.1.2.2.2.2.1.2.2.2.2.2.2.1, w2.1.2.2.2.2.1.2.2.2.2.2.2.2.1, w2.1.2.2.2.2.2.2.1.2.2.2.1⟩
  have A2 : (mK M2 (a + 97) = 33 ∧ mN M2 (a + 97) = 16400) ∧ (mK M2 (a + 98) = 33 ∧ mN M2 (a + 98) = 16400) ∧ (mK M2 (a + 21188) = 30 ∧ mN M2 (a + 21188) = 12) := ⟨w2.1.2.2.2.2.2.2.2.1.1, w2.1.2.2.2.2.2.2.2.1.2.1, w2.1.2.2.2.2.2.2.2.2.2.1.2.2.2.1⟩
  rw [gg2.2.2.1.1, show mR M2 g 13 = g + 18 from (w2.gp hg).2.2.1.1, show mR M2 g 14 = g + 19 from (w2.gp hg).2.2.1.2.1, show mR M2 g 15 = g + 20 from (w2.gp hg).2.2.1.2.2.1, B2.1, B2.2.1, B2.2.2, Int.toNat_natCast, (gs2.2.1 18 (by omega) (by omega)).1, (gs2.2.1 19 (by omega) (by omega)).1, (gs2.2.1 20 (by omega) (by omega)).1]
  have stp : ∀ c : Int, c ≠ 0 → i32 c → stfq (ev sg i9 j9).2.1 (ev sg i9 j9).2.2 lv hv9 pc = (c, pc) → Cv G y_MM_stop (d + 5) [vr a, vi c, vi pc] M2 (fun M3 => mOk M3 ∧ (mOk M3 ∧ seQ M a g T R W C Z E tg M3 ∧ seY9 (ev sg i9 j9) (stfq (ev sg i9 j9).2.1 (ev sg i9 j9).2.2 lv hv9 pc) v (XV sg) a g R W M M3)) := fun c hc ic ef => by
    refine (s_MM_stop ic ipl o2 w2).mono (fun M3 h3 => ?_)
    have X : xg M a g T R W C Z E tg M2 := ⟨x2.xe w, gg2, en2⟩
    have X3 := X.stp h3
    refine ⟨h3.1.1, h3.1.1, ⟨(toS x2.1).trans (h3.1.mono (fun _ z => z.elim) (fun x z => Or.inl (Or.inl z)) (lt99 w2)), fun i i1 i2 i3 => (h3.2.2.2 i i1 i2).trans (x2.2 i i1 i2 i3), X3.2.1, X3.2.2, fun z => ?_⟩, Or.inr (Or.inl ⟨f1, by rw [ef]; exact hc, by rw [ef]; exact h3.2.1, by rw [ef]; exact h3.2.2.1⟩)⟩
    rw [h3.2.1] at z
    exact absurd z hc
  have hq1 : (¬ mI M (g + 18) v = 0 ∨ cmpL (mL M2 (a + 98) 0) 1 = 0) → (if mI M (g + 18) v = 1 then (1 : Int) else mL M2 (a + 98) 0) = 1 := fun q => by
    rcases q with q | q
    · rw [if_pos (by omega)]
    · have := (cmpz _ _).2.2.2.1.1 q
      split <;> omega
  have hq8 : ¬ (¬ mI M (g + 18) v = 0 ∨ cmpL (mL M2 (a + 98) 0) 1 = 0) → (if mI M (g + 18) v = 1 then (1 : Int) else mL M2 (a + 98) 0) ≠ 1 := fun q u => by
    have q1 : mI M (g + 18) v = 0 := Classical.byContradiction (fun z => q (Or.inl z))
    rw [if_neg (by omega)] at u
    exact q (Or.inr ((cmpz _ _).2.2.2.1.2 u))
  refine ⟨(w2.gp hg).1, (w2.gp hg).2.2.2.2.1.1.1, by rw [(w2.gp hg).2.2.2.2.1.1.2]; exact b12, fun _ => ⟨A2.2.1.1, by rw [A2.2.1.2]; decide⟩, fun q => ⟨A2.1.1, by rw [A2.1.2]; decide, (w2.gp hg).2.2.2.2.1.2.1.1, by rw [(w2.gp hg).2.2.2.2.1.2.1.2]; exact b12, fun _ => ⟨by rw [A2.1.2]; decide, (w2.gp hg).2.2.2.2.1.2.2.1.1, by rw [(w2.gp hg).2.2.2.2.1.2.2.1.2]; exact b12⟩, fun q2 => stp 12 (by decide) ⟨by decide, by decide⟩ (by
      have c1 := (cmpz (mL M2 (a + 97) 0) (mI M (g + 19) v)).2.2.1
      have c2 := (cmpz (mL M2 (a + 97) 0) (mI M (g + 20) v)).2.1
      rw [c1, c2] at q2
      unfold stfq
      rw [f3, f2, if_neg (fun u => u (hq1 q)), if_pos (by omega)]), fun q2 => ?_⟩, fun q => stp 8 (by decide) ⟨by decide, by decide⟩ (by unfold stfq; rw [f3, if_pos (hq8 q)])⟩
  have c1 := (cmpz (mL M2 (a + 97) 0) (mI M (g + 19) v)).2.2.1
  have c2 := (cmpz (mL M2 (a + 97) 0) (mI M (g + 20) v)).2.1
  rw [c1, c2] at q2
  have rng : mI M (g + 19) v ≤ mL M2 (a + 97) 0 ∧ mL M2 (a + 97) 0 ≤ mI M (g + 20) v := by omega
  have i97 : i32 (mL M2 (a + 97) 0) := ⟨by omega, by omega⟩
  refine ⟨by rw [A2.1.2]; decide, A2.2.2.1, by rw [A2.2.2.2]; exact b12, i97, fun M3 e3 => ?_⟩
  obtain ⟨m3, g3, l3⟩ := mv_cell i97 o2 w2 (show a ≤ a + 21188 by omega) (offx (a := a) (o := 21188) (by decide)) e3
  have no : ∀ q : Nat, False → q ∈ nums a := fun _ z => z.elim
  have aI := (m3.fld w2 no (by omega)).1
  have X : xg M a g T R W C Z E tg M2 := ⟨x2.xe w, gg2, en2⟩
  have X3 := X.st m3 (fun _ z => z.elim) (fun x z => Or.inr (Or.inr (by omega))) (fun i _ _ _ => by rw [aI])
  have gs3 := gs_st w2 hg m3 no (fun _ z => z.elim) (fun x z => by omega)
  refine ⟨m3.1, ⟨(toS x2.1).trans (m3.mono (fun _ z => z.elim) (fun x z => Or.inr z) (lt99 w2)), fun i i1 i2 i3 => by rw [aI]; exact x2.2 i i1 i2 i3, X3.2.1, X3.2.2, fun _ v' hv' => ?_⟩, Or.inr (Or.inr ⟨f1, ?_, by rw [aI]; exact z16, fun v' => ?_, u4.mv w2 m3 no gs3 (fun x z => by omega)⟩)⟩
  rotate_left
  · unfold stfq
    rw [f3, f2, if_neg (fun u => u (hq1 q)), if_neg (by omega)]
  · rw [g3, f2, c88]
    by_cases y : v' = v
    · rw [if_pos ⟨rfl, y⟩, if_pos y]
    · rw [if_neg (fun z => y z.2), if_neg y]
  rw [(gs3.2.1 19 (by omega) (by omega)).1, (gs3.2.1 20 (by omega) (by omega)).1, g3]
  by_cases y : v' = v
  · rw [if_pos ⟨rfl, y⟩, y, (gs2.2.1 19 (by omega) (by omega)).1, (gs2.2.1 20 (by omega) (by omega)).1]
    exact rng
  · rw [if_neg (fun z => y z.2)]
    exact nx2 v' hv'
/-- the states -/
def SmR (M : mM) (a W n : Nat) : List (List Int) := (List.range n).map (lsR M a W)
/-- the next state -/
def nxR (M : mM) (a W : Nat) : List Int := (List.range W).map (fun v => mI M (a + 21188) v)
theorem SmR_len : (SmR M a W n).length = n := by
  unfold SmR
  rw [List.length_map, List.length_range]
theorem SmR_get (h : k < n) : (SmR M a W n)[k]? = some (lsR M a W k) := by
  unfold SmR
  rw [List.getElem?_map, List.getElem?_range h]
  rfl
theorem SmR_s : SmR M a W (n + 1) = SmR M a W n ++ [lsR M a W n] := by
  unfold SmR
  rw [List.range_succ, List.map_append]
  rfl
theorem SmR_cg (hW : W ≤ 12) (h : ∀ j, j < 12 * n → mI M' (a + 105) j = mI M (a + 105) j) : SmR M' a W n = SmR M a W n := by
  unfold SmR
  refine List.map_congr_left (fun k hk => ?_)
  unfold lsR
  exact List.map_congr_left (fun v hv => h _ (by have := List.mem_range.mp hk; have := List.mem_range.mp hv; omega))
theorem enR_k {x : List Int} (hk : k < n) (hnf : ∀ j, j < k → lsR M a W j ≠ x) (hq : lsR M a W k = x) : enq9 (SmR M a W n) x = some (k, SmR M a W n) := by
  have f : (SmR M a W n).findIdx? (fun y => y == x) = some k := by
    rw [List.findIdx?_eq_some_iff_getElem]
    have gt : ∀ (j : Nat) (h : j < (SmR M a W n).length), (SmR M a W n)[j] = lsR M a W j := fun j h => by
      have := SmR_get (M := M) (a := a) (W := W) (k := j) (n := n) (by rw [SmR_len] at h; exact h)
      rw [List.getElem?_eq_getElem h] at this
      exact Option.some.inj this
    refine ⟨by rw [SmR_len]; exact hk, ?_, fun j hj => ?_⟩
    · rw [gt k]
      exact beq_iff_eq.mpr hq
    · rw [gt j]
      intro u
      exact hnf j hj (beq_iff_eq.mp u)
  unfold enq9
  rw [f]
theorem enR_n {x : List Int} (h : ∀ k, k < n → lsR M a W k ≠ x) : enq9 (SmR M a W n) x = if n = 512 then none else some (n, SmR M a W n ++ [x]) := by
  have f : (SmR M a W n).findIdx? (fun y => y == x) = none := by
    rw [List.findIdx?_eq_none_iff]
    intro y hy
    unfold SmR at hy
    obtain ⟨k, hk, e⟩ := List.mem_map.mp hy
    rw [← e]
    exact beq_eq_false_iff_ne.mpr (h k (List.mem_range.mp hk))
  unfold enq9
  rw [f]
  show (if (SmR M a W n).length = 512 then none else some ((SmR M a W n).length, SmR M a W n ++ [x])) = _
  rw [SmR_len]
/-- what finding a state comes to -/
def soX (S : List (List Int)) (x : List Int) (r : Int) (a W : Nat) (M' : mM) : Prop := (enq9 S x = none ∧ r = -1) ∨ ∃ (k : Nat) (S' : List (List Int)), enq9 S x = some (k, S') ∧ r = (k : Int) ∧ mI M' a 29 = ((S'.length : Nat) : Int) ∧ SmR M' a W S'.length = S'
theorem x_MM_stateOf (h : GG M a g T R W C Z E tg) (hn : mI M a 29 = (n : Int)) (hn5 : n ≤ 512) (hv : Vx M a g n W) (hx : Nxv M a g W) : Ci G y_MM_stateOf d [vr a] M (fun x M' => i32 x ∧ mOk M' ∧ soQ M a g n W x M' ∧ soX (SmR M a W n) (nxR M a W) x a W M') := by
  have hO := h.1
  have w := h.2.1
  have hg := h.2.2.1.2
  have hBd := h.2.2.2.2.2.2.2.1.1
  have g12 := h.2.2.2.2.2.1.2.1
  have r9 := h.2.2.1.1
  have no : ∀ q : Nat, False → q ∈ nums a := fun _ z => z.elim
  have hW12 := hBd.2.1
  -- a new state is filled in
  have L3 : n < 512 → (∀ k, k < n → lsR M a W k ≠ nxR M a W) → ∀ (c v : Nat) (M2 : mM), v + c = W → Mv (fun _ => False) (fun y => y = a ∨ y = a + 105) M a M2 → mI M2 a = mI M a → mI M2 (a + 21188) = mI M (a + 21188) → (∀ j, (12 * n ≤ j → 12 * n + v ≤ j) → mI M2 (a + 105) j = mI M (a + 105) j) → (∀ v', v' < v → mI M2 (a + 105) (12 * n + v') = mI M (a + 21188) v') → h_MM_stateOf_87 G d a v M2 (fun x M' => i32 x ∧ mOk M' ∧ soQ M a g n W x M' ∧ soX (SmR M a W n) (nxR M a W) x a W M') := by
    intro hn' hnf c
    induction c with
    | zero =>
      intro v M2 hc m2 a2 x2 o2 f2
      have ev : v = W := by omega
      subst ev
      have w2 := m2.2.1
      have gs := gs_st w hg m2 no (fun _ z => z.elim) (fun x z => by omega)
      refine k_MM_stateOf_87 m2.1 (i32s (by omega) (by omega)) ⟨w2.1.1, ?_⟩
      rw [m2.rfl_a w no, r9, gs.1, g12, a2, hn]
      refine ⟨(w2.gp hg).1, fun _ => ⟨i32s (by omega) (by omega), fun M3 e3 => ?_⟩, fun q => absurd (Int.le_refl _) q⟩
      obtain ⟨m3, f3⟩ := mv_fld (v := (n : Int) + 1) (i32s (by omega) (by omega)) m2.1 w2 e3
      have mm := m2.trans (m3.mono (fun _ z => z.elim) (fun x z => Or.inl z) (fun _ z => z.elim))
      have gs3 := gs_st w hg mm no (fun _ z => z.elim) (fun x z => by omega)
      have c105 := m3.cell m2.2.1 no (by omega) (offx (a := a) (o := 105) (by decide)).2.1 (offx (a := a) (o := 105) (by decide)).2.2 (by omega)
      have e29 : mI M3 a 29 = (n : Int) + 1 := by rw [f3, if_pos rfl]
      rw [e29]
      refine ⟨i32s (by omega) (by omega), m3.1, Or.inr ⟨n + 1, Or.inr rfl, by omega, by omega, by omega, mm, by rw [e29]; omega, fun i hi => by rw [f3, if_neg hi, a2], fun k v' hk hv' => ?_⟩, Or.inr ⟨n, SmR M a v n ++ [nxR M a v], ?_, by omega, by rw [e29, List.length_append, SmR_len]; show (n : Int) + 1 = ((n + 1 : Nat) : Int); omega, ?_⟩⟩
      rotate_left
      · rw [enR_n hnf, if_neg (by omega)]
      · rw [List.length_append, SmR_len]
        show SmR M3 a v (n + 1) = _
        rw [SmR_s, SmR_cg (M := M) hW12 (fun j hj => by rw [c105]; exact o2 j (by omega))]
        congr 2
        unfold lsR nxR
        exact List.map_congr_left (fun v' hv' => by rw [c105]; exact f2 v' (List.mem_range.mp hv'))
      rw [(gs3.2.1 19 (by omega) (by omega)).1, (gs3.2.1 20 (by omega) (by omega)).1, c105]
      by_cases y : k = n
      · rw [y, f2 v' hv']
        exact hx v' hv'
      · rw [o2 _ (by omega)]
        exact hv k v' (by omega) hv'
    | succ c ih =>
      intro v M2 hc m2 a2 x2 o2 f2
      have w2 := m2.2.1
      have gs := gs_st w hg m2 no (fun _ z => z.elim) (fun x z => by omega)
      have A5 : mK M2 (a + 105) = 30 ∧ mN M2 (a + 105) = 6144 := w2.1.2.2.2.2.2.2.2.2.1.1
      have A8 : mK M2 (a + 21188) = 30 ∧ mN M2 (a + 21188) = 12 := w2.1.2.2.2.2.2.2.2.2.2.1.2.2.2.1
      have r31 : mR M2 a 31 = a + 105 := w2.1.2.2.2.2.2.1.1
      have r44 : mR M2 a 44 = a + 21188 := w2.1.2.2.2.2.2.2.1.2.2.2.1
      have e9 : mR M2 a 9 = g := by rw [m2.rfl_a w no]; exact r9
      refine k_MM_stateOf_87 m2.1 (i32s (by omega) (by omega)) ⟨w2.1.1, ?_⟩
      rw [e9, gs.1, g12, a2, hn, r31, r44, Int.toNat_natCast, show 12 * (n : Int) + (v : Int) = ((12 * n + v : Nat) : Int) by first | rfl | omega, Int.toNat_natCast, x2]
      refine ⟨(w2.gp hg).1, fun q => absurd q (by omega), fun _ => ⟨A8.1, by rw [A8.2]; omega, A5.1, by rw [A5.2]; omega, fun M3 e3 => ?_⟩⟩
      obtain ⟨m3, f3, l3⟩ := mv_cell (hO _ _).1 m2.1 w2 (show a ≤ a + 105 by omega) (offx (a := a) (o := 105) (by decide)) e3
      have nx := ih (v + 1) M3 (by omega) (m2.trans (m3.mono (fun _ z => z.elim) (fun x z => Or.inr z) (fun _ z => z.elim))) (by rw [(m3.fld w2 no (by omega)).1]; exact a2) (by rw [m3.cell w2 no (by omega) (offx (a := a) (o := 21188) (by decide)).2.1 (offx (a := a) (o := 21188) (by decide)).2.2 (by omega)]; exact x2) (fun j hj => by rw [f3, if_neg (fun z => by omega)]; exact o2 j (by omega)) (fun v' hv' => ?_)
      · rw [show ((v + 1 : Nat) : Int) = (v : Int) + 1 by first | rfl | omega] at nx
        exact nx
      · rw [f3]
        by_cases y : v' = v
        · rw [if_pos ⟨rfl, by omega⟩, y]
        · rw [if_neg (fun z => by omega)]
          exact f2 v' (by omega)
  have A5 : mK M (a + 105) = 30 ∧ mN M (a + 105) = 6144 := w.1.2.2.2.2.2.2.2.2.1.1
  have A8 : mK M (a + 21188) = 30 ∧ mN M (a + 21188) = 12 := w.1.2.2.2.2.2.2.2.2.2.1.2.2.2.1
  have r31 : mR M a 31 = a + 105 := w.1.2.2.2.2.2.1.1
  have r44 : mR M a 44 = a + 21188 := w.1.2.2.2.2.2.2.1.2.2.2.1
  refine k_MM_stateOf hO ?_
  suffices L1 : ∀ (c k : Nat), k + c = n → (∀ k', k' < k → lsR M a W k' ≠ nxR M a W) → h_MM_stateOf_2 G d a k M (fun x M' => i32 x ∧ mOk M' ∧ soQ M a g n W x M' ∧ soX (SmR M a W n) (nxR M a W) x a W M') from L1 n 0 (by omega) (fun k' hk' => absurd hk' (by omega))
  intro c
  induction c with
  | zero =>
    intro k hk hnf
    have ek : k = n := by omega
    subst ek
    refine k_MM_stateOf_2 hO (i32s (by omega) (by omega)) ⟨w.1.1, fun _ => ⟨fun q => ⟨⟨by decide, by decide⟩, hO, Or.inl ⟨rfl, rfl⟩, Or.inl ⟨?_, rfl⟩⟩, fun q => ?_⟩, fun q => absurd (by rw [hn]; exact Int.le_refl _) q⟩
    · rw [hn] at q
      rw [enR_n hnf, if_pos (by omega)]
    rw [hn] at q
    exact L3 (by omega) hnf W 0 M (by omega) (Mv.refl hO w (fun _ z => z.elim)) rfl rfl (fun j _ => rfl) (fun v' hv' => absurd hv' (by omega))
  | succ c ih =>
    intro k hk hnf
    have nx : lsR M a W k ≠ nxR M a W → h_MM_stateOf_2 G d a ((k : Int) + 1) M (fun x M' => i32 x ∧ mOk M' ∧ soQ M a g n W x M' ∧ soX (SmR M a W n) (nxR M a W) x a W M') := fun hne => by
      have nx := ih (k + 1) (by omega) (fun k' hk' => by
        by_cases y : k' = k
        · rw [y]; exact hne
        · exact hnf k' (by omega))
      rw [show ((k + 1 : Nat) : Int) = (k : Int) + 1 by first | rfl | omega] at nx
      exact nx
    refine k_MM_stateOf_2 hO (i32s (by omega) (by omega)) ⟨w.1.1, fun q => by rw [hn] at q; omega, fun _ => ?_⟩
    suffices L2 : ∀ (t v : Nat) (s : Int), v + t = W → ((s = 0 ∧ lsR M a W k ≠ nxR M a W) ∨ (s = 1 ∧ ∀ v', v' < v → mI M (a + 105) (12 * k + v') = mI M (a + 21188) v')) → h_MM_stateOf_14 G d a k s v M (fun x M' => i32 x ∧ mOk M' ∧ soQ M a g n W x M' ∧ soX (SmR M a W n) (nxR M a W) x a W M') from L2 W 0 1 (by omega) (Or.inr ⟨rfl, fun v' hv' => absurd hv' (by omega)⟩)
    have fnd : lsR M a W k = nxR M a W → i32 (k : Int) ∧ mOk M ∧ soQ M a g n W k M ∧ soX (SmR M a W n) (nxR M a W) k a W M := fun hq => ⟨i32s (by omega) (by omega), hO, Or.inr ⟨n, Or.inl rfl, hn5, by omega, by omega, Mv.refl hO w (fun _ z => z.elim), hn, fun _ _ => rfl, hv⟩, Or.inr ⟨k, SmR M a W n, enR_k (by omega) hnf hq, rfl, by rw [SmR_len]; exact hn, by rw [SmR_len]⟩⟩
    intro t
    induction t with
    | zero =>
      intro v s hv' hs
      have ev : v = W := by omega
      subst ev
      refine k_MM_stateOf_14 hO (i32s (by omega) (by omega)) (i32s (by omega) (by omega)) (i32s (by omega) (by omega)) ⟨w.1.1, ?_⟩
      rw [r9, g12]
      refine ⟨(w.gp hg).1, fun _ => ⟨fun q0 => nx ?_, fun q0 => fnd ?_⟩, fun q => absurd (Or.inl (Int.le_refl _)) q⟩
      · rcases hs with ⟨-, y⟩ | ⟨y, -⟩
        · exact y
        · omega
      · rcases hs with ⟨y, -⟩ | ⟨-, y⟩
        · omega
        · unfold lsR nxR
          exact List.map_congr_left (fun v' hv' => y v' (List.mem_range.mp hv'))
    | succ t ih2 =>
      intro v s hv' hs
      refine k_MM_stateOf_14 hO (i32s (by omega) (by omega)) (i32s (by omega) (by omega)) (i32s (by omega) (by omega)) ⟨w.1.1, ?_⟩
      rw [r9, g12, r31, r44]
      refine ⟨(w.gp hg).1, fun q => ⟨fun q0 => nx ?_, fun q0 => absurd q0 (by omega)⟩, fun q => ⟨A5.1, by rw [A5.2]; omega, A8.1, by rw [A8.2]; omega, fun u hu => ?_⟩⟩
      · rcases hs with ⟨-, y⟩ | ⟨y, -⟩
        · exact y
        · omega
      rw [show (v : Int) + 1 = ((v + 1 : Nat) : Int) by first | rfl | omega]
      refine ih2 (v + 1) u (by omega) ?_
      have s1 : s = 1 := by omega
      rcases hs with ⟨y, -⟩ | ⟨-, y⟩
      · omega
      rw [show 12 * (k : Int) + (v : Int) = ((12 * k + v : Nat) : Int) by first | rfl | omega, Int.toNat_natCast, Int.toNat_natCast] at hu
      by_cases e : mI M (a + 105) (12 * k + v) = mI M (a + 21188) v
      · refine Or.inr ⟨by rw [hu, if_pos e], fun v' hv' => ?_⟩
        by_cases e2 : v' = v
        · rw [e2]; exact e
        · exact y v' (by omega)
      · refine Or.inl ⟨by rw [hu, if_neg e], fun hq => e ?_⟩
        unfold lsR nxR at hq
        rw [List.map_inj_left] at hq
        exact hq v (List.mem_range.mpr (by omega))
end SEX
end
section
/-! The reference: ways, exactly. -/
section WYX
variable {G : mG} {d a g T R W C Z n L w w0 i m : Nat} {M M' M2 M3 M4 : mM} {E : Eg9} {tg mul Sm A D : Int} {B : Nat → Nat}
theorem gcd_1 {q x y A' D' : Int} (hq : 1 ≤ q) (e1 : x = q * A') (e2 : y = q * D') (hg : ∀ z : Int, z ∣ x → z ∣ y → z ∣ q) : Int.gcd A' D' = 1 := by
  have d1 : (Int.gcd A' D' : Int) ∣ A' := Int.gcd_dvd_left ..
  have d2 : (Int.gcd A' D' : Int) ∣ D' := Int.gcd_dvd_right ..
  have d3 := hg (q * (Int.gcd A' D' : Int)) (by rw [e1]; exact Int.mul_dvd_mul (Int.dvd_refl q) d1) (by rw [e2]; exact Int.mul_dvd_mul (Int.dvd_refl q) d2)
  obtain ⟨t, ht⟩ := d3
  have t1 : (Int.gcd A' D' : Int) * t = 1 := by
    have : q * ((Int.gcd A' D' : Int) * t) = q * 1 := by rw [Int.mul_one, ← Int.mul_assoc]; exact ht.symm
    exact Int.eq_of_mul_eq_mul_left (show q ≠ 0 by omega) this
  have := Int.eq_one_of_mul_eq_one_right (show (0 : Int) ≤ (Int.gcd A' D' : Int) by omega) t1
  omega
theorem x_MM_add {j : Nat} {A D : Int} (hg : g = a + 13 ∨ g = a + 49) (o : mOk M) (w' : Wd M a) (h : XD M a g n W L w (L + 1) B) (hw0 : B L = w0) (hp : Op M a L w0 w mul Sm) (j0 : w0 ≤ j) (j1 : j < w) (hA : 0 < A ∧ A < 1000000000) (hD : 0 < D ∧ D < 1000000000) (hdm : D ∣ mul) (hle : Sm + A * (mul / D) ≤ mul) : Cv G y_MM_add (d + 1) [vr a, vi j, vl A, vl D] M (fun M' => mOk M' ∧ Mv (fun _ => False) (fun x => a + 21186 ≤ x ∧ x ≤ a + 21187) M a M' ∧ mI M' = mI M ∧ XD M' a g n W L w (L + 1) B ∧ Op M' a L w0 w mul (Sm + A * (mul / D)) ∧ (∀ k, k ≠ j → mL M' (a + 21186) k = mL M (a + 21186) k ∧ mL M' (a + 21187) k = mL M (a + 21187) k) ∧ mL M' (a + 21186) j * (mul / mL M' (a + 21187) j) = mL M (a + 21186) j * (mul / mL M (a + 21187) j) + A * (mul / D) ∧ Int.gcd (mL M' (a + 21186) j) (mL M' (a + 21187) j) = 1) := by
  obtain ⟨y1, y2, y3⟩ := h.2.2.2.1 j j1
  have hw4 := h.2.1.2
  obtain ⟨p1, p2, p3, p4, p5⟩ := id hp
  have r42 : mR M a 42 = a + 21186 := w'.1.2.2.2.2.2.2.1.2.1
  have r43 : mR M a 43 = a + 21187 := w'.1.2.2.2.2.2.2.1.2.2.1
  have A6 : mK M (a + 21186) = 33 ∧ mN M (a + 21186) = 4096 := w'.1.2.2.2.2.2.2.2.2.2.1.2.1
  have A7 : mK M (a + 21187) = 33 ∧ mN M (a + 21187) = 4096 := w'.1.2.2.2.2.2.2.2.2.2.1.2.2.1
  have bj : ((0 : Int) ≤ (j : Int) ∧ (j : Int) < ((4096 : Nat) : Int)) := by omega
  refine k_MM_add o (i32s (by omega) (by omega)) ⟨by omega, by omega⟩ ⟨by omega, by omega⟩ ⟨w'.1.1, ?_⟩
  rw [r42, r43, Int.toNat_natCast]
  generalize hXA : mL M (a + 21186) j = XA at *
  generalize hXD : mL M (a + 21187) j = XDn at *
  have m1 : 0 ≤ XA * D ∧ XA * D ≤ 1000000000 * 1000000000 := ⟨Int.mul_nonneg (by omega) (by omega), Int.mul_le_mul (by omega) (by omega) (by omega) (by omega)⟩
  have m2 : 0 ≤ A * XDn ∧ A * XDn ≤ 1000000000 * 1000000000 := ⟨Int.mul_nonneg (by omega) (by omega), Int.mul_le_mul (by omega) (by omega) (by omega) (by omega)⟩
  have m3 : 0 < XDn * D ∧ XDn * D ≤ 1000000000 * 1000000000 := ⟨Int.mul_pos (by omega) (by omega), Int.mul_le_mul (by omega) (by omega) (by omega) (by omega)⟩
  have is : i64 (XA * D + A * XDn) := ⟨by omega, by omega⟩
  have iy : i64 (XDn * D) := ⟨by omega, by omega⟩
  refine ⟨A6.1, by rw [A6.2]; exact bj, A7.1, by rw [A7.2]; exact bj, by rw [A7.2]; exact bj, (s_MM_divisor2 (by omega) ⟨by omega, iy⟩ o).mono (fun q M1 h1 => ?_)⟩
  obtain ⟨e1, q1, q2, ⟨A', hA'⟩, ⟨D', hD'⟩, hgcd⟩ := h1
  subst e1
  have qn : q ≠ 0 := by omega
  have t1 : Int.tdiv (XA * D + A * XDn) q = A' := by rw [hA']; exact Int.mul_tdiv_cancel_left A' qn
  have t2 : Int.tdiv (XDn * D) q = D' := by rw [hD']; exact Int.mul_tdiv_cancel_left D' qn
  have xdm : XDn ∣ mul := by rw [← hXD]; exact p4 j j0 j1
  obtain ⟨A0, D0, dm, key⟩ := add_math (mul := mul) y3.1 hD.1 y2.1 hA.1 xdm hdm q1 hA' hD' hgcd
  -- the terms of the sum
  have nn : ∀ t, t < w - w0 → 0 ≤ mL M1 (a + 21186) (w0 + t) * (mul / mL M1 (a + 21187) (w0 + t)) := fun t ht => by
    have := h.2.2.2.1 (w0 + t) (by omega)
    exact Int.mul_nonneg (by omega) (Int.ediv_nonneg (by omega) (by omega))
  have le1 := sm_le1 (f := fun t => mL M1 (a + 21186) (w0 + t) * (mul / mL M1 (a + 21187) (w0 + t))) (t0 := j - w0) (w - w0) (by omega) nn
  rw [p5] at le1
  have le1' : XA * (mul / XDn) ≤ Sm := by
    have e : w0 + (j - w0) = j := by omega
    have : mL M1 (a + 21186) (w0 + (j - w0)) * (mul / mL M1 (a + 21187) (w0 + (j - w0))) ≤ Sm := le1
    rw [e, hXA, hXD] at this
    exact this
  obtain ⟨m, hm⟩ := dm
  have mm : mul / D' = m := by rw [hm]; exact Int.mul_ediv_cancel_left m (by omega)
  have m0 : 0 < m := by
    by_cases z : 0 < m
    · exact z
    · have := Int.mul_le_mul_of_nonneg_left (show m ≤ 0 by omega) (show 0 ≤ D' by omega)
      omega
  have AD : A' ≤ D' := by
    by_cases z : A' ≤ D'
    · exact z
    · have k1 := Int.mul_lt_mul_of_pos_right (show D' < A' by omega) m0
      rw [mm] at key
      omega
  have Dm : D' ≤ mul := by
    have := Int.mul_le_mul_of_nonneg_left (show 1 ≤ m by omega) (show 0 ≤ D' by omega)
    omega
  have iA' : i64 A' := ⟨by omega, by omega⟩
  have iD' : i64 D' := ⟨by omega, by omega⟩
  rw [t1, t2]
  refine ⟨⟨by omega, by have := iy.2; omega⟩, o, w'.1.1, is, qn, ?_⟩
  rw [r42]
  refine ⟨A6.1, by rw [A6.2]; exact bj, iA', fun M2 e2 => ⟨iy, qn, ?_⟩⟩
  obtain ⟨k2, f2, n2, i2⟩ := mv_ulx iA' o w' e2
  have w2 := k2.2.1
  rw [show mR M2 a 43 = a + 21187 from w2.1.2.2.2.2.2.2.1.2.2.1]
  have A72 : mK M2 (a + 21187) = 33 ∧ mN M2 (a + 21187) = 4096 := w2.1.2.2.2.2.2.2.2.2.2.1.2.2.1
  refine ⟨A72.1, by rw [A72.2]; exact bj, iD', fun M3 e3 => ?_⟩
  obtain ⟨k3, f3, n3, i3⟩ := mv_ulx iD' k2.1 w2 e3
  have iI : mI M3 = mI M1 := by rw [i3, i2]
  have l86 : ∀ k, mL M3 (a + 21186) k = if k = j then A' else mL M1 (a + 21186) k := fun k => by rw [n3 _ (by omega), f2]
  have l87 : ∀ k, mL M3 (a + 21187) k = if k = j then D' else mL M1 (a + 21187) k := fun k => by rw [f3, n2 _ (by omega)]
  have kk : Mv (fun _ => False) (fun x => a + 21186 ≤ x ∧ x ≤ a + 21187) M1 a M3 := (k2.mono (fun _ z => z) (fun x z => by omega) (fun _ z => z.elim)).trans (k3.mono (fun _ z => z) (fun x z => by omega) (fun _ z => z.elim))
  have no : ∀ q : Nat, False → q ∈ nums a := fun _ z => z.elim
  have gs := gs_st w' hg kk no (fun _ z => z.elim) (fun x z => by omega)
  have s : ∀ {q}, q ∈ nums a → sameN M1 M3 q := fun hq => kk.lst hq (fun z => z)
  obtain ⟨h1, h2, h3, h4, h5, h6, h7⟩ := id h
  have mB := h.mono
  refine ⟨kk.1, kk, iI, ⟨by rw [iI]; exact h1, by rw [iI]; exact h2, fun k v hk hv => ?_, fun i hi => ?_, by rw [(s k109).1, (s k111).1, (s k113).1, (s k115).1]; exact h5, h6, fun i hi => (h7 i hi).cg ((s k111).2.1 i) ((s k113).2.1 i) ((s k115).2.1 i) (fun t _ t2 => ?_)⟩, ⟨p1, by rw [(s k111).2.1, (s k113).2.1, (s k115).2.1]; exact p2, p3, fun i i1 i2' => ?_, ?_⟩, fun k hk => ⟨by rw [l86, if_neg hk], by rw [l87, if_neg hk]⟩, by rw [l86, l87, if_pos rfl, if_pos rfl]; exact key, by rw [l86, l87, if_pos rfl, if_pos rfl]; exact gcd_1 q1 hA' hD' hgcd⟩
  · rw [iI]; exact h3 k v hk hv
  · rw [iI, l86, l87]
    by_cases z : i = j
    · rw [if_pos z, if_pos z]
      exact ⟨(h4 i hi).1, by omega, by omega⟩
    · rw [if_neg z, if_neg z]
      exact h4 i hi
  · have := mB (i + 1) L (by omega) (Nat.le_refl _)
    rw [l86, l87, if_neg (by omega), if_neg (by omega)]
    exact ⟨rfl, rfl⟩
  · rw [l87]
    by_cases z : i = j
    · rw [if_pos z, hm]; exact Int.dvd_mul_right D' m
    · rw [if_neg z]; exact p4 i i1 i2'
  · rw [sm_upd (f := fun t => mL M1 (a + 21186) (w0 + t) * (mul / mL M1 (a + 21187) (w0 + t))) (t0 := j - w0) (w - w0) (by omega) (fun t ht hne => ?_), p5]
    · show Sm - mL M1 (a + 21186) (w0 + (j - w0)) * (mul / mL M1 (a + 21187) (w0 + (j - w0))) + mL M3 (a + 21186) (w0 + (j - w0)) * (mul / mL M3 (a + 21187) (w0 + (j - w0))) = _
      rw [show w0 + (j - w0) = j by first | rfl | omega, l86, l87, if_pos rfl, if_pos rfl, hXA, hXD, key]
      omega
    · show mL M3 (a + 21186) (w0 + t) * (mul / mL M3 (a + 21187) (w0 + t)) = mL M1 (a + 21186) (w0 + t) * (mul / mL M1 (a + 21187) (w0 + t))
      rw [l86, l87, if_neg (by omega), if_neg (by omega)]
/-- a new way is put down -/
theorem way_newx {to A D : Int} {M4 M5 M6 M7 : mM} (o : mOk M2) (wd : Wd M2 a) (hg : g = a + 13 ∨ g = a + 49) (h : XD M2 a g n W L w (L + 1) B) (hw0 : B L = w0) (hp : Op M2 a L w0 w mul Sm) (hw : w < 4096) (ht : 0 ≤ to ∧ to < n) (hA : 0 < A ∧ A < 1000000000) (hD : 0 < D ∧ D < 1000000000) (hdm : D ∣ mul) (e3 : M3 = mUI M2 (a + 21185) w to) (e4 : M4 = mUL M3 (a + 21186) w A) (e5 : M5 = mUL M4 (a + 21187) w D) (e6 : M6 = mUI M5 a 40 ((w : Int) + 1)) (e7 : M7 = mUI M6 (mR M6 (a + 113) 0) L (nt M6 (a + 113) L + 1)) : (Wd M3 a ∧ Wd M4 a ∧ Wd M5 a ∧ Wd M6 a) ∧ (mI M3 a = mI M2 a ∧ mI M4 a = mI M2 a ∧ mI M5 a = mI M2 a) ∧ nt M6 (a + 113) L = ((w - w0 : Nat) : Int) ∧ ln M6 (a + 113) = (L + 1 : Nat) ∧ (mL M3 = mL M2 ∧ (∀ y, y ≠ a + 21186 → mL M4 y = mL M2 y)) ∧ wyF M2 a M7 ∧ Mv (fun x => x = a + 113) (fun x => x = a ∨ (a + 21185 ≤ x ∧ x ≤ a + 21187)) M2 a M7 ∧ mI M7 a 16 = mI M2 a 16 ∧ XD M7 a g n W L (w + 1) (L + 1) B ∧ Op M7 a L w0 (w + 1) mul (Sm + A * (mul / D)) ∧ (∀ k, mI M7 (a + 21185) k = if k = w then to else mI M2 (a + 21185) k) ∧ (∀ k, mL M7 (a + 21186) k = if k = w then A else mL M2 (a + 21186) k) ∧ (∀ k, mL M7 (a + 21187) k = if k = w then D else mL M2 (a + 21187) k) ∧ mI M7 (a + 105) = mI M2 (a + 105) := by
  have hn5 := h.1.2.2
  obtain ⟨m3, f3, l3⟩ := mv_cell (v := to) ⟨by omega, by omega⟩ o wd (show a ≤ a + 21185 by omega) (offx (a := a) (o := 21185) (by decide)) e3
  obtain ⟨m4, f4, n4, i4⟩ := mv_ulx (v := A) ⟨by omega, by omega⟩ m3.1 m3.2.1 e4
  obtain ⟨m5, f5, n5', i5⟩ := mv_ulx (v := D) ⟨by omega, by omega⟩ m4.1 m4.2.1 e5
  obtain ⟨m6, f6⟩ := mv_fld (v := (w : Int) + 1) (i32s (by omega) (by omega)) m5.1 m5.2.1 e6
  have no : ∀ q : Nat, False → q ∈ nums a := fun _ z => z.elim
  have nz : ∀ {Mx : mM} (q : Nat), False → q < mZ Mx := fun _ z => z.elim
  have m26 : Mv (fun _ => False) (fun x => x = a ∨ (a + 21185 ≤ x ∧ x ≤ a + 21187)) M2 a M6 := (((m3.mono (fun _ z => z) (fun x z => Or.inr (by omega)) nz).trans (m4.mono (fun _ z => z) (fun x z => Or.inr (by omega)) nz)).trans (m5.mono (fun _ z => z) (fun x z => Or.inr (by omega)) nz)).trans (m6.mono (fun _ z => z) (fun x z => Or.inl z) nz)
  have s6 : ∀ {q}, q ∈ nums a → sameN M2 M6 q := fun hq => m26.lst hq (fun z => z)
  obtain ⟨p1, p2, p3, p4, p5⟩ := id hp
  have t13 : nt M6 (a + 113) L = ((w - w0 : Nat) : Int) := by rw [(s6 k113).2.1]; exact p2.2.1
  obtain ⟨m7, l7, f7, -⟩ := mv_el (v := nt M6 (a + 113) L + 1) (by rw [t13]; exact i32s (by omega) (by omega)) m6.1 m6.2.1 k113 e7
  have i3a := (m3.fld wd no (by omega)).1
  have aI3 : mI M3 a = mI M2 a := i3a
  have aI4 : mI M4 a = mI M2 a := by rw [i4]; exact i3a
  have aI5 : mI M5 a = mI M2 a := by rw [i5]; exact aI4
  have in13 : ∀ q, q = a + 113 → q ∈ nums a := fun q hq => by rw [hq]; exact k113
  have aI7 : mI M7 a = mI M6 a := (m7.fld m6.2.1 in13 (fun z => z)).1
  have F7 : ∀ i, mI M7 a i = if i = 40 then (w : Int) + 1 else mI M2 a i := fun i => by rw [aI7, f6, aI5]
  have l13 : ∀ q, q = a + 113 → q < mZ M2 := fun q hq => by rw [hq]; exact wd.lt k113
  have m27 : Mv (fun x => x = a + 113) (fun x => x = a ∨ (a + 21185 ≤ x ∧ x ≤ a + 21187)) M2 a M7 := (m26.mono (fun _ z => z.elim) (fun x z => z) l13).trans (m7.mono (fun q hq => hq) (fun _ z => z.elim) (fun q hq => by rw [hq]; exact m6.2.1.lt k113))
  have gs := gs_st wd hg m27 in13 (fun q hq z => by
    have z' : q = g + 1 ∨ q = g + 3 ∨ q = g + 5 ∨ q = g + 7 ∨ q = g + 9 ∨ q = g + 11 ∨ q = g + 30 ∨ q = g + 32 ∨ q = g + 34 := z
    omega) (fun x hx => by omega)
  have W7 : wyF M2 a M7 := wyF.mk wd m27 (fun q hq => Or.inr hq) (fun x hx => by
    rcases hx with z | z
    · exact Or.inl (Or.inl z)
    · exact Or.inr (Or.inr (by omega))) (fun i _ _ _ _ i5 => by rw [F7, if_neg i5])
  have s7 : ∀ {q}, q ∈ nums a → q ≠ a + 113 → sl M2 M7 q := fun hq hne => (m27.lst hq hne).sl
  have c105 := (m27.cellL wd in13 (offx (a := a) (o := 105) (by decide)) (by omega)).1
  have w6 := m6.2.1
  have o85 := offx (a := a) (o := 21185) (by decide)
  have o86 := offx (a := a) (o := 21186) (by decide)
  have o87 := offx (a := a) (o := 21187) (by decide)
  have e85 : ∀ k, mI M7 (a + 21185) k = if k = w then to else mI M2 (a + 21185) k := fun k => by
    rw [(m7.cellL w6 in13 o85 (fun z => z)).1, (m6.cellL m5.2.1 no o85 (by omega)).1, i5, i4, f3]
    by_cases z : k = w
    · rw [if_pos ⟨rfl, z⟩, if_pos z]
    · rw [if_neg (fun y => z y.2), if_neg z]
  have e86 : ∀ k, mL M7 (a + 21186) k = if k = w then A else mL M2 (a + 21186) k := fun k => by
    rw [(m7.cellL w6 in13 o86 (fun z => z)).2, (m6.cellL m5.2.1 no o86 (by omega)).2, n5' _ (by omega), f4, l3]
  have e87 : ∀ k, mL M7 (a + 21187) k = if k = w then D else mL M2 (a + 21187) k := fun k => by
    rw [(m7.cellL w6 in13 o87 (fun z => z)).2, (m6.cellL m5.2.1 no o87 (by omega)).2, f5, n4 _ (by omega), l3]
  have e113 : ∀ k, nt M7 (a + 113) k = if k = L then ((w - w0 : Nat) : Int) + 1 else nt M2 (a + 113) k := fun k => by
    rw [f7, t13, (s6 k113).2.1]
  obtain ⟨h1, h2, h3, h4, h5, h6, h7⟩ := id h
  have mB := h.mono
  refine ⟨⟨m3.2.1, m4.2.1, m5.2.1, w6⟩, ⟨aI3, aI4, aI5⟩, t13, by rw [(s6 k113).1]; exact h5.2.2.1, ⟨l3, fun y hy => by rw [n4 y hy, l3]⟩, W7, m27, by rw [F7, if_neg (by decide)], ⟨by rw [F7, if_neg (by decide)]; exact h1, ⟨by rw [F7, if_pos rfl]; omega, by omega⟩, fun k v hk hv => ?_, fun j hj => ?_, ?_, ⟨h6.1, by omega, h6.2.2⟩, fun i hi => ?_⟩, ⟨by omega, ?_, p3, fun j j0 j1 => ?_, ?_⟩, e85, e86, e87, c105⟩
  · rw [(gs.2.1 19 (by omega) (by omega)).1, (gs.2.1 20 (by omega) (by omega)).1, c105]
    exact h3 k v hk hv
  · rw [e85, e86, e87]
    by_cases z : j = w
    · rw [if_pos z, if_pos z, if_pos z]
      exact ⟨ht, hA, hD⟩
    · rw [if_neg z, if_neg z, if_neg z]
      exact h4 j (by omega)
  · rw [(s7 k109 (by omega)).1, (s7 k111 (by omega)).1, (s7 k115 (by omega)).1, l7, (s6 k113).1]
    exact h5
  · have := mB (i + 1) L (by omega) (Nat.le_refl _)
    refine (h7 i hi).cg ((s7 k111 (by omega)).2 i) (by rw [e113, if_neg (by omega)]) ((s7 k115 (by omega)).2 i) (fun j j0 j1 => ?_)
    rw [e86, e87, if_neg (by omega), if_neg (by omega)]
    exact ⟨rfl, rfl⟩
  · rw [(s7 k111 (by omega)).2, (s7 k115 (by omega)).2, e113, if_pos rfl]
    exact ⟨p2.1, by omega, p2.2.2⟩
  · rw [e87]
    by_cases z : j = w
    · rw [if_pos z]; exact hdm
    · rw [if_neg z]; exact p4 j j0 (by omega)
  · rw [show w + 1 - w0 = (w - w0) + 1 by first | rfl | omega]
    show sm (fun t => mL M7 (a + 21186) (w0 + t) * (mul / mL M7 (a + 21187) (w0 + t))) (w - w0) + mL M7 (a + 21186) (w0 + (w - w0)) * (mul / mL M7 (a + 21187) (w0 + (w - w0))) = _
    rw [show w0 + (w - w0) = w by first | rfl | omega, e86, e87, if_pos rfl, if_pos rfl, ← p5]
    have : sm (fun t => mL M7 (a + 21186) (w0 + t) * (mul / mL M7 (a + 21187) (w0 + t))) (w - w0) = sm (fun t => mL M2 (a + 21186) (w0 + t) * (mul / mL M2 (a + 21187) (w0 + t))) (w - w0) := sm_congr _ (fun t ht => by
      show mL M7 (a + 21186) (w0 + t) * (mul / mL M7 (a + 21187) (w0 + t)) = mL M2 (a + 21186) (w0 + t) * (mul / mL M2 (a + 21187) (w0 + t))
      rw [e86, e87, if_neg (by omega), if_neg (by omega)])
    rw [this]
/-- the ways from w0 on: goals and shares -/
def brR (M : mM) (a w0 : Nat) (mul : Int) (m : Nat) : List (Nat × Int) := (List.range m).map (fun t => ((mI M (a + 21185) (w0 + t)).toNat, mL M (a + 21186) (w0 + t) * (mul / mL M (a + 21187) (w0 + t))))
/-- the ways' chances stand in lowest terms -/
def Wc (M : mM) (a w : Nat) : Prop := ∀ j : Nat, j < w → Int.gcd (mL M (a + 21186) j) (mL M (a + 21187) j) = 1
/-- the ways before w0 are the same -/
def Lw (M M' : mM) (a w0 : Nat) : Prop := ∀ j : Nat, j < w0 → mI M' (a + 21185) j = mI M (a + 21185) j ∧ mL M' (a + 21186) j = mL M (a + 21186) j ∧ mL M' (a + 21187) j = mL M (a + 21187) j
theorem brR_len : (brR M a w0 mul m).length = m := by
  unfold brR
  rw [List.length_map, List.length_range]
theorem brR_s : brR M a w0 mul (m + 1) = brR M a w0 mul m ++ [((mI M (a + 21185) (w0 + m)).toNat, mL M (a + 21186) (w0 + m) * (mul / mL M (a + 21187) (w0 + m)))] := by
  unfold brR
  rw [List.range_succ, List.map_append]
  rfl
theorem brR_cg (h : ∀ i, w0 ≤ i → i < w0 + m → mI M' (a + 21185) i = mI M (a + 21185) i ∧ mL M' (a + 21186) i = mL M (a + 21186) i ∧ mL M' (a + 21187) i = mL M (a + 21187) i) : brR M' a w0 mul m = brR M a w0 mul m := by
  unfold brR
  refine List.map_congr_left (fun t ht => ?_)
  have := List.mem_range.mp ht
  obtain ⟨h1, h2, h3⟩ := h (w0 + t) (by omega) (by omega)
  rw [h1, h2, h3]
theorem brR_mem {x : Nat × Int} (h : x ∈ brR M a w0 mul m) : ∃ i, w0 ≤ i ∧ i < w0 + m ∧ x = ((mI M (a + 21185) i).toNat, mL M (a + 21186) i * (mul / mL M (a + 21187) i)) := by
  unfold brR at h
  obtain ⟨t, ht, e⟩ := List.mem_map.mp h
  have := List.mem_range.mp ht
  exact ⟨w0 + t, by omega, by omega, e.symm⟩
theorem brR_sp : ∀ m, brR M a w0 mul (i + 1 + m) = brR M a w0 mul i ++ ((mI M (a + 21185) (w0 + i)).toNat, mL M (a + 21186) (w0 + i) * (mul / mL M (a + 21187) (w0 + i))) :: brR M a (w0 + i + 1) mul m
  | 0 => by rw [show i + 1 + 0 = i + 1 by first | rfl | omega, brR_s]; rfl
  | m + 1 => by
    rw [show i + 1 + (m + 1) = (i + 1 + m) + 1 by first | rfl | omega, brR_s, brR_sp m, brR_s (w0 := w0 + i + 1), show w0 + (i + 1 + m) = w0 + i + 1 + m by first | rfl | omega, List.append_assoc]
    rfl
/-- what following a branch comes to -/
def foR (fq : List (br9 × (Int × Int)) → List (List Int) → List (Nat × Int) → (Int × Int) × List (List Int) × List (Nat × Int)) (x : br9 × (Int × Int)) (S : List (List Int)) (Bl : List (Nat × Int)) (a W w0 : Nat) (mul : Int) (xv : Int → vrs) (g R : Nat) (M M' : mM) : Prop := (mI M' a 16 ≠ 0 ∧ ∀ rest, (fq (x :: rest) S Bl).1 = (mI M' a 16, mI M' a 17)) ∨ (mI M' a 16 = 0 ∧ ∃ (S' : List (List Int)) (B' : List (Nat × Int)), (∀ rest, fq (x :: rest) S Bl = fq rest S' B') ∧ mI M' a 29 = ((S'.length : Nat) : Int) ∧ SmR M' a W S'.length = S' ∧ ∃ w' : Nat, mI M' a 40 = (w' : Int) ∧ brR M' a w0 mul (w' - w0) = B' ∧ Wc M' a w' ∧ XVq M' a g R W xv ∧ Lw M M' a w0)
/-- the way is looked for among those of this command -/
theorem x_way187 {b tn9 : Nat} {pc to : Int} {fq : List (br9 × (Int × Int)) → List (List Int) → List (Nat × Int) → (Int × Int) × List (List Int) × List (Nat × Int)} {x : br9 × (Int × Int)} {S S2 : List (List Int)} {Bl : List (Nat × Int)} {xv : Int → vrs} (lw : Lw M M2 a w0) (xq : XVq M2 a g R W xv) (eS : S2.length = n ∧ SmR M2 a W n = S2) (hBl : Bl = brR M2 a w0 mul (w - w0)) (wc : Wc M2 a w) (gAD : Int.gcd A D = 1) (etn : to = ((tn9 : Nat) : Int)) (hfq : ∀ rest, fq (x :: rest) S Bl = match jnq9 tn9 (mul / D * A) Bl with | some B' => fq rest S2 B' | none => if w0 + Bl.length = 4096 then ((5, pc), S2, Bl) else fq rest S2 (Bl ++ [(tn9, mul / D * A)])) (ipl : i32 pc) (hb : b < 8) (hw0 : B L = w0) (hA : 0 < A ∧ A < 1000000000) (hD : 0 < D ∧ D < 1000000000) (hdm : D ∣ mul) (hle : Sm + A * (mul / D) ≤ mul) (ht : 0 ≤ to ∧ to < n) (h : wI M a g T R W C Z E tg n L w w0 mul Sm A D B b M2) (z16 : mI M2 a 16 = 0) (hL : L ≤ 4096) : ∀ (t j : Nat), w0 ≤ j → j + t = w → (∀ j', w0 ≤ j' → j' < j → mI M2 (a + 21185) j' ≠ to) → h_MM_way_187 G (d + 6) a b pc to L j M2 (fun M' => mOk M' ∧ wyQ M a g T R W C Z E tg n L w w0 mul (Sm + A * (mul / D)) B M' ∧ foR fq x S Bl a W w0 mul xv g R M M') := by
  obtain ⟨x1, gg, en, xd, op, cA, cD⟩ := id h
  have o2 := gg.1
  have w2 := gg.2.1
  have hg := gg.2.2.1.2
  have hn5 := xd.1.2.2
  have hw4 := xd.2.1.2
  have f40 := xd.2.1.1
  have l13 := xd.2.2.2.2.1.2.2.1
  have ito : i32 to := ⟨by omega, by omega⟩
  have ib : i32 (b : Int) := i32s (by omega) (by omega)
  have iL : i32 (L : Int) := i32s (by omega) (by omega)
  have b8 : ((0 : Int) ≤ (b : Int) ∧ (b : Int) < ((8 : Nat) : Int)) := by omega
  have pr : ∀ {Mx : mM}, Wd Mx a → (mR Mx a 41 = a + 21185 ∧ mR Mx a 42 = a + 21186 ∧ mR Mx a 43 = a + 21187 ∧ mR Mx a 45 = a + 21189 ∧ mR Mx a 46 = a + 21190) := fun w => ⟨w.1.2.2.2.2.2.2.1.1, w.1.2.2.2.2.2.2.1.2.1, w.1.2.2.2.2.2.2.1.2.2.1, w.1.2.2.2.2.2.2.1.2.2.2.2.1, w.1.2.2.2.2.2.2.1.2.2.2.2.2.1⟩
  have ar : ∀ {Mx : mM}, Wd Mx a → ((mK Mx (a + 21185) = 30 ∧ mN Mx (a + 21185) = 4096) ∧ (mK Mx (a + 21186) = 33 ∧ mN Mx (a + 21186) = 4096) ∧ (mK Mx (a + 21187) = 33 ∧ mN Mx (a + 21187) = 4096)) := fun w => ⟨w.1.2.2.2.2.2.2.2.2.2.1.1, w.1.2.2.2.2.2.2.2.2.2.1.2.1, w.1.2.2.2.2.2.2.2.2.2.1.2.2.1⟩
  intro t
  induction t with
  | zero =>
    intro j j0 hj hno
    have ej : j = w := by omega
    subst ej
    have bw : j < 4096 → ((0 : Int) ≤ (j : Int) ∧ (j : Int) < ((4096 : Nat) : Int)) := fun _ => by omega
    have jn : jnq9 tn9 (mul / D * A) Bl = none := jnq_n _ (fun y hy => by
      rw [hBl] at hy
      obtain ⟨i, i1, i2, i3⟩ := brR_mem hy
      have e1 := hno i i1 (by omega)
      have e2 := (xd.2.2.2.1 i (by omega)).1.1
      rw [i3]
      show (mI M2 (a + 21185) i).toNat ≠ tn9
      omega)
    have lB : w0 + Bl.length = j := by rw [hBl, brR_len]; omega
    refine k_MM_way_187 o2 ib ipl ito iL (i32s (by omega) (by omega)) ⟨w2.1.1, ?_⟩
    rw [f40]
    refine ⟨fun _ => ⟨fun q => (s_MM_stop ⟨by decide, by decide⟩ ipl o2 w2).mono (fun M3 h3 => ⟨h3.1.1, h3.1.1, h.stp (by decide) h3, Or.inl ⟨by rw [h3.2.1]; decide, fun rest => ?_⟩⟩), fun q => ?_⟩, fun q => absurd (Int.le_refl _) q⟩
    · rw [hfq rest, jn, h3.2.1, h3.2.2.1]
      show (if w0 + Bl.length = 4096 then ((5, pc), S2, Bl) else _).1 = _
      rw [if_pos (by omega)]
    have hw : j < 4096 := by omega
    have bw := bw hw
    rw [(pr w2).1, Int.toNat_natCast]
    refine ⟨(ar w2).1.1, by rw [(ar w2).1.2]; exact bw, fun M3 e3 => ?_⟩
    have N := fun (M4 M5 M6 M7 : mM) e4 e5 e6 e7 => way_newx (M4 := M4) (M5 := M5) (M6 := M6) (M7 := M7) o2 w2 hg xd hw0 op hw ht hA hD hdm e3 e4 e5 e6 e7
    have N3 := N _ _ _ _ rfl rfl rfl rfl
    have w3 := N3.1.1
    have l3 := N3.2.2.2.2.1.1
    have a3 := N3.2.1.1
    rw [(pr w3).2.2.2.1, (pr w3).2.1, a3, f40, Int.toNat_natCast, Int.toNat_natCast, l3, cA]
    refine ⟨(r4546 w3).2.1.1, by rw [(r4546 w3).2.1.2]; exact b8, (ar w3).2.1.1, by rw [(ar w3).2.1.2]; exact bw, fun M4 e4 => ?_⟩
    have N4 := N M4 _ _ _ e4 rfl rfl rfl
    have w4 := N4.1.2.1
    have a4 := N4.2.1.2.1
    have l4 := N4.2.2.2.2.1.2
    rw [(pr w4).2.2.2.2, (pr w4).2.2.1, a4, f40, Int.toNat_natCast, l4 (a + 21190) (by omega), cD]
    refine ⟨(r4546 w4).2.2.1, by rw [(r4546 w4).2.2.2]; exact b8, (ar w4).2.2.1, by rw [(ar w4).2.2.2]; exact bw, fun M5 e5 => ?_⟩
    have N5 := N M4 M5 _ _ e4 e5 rfl rfl
    have w5 := N5.1.2.2.1
    have a5 := N5.2.1.2.2
    rw [a5, f40]
    refine ⟨i32s (by omega) (by omega), fun M6 e6 => ?_⟩
    have N6 := N M4 M5 M6 _ e4 e5 e6 rfl
    have w6 := N6.1.2.2.2
    have t13 : mI M6 (mR M6 (a + 113) 0) L = ((j - w0 : Nat) : Int) := N6.2.2.1
    have u13 := w6.nu (k113 (a := a))
    have c13 : ((L + 1 : Nat) : Int) ≤ cp M6 (a + 113) := by rw [← N6.2.2.2.1]; exact u13.2.2.2.1.2
    have ecp : mN M6 (mR M6 (a + 113) 0) = cp M6 (a + 113) := rfl
    rw [show mR M6 a 37 = a + 113 from w6.1.2.2.2.2.2.1.2.2.2.2.2.2.1, Int.toNat_natCast]
    refine ⟨u13.1, u13.2.1, by rw [ecp]; omega, by rw [ecp]; omega, by rw [t13]; exact i32s (by omega) (by omega), fun M7 e7 => ?_⟩
    obtain ⟨-, -, -, -, -, W7, m7, e16, X7, O7, y85, y86, y87, y105⟩ := N M4 M5 M6 M7 e4 e5 e6 e7
    have in13 : ∀ q, q = a + 113 → q ∈ nums a := fun q hq => by rw [hq]; exact k113
    have gs := gs_st w2 hg m7 in13 (fun q hq z => by
      have z' : q = g + 1 ∨ q = g + 3 ∨ q = g + 5 ∨ q = g + 7 ∨ q = g + 9 ∨ q = g + 11 ∨ q = g + 30 ∨ q = g + 32 ∨ q = g + 34 := z
      omega) (fun x hx => by omega)
    refine ⟨m7.1, ⟨x1.trans W7, gg.gs m7.1 m7.2.1 (by rw [m7.rfl_a w2 in13]) gs, en.mv w2 m7 in13 gs (fun x hx => by omega), Or.inr ⟨by rw [e16]; exact z16, n, j + 1, Nat.le_refl _, Or.inr rfl, X7, O7⟩⟩, Or.inr ⟨by rw [e16]; exact z16, S2, Bl ++ [(tn9, mul / D * A)], fun rest => ?_, ?_, ?_, j + 1, X7.2.1.1, ?_, ?_, xq.mv w2 m7 in13 gs (fun x hx => by omega), fun i hi => ?_⟩⟩
    · rw [hfq rest, jn]
      show (if w0 + Bl.length = 4096 then ((5, pc), S2, Bl) else _) = _
      rw [if_neg (by omega)]
    · rw [eS.1]
      exact X7.1.1
    · rw [eS.1, SmR_cg (M := M2) gg.2.2.2.2.2.2.2.1.1.2.1 (fun j _ => by rw [y105])]
      exact eS.2
    · rw [show j + 1 - w0 = (j - w0) + 1 by first | rfl | omega, brR_s, brR_cg (M := M2) (fun i i1 i2 => by rw [y85, y86, y87, if_neg (by omega), if_neg (by omega), if_neg (by omega)]; exact ⟨rfl, rfl, rfl⟩), ← hBl, show w0 + (j - w0) = j by first | rfl | omega, y85, y86, y87, if_pos rfl, if_pos rfl, if_pos rfl, etn, Int.toNat_natCast, Int.mul_comm]
    · intro i hi
      rw [y86, y87]
      by_cases y : i = j
      · rw [if_pos y, if_pos y]; exact gAD
      · rw [if_neg y, if_neg y]; exact wc i (by omega)
    · rw [y85, y86, y87, if_neg (by omega), if_neg (by omega), if_neg (by omega)]
      exact lw i hi
  | succ t ih =>
    intro j j0 hj hno
    have bj : ((0 : Int) ≤ (j : Int) ∧ (j : Int) < ((4096 : Nat) : Int)) := by omega
    refine k_MM_way_187 o2 ib ipl ito iL (i32s (by omega) (by omega)) ⟨w2.1.1, ?_⟩
    rw [f40, (pr w2).1, (pr w2).2.2.2.1, (pr w2).2.2.2.2, Int.toNat_natCast, Int.toNat_natCast, cA, cD]
    refine ⟨fun q => absurd q (by omega), fun _ => ⟨(ar w2).1.1, by rw [(ar w2).1.2]; exact bj, fun qt => ⟨(r4546 w2).2.1.1, by rw [(r4546 w2).2.1.2]; exact b8, (r4546 w2).2.2.1, by rw [(r4546 w2).2.2.2]; exact b8, ?_⟩, fun qt => ?_⟩⟩
    · refine (x_MM_add (d := d + 5) hg o2 w2 xd hw0 op j0 (by omega) hA hD hdm hle).mono (fun M3 t3 => ?_)
      obtain ⟨o3, m3, i3, X3, O3, y1, y2, y3⟩ := t3
      have no : ∀ q : Nat, False → q ∈ nums a := fun _ z => z.elim
      have gs := gs_st w2 hg m3 no (fun _ z => z.elim) (fun x z => by omega)
      have W3 : wyF M2 a M3 := wyF.mk w2 m3 (fun _ z => z.elim) (fun x z => Or.inr (Or.inr (by omega))) (fun i _ _ _ _ _ => by rw [i3])
      have qe : mI M2 (a + 21185) j = to := qt
      have sp : Bl = brR M2 a w0 mul (j - w0) ++ ((mI M2 (a + 21185) j).toNat, mL M2 (a + 21186) j * (mul / mL M2 (a + 21187) j)) :: brR M2 a (j + 1) mul (w - (j + 1)) := by
        have := brR_sp (M := M2) (a := a) (w0 := w0) (mul := mul) (i := j - w0) (w - (j + 1))
        rw [show j - w0 + 1 + (w - (j + 1)) = w - w0 by first | rfl | omega, show w0 + (j - w0) = j by first | rfl | omega] at this
        rw [hBl]
        exact this
      have sp3 : brR M3 a w0 mul (w - w0) = brR M2 a w0 mul (j - w0) ++ ((mI M2 (a + 21185) j).toNat, mL M2 (a + 21186) j * (mul / mL M2 (a + 21187) j) + mul / D * A) :: brR M2 a (j + 1) mul (w - (j + 1)) := by
        have := brR_sp (M := M3) (a := a) (w0 := w0) (mul := mul) (i := j - w0) (w - (j + 1))
        rw [show j - w0 + 1 + (w - (j + 1)) = w - w0 by first | rfl | omega, show w0 + (j - w0) = j by first | rfl | omega] at this
        rw [this, y2, i3, Int.mul_comm A, brR_cg (M := M2) (M' := M3) (fun i i1 i2 => by rw [i3]; exact ⟨rfl, y1 i (by omega)⟩), brR_cg (M := M2) (M' := M3) (w0 := j + 1) (fun i i1 i2 => by rw [i3]; exact ⟨rfl, y1 i (by omega)⟩)]
      have jn : jnq9 tn9 (mul / D * A) Bl = some (brR M3 a w0 mul (w - w0)) := by
        rw [sp, sp3]
        refine jnq_s (by show (mI M2 (a + 21185) j).toNat = tn9; rw [qe, etn, Int.toNat_natCast]) _ (fun y hy => ?_)
        obtain ⟨i, i1, i2, i3'⟩ := brR_mem hy
        have e1 := hno i i1 (by omega)
        have e2 := (xd.2.2.2.1 i (by omega)).1.1
        rw [i3']
        show (mI M2 (a + 21185) i).toNat ≠ tn9
        omega
      exact ⟨o3, o3, ⟨x1.trans W3, gg.gs o3 m3.2.1 (by rw [m3.rfl_a w2 no]) gs, en.mv w2 m3 no gs (fun x z => by omega), Or.inr ⟨by rw [i3]; exact z16, n, w, Nat.le_refl _, Or.inl rfl, X3, O3⟩⟩, Or.inr ⟨by rw [i3]; exact z16, S2, brR M3 a w0 mul (w - w0), fun rest => by rw [hfq rest, jn], by rw [i3, eS.1]; exact xd.1.1, by rw [eS.1, SmR_cg (M := M2) gg.2.2.2.2.2.2.2.1.1.2.1 (fun j _ => by rw [i3])]; exact eS.2, w, by rw [i3]; exact f40, rfl, fun i hi => by
        by_cases y : i = j
        · rw [y]; exact y3
        · rw [(y1 i y).1, (y1 i y).2]; exact wc i hi, xq.mv w2 m3 no gs (fun x z => by omega), fun i hi => by rw [i3, (y1 i (by omega)).1, (y1 i (by omega)).2]; exact lw i hi⟩⟩
    · rw [show (j : Int) + 1 = ((j + 1 : Nat) : Int) by first | rfl | omega]
      exact ih (j + 1) (by omega) (by omega) (fun j' h1 h2 => by
        by_cases y : j' = j
        · rw [y]; exact qt
        · exact hno j' h1 (by omega))
end WYX
end
section
/-! The reference: way, exactly. -/
section WZX
variable {G : mG} {d a g T R W C Z n L w w0 : Nat} {M M2 : mM} {E : Eg9} {tg mul Sm A D : Int} {B : Nat → Nat} {ww pl lo hi : Nat → Int} {XV : List Int → Int → vrs} {ev : List Int → Nat → Nat → vrs} {cvS : List Int → Nat → vrs} {stp : List Int → List (Nat × Nat × Nat × Nat) → (Int × Int) × List Int} {tgI : Nat × Nat} {cms : List cm9} {sg : List Int}
theorem x_way59 {b c fs mn : Nat} {pc : Int} {br : br9} {S : List (List Int)} {Bl : List (Nat × Int)} (hev : ∀ sg i j, ev sg i j = vlq ww (cvS sg) pl 0 0 i j) (hstp : ∀ sg l, stp sg l = ((stq9 ww (cvS sg) pl lo hi l (fun v => sg.getD v 0)).1, (List.range W).map (stq9 ww (cvS sg) pl lo hi l (fun v => sg.getD v 0)).2)) (hp : GP ww pl XV ev M g R W C T E tgI cms lo hi) (hbr : RBr ww pl XV ev M g R W T E (8 * c + b) br) (gAD : Int.gcd A D = 1) (h0 : GG M a g T R W C Z E tg) (ipl : i32 pc) (hb : b < 8) (hc : c < C) (h28 : mI M (g + 28) (8 * c + b) = (fs : Int)) (h29 : mI M (g + 29) (8 * c + b) = (mn : Int)) (hfm : fs + mn ≤ Z) (hw0 : B L = w0) (hA : 0 < A ∧ A < 1000000000) (hD : 0 < D ∧ D < 1000000000) (hdm : D ∣ mul) (hle : Sm + A * (mul / D) ≤ mul) (hL : L ≤ 4096) : ∀ (t i : Nat) (M2 : mM), fs ≤ i → i + t = fs + mn → wI M a g T R W C Z E tg n L w w0 mul Sm A D B b M2 → (mI M2 a 16 = 0 → Nxv M2 a g W) → (mI M2 a 16 = 0 → (S.length = n ∧ SmR M2 a W n = S ∧ brR M2 a w0 mul (w - w0) = Bl ∧ Wc M2 a w ∧ Lw M M2 a w0) ∧ XVq M2 a g R W (XV sg) ∧ ∃ nx : Nat → Int, (∀ v, v < W → mI M2 (a + 21188) v = nx v) ∧ stq9 ww (cvS sg) pl lo hi br.2.2 (fun v => sg.getD v 0) = stq9 ww (cvS sg) pl lo hi (br.2.2.drop (i - fs)) nx) → (mI M2 a 16 ≠ 0 → (stq9 ww (cvS sg) pl lo hi br.2.2 (fun v => sg.getD v 0)).1 = (mI M2 a 16, mI M2 a 17)) → h_MM_way_59 G (d + 6) a b pc (8 * c + b : Nat) fs i M2 (fun M' => mOk M' ∧ wyQ M a g T R W C Z E tg n L w w0 mul (Sm + A * (mul / D)) B M' ∧ foR (flq9 stp sg pc mul w0) (br, A, D) S Bl a W w0 mul (XV sg) g R M M') := by
  have wd0 := h0.2.1
  have hR := h0.2.2.2.2.2.2.2.1.1.1
  have hW12 := h0.2.2.2.2.2.2.2.1.1.2.1
  have hlen : br.2.2.length = mn := by
    have e := hbr.2.2.1
    rw [h29] at e
    omega
  have hne : ((br, A, D) : br9 × (Int × Int)).2.1 ≠ 0 := by show A ≠ 0; omega
  have flt : ∀ {M2 : mM}, mI M2 a 16 ≠ 0 → (stq9 ww (cvS sg) pl lo hi br.2.2 (fun v => sg.getD v 0)).1 = (mI M2 a 16, mI M2 a 17) → foR (flq9 stp sg pc mul w0) (br, A, D) S Bl a W w0 mul (XV sg) g R M M2 := fun {M2} z e => Or.inl ⟨z, fun rest => by
    have e1 : (stp sg br.2.2).1 = (mI M2 a 16, mI M2 a 17) := by rw [hstp]; exact e
    rw [flq_f hne (by show (stp sg br.2.2).1.1 ≠ 0; rw [e1]; exact z)]
    exact e1⟩
  have hg := h0.2.2.1.2
  have hBd := h0.2.2.2.2.2.2.2.1.1
  have hZ := h0.2.2.2.2.1.2
  have ib : i32 (b : Int) := i32s (by omega) (by omega)
  have ix : i32 ((8 * c + b : Nat) : Int) := i32s (by omega) (by omega)
  have ifs : i32 (fs : Int) := i32s (by omega) (by omega)
  have b480 : ((0 : Int) ≤ ((8 * c + b : Nat) : Int) ∧ ((8 * c + b : Nat) : Int) < ((480 : Nat) : Int)) := by omega
  intro t
  induction t with
  | zero =>
    intro i M2 i0 hi9 h hnx hz hf
    have ei : i = fs + mn := by omega
    subst ei
    obtain ⟨x1, gg, en, xd, op, cA, cD⟩ := id h
    have o2 := gg.1
    have w2 := gg.2.1
    have gs := x1.gs wd0 hg
    have r29 : mI M2 (g + 29) (8 * c + b) = (mn : Int) := by rw [(gs.2.1 29 (by omega) (by omega)).1]; exact h29
    refine k_MM_way_59 o2 ib ipl ix ifs (i32s (by omega) (by omega)) ⟨w2.1.1, ?_⟩
    rw [gg.2.2.1.1, show mR M2 g 26 = g + 29 from (w2.gp hg).2.2.1.2.2.2.2.2.2.2.2.2.2.2.1, Int.toNat_natCast, r29]
    refine ⟨(w2.gp hg).1, (w2.gp hg).2.2.2.2.2.2.2.2.2.2.2.2.1, by rw [(w2.gp hg).2.2.2.2.2.2.2.2.2.2.2.2.2]; exact b480, i32s (by omega) (by omega), fun _ => ⟨fun z16 => ?_, fun z16 => ⟨o2, h.x z16, flt z16 (hf z16)⟩⟩, fun q => absurd (Or.inl (by omega)) q⟩
    obtain ⟨⟨eS1, eS2, eB, eW, eL⟩, zx, nx, zn, zs⟩ := hz z16
    rw [show fs + mn - fs = mn by first | rfl | omega, List.drop_eq_nil_of_le (by omega)] at zs
    have zs : stq9 ww (cvS sg) pl lo hi br.2.2 (fun v => sg.getD v 0) = ((0, 0), nx) := zs
    have sp1 : (stp sg br.2.2).1 = (0, 0) := by rw [hstp, zs]
    have sp2 : (stp sg br.2.2).2 = nxR M2 a W := by
      rw [hstp, zs]
      unfold nxR
      exact List.map_congr_left (fun v hv => (zn v (List.mem_range.mp hv)).symm)
    refine (x_MM_stateOf (d := d + 6) gg xd.1.1 xd.1.2.2 xd.2.2.1 (hnx z16)).mono (fun x M3 t3 => ?_)
    obtain ⟨ixx, o3, hs, hso⟩ := t3
    rw [eS2, ← sp2] at hso
    refine ⟨ixx, o3, ?_⟩
    rcases hs with ⟨y1, y2⟩ | ⟨n', y1, y2, y3, y4, m3, y5, y6, y7⟩
    · subst y2
      refine ⟨fun q => by omega, fun _ => ⟨w2.1.1, ?_⟩⟩
      rw [gg.2.2.1.1, show mR M3 g 24 = g + 27 from (w2.gp hg).2.2.1.2.2.2.2.2.2.2.2.2.1]
      refine ⟨(w2.gp hg).1, (w2.gp hg).2.2.2.2.2.2.2.2.2.2.1.1, by rw [(w2.gp hg).2.2.2.2.2.2.2.2.2.2.1.2]; exact b480, (s_MM_stop ⟨by decide, by decide⟩ (o2 _ _).1 o2 w2).mono (fun M4 h4 => ⟨h4.1.1, h4.1.1, h.stp (by decide) h4, Or.inl ⟨by rw [h4.2.1]; decide, fun rest => ?_⟩⟩)⟩
      have en9 : enq9 S (stp sg br.2.2).2 = none := by
        rcases hso with ⟨e, -⟩ | ⟨k, S', -, e, -⟩
        · exact e
        · omega
      rw [flq_n hne (by show (stp sg br.2.2).1.1 = 0; rw [sp1]) en9, h4.2.1, h4.2.2.1]
      show ((5 : Int), br.1) = _
      rw [(gs.2.1 27 (by omega) (by omega)).1, hbr.1]
    · obtain ⟨kk, S', en9, ek, el, eS⟩ : ∃ (k : Nat) (S' : List (List Int)), enq9 S (stp sg br.2.2).2 = some (k, S') ∧ x = (k : Int) ∧ mI M3 a 29 = ((S'.length : Nat) : Int) ∧ SmR M3 a W S'.length = S' := by
        rcases hso with ⟨-, e⟩ | e
        · omega
        · exact e
      have eln : S'.length = n' := by
        rw [y5] at el
        omega
      rw [eln] at eS
      have h3 := h.so (x := x) y1 y2 m3 y5 y6 y7
      have gg3 := h3.2.1
      have w3 := gg3.2.1
      have op3 := h3.2.2.2.2.1
      have l111 : mI M3 (a + 111) 1 = (L + 1 : Nat) := h3.2.2.2.1.2.2.2.2.1.2.1
      refine ⟨fun _ => ⟨w3.1.1, ?_⟩, fun q => absurd y3 q⟩
      rw [show mR M3 a 36 = a + 111 from w3.1.2.2.2.2.2.1.2.2.2.2.2.1, l111, show ((L + 1 : Nat) : Int) - 1 = (L : Int) by first | rfl | omega]
      refine ⟨(w3.nu k111).1, (s_MN_at o3 (w3.nu k111) (by show (L : Int) < mI M3 (a + 111) 1; rw [l111]; omega)).mono (fun u M4 e4 => ?_)⟩
      obtain ⟨e4, hu⟩ := e4
      subst e4
      have hu' : u = (w0 : Int) := hu.trans op3.2.1.1
      subst hu'
      refine ⟨i32s (by have := h3.2.2.2.1.2.1.2; have := op3.1; omega) (by have := h3.2.2.2.1.2.1.2; have := op3.1; omega), o3, ?_⟩
      have no : ∀ q : Nat, False → q ∈ nums a := fun _ z => z.elim
      have gs23 := gs_st w2 hg m3 no (fun _ z => z.elim) (fun x z => by omega)
      have cc : ∀ o, frO o → o ≠ 0 → o ≠ 105 → mI M4 (a + o) = mI M2 (a + o) ∧ mL M4 (a + o) = mL M2 (a + o) := fun o fo o0 o1 => m3.cellL w2 no (offx fo) (by omega)
      have c85 := (cc 21185 (by decide) (by decide) (by decide)).1
      have c86 := (cc 21186 (by decide) (by decide) (by decide)).2
      have c87 := (cc 21187 (by decide) (by decide) (by decide)).2
      have eB3 : Bl = brR M4 a w0 mul (w - w0) := by
        rw [← eB]
        exact (brR_cg (M := M2) (M' := M4) (fun i _ _ => by rw [c85, c86, c87]; exact ⟨rfl, rfl, rfl⟩)).symm
      have eW3 : Wc M4 a w := fun j hj => by
        rw [c86, c87]
        exact eW j hj
      have key := x_way187 (G := G) (d := d) (fq := flq9 stp sg pc mul w0) (x := (br, A, D)) (S := S) (S2 := S') (tn9 := kk) (xv := XV sg) (fun j hj => by rw [c85, c86, c87]; exact eL j hj) (zx.mv w2 m3 no gs23 (fun x z => by omega)) ⟨eln, eS⟩ eB3 eW3 gAD ek (fun rest => flq_e hne (by show (stp sg br.2.2).1.1 = 0; rw [sp1]) en9) ipl hb hw0 hA hD hdm hle ⟨y3, y4⟩ h3 (by rw [y6 16 (by decide)]; exact z16) hL (w - w0) w0 (Nat.le_refl _) (by have := op3.1; omega) (fun j' h1 h2 => absurd h2 (by omega))
      have hq : ∀ M', (mOk M' ∧ wyQ M a g T R W C Z E tg n' L w w0 mul (Sm + A * (mul / D)) B M' ∧ foR (flq9 stp sg pc mul w0) (br, A, D) S Bl a W w0 mul (XV sg) g R M M') → mOk M' ∧ wyQ M a g T R W C Z E tg n L w w0 mul (Sm + A * (mul / D)) B M' ∧ foR (flq9 stp sg pc mul w0) (br, A, D) S Bl a W w0 mul (XV sg) g R M M' := fun M' z => ⟨z.1, z.2.1.up (by omega), z.2.2⟩
      exact mWm.mono key (fun r M' z => ⟨z.1, hq M' z.2⟩)
  | succ t ih =>
    intro i M2 i0 hi9 h hnx hz hf
    obtain ⟨x1, gg, en, xd, op, cA, cD⟩ := id h
    have o2 := gg.1
    have w2 := gg.2.1
    have gs := x1.gs wd0 hg
    have r29 : mI M2 (g + 29) (8 * c + b) = (mn : Int) := by rw [(gs.2.1 29 (by omega) (by omega)).1]; exact h29
    have iZ : i < Z := by omega
    obtain ⟨z30, z32, z34⟩ := gg.2.2.2.2.2.2.1
    have hD2 := gg.2.2.2.2.2.2.2.1
    obtain ⟨s1, s2, s3⟩ := hD2.2.2.2.2.2.1 i iZ
    refine k_MM_way_59 o2 ib ipl ix ifs (i32s (by omega) (by omega)) ⟨w2.1.1, ?_⟩
    rw [gg.2.2.1.1, show mR M2 g 26 = g + 29 from (w2.gp hg).2.2.1.2.2.2.2.2.2.2.2.2.2.2.1, show mR M2 g 27 = g + 30 from (w2.gp hg).2.2.1.2.2.2.2.2.2.2.2.2.2.2.2.1, Int.toNat_natCast, r29]
    refine ⟨(w2.gp hg).1, (w2.gp hg).2.2.2.2.2.2.2.2.2.2.2.2.1, by rw [(w2.gp hg).2.2.2.2.2.2.2.2.2.2.2.2.2]; exact b480, i32s (by omega) (by omega), fun q => ⟨fun z16 => absurd z16 (by
      rcases q with q | q
      · omega
      · exact q), fun z16 => ⟨o2, h.x z16, flt z16 (hf z16)⟩⟩, fun q => ⟨(w2.nu (n30 hg)).1, ?_⟩⟩
    have z16 : mI M2 a 16 = 0 := Classical.byContradiction (fun z => q (Or.inr z))
    obtain ⟨⟨eS1, eS2, eB, eW, eL⟩, zx, nx, zn, zs⟩ := hz z16
    obtain ⟨sq, hsq⟩ : ∃ sq, br.2.2[i - fs]? = some sq := ⟨_, List.getElem?_eq_getElem (by omega)⟩
    have dq : br.2.2.drop (i - fs) = sq :: br.2.2.drop (i + 1 - fs) := by
      obtain ⟨hl, he⟩ := List.getElem?_eq_some_iff.mp hsq
      rw [List.drop_eq_getElem_cons hl, he, show i - fs + 1 = i + 1 - fs by first | rfl | omega]
    rw [dq] at zs
    have gs02 : Gs M M2 g := gs
    obtain ⟨-, -, -, fs', hfs', hsets⟩ := hbr.gs gs02 hR
    have efs : fs' = fs := by
      have e1 : mI M2 (g + 28) (8 * c + b) = (fs : Int) := by rw [(gs.2.1 28 (by omega) (by omega)).1]; exact h28
      omega
    subst efs
    obtain ⟨sv1, sv2, sv3, sv4⟩ := hsets (i - fs') sq hsq
    rw [show fs' + (i - fs') = i by first | rfl | omega] at sv1 sv2 sv4
    have hp2 := hp.gs gs02 hR
    have rd : ∀ {p : Nat} {Q : Int → mM → Prop}, p ∈ nums a → (i : Int) < ln M2 p → (∀ z, z = nt M2 p i → i32 z → Q z M2) → Ci G y_MN_at (d + 6) [vr p, vi i] M2 Q := fun hp hk hQ => by
      refine (s_MN_at o2 (w2.nu hp) hk).mono (fun z M1 e1 => ?_)
      obtain ⟨e1, hz⟩ := e1
      subst e1
      exact hQ z hz (by rw [hz]; exact (o2 _ _).1)
    refine rd (n30 hg) (by rw [z30]; omega) (fun v hv iv => ⟨iv, o2, w2.1.1, ?_⟩)
    rw [gg.2.2.1.1, show mR M2 g 29 = g + 34 from (w2.gp hg).2.2.1.2.2.2.2.2.2.2.2.2.2.2.2.2.2]
    refine ⟨(w2.gp hg).1, (w2.nu (n34 hg)).1, rd (n34 hg) (by rw [z34]; omega) (fun rt hrt irt => ⟨irt, o2, w2.1.1, ?_⟩)⟩
    rw [gg.2.2.1.1, show mR M2 g 28 = g + 32 from (w2.gp hg).2.2.1.2.2.2.2.2.2.2.2.2.2.2.2.2.1]
    refine ⟨(w2.gp hg).1, (w2.nu (n32 hg)).1, rd (n32 hg) (by rw [z32]; omega) (fun p hp' ip => ⟨ip, o2, w2.1.1, ?_⟩)⟩
    have hv' : v = ((sq.1 : Nat) : Int) := hv.trans sv1
    subst hv'
    rw [← hrt] at sv4
    have hpp : p = pl sq.2.2.2 := hp'.trans sv2
    refine (x_MM_set1 (d := d) (sg := sg) gg en (hnx z16) sv3 hp2.1 zx z16 (hp2.2.2.2.1 sq.1 sv3).1 (hp2.2.2.2.1 sq.1 sv3).2 sv4 ip).mono (fun M3 t3 => ⟨t3.1, ?_⟩)
    obtain ⟨-, ⟨m3, f3, gg3, en3, nx3⟩, u3⟩ := t3
    rw [hev, hpp] at u3
    have h3 := h.st m3 (fun q hq => hq) (fun x hx => hx) f3 en3
    rw [show (i : Int) + 1 = ((i + 1 : Nat) : Int) by first | rfl | omega]
    refine ih (i + 1) M3 (by omega) (by omega) h3 nx3 (fun z3 => ?_) (fun z3 => ?_)
    · rcases u3 with u | ⟨u1, u2, u3', -⟩ | ⟨u1, u2, u3', u4, u5⟩
      · exact absurd (u.2.1.symm.trans z3) u.1
      · exact absurd (u3'.symm.trans z3) u2
      have un : ∀ x, sxS a x → x = a ∨ (a + 97 ≤ x ∧ x ≤ a + 98) ∨ (a + 102 ≤ x ∧ x ≤ a + 104) ∨ x = a + 21188 := fun x hx => by
        have h' : (x = a ∨ x = a + 97 ∨ x = a + 98 ∨ x = a + 102 ∨ x = a + 103 ∨ x = a + 104) ∨ x = a + 21188 := hx
        omega
      have cc : ∀ o, frO o → (o = 105 ∨ o = 21185 ∨ o = 21186 ∨ o = 21187) → mI M3 (a + o) = mI M2 (a + o) ∧ mL M3 (a + o) = mL M2 (a + o) := fun o fo ho => m3.cellL w2 in99 (offx fo) (fun z => by have := un _ z; omega)
      have c105 := (cc 105 (by decide) (by omega)).1
      have c85 := (cc 21185 (by decide) (by omega)).1
      have c86 := (cc 21186 (by decide) (by omega)).2
      have c87 := (cc 21187 (by decide) (by omega)).2
      refine ⟨⟨eS1, ?_, ?_, fun j hj => ?_, fun j hj => by rw [c85, c86, c87]; exact eL j hj⟩, u5, fun v => if v = sq.1 then (vlq ww (cvS sg) pl 0 0 sq.2.1 sq.2.2.1).2.1 else nx v, fun v hv9 => ?_, ?_⟩
      · rw [SmR_cg (M := M2) hW12 (fun j _ => by rw [c105])]; exact eS2
      · rw [brR_cg (M := M2) (M' := M3) (fun i _ _ => by rw [c85, c86, c87]; exact ⟨rfl, rfl, rfl⟩)]; exact eB
      · rw [c86, c87]; exact eW j hj
      · rw [u4, zn v hv9]
      · rw [zs, stq9, if_neg (fun u => u u1), if_neg (fun u => u (by rw [u2]))]
    · rw [zs, stq9]
      rcases u3 with u | ⟨u1, u2, u3', u4⟩ | ⟨-, -, u3', -⟩
      · rw [if_pos u.1]
        show ((vlq ww (cvS sg) pl 0 0 sq.2.1 sq.2.2.1).1, (vlq ww (cvS sg) pl 0 0 sq.2.1 sq.2.2.1).2.1) = _
        rw [u.2.1, u.2.2]
      · rw [if_neg (fun u => u u1), if_pos u2]
        show stfq _ _ _ _ _ = _
        rw [u3', u4]
      · exact absurd u3' z3
theorem x_MM_way {b c : Nat} {pc : Int} {br : br9} {S : List (List Int)} {Bl : List (Nat × Int)} (hev : ∀ sg i j, ev sg i j = vlq ww (cvS sg) pl 0 0 i j) (hstp : ∀ sg l, stp sg l = ((stq9 ww (cvS sg) pl lo hi l (fun v => sg.getD v 0)).1, (List.range W).map (stq9 ww (cvS sg) pl lo hi l (fun v => sg.getD v 0)).2)) (hp : GP ww pl XV ev M g R W C T E tgI cms lo hi) (hbr : RBr ww pl XV ev M g R W T E (8 * c + b) br) (gAD : Int.gcd A D = 1) (z16 : mI M a 16 = 0) (eS : S.length = n ∧ SmR M a W n = S) (eB : brR M a w0 mul (w - w0) = Bl) (eW : Wc M a w) (xq : XVq M a g R W (XV sg)) (hsg : ∀ v, v < W → mI M (a + 101) v = sg.getD v 0) (h : wI M a g T R W C Z E tg n L w w0 mul Sm A D B b M) (ipl : i32 pc) (hc : c < C) (hbn : (b : Int) < mI M (g + 25) c) (hw0 : B L = w0) (hA : 0 < A ∧ A < 1000000000) (hD : 0 < D ∧ D < 1000000000) (hdm : D ∣ mul) (hle : Sm + A * (mul / D) ≤ mul) (hL : L ≤ 4096) : Cv G y_MM_way (d + 7) [vr a, vi c, vi b, vi pc] M (fun M' => mOk M' ∧ wyQ M a g T R W C Z E tg n L w w0 mul (Sm + A * (mul / D)) B M' ∧ foR (flq9 stp sg pc mul w0) (br, A, D) S Bl a W w0 mul (XV sg) g R M M') := by
  obtain ⟨x1, gg, en, xd, op, cA, cD⟩ := id h
  have wd := gg.2.1
  have hg := gg.2.2.1.2
  have hD0 := gg.2.2.2.2.2.2.2.1
  have hBd := hD0.1
  have cc := hD0.2.2.2.2.1 c hc
  have hb : b < 8 := by have := cc.2.2.1; omega
  have bc := cc.2.2.2 b hbn
  obtain ⟨fs, hfs⟩ : ∃ fs : Nat, mI M (g + 28) (8 * c + b) = (fs : Int) := ⟨(mI M (g + 28) (8 * c + b)).toNat, by have := bc.2.1; omega⟩
  obtain ⟨mn, hmn⟩ : ∃ mn : Nat, mI M (g + 29) (8 * c + b) = (mn : Int) := ⟨(mI M (g + 29) (8 * c + b)).toNat, by have := bc.2.2.1; omega⟩
  have hfm : fs + mn ≤ Z := by have := bc.2.2.2; omega
  have g12 := gg.2.2.2.2.2.1.2.1
  have ib : i32 (b : Int) := i32s (by omega) (by omega)
  have ix : i32 ((8 * c + b : Nat) : Int) := i32s (by omega) (by omega)
  have b480 : ((0 : Int) ≤ ((8 * c + b : Nat) : Int) ∧ ((8 * c + b : Nat) : Int) < ((480 : Nat) : Int)) := by omega
  refine k_MM_way gg.1 (i32s (by omega) (by omega)) ib ipl ?_
  rw [show 8 * (c : Int) + (b : Int) = ((8 * c + b : Nat) : Int) by first | rfl | omega]
  suffices H : ∀ (t v : Nat) (M2 : mM), v + t = W → wI M a g T R W C Z E tg n L w w0 mul Sm A D B b M2 → mI M2 (a + 101) = mI M (a + 101) → (∀ v', v' < v → mI M2 (a + 21188) v' = mI M (a + 101) v') → (mI M2 a 16 = 0 ∧ SmR M2 a W n = S ∧ brR M2 a w0 mul (w - w0) = Bl ∧ Wc M2 a w ∧ XVq M2 a g R W (XV sg) ∧ Lw M M2 a w0) → h_MM_way_11 G (d + 6) a b pc (8 * c + b : Nat) v M2 (fun M' => mOk M' ∧ wyQ M a g T R W C Z E tg n L w w0 mul (Sm + A * (mul / D)) B M' ∧ foR (flq9 stp sg pc mul w0) (br, A, D) S Bl a W w0 mul (XV sg) g R M M') from H W 0 M (by omega) h rfl (fun v' hv' => absurd hv' (by omega)) ⟨z16, eS.2, eB, eW, xq, fun _ _ => ⟨rfl, rfl, rfl⟩⟩
  have hW12 := gg.2.2.2.2.2.2.2.1.1.2.1
  intro t
  induction t with
  | zero =>
    intro v M2 hv h2 e101 hn hk
    have ev : v = W := by omega
    subst ev
    have gg2 := h2.2.1
    have w2 := gg2.2.1
    have gs := h2.1.gs wd hg
    have r28 : mI M2 (g + 28) (8 * c + b) = (fs : Int) := by rw [(gs.2.1 28 (by omega) (by omega)).1]; exact hfs
    refine k_MM_way_11 gg2.1 ib ipl ix (i32s (by omega) (by omega)) ⟨w2.1.1, ?_⟩
    rw [gg2.2.2.1.1, gg2.2.2.2.2.2.1.2.1, show mR M2 g 25 = g + 28 from (w2.gp hg).2.2.1.2.2.2.2.2.2.2.2.2.2.1, Int.toNat_natCast, r28]
    refine ⟨(w2.gp hg).1, fun _ => ⟨(w2.gp hg).2.2.2.2.2.2.2.2.2.2.2.1.1, by rw [(w2.gp hg).2.2.2.2.2.2.2.2.2.2.2.1.2]; exact b480, x_way59 hev hstp hp hbr gAD gg ipl hb hc hfs hmn hfm hw0 hA hD hdm hle hL mn fs M2 (Nat.le_refl _) rfl h2 (fun _ v' hv' => ?_) (fun _ => ⟨⟨eS.1, hk.2.1, hk.2.2.1, hk.2.2.2.1, hk.2.2.2.2.2⟩, hk.2.2.2.2.1, fun v => sg.getD v 0, fun v' hv' => by rw [hn v' hv']; exact hsg v' hv', by rw [Nat.sub_self]; rfl⟩) (fun z => absurd hk.1 z)⟩, fun q => absurd (Int.le_refl _) q⟩
    rw [(gs.2.1 19 (by omega) (by omega)).1, (gs.2.1 20 (by omega) (by omega)).1, hn v' hv']
    exact en.2 v' hv'
  | succ t ih =>
    intro v M2 hv h2 e101 hn hk
    have gg2 := h2.2.1
    have w2 := gg2.2.1
    have A1 : mK M2 (a + 101) = 30 ∧ mN M2 (a + 101) = 12 := w2.1.2.2.2.2.2.2.2.1.2.2.1
    have A8 : mK M2 (a + 21188) = 30 ∧ mN M2 (a + 21188) = 12 := w2.1.2.2.2.2.2.2.2.2.2.1.2.2.2.1
    have b12 : ((0 : Int) ≤ (v : Int) ∧ (v : Int) < ((12 : Nat) : Int)) := by omega
    refine k_MM_way_11 gg2.1 ib ipl ix (i32s (by omega) (by omega)) ⟨w2.1.1, ?_⟩
    rw [gg2.2.2.1.1, gg2.2.2.2.2.2.1.2.1, show mR M2 a 25 = a + 101 from w2.1.2.2.2.2.1.2.2.2.2.2.2.2.2.2.1, show mR M2 a 44 = a + 21188 from w2.1.2.2.2.2.2.2.1.2.2.2.1, Int.toNat_natCast, Int.toNat_natCast, e101]
    refine ⟨(w2.gp hg).1, fun q => absurd q (by omega), fun _ => ⟨A1.1, by rw [A1.2]; exact b12, A8.1, by rw [A8.2]; exact b12, fun M3 e3 => ?_⟩⟩
    obtain ⟨m3, f3, l3⟩ := mv_cell (gg.1 _ _).1 gg2.1 w2 (show a ≤ a + 21188 by omega) (offx (a := a) (o := 21188) (by decide)) e3
    have no : ∀ q : Nat, False → q ∈ nums a := fun _ z => z.elim
    have gs3 := gs_st w2 hg m3 no (fun _ z => z.elim) (fun x z => by omega)
    have en3 := h2.2.2.1.mv w2 m3 no gs3 (fun x z => by omega)
    have h3 := h2.st m3 (fun _ z => z.elim) (fun x z => Or.inr z) (fun i _ _ _ => by rw [(m3.fld w2 no (by omega)).1]) en3
    have cc : ∀ o, frO o → (o = 105 ∨ o = 21185 ∨ o = 21186 ∨ o = 21187) → mI M3 (a + o) = mI M2 (a + o) ∧ mL M3 (a + o) = mL M2 (a + o) := fun o fo ho => m3.cellL w2 no (offx fo) (by omega)
    have nx := ih (v + 1) M3 (by omega) h3 (by rw [← e101]; exact (m3.cellL w2 no (offx (a := a) (o := 101) (by decide)) (by omega)).1) (fun v' hv' => ?_) ⟨by rw [(m3.fld w2 no (by omega)).1]; exact hk.1, by rw [SmR_cg (M := M2) hW12 (fun j _ => by rw [(cc 105 (by decide) (by omega)).1])]; exact hk.2.1, by rw [brR_cg (M := M2) (M' := M3) (fun i _ _ => by rw [(cc 21185 (by decide) (by omega)).1, (cc 21186 (by decide) (by omega)).2, (cc 21187 (by decide) (by omega)).2]; exact ⟨rfl, rfl, rfl⟩)]; exact hk.2.2.1, fun j hj => by rw [(cc 21186 (by decide) (by omega)).2, (cc 21187 (by decide) (by omega)).2]; exact hk.2.2.2.1 j hj, hk.2.2.2.2.1.mv w2 m3 no gs3 (fun x z => by omega), fun j hj => by rw [(cc 21185 (by decide) (by omega)).1, (cc 21186 (by decide) (by omega)).2, (cc 21187 (by decide) (by omega)).2]; exact hk.2.2.2.2.2 j hj⟩
    · rw [show ((v + 1 : Nat) : Int) = (v : Int) + 1 by first | rfl | omega] at nx
      exact nx
    · rw [f3]
      by_cases y : v' = v
      · rw [if_pos ⟨rfl, y⟩, y]
      · rw [if_neg (fun z => y z.2)]
        exact hn v' (by omega)
end WZX
end
section
/-! The reference: an enabled command, exactly. -/
section ENX2
variable {G : mG} {d a g T R W C Z n L w w0 k : Nat} {M M' M2 M3 : mM} {E : Eg9} {tg mul : Int} {B : Nat → Nat} {ww pl lo hi : Nat → Int} {XV : List Int → Int → vrs} {ev : List Int → Nat → Nat → vrs} {cvS : List Int → Nat → vrs} {stp : List Int → List (Nat × Nat × Nat × Nat) → (Int × Int) × List Int} {tgI : Nat × Nat} {cms : List cm9} {sg : List Int}
/-- command number i -/
def cmQ (M : mM) (a i : Nat) : sc9 := ((nt M (a + 109) i).toNat, nt M (a + 115) i, brR M a (nt M (a + 111) i).toNat (nt M (a + 115) i) (nt M (a + 113) i).toNat)
/-- m commands from L0 on -/
def cmL (M : mM) (a L0 m : Nat) : List sc9 := (List.range m).map (fun t => cmQ M a (L0 + t))
/-- a state's kind and commands -/
def stR (M : mM) (a k : Nat) : Int × List sc9 := (mI M (a + 106) k, cmL M a (mI M (a + 107) k).toNat (mI M (a + 108) k).toNat)
/-- the first k states -/
def xtR (M : mM) (a k : Nat) : xt9 := (List.range k).map (stR M a)
theorem cmL_s {L0 m : Nat} : cmL M a L0 (m + 1) = cmL M a L0 m ++ [cmQ M a (L0 + m)] := by
  unfold cmL
  rw [List.range_succ, List.map_append]
  rfl
theorem cmL_cg {L0 m : Nat} (h : ∀ i, L0 ≤ i → i < L0 + m → cmQ M' a i = cmQ M a i) : cmL M' a L0 m = cmL M a L0 m := by
  unfold cmL
  exact List.map_congr_left (fun t ht => h (L0 + t) (by omega) (by have := List.mem_range.mp ht; omega))
theorem xtR_s : xtR M a (k + 1) = xtR M a k ++ [stR M a k] := by
  unfold xtR
  rw [List.range_succ, List.map_append]
  rfl
theorem xtR_cg (h6 : ∀ k', k' < k → mI M' (a + 106) k' = mI M (a + 106) k') (h7 : ∀ k', k' < k → mI M' (a + 107) k' = mI M (a + 107) k' ∧ mI M' (a + 108) k' = mI M (a + 108) k') (hb : ∀ k', k' < k → (mI M (a + 107) k').toNat + (mI M (a + 108) k').toNat ≤ L) (hc : ∀ i, i < L → cmQ M' a i = cmQ M a i) : xtR M' a k = xtR M a k := by
  unfold xtR
  refine List.map_congr_left (fun k' hk => ?_)
  have hk' := List.mem_range.mp hk
  unfold stR
  rw [h6 k' hk', (h7 k' hk').1, (h7 k' hk').2, cmL_cg (M := M) (fun i i1 i2 => hc i (by have := hb k' hk'; omega))]
theorem smq_1 {m : Int} {c : Int × Int} : ∀ l : List (Int × Int), smq9 m (l ++ [c]) = smq9 m l + m / c.2 * c.1
  | [] => by
    show m / c.2 * c.1 + 0 = 0 + m / c.2 * c.1
    omega
  | x :: l => by
    show m / x.2 * x.1 + smq9 m (l ++ [c]) = m / x.2 * x.1 + smq9 m l + m / c.2 * c.1
    rw [smq_1 l]
    omega
theorem chq_get {br : br9} : ∀ {l : List br9} {b : Nat}, (chq9 ev sg l).1.1 = 0 → l[b]? = some br → (chq9 ev sg l).2[b]? = some (ev sg br.2.1.1 br.2.1.2).2 ∧ (ev sg br.2.1.1 br.2.1.2).1 = 0
  | [], b, _, h => by simp at h
  | x :: l, b, h0, h => by
    by_cases c1 : (ev sg x.2.1.1 x.2.1.2).1 = 0
    rotate_left
    · rw [chq_f c1] at h0
      exact absurd h0 c1
    by_cases c2 : (ev sg x.2.1.1 x.2.1.2).2.1 < 0 ∨ (ev sg x.2.1.1 x.2.1.2).2.2 < (ev sg x.2.1.1 x.2.1.2).2.1
    · rw [chq_r c1 c2] at h0
      exact absurd (show (11 : Int) = 0 from h0) (by decide)
    rw [chq_s c1 c2] at h0 ⊢
    cases b with
    | zero =>
      have e : x = br := by simpa using h
      subst e
      exact ⟨rfl, c1⟩
    | succ b =>
      have h' : l[b]? = some br := by simpa using h
      have := chq_get (b := b) (l := l) h0 h'
      exact ⟨by simpa using this.1, this.2⟩
/-- chances stand in lowest terms -/
def GOk (ev : List Int → Nat → Nat → vrs) (cms : List cm9) (sg : List Int) : Prop := ∀ (c : Nat) (cm : cm9), cms[c]? = some cm → ∀ (b : Nat) (br : br9), cm.2.2.2[b]? = some br → (ev sg br.2.1.1 br.2.1.2).1 = 0 → Int.gcd (ev sg br.2.1.1 br.2.1.2).2.1 (ev sg br.2.1.1 br.2.1.2).2.2 = 1
/-- tables stay while a command's branches are followed -/
def Tq (M M' : mM) (a L w0 : Nat) : Prop := nt M' (a + 109) = nt M (a + 109) ∧ nt M' (a + 111) = nt M (a + 111) ∧ nt M' (a + 115) = nt M (a + 115) ∧ (∀ i, i < L → nt M' (a + 113) i = nt M (a + 113) i) ∧ mI M' (a + 106) = mI M (a + 106) ∧ Lw M M' a w0
theorem Tq.refl : Tq M M a L w0 := ⟨rfl, rfl, rfl, fun _ _ => rfl, rfl, fun _ _ => ⟨rfl, rfl, rfl⟩⟩
theorem Tq.trans (h : Tq M M2 a L w0) (k : Tq M2 M3 a L w0) : Tq M M3 a L w0 := ⟨k.1.trans h.1, k.2.1.trans h.2.1, k.2.2.1.trans h.2.2.1, fun i hi => (k.2.2.2.1 i hi).trans (h.2.2.2.1 i hi), k.2.2.2.2.1.trans h.2.2.2.2.1, fun j hj => ⟨(k.2.2.2.2.2 j hj).1.trans (h.2.2.2.2.2 j hj).1, (k.2.2.2.2.2 j hj).2.1.trans (h.2.2.2.2.2 j hj).2.1, (k.2.2.2.2.2 j hj).2.2.trans (h.2.2.2.2.2 j hj).2.2⟩⟩
/-- states and branches so far -/
def exS (S : List (List Int)) (Bl : List (Nat × Int)) (M7 : mM) (a W L w0 : Nat) (mul : Int) (xv : Int → vrs) (g R : Nat) (M2 : mM) : Prop := mI M2 a 29 = ((S.length : Nat) : Int) ∧ SmR M2 a W S.length = S ∧ ∃ w9 : Nat, mI M2 a 40 = (w9 : Int) ∧ brR M2 a w0 mul (w9 - w0) = Bl ∧ Wc M2 a w9 ∧ XVq M2 a g R W xv ∧ Tq M7 M2 a L w0
/-- all branches have been followed -/
def enZ9 (fl : (Int × Int) × List (List Int) × List (Nat × Int)) (M7 : mM) (a W L w0 : Nat) (mul : Int) (xv : Int → vrs) (g R : Nat) (sg : List Int) (M' : mM) : Prop := (mI M' a 16 ≠ 0 ∧ fl.1 = (mI M' a 16, mI M' a 17)) ∨ (mI M' a 16 = 0 ∧ ∃ (S : List (List Int)) (Bl : List (Nat × Int)), fl = ((0, 0), S, Bl) ∧ exS S Bl M7 a W L w0 mul xv g R M' ∧ ∀ v, v < W → mI M' (a + 101) v = sg.getD v 0)
/-- between two commands of state k -/
def GQr (M : mM) (a W k L0 : Nat) (T : xt9) (s : sl9) : Prop := s.1 = (0, 0) ∧ mI M a 29 = ((s.2.1.length : Nat) : Int) ∧ SmR M a W s.2.1.length = s.2.1 ∧ xtR M a k = T ∧ mI M (a + 106) k = s.2.2.1 ∧ (∀ k', k' < k → (mI M (a + 107) k').toNat + (mI M (a + 108) k').toNat ≤ L0) ∧ ∃ L w : Nat, mI M (a + 107) k = (L0 : Int) ∧ (L0 ≤ L ∧ mI M (a + 108) k = ((L - L0 : Nat) : Int)) ∧ ln M (a + 109) = (L : Int) ∧ mI M a 40 = (w : Int) ∧ cmL M a L0 (L - L0) = s.2.2.2 ∧ nbx9 T + nbq9 s.2.2.2 = w ∧ Wc M a w
/-- what an enabled command comes to -/
def eyX (RR : sl9) (T9 : xt9) (a W k L0 : Nat) (xv : Int → vrs) (g R : Nat) (sg : List Int) (M' : mM) : Prop := (mI M' a 16 ≠ 0 ∧ RR.1 = (mI M' a 16, mI M' a 17)) ∨ (mI M' a 16 = 0 ∧ GQr M' a W k L0 T9 RR ∧ XVq M' a g R W xv ∧ ∀ v, v < W → mI M' (a + 101) v = sg.getD v 0)
/-- the command is put on the lists -/
theorem en_putx {c : Nat} {M4 M5 M6 M7 : mM} (h : eB M a g T R W C Z E tg n L w B M2) (hw : B L = w) (hk : 0 ≤ mI M (a + 108) k ∧ mI M (a + 108) k ≤ 5000) (hm : 1 ≤ mul ∧ mul < 1000000000) (a3 : adQ M2 (a + 109) c M3) (a4 : adQ M3 (a + 115) mul M4) (a5 : adQ M4 (a + 111) (w : Int) M5) (a6 : adQ M5 (a + 113) 0 M6) (e7 : M7 = mUI M6 (a + 108) k (mI M (a + 108) k + 1)) : (mL M7 = mL M6 ∧ mL M6 (a + 21189) = mL M2 (a + 21189) ∧ mL M6 (a + 21190) = mL M2 (a + 21190)) ∧ mI M7 a = mI M2 a ∧ mOk M7 ∧ xF M a M7 ∧ GG M7 a g T R W C Z E tg ∧ En M7 a g R W ∧ (mI M7 (a + 107) = mI M (a + 107) ∧ (∀ k', k' ≠ k → mI M7 (a + 108) k' = mI M (a + 108) k') ∧ mI M7 (a + 108) k = mI M (a + 108) k + 1) ∧ XD M7 a g n W L w (L + 1) B ∧ Op M7 a L w w mul 0 ∧ (nt M7 (a + 109) L = (c : Int) ∧ ∀ i, i < L → nt M7 (a + 109) i = nt M2 (a + 109) i ∧ nt M7 (a + 111) i = nt M2 (a + 111) i ∧ nt M7 (a + 113) i = nt M2 (a + 113) i ∧ nt M7 (a + 115) i = nt M2 (a + 115) i) ∧ mI M7 (a + 106) = mI M2 (a + 106) ∧ mI M7 (a + 105) = mI M2 (a + 105) ∧ (mI M7 (a + 21185) = mI M2 (a + 21185) ∧ mL M7 (a + 21186) = mL M2 (a + 21186) ∧ mL M7 (a + 21187) = mL M2 (a + 21187)) ∧ Mv (xP a) (fun x => x = a + 108) M2 a M7 ∧ Gs M2 M7 g := by
  obtain ⟨x1, gg, en, xd, t107, t108⟩ := h
  obtain ⟨d1, d2, d3, d4, ⟨l109, l111, l113, l115⟩, d6, d7⟩ := id xd
  have w2 := gg.2.1
  have hg := gg.2.2.1.2
  have m3 := mv_add w2 k109 a3
  have w3 := m3.2.1
  have m4 := mv_add w3 k115 a4
  have w4 := m4.2.1
  have m5 := mv_add w4 k111 a5
  have w5 := m5.2.1
  have m6 := mv_add w5 k113 a6
  have w6 := m6.2.1
  obtain ⟨m7, f7, l7⟩ := mv_cell (v := mI M (a + 108) k + 1) (i32s (by omega) (by omega)) m6.1 w6 (show a ≤ a + 108 by omega) (offx (a := a) (o := 108) (by decide)) e7
  have i1 : ∀ {p q : Nat}, p ∈ nums a → q = p → q ∈ nums a := fun hp hq => by rw [hq]; exact hp
  have up : ∀ {Mx My : mM} {p : Nat}, Wd Mx a → xP a p → Mv (fun x => x = p) (fun _ => False) Mx a My → Mv (xP a) (fun x => x = a + 108) Mx a My := fun wx hp m => m.mono (fun q hq => by rw [hq]; exact hp) (fun _ z => z.elim) (fun q hq => wx.lt (xP_in hq))
  have mm : Mv (xP a) (fun x => x = a + 108) M2 a M7 := ((((up w2 (by show a + 109 = a + 99 ∨ a + 109 = a + 109 ∨ a + 109 = a + 111 ∨ a + 109 = a + 113 ∨ a + 109 = a + 115; omega) m3).trans (up w3 (by show a + 115 = a + 99 ∨ a + 115 = a + 109 ∨ a + 115 = a + 111 ∨ a + 115 = a + 113 ∨ a + 115 = a + 115; omega) m4)).trans (up w4 (by show a + 111 = a + 99 ∨ a + 111 = a + 109 ∨ a + 111 = a + 111 ∨ a + 111 = a + 113 ∨ a + 111 = a + 115; omega) m5)).trans (up w5 (by show a + 113 = a + 99 ∨ a + 113 = a + 109 ∨ a + 113 = a + 111 ∨ a + 113 = a + 113 ∨ a + 113 = a + 115; omega) m6)).trans (m7.mono (fun _ z => z.elim) (fun x z => z) (fun q hq => w6.lt (xP_in hq)))
  have hin : ∀ q, xP a q → q ∈ nums a := fun q hq => xP_in hq
  have aI : mI M7 a = mI M2 a := (mm.fld w2 hin (by omega)).1
  have F27 : xF M2 a M7 := xF.mk w2 mm (fun q hq => hq) (fun x hx => Or.inr (Or.inl (by omega))) (fun i _ _ _ _ _ => by rw [aI])
  have gs := F27.gs w2 hg
  have s7 : ∀ {q}, q ∈ nums a → sameN M6 M7 q := fun hq => m7.lst hq (fun z => z)
  have cl : ∀ o, frO o → o ≠ 108 → mI M7 (a + o) = mI M2 (a + o) ∧ mL M7 (a + o) = mL M2 (a + o) := fun o fo ho => mm.cellL w2 hin (offx fo) (by omega)
  have c86 := cl 21186 (by decide) (by decide)
  have c87 := cl 21187 (by decide) (by decide)
  have c85 := cl 21185 (by decide) (by decide)
  have c105 := cl 105 (by decide) (by decide)
  have c107 := cl 107 (by decide) (by decide)
  have c89 := cl 21189 (by decide) (by decide)
  have c90 := cl 21190 (by decide) (by decide)
  have e108 : mI M6 (a + 108) = mI M (a + 108) := by
    rw [← t108, (m6.cellL w5 (fun q hq => i1 k113 hq) (offx (a := a) (o := 108) (by decide)) (fun z => z)).1, (m5.cellL w4 (fun q hq => i1 k111 hq) (offx (a := a) (o := 108) (by decide)) (fun z => z)).1, (m4.cellL w3 (fun q hq => i1 k115 hq) (offx (a := a) (o := 108) (by decide)) (fun z => z)).1, (m3.cellL w2 (fun q hq => i1 k109 hq) (offx (a := a) (o := 108) (by decide)) (fun z => z)).1]
  -- the lists
  have q109 : ln M7 (a + 109) = (L + 1 : Nat) := by rw [(s7 k109).1, (m6.lst k109 (by omega)).1, (m5.lst k109 (by omega)).1, (m4.lst k109 (by omega)).1, a3.2.2.2.1, l109]; omega
  have z115 : ln M3 (a + 115) = (L : Int) := by rw [(m3.lst k115 (by omega)).1, l115]
  have z111 : ln M4 (a + 111) = (L : Int) := by rw [(m4.lst k111 (by omega)).1, (m3.lst k111 (by omega)).1, l111]
  have z113 : ln M5 (a + 113) = (L : Int) := by rw [(m5.lst k113 (by omega)).1, (m4.lst k113 (by omega)).1, (m3.lst k113 (by omega)).1, l113]
  have q115 : ln M7 (a + 115) = (L + 1 : Nat) := by rw [(s7 k115).1, (m6.lst k115 (by omega)).1, (m5.lst k115 (by omega)).1, a4.2.2.2.1, z115]; omega
  have q111 : ln M7 (a + 111) = (L + 1 : Nat) := by rw [(s7 k111).1, (m6.lst k111 (by omega)).1, a5.2.2.2.1, z111]; omega
  have q113 : ln M7 (a + 113) = (L + 1 : Nat) := by rw [(s7 k113).1, a6.2.2.2.1, z113]; omega
  have v115 : nt M7 (a + 115) L = mul := by
    rw [(s7 k115).2.1, (m6.lst k115 (by omega)).2.1, (m5.lst k115 (by omega)).2.1]
    have := a4.2.2.2.2.2.1
    rw [z115, Int.toNat_natCast] at this
    exact this
  have v111 : nt M7 (a + 111) L = (w : Int) := by
    rw [(s7 k111).2.1, (m6.lst k111 (by omega)).2.1]
    have := a5.2.2.2.2.2.1
    rw [z111, Int.toNat_natCast] at this
    exact this
  have v113 : nt M7 (a + 113) L = 0 := by
    rw [(s7 k113).2.1]
    have := a6.2.2.2.2.2.1
    rw [z113, Int.toNat_natCast] at this
    exact this
  have o115 : ∀ i, i < L → nt M7 (a + 115) i = nt M2 (a + 115) i := fun i hi => by rw [(s7 k115).2.1, (m6.lst k115 (by omega)).2.1, (m5.lst k115 (by omega)).2.1, a4.2.2.2.2.1 i (by rw [z115]; omega), (m3.lst k115 (by omega)).2.1]
  have o111 : ∀ i, i < L → nt M7 (a + 111) i = nt M2 (a + 111) i := fun i hi => by rw [(s7 k111).2.1, (m6.lst k111 (by omega)).2.1, a5.2.2.2.2.1 i (by rw [z111]; omega), (m4.lst k111 (by omega)).2.1, (m3.lst k111 (by omega)).2.1]
  have o113 : ∀ i, i < L → nt M7 (a + 113) i = nt M2 (a + 113) i := fun i hi => by rw [(s7 k113).2.1, a6.2.2.2.2.1 i (by rw [z113]; omega), (m5.lst k113 (by omega)).2.1, (m4.lst k113 (by omega)).2.1, (m3.lst k113 (by omega)).2.1]
  have v109 : nt M7 (a + 109) L = (c : Int) := by
    rw [(s7 k109).2.1, (m6.lst k109 (by omega)).2.1, (m5.lst k109 (by omega)).2.1, (m4.lst k109 (by omega)).2.1]
    have := a3.2.2.2.2.2.1
    rw [l109, Int.toNat_natCast] at this
    exact this
  have o109 : ∀ i, i < L → nt M7 (a + 109) i = nt M2 (a + 109) i := fun i hi => by rw [(s7 k109).2.1, (m6.lst k109 (by omega)).2.1, (m5.lst k109 (by omega)).2.1, (m4.lst k109 (by omega)).2.1, a3.2.2.2.2.1 i (by rw [l109]; omega)]
  have c106 := cl 106 (by decide) (by decide)
  refine ⟨⟨l7, by rw [← l7]; exact c89.2, by rw [← l7]; exact c90.2⟩, aI, m7.1, x1.trans F27, gg.gs m7.1 m7.2.1 (by rw [mm.rfl_a w2 hin]) gs, en.mv w2 mm hin gs (fun x hx => by omega), ⟨by rw [c107.1]; exact t107, fun k' hk' => by rw [f7, if_neg (fun z => hk' z.2), e108], by rw [f7, if_pos ⟨rfl, rfl⟩]⟩, ⟨by rw [aI]; exact d1, by rw [aI]; exact d2, fun k' v hk' hv => ?_, fun j hj => by rw [c85.1, c86.2, c87.2]; exact d4 j hj, ⟨q109, q111, q113, q115⟩, ⟨d6.1, d6.2.1, by omega⟩, fun i hi => (d7 i hi).cg (o111 i hi) (o113 i hi) (o115 i hi) (fun j _ _ => by rw [c86.2, c87.2]; exact ⟨rfl, rfl⟩)⟩, ⟨Nat.le_refl _, ⟨v111, by rw [v113, Nat.sub_self]; rfl, v115⟩, hm, fun j j0 j1 => absurd j1 (by omega), by rw [Nat.sub_self]; rfl⟩, ⟨v109, fun i hi => ⟨o109 i hi, o111 i hi, o113 i hi, o115 i hi⟩⟩, c106.1, c105.1, ⟨c85.1, c86.2, c87.2⟩, mm, gs⟩
  rw [(gs.2.1 19 (by omega) (by omega)).1, (gs.2.1 20 (by omega) (by omega)).1, c105.1]
  exact d3 k' v hk' hv
theorem x_en201 {c nb : Nat} {pc : Int} {cA cD : Nat → Int} {cm : cm9} {zl : List (br9 × (Int × Int))} {S0 : List (List Int)} {M7 : mM} (hev : ∀ sg i j, ev sg i j = vlq ww (cvS sg) pl 0 0 i j) (hstp : ∀ sg l, stp sg l = ((stq9 ww (cvS sg) pl lo hi l (fun v => sg.getD v 0)).1, (List.range W).map (stq9 ww (cvS sg) pl lo hi l (fun v => sg.getD v 0)).2)) (hp : GP ww pl XV ev M g R W C T E tgI cms lo hi) (hcm : RCm ww pl XV ev M g R W T E c cm) (hzl : ∀ b, b < nb → ∃ br, cm.2.2.2[b]? = some br ∧ zl[b]? = some (br, cA b, cD b)) (hzn : zl.length = nb) (hgd : ∀ b', b' < nb → Int.gcd (cA b') (cD b') = 1) (h0 : GG M a g T R W C Z E tg) (ipl : i32 pc) (hc : c < C) (hnb : mI M (g + 25) c = (nb : Int)) (hw0 : B L = w0) (hL : L ≤ 4096) (hch : ∀ b', b' < nb → 0 ≤ cA b' ∧ cA b' ≤ cD b' ∧ 1 ≤ cD b' ∧ cD b' < 1000000000 ∧ cD b' ∣ mul) (hmul : 1 ≤ mul) (hsum : sm (fun b' => cA b' * (mul / cD b')) nb = mul) : ∀ (t b : Nat) (M2 : mM), b + t = nb → eI M a g T R W C Z E tg n L w0 k mul B cA cD b M2 → (mI M2 a 16 = 0 → ∃ (S : List (List Int)) (Bl : List (Nat × Int)), flq9 stp sg pc mul w0 zl S0 [] = flq9 stp sg pc mul w0 (zl.drop b) S Bl ∧ exS S Bl M7 a W L w0 mul (XV sg) g R M2 ∧ ∀ v, v < W → mI M2 (a + 101) v = sg.getD v 0) → (mI M2 a 16 ≠ 0 → (flq9 stp sg pc mul w0 zl S0 []).1 = (mI M2 a 16, mI M2 a 17)) → h_MM_enabled_201 G (d + 7) a c pc b M2 (fun M' => mOk M' ∧ enQ M a g T R W C Z E tg n L k B M' ∧ enZ9 (flq9 stp sg pc mul w0 zl S0 []) M7 a W L w0 mul (XV sg) g R sg M') := by
  have wd0 := h0.2.1
  have hR := h0.2.2.2.2.2.2.2.1.1.1
  have hg := h0.2.2.1.2
  have hBd := h0.2.2.2.2.2.2.2.1.1
  have nb8 : nb ≤ 8 := by
    have := (h0.2.2.2.2.2.2.2.1.2.2.2.2.1 c hc).2.2.1
    omega
  have ic : i32 (c : Int) := i32s (by omega) (by omega)
  have b60 : ((0 : Int) ≤ (c : Int) ∧ (c : Int) < ((60 : Nat) : Int)) := by omega
  have term : ∀ b', b' < nb → 0 ≤ cA b' * (mul / cD b') := fun b' hb' => by
    have := hch b' hb'
    exact Int.mul_nonneg (by omega) (Int.ediv_nonneg (by omega) (by omega))
  have finx : ∀ (b : Nat) (M2 : mM), eI M a g T R W C Z E tg n L w0 k mul B cA cD b M2 → mI M2 a 16 ≠ 0 → (flq9 stp sg pc mul w0 zl S0 []).1 = (mI M2 a 16, mI M2 a 17) → mOk M2 ∧ enQ M a g T R W C Z E tg n L k B M2 ∧ enZ9 (flq9 stp sg pc mul w0 zl S0 []) M7 a W L w0 mul (XV sg) g R sg M2 := fun b M2 h z e => ⟨h.2.1.1, ⟨h.1, h.2.1, h.2.2.1, h.2.2.2.1.1, h.2.2.2.1.2.1, Or.inl z⟩, Or.inl ⟨z, e⟩⟩
  intro t
  induction t with
  | zero =>
    intro b M2 hb h hz hf
    have eb : b = nb := by omega
    subst eb
    obtain ⟨x1, gg, en, tb, hh⟩ := id h
    have w2 := gg.2.1
    have gs := x1.gs wd0 hg
    have r25 : mI M2 (g + 25) c = (b : Int) := by rw [(gs.2.1 25 (by omega) (by omega)).1]; exact hnb
    refine k_MM_enabled_201 gg.1 ic ipl (i32s (by omega) (by omega)) ⟨w2.1.1, ?_⟩
    rw [gg.2.2.1.1, show mR M2 g 22 = g + 25 from (w2.gp hg).2.2.1.2.2.2.2.2.2.2.1, Int.toNat_natCast, r25]
    refine ⟨(w2.gp hg).1, (w2.gp hg).2.2.2.2.2.2.2.2.1.1, by rw [(w2.gp hg).2.2.2.2.2.2.2.2.1.2]; exact b60, fun _ => ?_, fun q => absurd (Or.inl (Int.le_refl _)) q⟩
    by_cases z : mI M2 a 16 = 0
    · obtain ⟨-, n2, w2', y1, y2, y3, y4⟩ := hh z
      rw [hsum] at y3
      obtain ⟨B', u1, u2, u3⟩ := Op.close y2 hw0 y3 (by omega)
      obtain ⟨S, Bl, z1, z2, z3⟩ := hz z
      refine ⟨gg.1, ⟨x1, gg, en, tb.1, tb.2.1, Or.inr ⟨z, tb.2.2, n2, w2', B', y1, u1, u2, u3⟩⟩, Or.inr ⟨z, S, Bl, ?_, z2, z3⟩⟩
      rw [z1, List.drop_eq_nil_of_le (by omega)]
      rfl
    · exact finx b M2 h z (hf z)
  | succ t ih =>
    intro b M2 hb h hz hf
    obtain ⟨x1, gg, en, tb, hh⟩ := id h
    have w2 := gg.2.1
    have gs := x1.gs wd0 hg
    have r25 : mI M2 (g + 25) c = (nb : Int) := by rw [(gs.2.1 25 (by omega) (by omega)).1]; exact hnb
    have b8 : ((0 : Int) ≤ (b : Int) ∧ (b : Int) < ((8 : Nat) : Int)) := by omega
    have hbn : b < nb := by omega
    refine k_MM_enabled_201 gg.1 ic ipl (i32s (by omega) (by omega)) ⟨w2.1.1, ?_⟩
    rw [gg.2.2.1.1, show mR M2 g 22 = g + 25 from (w2.gp hg).2.2.1.2.2.2.2.2.2.2.1, Int.toNat_natCast, r25, (r4546 w2).1.1, Int.toNat_natCast]
    refine ⟨(w2.gp hg).1, (w2.gp hg).2.2.2.2.2.2.2.2.1.1, by rw [(w2.gp hg).2.2.2.2.2.2.2.2.1.2]; exact b60, fun q => finx b M2 h ?_ (hf ?_), fun q => ⟨(r4546 w2).2.1.1, by rw [(r4546 w2).2.1.2]; exact b8, fun q0 => ?_, fun q0 => ?_⟩⟩
    · rcases q with q | q
      · omega
      · exact q
    · rcases q with q | q
      · omega
      · exact q
    · have z : mI M2 a 16 = 0 := Classical.byContradiction (fun z => q (Or.inr z))
      obtain ⟨⟨e1, e2⟩, n2, w2', y1, y2, y3, y4⟩ := hh z
      have c0 : cA b = 0 := by rw [← e1]; exact (cmpz _ _).2.2.2.1.1 q0
      rw [show (b : Int) + 1 = ((b + 1 : Nat) : Int) by first | rfl | omega]
      refine ih (b + 1) M2 (by omega) ⟨x1, gg, en, tb, fun _ => ⟨⟨e1, e2⟩, n2, w2', y1, y2, ?_, by omega⟩⟩ (fun _ => ?_) (fun z' => absurd z z')
      rotate_left
      · obtain ⟨S, Bl, z1, z2, z3⟩ := hz z
        obtain ⟨br, -, hb2⟩ := hzl b hbn
        have dq : zl.drop b = (br, cA b, cD b) :: zl.drop (b + 1) := by
          obtain ⟨hl, he⟩ := List.getElem?_eq_some_iff.mp hb2
          rw [List.drop_eq_getElem_cons hl, he]
        exact ⟨S, Bl, by rw [z1, dq, flq_0 (show cA b = 0 from c0)], z2, z3⟩
      have : sm (fun b' => cA b' * (mul / cD b')) (b + 1) = sm (fun b' => cA b' * (mul / cD b')) b := by
        show sm (fun b' => cA b' * (mul / cD b')) b + cA b * (mul / cD b) = _
        rw [c0, Int.zero_mul]; omega
      rw [this]
      exact y3
    · have z : mI M2 a 16 = 0 := Classical.byContradiction (fun z => q (Or.inr z))
      obtain ⟨⟨e1, e2⟩, n2, w2', y1, y2, y3, y4⟩ := hh z
      have c0 : cA b ≠ 0 := fun y => q0 ((cmpz _ _).2.2.2.1.2 (by rw [e1]; exact y))
      obtain ⟨k1, k2, k3, k4, k5⟩ := hch b hbn
      have wi : wI M2 a g T R W C Z E tg n2 L w2' w0 mul (sm (fun b' => cA b' * (mul / cD b')) b) (cA b) (cD b) B b M2 := ⟨wyF.mk (P := fun _ => False) (S := fun _ => False) w2 (Mv.refl gg.1 w2 (fun _ z => z.elim)) (fun _ z => z.elim) (fun _ z => z.elim) (fun _ _ _ _ _ _ => rfl), gg, en, y2, y3, by rw [e1], by rw [e2]⟩
      have le : sm (fun b' => cA b' * (mul / cD b')) b + cA b * (mul / cD b) ≤ mul := by
        have := sm_part (f := fun b' => cA b' * (mul / cD b')) (a := b + 1) (nb - (b + 1)) (fun c hc => term c (by omega))
        rw [show b + 1 + (nb - (b + 1)) = nb by first | rfl | omega, hsum] at this
        exact this
      obtain ⟨S, Bl, z1, z2, z3⟩ := hz z
      obtain ⟨br, hb1, hb2⟩ := hzl b hbn
      have dq : zl.drop b = (br, cA b, cD b) :: zl.drop (b + 1) := by
        obtain ⟨hl, he⟩ := List.getElem?_eq_some_iff.mp hb2
        rw [List.drop_eq_getElem_cons hl, he]
      rw [dq] at z1
      obtain ⟨q29, qS, w9, q40, qB, qW, qX, qT⟩ := z2
      have ew : w9 = w2' := by
        have := y2.2.1.1
        omega
      subst ew
      have eln : S.length = n2 := by
        have := y2.1.1
        omega
      rw [eln] at qS
      refine (x_MM_way (d := d) hev hstp (hp.gs gs hR) ((hcm.2.2.2.2 b br hb1).gs gs hR) (hgd b hbn) z ⟨eln, qS⟩ qB qW qX z3 wi ipl hc (by rw [r25]; omega) hw0 ⟨by omega, by omega⟩ ⟨by omega, by omega⟩ k5 le hL).mono (fun M3 t3 => ⟨t3.1, ?_⟩)
      obtain ⟨-, ⟨W3, gg3, en3, hq⟩, fo⟩ := t3
      have tab := W3.tab w2
      rw [show (b : Int) + 1 = ((b + 1 : Nat) : Int) by first | rfl | omega]
      refine ih (b + 1) M3 (by omega) ⟨x1.trans (W3.xf w2), gg3, en3, ?_, fun z3 => ?_⟩ (fun z4 => ?_) (fun z4 => ?_)
      · rw [tab.2.1, tab.2.2.1]; exact tb
      · rcases hq with y | ⟨-, n3, w3, u1, u2, u3, u4⟩
        · exact absurd z3 y
        · exact ⟨⟨tab.2.2.2.1.trans e1, tab.2.2.2.2.trans e2⟩, n3, w3, by omega, u3, u4, by omega⟩
      · rcases fo with ⟨f1, -⟩ | ⟨-, S', B', f1, f2, f3, w', f4, f5, f6, f7, f8⟩
        · exact absurd z4 f1
        rcases hq with y | ⟨-, n3, w3, u1, u2, u3, u4⟩
        · exact absurd z4 y
        refine ⟨S', B', by rw [z1, f1], ⟨f2, f3, w', f4, f5, f6, f7, qT.trans ?_⟩, fun v hv => ?_⟩
        · have hin : ∀ q, wyP a q → q ∈ nums a := fun q hq => wyP_in hq
          have ls : ∀ {q}, q ∈ nums a → q ≠ a + 99 → q ≠ a + 113 → nt M3 q = nt M2 q := fun hq n1 n2 => funext (fun j => (W3.1.lst hq (fun z => by
            have z' : _ = a + 99 ∨ _ = a + 113 := z
            omega)).2.1 j)
          exact ⟨ls k109 (by omega) (by omega), ls k111 (by omega) (by omega), ls k115 (by omega) (by omega), fun i hi => by rw [(u3.2.2.2.2.2.2 i hi).2.1.2, (y2.2.2.2.2.2.2 i hi).2.1.2], tab.1, f8⟩
        · have hin : ∀ q, wyP a q → q ∈ nums a := fun q hq => wyP_in hq
          rw [(W3.1.cellL w2 hin (offx (a := a) (o := 101) (by decide)) (fun z => by have := wyS_un z; omega)).1]
          exact z3 v hv
      · rcases fo with ⟨-, f1⟩ | ⟨f1, -⟩
        · rw [z1]
          exact f1 _
        · exact absurd f1 z4
end ENX2
end
section
/-! The reference: an enabled command, exactly. -/
section ENX3
variable {G : mG} {d a g T R W C Z n L w w0 k : Nat} {M M' M2 M3 : mM} {E : Eg9} {tg mul : Int} {B : Nat → Nat} {ww pl lo hi : Nat → Int} {XV : List Int → Int → vrs} {ev : List Int → Nat → Nat → vrs} {cvS : List Int → Nat → vrs} {stp : List Int → List (Nat × Nat × Nat × Nat) → (Int × Int) × List Int} {tgI : Nat × Nat} {cms : List cm9} {sg : List Int}
theorem x_en87 {c nb : Nat} {cm : cm9} {RR s9 : sl9} {T9 : xt9} {L0 : Nat} (hev : ∀ sg i j, ev sg i j = vlq ww (cvS sg) pl 0 0 i j) (hstp : ∀ sg l, stp sg l = ((stq9 ww (cvS sg) pl lo hi l (fun v => sg.getD v 0)).1, (List.range W).map (stq9 ww (cvS sg) pl lo hi l (fun v => sg.getD v 0)).2)) (hp : GP ww pl XV ev M g R W C T E tgI cms lo hi) (hcm : RCm ww pl XV ev M g R W T E c cm) (hR1 : smq9 mul (lchR M2 a nb) ≠ mul → RR = ((11, cm.2.1), s9.2)) (hR2 : smq9 mul (lchR M2 a nb) = mul → ∀ fl, flq9 stp sg cm.2.1 mul w (cm.2.2.2.zip (lchR M2 a nb)) s9.2.1 [] = fl → RR = (fl.1, fl.2.1, cm.1, s9.2.2.2 ++ [(c, mul, fl.2.2)])) (xq : XVq M2 a g R W (XV sg)) (hsg : ∀ v, v < W → mI M2 (a + 101) v = sg.getD v 0) (gq : GQr M2 a W k L0 T9 (s9.1, s9.2.1, cm.1, s9.2.2.2)) (hgd : ∀ b', b' < nb → Int.gcd (mL M2 (a + 21189) b') (mL M2 (a + 21190) b') = 1) (h0 : GG M a g T R W C Z E tg) (h : eB M a g T R W C Z E tg n L w B M2) (z16 : mI M2 a 16 = 0) (hw : B L = w) (hk5 : k < 512) (hk : 0 ≤ mI M (a + 108) k ∧ mI M (a + 108) k ≤ 5000) (hc : c < C) (hnb : mI M (g + 25) c = (nb : Int)) (hm : 1 ≤ mul ∧ mul < 1000000000) (hch : chk1 M2 a nb) (hdv : ∀ b' : Nat, b' < nb → mL M2 (a + 21190) b' ∣ mul) : ∀ (t b : Nat), b + t = nb → h_MM_enabled_87 G (d + 7) a k c cm.2.1 mul (sm (fun b' => mL M2 (a + 21189) b' * (mul / mL M2 (a + 21190) b')) b) b M2 (fun M' => mOk M' ∧ enQ M a g T R W C Z E tg n L k B M' ∧ eyX RR T9 a W k L0 (XV sg) g R sg M') := by
  obtain ⟨x1, gg, en, xd, t107, t108⟩ := id h
  have ipl : i32 cm.2.1 := by rw [← hcm.2.1]; exact (h0.1 _ _).1
  have hlen : cm.2.2.2.length = nb := by
    have e := hcm.2.2.2.1
    rw [hnb] at e
    omega
  have smE : ∀ m, sm (fun b' => mL M2 (a + 21189) b' * (mul / mL M2 (a + 21190) b')) m = smq9 mul (lchR M2 a m) := fun m => by
    induction m with
    | zero => rfl
    | succ m ih =>
      show sm (fun b' => mL M2 (a + 21189) b' * (mul / mL M2 (a + 21190) b')) m + mL M2 (a + 21189) m * (mul / mL M2 (a + 21190) m) = _
      rw [ih, lchR_s, smq_1, Int.mul_comm]
  have o2 := gg.1
  have w2 := gg.2.1
  have hg := gg.2.2.1.2
  have hBd := gg.2.2.2.2.2.2.2.1.1
  have wd0 := h0.2.1
  have gs := x1.gs wd0 hg
  have r25 : mI M2 (g + 25) c = (nb : Int) := by rw [(gs.2.1 25 (by omega) (by omega)).1]; exact hnb
  have nb8 : nb ≤ 8 := by
    have := (h0.2.2.2.2.2.2.2.1.2.2.2.2.1 c hc).2.2.1
    omega
  have hL := xd.le
  have term : ∀ b', b' < nb → 0 ≤ mL M2 (a + 21189) b' * (mul / mL M2 (a + 21190) b') ∧ mL M2 (a + 21189) b' * (mul / mL M2 (a + 21190) b') ≤ mul := fun b' hb' => by
    have c1 := hch b' hb'
    obtain ⟨q, hq⟩ := hdv b' hb'
    have e : mul / mL M2 (a + 21190) b' = q := by rw [hq]; exact Int.mul_ediv_cancel_left q (by omega)
    have q0 : 0 ≤ q := by rw [← e]; exact Int.ediv_nonneg (by omega) (by omega)
    rw [e]
    refine ⟨Int.mul_nonneg (by omega) q0, ?_⟩
    have := Int.mul_le_mul_of_nonneg_right c1.2.1 q0
    omega
  have ik : i32 (k : Int) := i32s (by omega) (by omega)
  have ic : i32 (c : Int) := i32s (by omega) (by omega)
  have im : i64 mul := ⟨by omega, by omega⟩
  have b60 : ((0 : Int) ≤ (c : Int) ∧ (c : Int) < ((60 : Nat) : Int)) := by omega
  have b512 : ((0 : Int) ≤ (k : Int) ∧ (k : Int) < ((512 : Nat) : Int)) := by omega
  have sb : ∀ b, b ≤ nb → i64 (sm (fun b' => mL M2 (a + 21189) b' * (mul / mL M2 (a + 21190) b')) b) := fun b hb => by
    have := sm_bd (f := fun b' => mL M2 (a + 21189) b' * (mul / mL M2 (a + 21190) b')) (c := mul) b (fun t ht => term t (by omega))
    have h8 : (b : Int) * mul ≤ 8 * 1000000000 := Int.mul_le_mul (by omega) (by omega) (by omega) (by omega)
    exact ⟨by omega, by omega⟩
  intro t
  induction t with
  | zero =>
    intro b hb
    have eb : b = nb := by omega
    subst eb
    refine k_MM_enabled_87 o2 ik ic ipl im (sb b (Nat.le_refl _)) (i32s (by omega) (by omega)) ⟨w2.1.1, ?_⟩
    rw [gg.2.2.1.1, show mR M2 g 22 = g + 25 from (w2.gp hg).2.2.1.2.2.2.2.2.2.2.1, Int.toNat_natCast, r25, show mR M2 a 35 = a + 109 from w2.1.2.2.2.2.2.1.2.2.2.2.1]
    refine ⟨(w2.gp hg).1, (w2.gp hg).2.2.2.2.2.2.2.2.1.1, by rw [(w2.gp hg).2.2.2.2.2.2.2.2.1.2]; exact b60, fun _ => ⟨fun q => ⟨(w2.nu k109).1, ?_⟩, fun q => (s_MM_stop ⟨by decide, by decide⟩ ipl o2 w2).mono (fun M3 h3 => ⟨h3.1.1, h3.1.1, en_stop h (by decide) h3, Or.inl ⟨by rw [h3.2.1]; decide, by rw [hR1 (fun u => q ((cmpz _ _).2.2.2.1.2 (by rw [smE]; exact u))), h3.2.1, h3.2.2.1]⟩⟩)⟩, fun q => absurd (Int.le_refl _) q⟩
    have hsum := (cmpz _ _).2.2.2.1.1 q
    obtain ⟨l109, l111, l113, l115⟩ := xd.2.2.2.2.1
    refine (s_MN_add ic o2 (w2.nu k109) (by rw [l109]; omega)).mono (fun M3 a3 => ?_)
    have m3 := mv_add w2 k109 a3
    have w3 := m3.2.1
    have z115 : ln M3 (a + 115) = (L : Int) := by rw [(m3.lst k115 (by omega)).1, l115]
    have z111 : ln M3 (a + 111) = (L : Int) := by rw [(m3.lst k111 (by omega)).1, l111]
    have z113 : ln M3 (a + 113) = (L : Int) := by rw [(m3.lst k113 (by omega)).1, l113]
    rw [show mR M3 a 38 = a + 115 from w3.1.2.2.2.2.2.1.2.2.2.2.2.2.2.1]
    refine ⟨m3.1, w3.1.1, (w3.nu k115).1, (s_MN_add ⟨by omega, by omega⟩ m3.1 (w3.nu k115) (by rw [z115]; omega)).mono (fun M4 a4 => ?_)⟩
    have m4 := mv_add w3 k115 a4
    have w4 := m4.2.1
    have i1 : ∀ {p q : Nat}, p ∈ nums a → q = p → q ∈ nums a := fun hp hq => by rw [hq]; exact hp
    have e40 : mI M4 a 40 = (w : Int) := by
      rw [(m4.fld w3 (fun q hq => i1 k115 hq) (fun z => z)).1, (m3.fld w2 (fun q hq => i1 k109 hq) (fun z => z)).1]
      exact xd.2.1.1
    have w4096 := xd.2.1.2
    rw [show mR M4 a 36 = a + 111 from w4.1.2.2.2.2.2.1.2.2.2.2.2.1, e40]
    refine ⟨m4.1, w4.1.1, (w4.nu k111).1, (s_MN_add (i32s (by omega) (by omega)) m4.1 (w4.nu k111) (by rw [(m4.lst k111 (by omega)).1, z111]; omega)).mono (fun M5 a5 => ?_)⟩
    have m5 := mv_add w4 k111 a5
    have w5 := m5.2.1
    rw [show mR M5 a 37 = a + 113 from w5.1.2.2.2.2.2.1.2.2.2.2.2.2.1]
    refine ⟨m5.1, w5.1.1, (w5.nu k113).1, (s_MN_add ⟨by decide, by decide⟩ m5.1 (w5.nu k113) (by rw [(m5.lst k113 (by omega)).1, (m4.lst k113 (by omega)).1, z113]; omega)).mono (fun M6 a6 => ?_)⟩
    have m6 := mv_add w5 k113 a6
    have w6 := m6.2.1
    have A8 : mK M6 (a + 108) = 30 ∧ mN M6 (a + 108) = 512 := w6.1.2.2.2.2.2.2.2.2.1.2.2.2
    have e108 : mI M6 (a + 108) = mI M (a + 108) := by
      rw [← t108, (m6.cellL w5 (fun q hq => i1 k113 hq) (offx (a := a) (o := 108) (by decide)) (fun z => z)).1, (m5.cellL w4 (fun q hq => i1 k111 hq) (offx (a := a) (o := 108) (by decide)) (fun z => z)).1, (m4.cellL w3 (fun q hq => i1 k115 hq) (offx (a := a) (o := 108) (by decide)) (fun z => z)).1, (m3.cellL w2 (fun q hq => i1 k109 hq) (offx (a := a) (o := 108) (by decide)) (fun z => z)).1]
    rw [show mR M6 a 34 = a + 108 from w6.1.2.2.2.2.2.1.2.2.2.1, Int.toNat_natCast, e108]
    refine ⟨m6.1, w6.1.1, A8.1, by rw [A8.2]; exact b512, by rw [A8.2]; exact b512, i32s (by omega) (by omega), fun M7 e7 => ?_⟩
    obtain ⟨⟨u1, u2, u3⟩, u4, u5, u6, u7, u8, u9, u10, u11, ⟨p109, po⟩, p106, p105, ⟨p85, p86, p87⟩, mm, gs27⟩ := en_putx (c := c) h hw hk hm a3 a4 a5 a6 e7
    have hW12 := hBd.2.1
    obtain ⟨g1, g2, g3, g4, g5, g6, L2, w9, g7, g8, g9, g10, g11, g12, g13⟩ := gq
    have eL : L2 = L := by
      have := l109
      omega
    have ew : w9 = w := by
      have := xd.2.1.1
      omega
    subst eL ew
    have hsum' : smq9 mul (lchR M2 a b) = mul := by rw [← smE]; exact hsum
    have cqe : ∀ i, i < L2 → cmQ M7 a i = cmQ M2 a i := fun i hi => by
      unfold cmQ
      rw [(po i hi).1, (po i hi).2.1, (po i hi).2.2.1, (po i hi).2.2.2, brR_cg (M := M2) (M' := M7) (fun _ _ _ => by rw [p85, p86, p87]; exact ⟨rfl, rfl, rfl⟩)]
    have key := x_en201 (G := G) (k := k) (zl := cm.2.2.2.zip (lchR M2 a b)) (S0 := s9.2.1) (M7 := M7) (n := n) (d := d) (cA := mL M2 (a + 21189)) (cD := mL M2 (a + 21190)) (sg := sg) hev hstp hp hcm (fun b' hb' => ⟨cm.2.2.2[b']'(by omega), List.getElem?_eq_getElem _, by rw [List.getElem?_zip_eq_some]; exact ⟨List.getElem?_eq_getElem _, lchR_get hb'⟩⟩) (by rw [List.length_zip, lchR_len]; omega) hgd h0 ipl hc hnb hw hL (fun b' hb' => ⟨(hch b' hb').1, (hch b' hb').2.1, (hch b' hb').2.2.1, (hch b' hb').2.2.2, hdv b' hb'⟩) hm.1 hsum b 0 M7 (by omega) ⟨u6, u7, u8, u9, fun _ => ⟨⟨by rw [u1]; exact u2, by rw [u1]; exact u3⟩, n, w9, Nat.le_refl _, u10, u11, by omega⟩⟩ (fun _ => ⟨s9.2.1, [], rfl, ⟨by rw [u4]; exact g2, by rw [SmR_cg (M := M2) hW12 (fun j _ => by rw [p105])]; exact g3, w9, by rw [u4]; exact g10, by rw [Nat.sub_self]; rfl, fun j hj => by rw [p86, p87]; exact g13 j hj, xq.mv w2 mm (fun q hq => xP_in hq) gs27 (fun x hx => by omega), Tq.refl⟩, fun v hv => by rw [(mm.cellL w2 (fun q hq => xP_in hq) (offx (a := a) (o := 101) (by decide)) (by omega)).1]; exact hsg v hv⟩) (fun z => absurd (by rw [u4]; exact z16) z)
    refine mWm.mono key (fun r9 M9 z9 => ⟨z9.1, z9.2.1, z9.2.2.1, ?_⟩)
    have zE := z9.2.2.1
    rcases z9.2.2.2 with ⟨e1, e2⟩ | ⟨e1, S', B', e2, ⟨e3, e4, w', e5, e6, e7', e8, e9⟩, e10⟩
    · refine Or.inl ⟨e1, ?_⟩
      rw [hR2 hsum' _ rfl]
      exact e2
    rw [hR2 hsum' _ rfl, e2]
    obtain ⟨q1, q2, q3, q4, q5, q6⟩ := e9
    obtain ⟨x9, gg9, en9, t107', t108', v9⟩ := zE
    rcases v9 with y | ⟨-, v9, n9, w9', B9, b1, b2, b3, b4⟩
    · exact absurd e1 y
    have ew9 : w9' = w' := by
      have := b4.2.1.1
      omega
    subst ew9
    have o9 := b4.2.2.2.2.2.2 L2 (by omega)
    have hw0 : w9 ≤ w9' := by
      have h1 := o9.1.1
      have h2 := b2 L2 (Nat.le_refl _)
      omega
    have cq9 : ∀ i, i < L2 → cmQ M9 a i = cmQ M2 a i := fun i hi => by
      rw [← cqe i hi]
      have oi := u10.2.2.2.2.2.2 i hi
      have mB := u10.mono (i + 1) L2 (by omega) (Nat.le_refl _)
      unfold cmQ
      rw [q1, q2, q3, q4 i hi, oi.2.1.1, oi.2.1.2, Int.toNat_natCast, Int.toNat_natCast, brR_cg (M := M7) (M' := M9) (fun j j1 j2 => q6 j (by have := oi.1.1; omega))]
    have cqL : cmQ M9 a L2 = (c, mul, B') := by
      unfold cmQ
      rw [q1, p109, Int.toNat_natCast, o9.2.1.2, b2 L2 (Nat.le_refl _), b3, hw, q2, u11.2.1.1, q3, u11.2.1.2.2, Int.toNat_natCast, Int.toNat_natCast, e6]
    have e106 : mI M9 (a + 106) = mI M2 (a + 106) := q5.trans p106
    have e107 : mI M9 (a + 107) = mI M2 (a + 107) := t107'.trans t107.symm
    have e108 : ∀ k', k' ≠ k → mI M9 (a + 108) k' = mI M2 (a + 108) k' := fun k' hk' => by rw [t108' k' hk', t108]
    have hB' : B'.length = w9' - w9 := by rw [← e6, brR_len]
    refine Or.inr ⟨e1, ⟨rfl, e3, e4, ?_, by rw [e106]; exact g5, fun k' hk' => ?_, L2 + 1, w9', by rw [e107]; exact g7, ⟨by omega, ?_⟩, b4.2.2.2.2.1.1, e5, ?_, ?_, e7'⟩, e8, e10⟩
    · rw [← g4]
      exact xtR_cg (L := L0) (fun k' _ => by rw [e106]) (fun k' hk' => ⟨by rw [e107], e108 k' (by omega)⟩) g6 (fun i hi => cq9 i (by omega))
    · rw [e107, e108 k' (by omega)]
      exact g6 k' hk'
    · rw [v9, ← t108, g8.2]
      omega
    · show cmL M9 a L0 (L2 + 1 - L0) = s9.2.2.2 ++ [(c, mul, B')]
      rw [show L2 + 1 - L0 = (L2 - L0) + 1 by first | rfl | omega, cmL_s, cmL_cg (M := M2) (fun i i1 i2 => cq9 i (by omega)), show L0 + (L2 - L0) = L2 by first | rfl | omega, cqL]
      exact congrArg (fun x => x ++ [(c, mul, B')]) g11
    · show nbx9 T9 + nbq9 (s9.2.2.2 ++ [(c, mul, B')]) = w9'
      have g12' : nbx9 T9 + nbq9 s9.2.2.2 = w9 := g12
      rw [nbq_app]
      show nbx9 T9 + (nbq9 s9.2.2.2 + (B'.length + 0)) = w9'
      omega
  | succ t ih =>
    intro b hb
    have b8 : ((0 : Int) ≤ (b : Int) ∧ (b : Int) < ((8 : Nat) : Int)) := by omega
    have c1 := hch b (by omega)
    have nx := ih (b + 1) (by omega)
    refine k_MM_enabled_87 o2 ik ic ipl im (sb b (by omega)) (i32s (by omega) (by omega)) ⟨w2.1.1, ?_⟩
    rw [gg.2.2.1.1, show mR M2 g 22 = g + 25 from (w2.gp hg).2.2.1.2.2.2.2.2.2.2.1, Int.toNat_natCast, r25, (r4546 w2).1.1, (r4546 w2).1.2, Int.toNat_natCast, Int.toNat_natCast]
    refine ⟨(w2.gp hg).1, (w2.gp hg).2.2.2.2.2.2.2.2.1.1, by rw [(w2.gp hg).2.2.2.2.2.2.2.2.1.2]; exact b60, fun q => absurd q (by omega), fun _ => ⟨(r4546 w2).2.1.1, by rw [(r4546 w2).2.1.2]; exact b8, (r4546 w2).2.2.1, by rw [(r4546 w2).2.2.2]; exact b8, by omega, ?_⟩⟩
    rw [show Int.tdiv mul (mL M2 (a + 21190) b) = mul / mL M2 (a + 21190) b from Int.tdiv_eq_ediv_of_nonneg (by omega), show (b : Int) + 1 = ((b + 1 : Nat) : Int) by first | rfl | omega]
    exact nx
theorem x_MM_enabled {c L0 : Nat} {cm : cm9} {s9 : sl9} {T9 : xt9} (hev : ∀ sg i j, ev sg i j = vlq ww (cvS sg) pl 0 0 i j) (hstp : ∀ sg l, stp sg l = ((stq9 ww (cvS sg) pl lo hi l (fun v => sg.getD v 0)).1, (List.range W).map (stq9 ww (cvS sg) pl lo hi l (fun v => sg.getD v 0)).2)) (hp : GP ww pl XV ev M g R W C T E tgI cms lo hi) (hcm : cms[c]? = some cm) (hok : GOk ev cms sg) (hg1 : (ev sg cm.2.2.1.1 cm.2.2.1.2).1 = 0) (hg2 : (ev sg cm.2.2.1.1 cm.2.2.1.2).2.1 ≠ 0) (xq : XVq M a g R W (XV sg)) (hsg : ∀ v, v < W → mI M (a + 101) v = sg.getD v 0) (gq : GQr M a W k L0 T9 s9) (h : GG M a g T R W C Z E tg) (hn : En M a g R W) (xd : XD M a g n W L w L B) (hw : B L = w) (z16 : mI M a 16 = 0) (hk5 : k < 512) (hk : 0 ≤ mI M (a + 108) k ∧ mI M (a + 108) k ≤ 5000) (hc : c < C) : Cv G y_MM_enabled (d + 8) [vr a, vi k, vi c] M (fun M' => mOk M' ∧ enQ M a g T R W C Z E tg n L k B M' ∧ eyX (tcq9 ev stp sg (nbx9 T9) c cm s9) T9 a W k L0 (XV sg) g R sg M') := by
  have o := h.1
  have wd := h.2.1
  have hR := h.2.2.2.2.2.2.2.1.1.1
  have hW12 := h.2.2.2.2.2.2.2.1.1.2.1
  have rc := hp.2.2.2.2.2.2 c cm hcm
  have hg := h.2.2.1.2
  have hD := h.2.2.2.2.2.2.2.1
  have hBd := hD.1
  have cc := hD.2.2.2.2.1 c hc
  obtain ⟨nb, hnb⟩ : ∃ nb : Nat, mI M (g + 25) c = (nb : Int) := ⟨(mI M (g + 25) c).toNat, by have := cc.2.1; omega⟩
  have b60 : ((0 : Int) ≤ (c : Int) ∧ (c : Int) < ((60 : Nat) : Int)) := by omega
  have b512 : ((0 : Int) ≤ (k : Int) ∧ (k : Int) < ((512 : Nat) : Int)) := by omega
  have A6 : mK M (a + 106) = 30 ∧ mN M (a + 106) = 512 := wd.1.2.2.2.2.2.2.2.2.1.2.1
  have ipl : i32 (mI M (g + 23) c) := (o _ _).1
  have eb0 : eB M a g T R W C Z E tg n L w B M := ⟨xF.refl o wd, h, hn, xd, rfl, rfl⟩
  have gk : mI M (a + 106) k = s9.2.2.1 := gq.2.2.2.2.1
  have cmv : ∀ v : Int, v = (if mI M (g + 22) c = 0 then 1 else 2) → v = cm.1 := fun v hv => by
    rcases rc.1 with ⟨y1, y2⟩ | ⟨y1, y2⟩
    · rw [hv, if_pos y2, y1]
    · rw [hv, if_neg y2, y1]
  refine k_MM_enabled o (i32s (by omega) (by omega)) (i32s (by omega) (by omega)) ⟨wd.1.1, ?_⟩
  rw [h.2.2.1.1, show mR M g 19 = g + 22 from (wd.gp hg).2.2.1.2.2.2.2.1, show mR M g 20 = g + 23 from (wd.gp hg).2.2.1.2.2.2.2.2.1, show mR M a 32 = a + 106 from wd.1.2.2.2.2.2.1.2.1, Int.toNat_natCast, Int.toNat_natCast]
  refine ⟨(wd.gp hg).1, (wd.gp hg).2.2.2.2.2.1.1, by rw [(wd.gp hg).2.2.2.2.2.1.2]; exact b60, fun v hv => ⟨(wd.gp hg).2.2.2.2.2.2.1.1, by rw [(wd.gp hg).2.2.2.2.2.2.1.2]; exact b60, A6.1, by rw [A6.2]; exact b512, fun _ => by rw [A6.2]; exact b512, fun qk => ⟨by rw [A6.2]; exact b512, fun M2 e2 => ?_⟩, fun qk => (s_MM_stop ⟨by decide, by decide⟩ ipl o wd).mono (fun M3 h3 => ⟨h3.1.1, h3.1.1, en_stop eb0 (by decide) h3, Or.inl ⟨by rw [h3.2.1]; decide, by rw [tcq_m hg1 hg2 ⟨fun u => qk (Or.inl (gk.trans u)), fun u => qk (Or.inr (gk.trans (u.trans (cmv v hv).symm)))⟩, h3.2.1, h3.2.2.1, rc.2.1]⟩⟩)⟩⟩
  have iv : i32 v := by rw [hv]; split <;> exact ⟨by decide, by decide⟩
  obtain ⟨m2, f2', l2⟩ := mv_cell iv o wd (show a ≤ a + 106 by omega) (offx (a := a) (o := 106) (by decide)) e2
  have no : ∀ q : Nat, False → q ∈ nums a := fun _ z => z.elim
  have w2 := m2.2.1
  have aI := (m2.fld wd no (by omega)).1
  have F2 : xF M a M2 := xF.mk wd m2 (fun _ z => z.elim) (fun x z => Or.inr (Or.inl (by omega))) (fun i _ _ _ _ _ => by rw [aI])
  have gs2 := F2.gs wd hg
  have gg2 := h.gs m2.1 w2 (by rw [m2.rfl_a wd no]) gs2
  have en2 := hn.mv wd m2 no gs2 (fun x z => by omega)
  have xd2 := xd.mv wd m2 no (fun _ z => z.elim) (fun x z => by omega) gs2 (by rw [aI]) (by rw [aI])
  have c7 := (m2.cellL wd no (offx (a := a) (o := 107) (by decide)) (by omega)).1
  have c8 := (m2.cellL wd no (offx (a := a) (o := 108) (by decide)) (by omega)).1
  have hpk : ¬ (s9.2.2.1 ≠ 0 ∧ s9.2.2.1 ≠ cm.1) := fun u => by
    rcases qk with y | y
    · exact u.1 (gk.symm.trans y)
    · exact u.2 (gk.symm.trans (y.trans (cmv v hv)))
  have z162 : mI M2 a 16 = 0 := by rw [aI]; exact z16
  have hp2 := hp.gs gs2 hR
  refine (x_MM_chances (d := d + 1) (sg := sg) gg2 en2 hp2 (xq.mv wd m2 no gs2 (fun x z => by omega)) z162 hcm hc ipl (by rw [(gs2.2.1 25 (by omega) (by omega)).1]; exact hnb)).mono (fun mul M3 t3 => ?_)
  obtain ⟨i3, o3, ⟨-, ⟨x3, gg3, en3⟩, v3⟩, y3⟩ := t3
  have w3 := gg3.2.1
  have gs3 := x3.gs w2 hg
  have un : ∀ x, xE a x → x = a ∨ (a + 97 ≤ x ∧ x ≤ a + 98) ∨ (a + 102 ≤ x ∧ x ≤ a + 104) ∨ (a + 21188 ≤ x ∧ x ≤ a + 21190) := fun x hx => hx
  have xd3 := xd2.mv w2 x3.1 in99 (fun q hq => by omega) (fun x hx => by have := un x hx; omega) gs3 (x3.2 29 (by decide) (by decide) (by decide)) (x3.2 40 (by decide) (by decide) (by decide))
  have tb := x3.tab w2
  have eb3 : eB M a g T R W C Z E tg n L w B M3 := ⟨F2.trans (x3.xf w2), gg3, en3, xd3, by rw [tb.2.1]; exact c7, by rw [tb.2.2]; exact c8⟩
  refine ⟨i3, o3, w3.1.1, fun z3 => ?_, fun z3 => ⟨o3, ⟨eb3.1, gg3, en3, eb3.2.2.2.2.1, fun k' _ => by rw [eb3.2.2.2.2.2], Or.inl z3⟩, Or.inl ⟨z3, ?_⟩⟩⟩
  rotate_left
  · rcases y3 with (⟨y1, y2, y4⟩ | ⟨y1, y2, y4, y5⟩) | ⟨-, -, y4, -⟩
    · rw [tcq_c hg1 hg2 hpk y1, y2, y4]
    · rw [tcq_u hg1 hg2 hpk y1 y2, y4, y5, rc.2.1]
    · exact absurd y4 z3
  rcases v3 with y | ⟨-, u1, u2, u3, u4⟩
  · exact absurd z3 y
  obtain ⟨f1, f2, -, f3, f4, f5⟩ : (chq9 ev sg cm.2.2.2).1.1 = 0 ∧ muq9 (chq9 ev sg cm.2.2.2).2 1 ≠ 0 ∧ mI M3 a 16 = 0 ∧ mul = muq9 (chq9 ev sg cm.2.2.2).2 1 ∧ lchR M3 a nb = (chq9 ev sg cm.2.2.2).2 ∧ XVq M3 a g R W (XV sg) := by
    rcases y3 with (⟨y1, y2, -⟩ | ⟨y1, y2, y4, y5⟩) | y4
    · exact absurd (y2.symm.trans z3) y1
    · rw [z3] at y4
      exact absurd y4 (by decide)
    · exact y4
  have hlen : cm.2.2.2.length = nb := by
    have e := rc.2.2.2.1
    rw [hnb] at e
    omega
  have e101 : ∀ v, v < W → mI M3 (a + 101) v = sg.getD v 0 := fun v' hv' => by
    rw [(x3.1.cellL w2 in99 (offx (a := a) (o := 101) (by decide)) (fun z => by have := un _ z; omega)).1, (m2.cellL wd no (offx (a := a) (o := 101) (by decide)) (by omega)).1]
    exact hsg v' hv'
  have gF := F2.trans (x3.xf w2)
  have gs03 := gs2.trans gs3
  obtain ⟨g1, g2, g3, g4, g5, g6, L2, w9, g7, g8, g9, g10, g11, g12, g13⟩ := gq
  have c3 : ∀ o, frO o → (o = 105 ∨ o = 106 ∨ o = 107 ∨ o = 108 ∨ o = 21185 ∨ o = 21186 ∨ o = 21187) → mI M3 (a + o) = mI M2 (a + o) ∧ mL M3 (a + o) = mL M2 (a + o) := fun o fo ho => x3.1.cellL w2 in99 (offx fo) (fun z => by have := un _ z; omega)
  have c2 : ∀ o, frO o → (o = 105 ∨ o = 107 ∨ o = 108 ∨ o = 21185 ∨ o = 21186 ∨ o = 21187) → mI M2 (a + o) = mI M (a + o) ∧ mL M2 (a + o) = mL M (a + o) := fun o fo ho => m2.cellL wd no (offx fo) (by omega)
  have ls : ∀ {q}, q ∈ nums a → q ≠ a + 99 → ln M3 q = ln M q ∧ nt M3 q = nt M q := fun hq n1 => by
    have s3 := x3.1.lst hq n1
    have s2 := m2.lst hq (fun z => z)
    exact ⟨s3.1.trans s2.1, funext (fun j => (s3.2.1 j).trans (s2.2.1 j))⟩
  have i29 : mI M3 a 29 = mI M a 29 := (x3.2 29 (by decide) (by decide) (by decide)).trans (by rw [aI])
  have i40 : mI M3 a 40 = mI M a 40 := (x3.2 40 (by decide) (by decide) (by decide)).trans (by rw [aI])
  have b5 := (c3 105 (by decide) (by omega)).1.trans (c2 105 (by decide) (by omega)).1
  have b7 := (c3 107 (by decide) (by omega)).1.trans (c2 107 (by decide) (by omega)).1
  have b8 := (c3 108 (by decide) (by omega)).1.trans (c2 108 (by decide) (by omega)).1
  have b85 := (c3 21185 (by decide) (by omega)).1.trans (c2 21185 (by decide) (by omega)).1
  have b86 := (c3 21186 (by decide) (by omega)).2.trans (c2 21186 (by decide) (by omega)).2
  have b87 := (c3 21187 (by decide) (by omega)).2.trans (c2 21187 (by decide) (by omega)).2
  have b6 : ∀ k', mI M3 (a + 106) k' = if k' = k then cm.1 else mI M (a + 106) k' := fun k' => by
    rw [(c3 106 (by decide) (by omega)).1, f2', cmv v hv]
    by_cases y : k' = k
    · rw [if_pos ⟨rfl, y⟩, if_pos y]
    · rw [if_neg (fun z => y z.2), if_neg y]
  have cq : ∀ i, cmQ M3 a i = cmQ M a i := fun i => by
    unfold cmQ
    rw [(ls k109 (by omega)).2, (ls k111 (by omega)).2, (ls k113 (by omega)).2, (ls k115 (by omega)).2, brR_cg (M := M) (M' := M3) (fun _ _ _ => by rw [b85, b86, b87]; exact ⟨rfl, rfl, rfl⟩)]
  have gq3 : GQr M3 a W k L0 T9 (s9.1, s9.2.1, cm.1, s9.2.2.2) := ⟨g1, by rw [i29]; exact g2, by rw [SmR_cg (M := M) hW12 (fun j _ => by rw [b5])]; exact g3, by rw [← g4]; exact xtR_cg (L := L0) (fun k' hk' => by rw [b6, if_neg (by omega)]) (fun k' _ => by rw [b7, b8]; exact ⟨rfl, rfl⟩) g6 (fun i _ => cq i), by rw [b6, if_pos rfl], fun k' hk' => by rw [b7, b8]; exact g6 k' hk', L2, w9, by rw [b7]; exact g7, by rw [b8]; exact g8, by rw [(ls k109 (by omega)).1]; exact g9, by rw [i40]; exact g10, by rw [cmL_cg (M := M) (fun i _ _ => cq i)]; exact g11, g12, fun j hj => by rw [b86, b87]; exact g13 j hj⟩
  have ew : w9 = w := by
    have := xd.2.1.1
    omega
  have hgd : ∀ b', b' < nb → Int.gcd (mL M3 (a + 21189) b') (mL M3 (a + 21190) b') = 1 := fun b' hb' => by
    have e1 := chq_get f1 (List.getElem?_eq_getElem (show b' < cm.2.2.2.length by omega))
    have e2 := lchR_get (M := M3) (a := a) hb'
    rw [f4, e1.1] at e2
    have e3 := Option.some.inj e2
    have e4 := hok c cm hcm b' _ (List.getElem?_eq_getElem (show b' < cm.2.2.2.length by omega)) e1.2
    rw [e3] at e4
    exact e4
  have key := x_en87 (G := G) (d := d) (sg := sg) (RR := tcq9 ev stp sg (nbx9 T9) c cm s9) (s9 := s9) (T9 := T9) (L0 := L0) hev hstp hp rc (fun y => by rw [f4, f3] at y; exact tcq_s hg1 hg2 hpk f1 f2 y) (fun y fl hfl => by
    rw [f4, f3] at y hfl
    rw [f3]
    refine tcq_e hg1 hg2 hpk f1 f2 y ?_
    rw [g12, ew]
    exact hfl) f5 e101 gq3 hgd h eb3 z3 hw hk5 hk hc hnb ⟨u2, u3⟩ u1 u4 nb 0 (by omega)
  rw [rc.2.1]
  exact key
end ENX3
end
section
/-! The reference: a state is explored, exactly. -/
section STX
variable {G : mG} {d a g T R W C Z n L w k : Nat} {M M' M2 M3 : mM} {E : Eg9} {tg : Int} {B : Nat → Nat} {P S : Nat → Prop} {ww pl lo hi : Nat → Int} {XV : List Int → Int → vrs} {ev : List Int → Nat → Nat → vrs} {cvS : List Int → Nat → vrs} {stp : List Int → List (Nat × Nat × Nat × Nat) → (Int × Int) × List Int} {tgI : Nat × Nat} {cms : List cm9} {sg : List Int}
theorem GQr.mv {L0 : Nat} {T9 : xt9} {s : sl9} (h : GQr M a W k L0 T9 s) (hW : W ≤ 12) (w : Wd M a) (m : Mv P S M a M') (hin : ∀ q, P q → q ∈ nums a) (hP : ∀ q, P q → q ≠ a + 109 ∧ q ≠ a + 111 ∧ q ≠ a + 113 ∧ q ≠ a + 115) (hS : ∀ x, S x → ¬ ((a + 105 ≤ x ∧ x ≤ a + 108) ∨ (a + 21185 ≤ x ∧ x ≤ a + 21187))) (f29 : mI M' a 29 = mI M a 29) (f40 : mI M' a 40 = mI M a 40) : GQr M' a W k L0 T9 s := by
  obtain ⟨i1, i2, i3, i4, i5, i6, L2, w9, i7, i8, i9, i10, i11, i12, i13⟩ := h
  have c : ∀ o, frO o → (o = 105 ∨ o = 106 ∨ o = 107 ∨ o = 108 ∨ o = 21185 ∨ o = 21186 ∨ o = 21187) → mI M' (a + o) = mI M (a + o) ∧ mL M' (a + o) = mL M (a + o) := fun o fo ho => m.cellL w hin (offx fo) (fun z => hS _ z (by omega))
  have c5 := (c 105 (by decide) (by omega)).1
  have c6 := (c 106 (by decide) (by omega)).1
  have c7 := (c 107 (by decide) (by omega)).1
  have c8 := (c 108 (by decide) (by omega)).1
  have c85 := (c 21185 (by decide) (by omega)).1
  have c86 := (c 21186 (by decide) (by omega)).2
  have c87 := (c 21187 (by decide) (by omega)).2
  have l9 := m.lst (k109 (a := a)) (fun z => (hP _ z).1 rfl)
  have l11 := m.lst (k111 (a := a)) (fun z => (hP _ z).2.1 rfl)
  have l13 := m.lst (k113 (a := a)) (fun z => (hP _ z).2.2.1 rfl)
  have l15 := m.lst (k115 (a := a)) (fun z => (hP _ z).2.2.2 rfl)
  have cm : ∀ i, cmQ M' a i = cmQ M a i := fun i => by
    unfold cmQ
    rw [show nt M' (a + 109) = nt M (a + 109) from funext (fun j => l9.2.1 j), show nt M' (a + 111) = nt M (a + 111) from funext (fun j => l11.2.1 j), show nt M' (a + 113) = nt M (a + 113) from funext (fun j => l13.2.1 j), show nt M' (a + 115) = nt M (a + 115) from funext (fun j => l15.2.1 j), brR_cg (M := M) (M' := M') (fun _ _ _ => by rw [c85, c86, c87]; exact ⟨rfl, rfl, rfl⟩)]
  exact ⟨i1, by rw [f29]; exact i2, by rw [SmR_cg (M := M) hW (fun j _ => by rw [c5])]; exact i3, by rw [← i4]; exact xtR_cg (L := L0) (fun k' _ => by rw [c6]) (fun k' _ => by rw [c7, c8]; exact ⟨rfl, rfl⟩) i6 (fun i _ => cm i), by rw [c6]; exact i5, by rw [c7, c8]; exact i6, L2, w9, by rw [c7]; exact i7, by rw [c8]; exact i8, by rw [l9.1]; exact i9, by rw [f40]; exact i10, by rw [cmL_cg (M := M) (fun i _ _ => cm i)]; exact i11, i12, fun j hj => by rw [c86, c87]; exact i13 j hj⟩
theorem x_st72 {RS : sl9} {T9 : xt9} (hev : ∀ sg i j, ev sg i j = vlq ww (cvS sg) pl 0 0 i j) (hstp : ∀ sg l, stp sg l = ((stq9 ww (cvS sg) pl lo hi l (fun v => sg.getD v 0)).1, (List.range W).map (stq9 ww (cvS sg) pl lo hi l (fun v => sg.getD v 0)).2)) (h0 : GG M a g T R W C Z E tg) (hp : GP ww pl XV ev M g R W C T E tgI cms lo hi) (hok : GOk ev cms sg) (hk5 : k < 512) : ∀ (t c : Nat) (M2 : mM), c + t = C → sI M a g T R W C Z E tg n L k B M2 → (mI M2 a 16 = 0 → ∃ s9, GQr M2 a W k L T9 s9 ∧ XVq M2 a g R W (XV sg) ∧ (∀ v, v < W → mI M2 (a + 101) v = sg.getD v 0) ∧ RS = tsq9 ev stp sg (nbx9 T9) (cms.drop c) c s9) → (mI M2 a 16 ≠ 0 → RS.1 = (mI M2 a 16, mI M2 a 17)) → h_MM_state0_72 G (d + 8) a k c M2 (fun M' => mOk M' ∧ sI M a g T R W C Z E tg n L k B M' ∧ eyX RS T9 a W k L (XV sg) g R sg M') := by
  have hR := h0.2.2.2.2.2.2.2.1.1.1
  have hW12 := h0.2.2.2.2.2.2.2.1.1.2.1
  have hlen := hp.2.2.2.2.2.1
  intro t
  induction t with
  | zero =>
    intro c M2 hc h hz hf
    have ec : c = C := by omega
    subst ec
    obtain ⟨x1, gg, en, hh⟩ := id h
    have w2 := gg.2.1
    have hg := gg.2.2.1.2
    have hBd := gg.2.2.2.2.2.2.2.1.1
    refine k_MM_state0_72 gg.1 (i32s (by omega) (by omega)) (i32s (by omega) (by omega)) ⟨w2.1.1, ?_⟩
    rw [gg.2.2.1.1, gg.2.2.2.2.2.1.2.2.1]
    refine ⟨(w2.gp hg).1, fun _ => ⟨gg.1, h, ?_⟩, fun q => absurd (Or.inl (Int.le_refl _)) q⟩
    by_cases z : mI M2 a 16 = 0
    · obtain ⟨s9, z1, z2, z3, z4⟩ := hz z
      rw [List.drop_eq_nil_of_le (by omega)] at z4
      have z4 : RS = s9 := z4
      rw [z4]
      exact Or.inr ⟨z, z1, z2, z3⟩
    · exact Or.inl ⟨z, hf z⟩
  | succ t ih =>
    intro c M2 hc h hz hf
    obtain ⟨x1, gg, en, hh⟩ := id h
    have w2 := gg.2.1
    have hg := gg.2.2.1.2
    have hD := gg.2.2.2.2.2.2.2.1
    have hBd := hD.1
    have cc := hD.2.2.2.2.1 c (by omega)
    have b60 : ((0 : Int) ≤ (c : Int) ∧ (c : Int) < ((60 : Nat) : Int)) := by omega
    refine k_MM_state0_72 gg.1 (i32s (by omega) (by omega)) (i32s (by omega) (by omega)) ⟨w2.1.1, ?_⟩
    rw [gg.2.2.1.1, gg.2.2.2.2.2.1.2.2.1, show mR M2 g 21 = g + 24 from (w2.gp hg).2.2.1.2.2.2.2.2.2.1, Int.toNat_natCast]
    have gs02 : Gs M M2 g := x1.gs h0.2.1 hg
    have hp2 := hp.gs gs02 hR
    obtain ⟨cm, hcm⟩ : ∃ cm : cm9, cms[c]? = some cm := ⟨_, List.getElem?_eq_getElem (by omega)⟩
    have rc := hp2.2.2.2.2.2.2 c cm hcm
    have dq : cms.drop c = cm :: cms.drop (c + 1) := by
      obtain ⟨hl, he⟩ := List.getElem?_eq_some_iff.mp hcm
      rw [List.drop_eq_getElem_cons hl, he]
    refine ⟨(w2.gp hg).1, fun q => ⟨gg.1, h, ?_⟩, fun q => ?_⟩
    · have z2 : mI M2 a 16 ≠ 0 := by
        rcases q with q | q
        · omega
        · exact q
      exact Or.inl ⟨z2, hf z2⟩
    have z2 : mI M2 a 16 = 0 := Classical.byContradiction (fun z => q (Or.inr z))
    obtain ⟨s9, zg, zx, zs, zr⟩ := hz z2
    rw [dq, tsq_c zg.1] at zr
    refine ⟨(w2.gp hg).2.2.2.2.2.2.2.1.1, by rw [(w2.gp hg).2.2.2.2.2.2.2.1.2]; exact b60, (x_MM_reach (d := d + 3) gg en hp2.1 zx rc.2.2.1 z2).mono (fun M3 t3 => ?_)⟩
    obtain ⟨⟨t1, t2⟩, n2, L2, w2', B2, y1, y2, y3, y4, y5, y6⟩ := hh z2
    obtain ⟨o3, ⟨xr3, gg3, en3, v3⟩, u3⟩ := t3
    have x3 := xr3.xe w2
    have w3 := gg3.2.1
    have gs3 := x3.gs w2 hg
    have tb := x3.tab w2
    have un : ∀ x, xE a x → x = a ∨ (a + 97 ≤ x ∧ x ≤ a + 98) ∨ (a + 102 ≤ x ∧ x ≤ a + 104) ∨ (a + 21188 ≤ x ∧ x ≤ a + 21190) := fun x hx => hx
    have xd3 := y6.mv w2 x3.1 in99 (fun q hq => by omega) (fun x hx => by have := un x hx; omega) gs3 (x3.2 29 (by decide) (by decide) (by decide)) (x3.2 40 (by decide) (by decide) (by decide))
    have s3 : sI M a g T R W C Z E tg n L k B M3 := ⟨x1.trans (x3.xf w2), gg3, en3, fun _ => ⟨by rw [tb.2.1, tb.2.2]; exact ⟨t1, t2⟩, n2, L2, w2', B2, y1, y2, by rw [tb.2.2]; exact y3, y4, y5, xd3⟩⟩
    have A7 : mK M3 (a + 97) = 33 ∧ mN M3 (a + 97) = 16400 := w3.1.2.2.2.2.2.2.2.1.1
    rw [show mR M3 a 21 = a + 97 from w3.1.2.2.2.2.1.2.2.2.2.2.2.1]
    rw [show (c : Int) + 1 = ((c + 1 : Nat) : Int) by first | rfl | omega]
    have zg3 : GQr M3 a W k L T9 s9 := zg.mv hW12 w2 x3.1 in99 (fun q hq => by omega) (fun x hx => by have := un x hx; omega) (x3.2 29 (by decide) (by decide) (by decide)) (x3.2 40 (by decide) (by decide) (by decide))
    have zs3 : ∀ v, v < W → mI M3 (a + 101) v = sg.getD v 0 := fun v hv => by
      rw [(x3.1.cellL w2 in99 (offx (a := a) (o := 101) (by decide)) (fun z => by have := un _ z; omega)).1]
      exact zs v hv
    have gv : mI M3 a 16 = 0 → (ev sg cm.2.2.1.1 cm.2.2.1.2 = (0, mL M3 (a + 97) 0, 1) ∧ XVq M3 a g R W (XV sg)) ∧ (mL M3 (a + 97) 0 = 0 ∨ mL M3 (a + 97) 0 = 1) := fun z => by
      rcases u3 with u | ⟨-, u, y⟩
      · exact absurd (u.2.1.symm.trans z) u.1
      rcases v3 with v | ⟨-, v⟩
      · exact absurd z v
      refine ⟨⟨u, y⟩, ?_⟩
      unfold vok at v
      omega
    refine ⟨o3, w3.1.1, fun _ => ⟨A7.1, by rw [A7.2]; decide⟩, fun q3 => ?_, fun q3 => ih (c + 1) M3 (by omega) s3 (fun z => ?_) (fun z => ?_)⟩
    rotate_left
    · obtain ⟨⟨g1, g2⟩, g3⟩ := gv z
      have g4 : mL M3 (a + 97) 0 = 0 := by
        rcases g3 with y | y
        · exact y
        · exact absurd ⟨z, (cmpz _ _).2.2.2.1.2 y⟩ q3
      refine ⟨s9, zg3, g2, zs3, ?_⟩
      rw [zr, tcq_0 (by rw [g1]) (by rw [g1]; exact g4)]
    · rcases u3 with u | ⟨u, -⟩
      · have e9 := tcq_f (stp := stp) (nb := nbx9 T9) (c := c) (s := s9) u.1
        rw [zr, e9, tsq_f u.1]
        show ((ev sg cm.2.2.1.1 cm.2.2.1.2).1, (ev sg cm.2.2.1.1 cm.2.2.1.2).2.1) = _
        rw [u.2.1, u.2.2]
      · exact absurd u z
    obtain ⟨⟨g1, g2⟩, g3⟩ := gv q3.1
    have g4 : mL M3 (a + 97) 0 = 1 := (cmpz _ _).2.2.2.1.1 q3.2
    have hp3 := hp2.gs gs3 hR
    have hL2 := xd3.le
    refine (x_MM_enabled (d := d) (k := k) (c := c) (sg := sg) (s9 := s9) (T9 := T9) (L0 := L) hev hstp hp3 hcm hok (by rw [g1]) (by rw [g1]; show mL M3 (a + 97) 0 ≠ 0; omega) g2 zs3 zg3 gg3 en3 xd3 y5 q3.1 hk5 (by rw [tb.2.2, y3]; omega) (by omega)).mono (fun M4 t4 => ⟨t4.1, ih (c + 1) M4 (by omega) ?_ (fun z => ?_) (fun z => ?_)⟩)
    rotate_left
    · rcases t4.2.2 with ⟨y, -⟩ | ⟨-, y1, y2, y3⟩
      · exact absurd z y
      · exact ⟨_, y1, y2, y3, zr⟩
    · rcases t4.2.2 with ⟨y, e⟩ | ⟨y, -⟩
      · rw [zr, tsq_f (by rw [e]; exact y)]
        exact e
      · exact absurd y z
    obtain ⟨-, ⟨x4, gg4, en4, k7, k8, v4⟩, -⟩ := t4
    refine ⟨s3.1.trans x4, gg4, en4, fun z4 => ?_⟩
    rcases v4 with y | ⟨-, u1, n4, w4, B4, u2, u3, u4, u5⟩
    · exact absurd z4 y
    · refine ⟨⟨by rw [k7, tb.2.1]; exact t1, fun k' hk' => ⟨by rw [k7, tb.2.1]; exact (t2 k' hk').1, by rw [k8 k' hk', tb.2.2]; exact (t2 k' hk').2⟩⟩, n4, L2 + 1, w4, B4, by omega, by omega, by rw [u1, tb.2.2, y3]; omega, fun i hi => by rw [u3 i (by omega)]; exact y4 i hi, u4, u5⟩
theorem x_MM_state0 {S9 : List (List Int)} {T9 : xt9} (hev : ∀ sg i j, ev sg i j = vlq ww (cvS sg) pl 0 0 i j) (hstp : ∀ sg l, stp sg l = ((stq9 ww (cvS sg) pl lo hi l (fun v => sg.getD v 0)).1, (List.range W).map (stq9 ww (cvS sg) pl lo hi l (fun v => sg.getD v 0)).2)) (hp : GP ww pl XV ev M g R W C T E tgI cms lo hi) (esg : sg = lsR M a W k) (hok : GOk ev cms sg) (e29 : mI M a 29 = ((S9.length : Nat) : Int)) (eS : SmR M a W S9.length = S9) (eT : xtR M a k = T9) (eb : ∀ k', k' < k → (mI M (a + 107) k').toNat + (mI M (a + 108) k').toNat ≤ L) (enb : nbx9 T9 = w) (eW : Wc M a w) (h : GG M a g T R W C Z E tg) (xd : XD M a g n W L w L B) (hw : B L = w) (z16 : mI M a 16 = 0) (hk : k < n) : Cv G y_MM_state0 (d + 9) [vr a, vi k] M (fun M' => mOk M' ∧ sI M a g T R W C Z E tg n L k B M' ∧ eyX (ssq9 ev stp tgI cms sg (nbx9 T9) S9) T9 a W k L (XV sg) g R sg M') := by
  have o := h.1
  have wd := h.2.1
  have hg := h.2.2.1.2
  have hn5 := xd.1.2.2
  have hL := xd.le
  have no : ∀ q : Nat, False → q ∈ nums a := fun _ z => z.elim
  have b512 : ((0 : Int) ≤ (k : Int) ∧ (k : Int) < ((512 : Nat) : Int)) := by omega
  have ik : i32 (k : Int) := i32s (by omega) (by omega)
  refine k_MM_state0 o ik ⟨wd.1.1, (x_MM_enter (d := d + 8) (k := k) h (by omega) (fun v hv => xd.2.2.1 k v hk hv)).mono (fun M2 t2 => ?_)⟩
  obtain ⟨o2, m2, en2, n2, r2⟩ := t2
  have w2 := m2.2.1
  have A6 : ∀ {Mx : mM}, Wd Mx a → (mK Mx (a + 106) = 30 ∧ mN Mx (a + 106) = 512) ∧ (mK Mx (a + 107) = 30 ∧ mN Mx (a + 107) = 512) ∧ (mK Mx (a + 108) = 30 ∧ mN Mx (a + 108) = 512) := fun w => ⟨w.1.2.2.2.2.2.2.2.2.1.2.1, w.1.2.2.2.2.2.2.2.2.1.2.2.1, w.1.2.2.2.2.2.2.2.2.1.2.2.2⟩
  have R6 : ∀ {Mx : mM}, Wd Mx a → mR Mx a 32 = a + 106 ∧ mR Mx a 33 = a + 107 ∧ mR Mx a 34 = a + 108 ∧ mR Mx a 35 = a + 109 := fun w => ⟨w.1.2.2.2.2.2.1.2.1, w.1.2.2.2.2.2.1.2.2.1, w.1.2.2.2.2.2.1.2.2.2.1, w.1.2.2.2.2.2.1.2.2.2.2.1⟩
  rw [(R6 w2).1, Int.toNat_natCast]
  refine ⟨o2, w2.1.1, (A6 w2).1.1, by rw [(A6 w2).1.2]; exact b512, fun M3 e3 => ?_⟩
  obtain ⟨m3, f3, l3⟩ := mv_cell (v := 0) ⟨by decide, by decide⟩ o2 w2 (show a ≤ a + 106 by omega) (offx (a := a) (o := 106) (by decide)) e3
  have w3 := m3.2.1
  have l109 : mI M3 (a + 109) 1 = (L : Int) := by
    have e1 := (m3.lst (k109 (a := a)) (fun z => z)).1
    have e2 := (m2.lst (k109 (a := a)) (fun z => z)).1
    exact e1.trans (e2.trans xd.2.2.2.2.1.1)
  rw [(R6 w3).2.2.2, (R6 w3).2.1, l109]
  refine ⟨(w3.nu k109).1, (A6 w3).2.1.1, by rw [(A6 w3).2.1.2]; exact b512, fun M4 e4 => ?_⟩
  obtain ⟨m4, f4, l4⟩ := mv_cell (v := (L : Int)) (i32s (by omega) (by omega)) m3.1 w3 (show a ≤ a + 107 by omega) (offx (a := a) (o := 107) (by decide)) e4
  have w4 := m4.2.1
  rw [(R6 w4).2.2.1]
  refine ⟨(A6 w4).2.2.1, by rw [(A6 w4).2.2.2]; exact b512, fun M5 e5 => ?_⟩
  obtain ⟨m5, f5, l5⟩ := mv_cell (v := 0) ⟨by decide, by decide⟩ m4.1 w4 (show a ≤ a + 108 by omega) (offx (a := a) (o := 108) (by decide)) e5
  have w5 := m5.2.1
  have nz : ∀ {Mx : mM} (q : Nat), False → q < mZ Mx := fun _ z => z.elim
  have m25 : Mv (fun _ => False) (fun x => a + 106 ≤ x ∧ x ≤ a + 108) M2 a M5 := ((m3.mono (fun _ z => z) (fun x z => by omega) nz).trans (m4.mono (fun _ z => z) (fun x z => by omega) nz)).trans (m5.mono (fun _ z => z) (fun x z => by omega) nz)
  have mm : Mv (fun _ => False) (fun x => (a + 101 ≤ x ∧ x ≤ a + 102) ∨ (a + 106 ≤ x ∧ x ≤ a + 108)) M a M5 := (m2.mono (fun _ z => z) (fun x z => Or.inl (by omega)) nz).trans (m25.mono (fun _ z => z) (fun x z => Or.inr z) nz)
  have aI := (mm.fld wd no (by omega)).1
  have F5 : xF M a M5 := xF.mk wd mm (fun _ z => z.elim) (fun x z => Or.inr (Or.inl (by omega))) (fun i _ _ _ _ _ => by rw [aI])
  have gs5 := F5.gs wd hg
  have gg5 := h.gs m5.1 w5 (by rw [mm.rfl_a wd no]) gs5
  have gs25 := gs_st w2 hg m25 no (fun _ z => z.elim) (fun x z => by omega)
  have en5 := en2.mv w2 m25 no gs25 (fun x z => by omega)
  have xd5 := xd.mv wd mm no (fun _ z => z.elim) (fun x z => by omega) gs5 (by rw [aI]) (by rw [aI])
  have c7 : mI M5 (a + 107) k = (L : Int) := by rw [f5, if_neg (fun z => by omega), f4, if_pos ⟨rfl, rfl⟩]
  have c8 : mI M5 (a + 108) k = 0 := by rw [f5, if_pos ⟨rfl, rfl⟩]
  have q7 := (m2.cellL wd no (offx (a := a) (o := 107) (by decide)) (by omega)).1
  have q8 := (m2.cellL wd no (offx (a := a) (o := 108) (by decide)) (by omega)).1
  have d7 : ∀ k', k' ≠ k → mI M5 (a + 107) k' = mI M (a + 107) k' := fun k' hk' => by rw [f5, if_neg (fun z => by omega), f4, if_neg (fun z => hk' z.2), f3, if_neg (fun z => by omega), q7]
  have d8 : ∀ k', k' ≠ k → mI M5 (a + 108) k' = mI M (a + 108) k' := fun k' hk' => by rw [f5, if_neg (fun z => hk' z.2), f4, if_neg (fun z => by omega), f3, if_neg (fun z => by omega), q8]
  have s5 : sI M a g T R W C Z E tg n L k B M5 := ⟨F5, gg5, en5, fun _ => ⟨⟨c7, fun k' hk' => ⟨d7 k' hk', d8 k' hk'⟩⟩, n, L, w, B, Nat.le_refl _, Nat.le_refl _, by rw [c8, Nat.sub_self]; rfl, fun _ _ => rfl, hw, xd5⟩⟩
  have hR := h.2.2.2.2.2.2.2.1.1.1
  have hW12 := h.2.2.2.2.2.2.2.1.1.2.1
  have hp5 := hp.gs gs5 hR
  have hs5 : ∀ v, v < W → mI M5 (a + 101) v = sg.getD v 0 := fun v hv => by
    rw [(m25.cellL w2 no (offx (a := a) (o := 101) (by decide)) (by omega)).1, n2 v hv, esg]
    exact (getD_mp (f := fun v => mI M (a + 105) (12 * k + v)) hv).symm
  have xq5 : XVq M5 a g R W (XV sg) := xv_ent gg5 hp5 hs5 (fun r hr => by
    rw [(m25.cellL w2 no (offx (a := a) (o := 102) (by decide)) (by omega)).1]
    exact r2 r hr)
  have cm5 : ∀ i, cmQ M5 a i = cmQ M a i := fun i => by
    unfold cmQ
    rw [show nt M5 (a + 109) = nt M (a + 109) from funext (fun j => (mm.lst k109 (fun z => z)).2.1 j), show nt M5 (a + 111) = nt M (a + 111) from funext (fun j => (mm.lst k111 (fun z => z)).2.1 j), show nt M5 (a + 113) = nt M (a + 113) from funext (fun j => (mm.lst k113 (fun z => z)).2.1 j), show nt M5 (a + 115) = nt M (a + 115) from funext (fun j => (mm.lst k115 (fun z => z)).2.1 j), brR_cg (M := M) (M' := M5) (fun _ _ _ => ⟨by rw [(mm.cellL wd no (offx (a := a) (o := 21185) (by decide)) (by omega)).1], by rw [(mm.cellL wd no (offx (a := a) (o := 21186) (by decide)) (by omega)).2], by rw [(mm.cellL wd no (offx (a := a) (o := 21187) (by decide)) (by omega)).2]⟩)]
  have c6 : mI M5 (a + 106) k = 0 := by rw [f5, if_neg (fun z => by omega), f4, if_neg (fun z => by omega), f3, if_pos ⟨rfl, rfl⟩]
  have q6 := (m2.cellL wd no (offx (a := a) (o := 106) (by decide)) (by omega)).1
  have d6 : ∀ k', k' ≠ k → mI M5 (a + 106) k' = mI M (a + 106) k' := fun k' hk' => by rw [f5, if_neg (fun z => by omega), f4, if_neg (fun z => by omega), f3, if_neg (fun z => hk' z.2), q6]
  have gq5 : GQr M5 a W k L T9 ((0, 0), S9, 0, []) := ⟨rfl, by rw [aI]; exact e29, by rw [SmR_cg (M := M) hW12 (fun j _ => by rw [(mm.cellL wd no (offx (a := a) (o := 105) (by decide)) (by omega)).1])]; exact eS, by rw [← eT]; exact xtR_cg (L := L) (fun k' hk' => d6 k' (by omega)) (fun k' hk' => ⟨d7 k' (by omega), d8 k' (by omega)⟩) eb (fun i _ => cm5 i), c6, fun k' hk' => by rw [d7 k' (by omega), d8 k' (by omega)]; exact eb k' hk', L, w, c7, ⟨Nat.le_refl _, by rw [c8, Nat.sub_self]; rfl⟩, xd5.2.2.2.2.1.1, xd5.2.1.1, by rw [Nat.sub_self]; rfl, by show nbx9 T9 + 0 = w; omega, fun j hj => by rw [(mm.cellL wd no (offx (a := a) (o := 21186) (by decide)) (by omega)).2, (mm.cellL wd no (offx (a := a) (o := 21187) (by decide)) (by omega)).2]; exact eW j hj⟩
  have rt := hp5.2.2.2.2.1
  have z165 : mI M5 a 16 = 0 := by rw [aI]; exact z16
  rw [gg5.2.2.1.1]
  refine ⟨(w5.gp hg).1, (x_MM_reach (d := d + 3) gg5 en5 hp5.1 xq5 rt z165).mono (fun M6 t6 => ?_)⟩
  obtain ⟨o6, ⟨xr6, gg6, en6, v6⟩, u6⟩ := t6
  have x6 := xr6.xe w5
  have w6 := gg6.2.1
  have gs6 := x6.gs w5 hg
  have tb := x6.tab w5
  have un : ∀ x, xE a x → x = a ∨ (a + 97 ≤ x ∧ x ≤ a + 98) ∨ (a + 102 ≤ x ∧ x ≤ a + 104) ∨ (a + 21188 ≤ x ∧ x ≤ a + 21190) := fun x hx => hx
  have xd6 := xd5.mv w5 x6.1 in99 (fun q hq => by omega) (fun x hx => by have := un x hx; omega) gs6 (x6.2 29 (by decide) (by decide) (by decide)) (x6.2 40 (by decide) (by decide) (by decide))
  have s6 : sI M a g T R W C Z E tg n L k B M6 := ⟨F5.trans (x6.xf w5), gg6, en6, fun _ => ⟨by rw [tb.2.1, tb.2.2]; exact ⟨c7, fun k' hk' => ⟨d7 k' hk', d8 k' hk'⟩⟩, n, L, w, B, Nat.le_refl _, Nat.le_refl _, by rw [tb.2.2, c8, Nat.sub_self]; rfl, fun _ _ => rfl, hw, xd6⟩⟩
  have gq6 := gq5.mv hW12 w5 x6.1 in99 (fun q hq => by omega) (fun x hx => by have := un x hx; omega) (x6.2 29 (by decide) (by decide) (by decide)) (x6.2 40 (by decide) (by decide) (by decide))
  have hs6 : ∀ v, v < W → mI M6 (a + 101) v = sg.getD v 0 := fun v hv => by
    rw [(x6.1.cellL w5 in99 (offx (a := a) (o := 101) (by decide)) (fun z => by have := un _ z; omega)).1]
    exact hs5 v hv
  have gv : mI M6 a 16 = 0 → (ev sg tgI.1 tgI.2 = (0, mL M6 (a + 97) 0, 1) ∧ XVq M6 a g R W (XV sg)) ∧ (mL M6 (a + 97) 0 = 0 ∨ mL M6 (a + 97) 0 = 1) := fun z => by
    rcases u6 with u | ⟨-, u, y⟩
    · exact absurd (u.2.1.symm.trans z) u.1
    rcases v6 with v | ⟨-, v⟩
    · exact absurd z v
    refine ⟨⟨u, y⟩, ?_⟩
    unfold vok at v
    omega
  have A7 : mK M6 (a + 97) = 33 ∧ mN M6 (a + 97) = 16400 := w6.1.2.2.2.2.2.2.2.1.1
  rw [show mR M6 a 21 = a + 97 from w6.1.2.2.2.2.1.2.2.2.2.2.2.1, (R6 w6).1]
  refine ⟨o6, w6.1.1, fun z6 => ⟨A7.1, by rw [A7.2]; decide, fun q7 => ⟨(A6 w6).1.1, by rw [(A6 w6).1.2]; exact b512, fun M7 e7 => ?_⟩, fun q7 => ?_⟩, fun z6 => ⟨o6, s6, Or.inl ⟨z6, ?_⟩⟩⟩
  rotate_left
  · obtain ⟨⟨g1, g2⟩, g3⟩ := gv z6
    have g4 : mL M6 (a + 97) 0 = 0 := by
      rcases g3 with y | y
      · exact y
      · exact absurd ((cmpz _ _).2.2.2.1.2 y) q7
    refine x_st72 hev hstp h hp hok (by omega) C 0 M6 (by omega) s6 (fun _ => ⟨_, gq6, g2, hs6, ?_⟩) (fun z => absurd z6 z)
    rw [ssq_n (by rw [g1]) (by rw [g1]; exact g4)]
    rfl
  · rcases u6 with u | ⟨u, -⟩
    · rw [ssq_f u.1, ← u.2.1, ← u.2.2]
    · exact absurd u z6
  obtain ⟨⟨g1, g2⟩, g3⟩ := gv z6
  have g4 : mL M6 (a + 97) 0 = 1 := (cmpz _ _).2.2.2.1.1 q7
  obtain ⟨m7, f7, l7⟩ := mv_cell (v := 3) ⟨by decide, by decide⟩ o6 w6 (show a ≤ a + 106 by omega) (offx (a := a) (o := 106) (by decide)) e7
  have aI7 := (m7.fld w6 no (by omega)).1
  have F7 : xF M6 a M7 := xF.mk w6 m7 (fun _ z => z.elim) (fun x z => Or.inr (Or.inl (by omega))) (fun i _ _ _ _ _ => by rw [aI7])
  have gs7 := F7.gs w6 hg
  have xd7 := xd6.mv w6 m7 no (fun _ z => z.elim) (fun x z => by omega) gs7 (by rw [aI7]) (by rw [aI7])
  have e7' : ∀ y, y ≠ a + 106 → mI M7 y = mI M6 y := fun y hy => by
    funext j
    rw [f7, if_neg (fun z => hy z.1)]
  refine ⟨m7.1, ⟨s6.1.trans F7, gg6.gs m7.1 m7.2.1 (by rw [m7.rfl_a w6 no]) gs7, en6.mv w6 m7 no gs7 (fun x z => by omega), fun _ => ⟨by rw [e7' (a + 107) (by omega), e7' (a + 108) (by omega), tb.2.1, tb.2.2]; exact ⟨c7, fun k' hk' => ⟨d7 k' hk', d8 k' hk'⟩⟩, n, L, w, B, Nat.le_refl _, Nat.le_refl _, by rw [e7' (a + 108) (by omega), tb.2.2, c8, Nat.sub_self]; rfl, fun _ _ => rfl, hw, xd7⟩⟩, Or.inr ⟨by rw [aI7]; exact z6, ?_, g2.mv w6 m7 no gs7 (fun x z => by omega), fun v hv => by rw [e7' (a + 101) (by omega)]; exact hs6 v hv⟩⟩
  rw [ssq_t (by rw [g1]) (by rw [g1]; show mL M6 (a + 97) 0 ≠ 0; omega)]
  obtain ⟨i1, i2, i3, i4, i5, i6, L2, w9, i7, i8, i9, i10, i11, i12, i13⟩ := gq6
  have l7' : mL M7 = mL M6 := l7
  have cm7 : ∀ i, cmQ M7 a i = cmQ M6 a i := fun i => by
    unfold cmQ
    rw [show nt M7 (a + 109) = nt M6 (a + 109) from funext (fun j => (m7.lst k109 (fun z => z)).2.1 j), show nt M7 (a + 111) = nt M6 (a + 111) from funext (fun j => (m7.lst k111 (fun z => z)).2.1 j), show nt M7 (a + 113) = nt M6 (a + 113) from funext (fun j => (m7.lst k113 (fun z => z)).2.1 j), show nt M7 (a + 115) = nt M6 (a + 115) from funext (fun j => (m7.lst k115 (fun z => z)).2.1 j), brR_cg (M := M6) (M' := M7) (fun _ _ _ => ⟨by rw [e7' (a + 21185) (by omega)], by rw [l7'], by rw [l7']⟩)]
  refine ⟨rfl, by rw [aI7]; exact i2, by rw [SmR_cg (M := M6) hW12 (fun j _ => by rw [e7' (a + 105) (by omega)])]; exact i3, ?_, by rw [f7, if_pos ⟨rfl, Int.toNat_natCast k⟩], fun k' hk' => by rw [e7' (a + 107) (by omega), e7' (a + 108) (by omega)]; exact i6 k' hk', L2, w9, by rw [e7' (a + 107) (by omega)]; exact i7, by rw [e7' (a + 108) (by omega)]; exact i8, by rw [(m7.lst k109 (fun z => z)).1]; exact i9, by rw [aI7]; exact i10, by rw [cmL_cg (M := M6) (fun i _ _ => cm7 i)]; exact i11, i12, fun j hj => by rw [l7']; exact i13 j hj⟩
  rw [← i4]
  exact xtR_cg (L := L) (fun k' hk' => by rw [f7, if_neg (fun z => by have := z.2; omega)]) (fun k' _ => by rw [e7' (a + 107) (by omega), e7' (a + 108) (by omega)]; exact ⟨rfl, rfl⟩) i6 (fun i _ => cm7 i)
end STX
end
section
/-! The reference: explore, exactly. -/
section EXX
variable {G : mG} {d a g T R W C Z : Nat} {M M' M1 M2 M3 : mM} {E : Eg9} {tg : Int} {Nt9 : tP9} {ww pl lo hi : Nat → Int} {XV : List Int → Int → vrs} {ev : List Int → Nat → Nat → vrs} {cvS : List Int → Nat → vrs} {stp : List Int → List (Nat × Nat × Nat × Nat) → (Int × Int) × List Int} {tgI : Nat × Nat} {cms : List cm9}
/-- the states that were found -/
def XTr (M : mM) (a g W : Nat) (S : List (List Int)) (T : xt9) : Prop := mI M a 29 = ((S.length : Nat) : Int) ∧ SmR M a W S.length = S ∧ xtR M a S.length = T ∧ ∃ w9 : Nat, mI M a 40 = (w9 : Int) ∧ Wc M a w9 ∧ ∃ (L w : Nat) (B : Nat → Nat), XD M a g S.length W L w L B ∧ B L = w
/-- what explore comes to -/
def xpR (X : (Int × Int) × Nat × List (List Int) × xt9) (a g W : Nat) (r : Int) (M' : mM) : Prop := (X.1.1 ≠ 0 ∧ r = X.1.1 ∧ mI M' a 12 = X.1.2 ∧ mI M' a 30 = ((X.2.1 : Nat) : Int) ∧ mI M' a 29 = 0 ∧ mI M' (a + 117 + 30) 0 = 0) ∨ (X.1 = (0, 0) ∧ r = 0 ∧ mI M' a 12 = -1 ∧ mI M' a 30 = -1 ∧ XTr M' a g W X.2.2.1 X.2.2.2 ∧ SvT M' (a + 117) X.2.2.2 ∧ kdT X.2.2.2 ∧ mI M' (a + 117 + 30) 0 = 0)
/-- nothing but the sign of a throw has changed -/
def xU (M M' : mM) (a : Nat) : Prop := mR M' = mR M ∧ mL M' = mL M ∧ (∀ x, x ≠ a → mI M' x = mI M x) ∧ ∀ i, i ≠ 0 → mI M' a i = mI M a i
theorem xU.one {v : Int} (e : M' = mUI M a 0 v) : xU M M' a := by
  subst e
  refine ⟨rfl, rfl, fun x hx => ?_, fun i hi => ?_⟩
  · funext k
    rw [mI_UI, if_neg (fun z => hx z.1)]
  · rw [mI_UI, if_neg (fun z => hi z.2)]
/-- the game of a text, with its words -/
def GdX (ww pl : Nat → Int) (XV : List Int → Int → vrs) (ev : List Int → Nat → Nat → vrs) (i9 : tI9) (M : mM) (g W : Nat) (tgI : Nat × Nat) (cms : List cm9) (lo hi : Nat → Int) (s0 : List Int) : Prop := ∃ (T R C Z : Nat) (E : Eg9) (tg : Int), nd M g T ∧ (T ≤ 16384 ∧ Z ≤ 16384) ∧ (mI M g 6 = R ∧ mI M g 12 = W ∧ mI M g 18 = C ∧ mI M g 17 = tg) ∧ (ln M (g + 30) = Z ∧ ln M (g + 32) = Z ∧ ln M (g + 34) = Z) ∧ Dg M g R W C Z T E tg ∧ 0 ≤ tg ∧ (mI M g 12 = i9.2.1 ∧ mI M g 6 = i9.2.2.1 ∧ mI M g 18 = i9.2.2.2.1 ∧ GaO E.2 ∧ i9.2.2.2.2.1 = XpG E.2) ∧ GP ww pl XV ev M g R W C T E tgI cms lo hi ∧ s0 = (List.range W).map (fun v => mI M (g + 21) v)
theorem GdX.gs {i9 : tI9} {s0 : List Int} (h : GdX ww pl XV ev i9 M g W tgI cms lo hi s0) (k : Gs M M' g) : GdX ww pl XV ev i9 M' g W tgI cms lo hi s0 := by
  obtain ⟨T, R, C, Z, E, tg, h1, h2, h3, h4, h5, h6, h7, h8, h9⟩ := h
  obtain ⟨hI, hc, hl⟩ := id k
  have G : Ge M g R W C Z T M' := ⟨⟨fun n _ => ⟨(hl (g + 1) (by first | exact tLk1 g | exact gLk1 g | omega)).2 n, (hl (g + 7) (by first | exact tLk7 g | exact gLk7 g | omega)).2 n, (hl (g + 9) (by first | exact tLk9 g | exact gLk9 g | omega)).2 n, (hl (g + 11) (by first | exact tLk11 g | exact gLk11 g | omega)).2 n, (hl (g + 3) (by first | exact tLk3 g | exact gLk3 g | omega)).2 n⟩, fun r _ => ⟨by rw [(hc 13 (by omega) (by omega)).1], by rw [(hc 14 (by omega) (by omega)).1]⟩, fun v _ => by rw [(hc 18 (by omega) (by omega)).1]⟩, fun r _ => ⟨by rw [(hc 15 (by omega) (by omega)).1], by rw [(hc 16 (by omega) (by omega)).2], by rw [(hc 17 (by omega) (by omega)).2]⟩, fun v _ => ⟨by rw [(hc 19 (by omega) (by omega)).1], by rw [(hc 20 (by omega) (by omega)).1], by rw [(hc 21 (by omega) (by omega)).1]⟩, fun c _ => ⟨by rw [(hc 24 (by omega) (by omega)).1], by rw [(hc 25 (by omega) (by omega)).1], fun b _ => ⟨by rw [(hc 26 (by omega) (by omega)).1], by rw [(hc 28 (by omega) (by omega)).1], by rw [(hc 29 (by omega) (by omega)).1], by rw [(hc 27 (by omega) (by omega)).1], by rw [(hc 22 (by omega) (by omega)).1], by rw [(hc 23 (by omega) (by omega)).1]⟩⟩, fun i _ => ⟨(hl (g + 30) (by first | exact gLk30 g | omega)).2 i, (hl (g + 34) (by first | exact gLk34 g | omega)).2 i, (hl (g + 32) (by first | exact gLk32 g | omega)).2 i⟩⟩
  refine ⟨T, R, C, Z, E, tg, fun q hq => ?_, h2, by rw [hI]; exact h3, ⟨by rw [(hl (g + 30) (by first | exact gLk30 g | omega)).1]; exact h4.1, by rw [(hl (g + 32) (by first | exact gLk32 g | omega)).1]; exact h4.2.1, by rw [(hl (g + 34) (by first | exact gLk34 g | omega)).1]; exact h4.2.2⟩, h5.ge G, h6, by rw [hI]; exact h7, h8.gs k h5.1.1, by rw [(hc 21 (by omega) (by omega)).1]; exact h9⟩
  have hq' : q = g + 1 ∨ q = g + 3 ∨ q = g + 5 ∨ q = g + 7 ∨ q = g + 9 ∨ q = g + 11 := hq
  rw [(hl q (by omega)).1]
  exact h1 q hq
/-- the solver's step leaves them -/
theorem XTr.sol {S : List (List Int)} {T9 : xt9} {S' : Nat → Prop} (h : XTr M a g W S T9) (w : Wd M a) (m : Mv (fun _ => False) S' M a M') (hS : ∀ x, S' x → a + 117 ≤ x ∧ x ≤ a + 117 + 21067) (hW : W ≤ 12) (aI : mI M' a = mI M a) (hx : ∃ (L w : Nat) (B : Nat → Nat), XD M' a g S.length W L w L B ∧ B L = w) : XTr M' a g W S T9 := by
  obtain ⟨h1, h2, h3, w9, h4, h5, -⟩ := h
  have no : ∀ q : Nat, False → q ∈ nums a := fun _ z => z.elim
  have c : ∀ o, frO o → (o = 105 ∨ o = 106 ∨ o = 107 ∨ o = 108 ∨ o = 21185 ∨ o = 21186 ∨ o = 21187) → mI M' (a + o) = mI M (a + o) ∧ mL M' (a + o) = mL M (a + o) := fun o fo ho => m.cellL w no (offx fo) (fun z => by have := hS _ z; omega)
  have c5 := (c 105 (by decide) (by omega)).1
  have c6 := (c 106 (by decide) (by omega)).1
  have c7 := (c 107 (by decide) (by omega)).1
  have c8 := (c 108 (by decide) (by omega)).1
  have c85 := (c 21185 (by decide) (by omega)).1
  have c86 := (c 21186 (by decide) (by omega)).2
  have c87 := (c 21187 (by decide) (by omega)).2
  have cm : ∀ i, cmQ M' a i = cmQ M a i := fun i => by
    unfold cmQ
    rw [show nt M' (a + 109) = nt M (a + 109) from funext (fun j => (m.lst k109 (fun z => z)).2.1 j), show nt M' (a + 111) = nt M (a + 111) from funext (fun j => (m.lst k111 (fun z => z)).2.1 j), show nt M' (a + 113) = nt M (a + 113) from funext (fun j => (m.lst k113 (fun z => z)).2.1 j), show nt M' (a + 115) = nt M (a + 115) from funext (fun j => (m.lst k115 (fun z => z)).2.1 j), brR_cg (M := M) (M' := M') (fun _ _ _ => by rw [c85, c86, c87]; exact ⟨rfl, rfl, rfl⟩)]
  refine ⟨by rw [aI]; exact h1, by rw [SmR_cg (M := M) hW (fun j _ => by rw [c5])]; exact h2, ?_, w9, by rw [aI]; exact h4, fun j hj => by rw [c86, c87]; exact h5 j hj, hx⟩
  rw [← h3]
  unfold xtR stR
  refine List.map_congr_left (fun k hk => ?_)
  rw [c6, c7, c8, cmL_cg (M := M) (fun i _ _ => cm i)]
/-- before state k -/
def pX (ev : List Int → Nat → Nat → vrs) (stp : List Int → List (Nat × Nat × Nat × Nat) → (Int × Int) × List Int) (tgI : Nat × Nat) (cms : List cm9) (Ok : List Int → Prop) (X : (Int × Int) × Nat × List (List Int) × xt9) (a W k : Nat) (M2 : mM) : Prop := (mI M2 a 16 = 0 → ∃ (S : List (List Int)) (T9 : xt9), X = exq9 ev stp tgI cms (513 - k) k S T9 ∧ mI M2 a 29 = ((S.length : Nat) : Int) ∧ SmR M2 a W S.length = S ∧ xtR M2 a k = T9 ∧ S.length ≤ 512 ∧ ∃ w9 : Nat, mI M2 a 40 = (w9 : Int) ∧ nbx9 T9 = w9 ∧ Wc M2 a w9 ∧ ∀ s, s ∈ S → Ok s) ∧ (mI M2 a 16 ≠ 0 → X.1 = (mI M2 a 16, mI M2 a 17) ∧ X.2.1 + 1 = k)
theorem enq_ok {Ok : List Int → Prop} {S S' : List (List Int)} {x : List Int} {k : Nat} (h : enq9 S x = some (k, S')) (hx : Ok x) (hS : ∀ s, s ∈ S → Ok s) : ∀ s, s ∈ S' → Ok s := by
  unfold enq9 at h
  split at h
  · have := Option.some.inj h
    have e : S = S' := congrArg Prod.snd this
    rw [← e]
    exact hS
  · split at h
    · exact absurd h (by simp)
    · have := Option.some.inj h
      have e : S ++ [x] = S' := congrArg Prod.snd this
      rw [← e]
      intro s hs
      rcases List.mem_append.mp hs with q | q
      · exact hS s q
      · rw [List.mem_singleton.mp q]; exact hx
theorem flq_ok {Ok : List Int → Prop} {sg : List Int} {pc m : Int} {nb : Nat} (hok1 : ∀ sg l, Ok sg → (stp sg l).1.1 = 0 → Ok (stp sg l).2) (hsg : Ok sg) : ∀ (l : List (br9 × (Int × Int))) (S : List (List Int)) (Bl : List (Nat × Int)), (∀ s, s ∈ S → Ok s) → ∀ s, s ∈ (flq9 stp sg pc m nb l S Bl).2.1 → Ok s
  | [], S, Bl, hS => hS
  | x :: l, S, Bl, hS => by
    by_cases c0 : x.2.1 = 0
    · rw [flq_0 c0]
      exact flq_ok hok1 hsg l S Bl hS
    by_cases c1 : (stp sg x.1.2.2).1.1 = 0
    rotate_left
    · rw [flq_f c0 c1]
      exact hS
    cases c2 : enq9 S (stp sg x.1.2.2).2 with
    | none =>
      rw [flq_n c0 c1 c2]
      exact hS
    | some q =>
      obtain ⟨to, S2⟩ := q
      have hS2 := enq_ok c2 (hok1 sg _ hsg c1) hS
      rw [flq_e c0 c1 c2]
      cases c3 : jnq9 to (m / x.2.2 * x.2.1) Bl with
      | some B' => exact flq_ok hok1 hsg l S2 B' hS2
      | none =>
        show ∀ s, s ∈ (if nb + Bl.length = 4096 then ((5, pc), S2, Bl) else flq9 stp sg pc m nb l S2 (Bl ++ [(to, m / x.2.2 * x.2.1)])).2.1 → Ok s
        by_cases c4 : nb + Bl.length = 4096
        · rw [if_pos c4]
          exact hS2
        · rw [if_neg c4]
          exact flq_ok hok1 hsg l S2 _ hS2
theorem tcq_ok {Ok : List Int → Prop} {sg : List Int} {nb c : Nat} {cm : cm9} {s : sl9} (hok1 : ∀ sg l, Ok sg → (stp sg l).1.1 = 0 → Ok (stp sg l).2) (hsg : Ok sg) (hS : ∀ x, x ∈ s.2.1 → Ok x) : ∀ x, x ∈ (tcq9 ev stp sg nb c cm s).2.1 → Ok x := by
  unfold tcq9
  split
  · exact hS
  split
  · exact hS
  split
  · exact hS
  split
  · exact hS
  split
  · exact hS
  split
  · exact hS
  exact flq_ok hok1 hsg _ _ _ hS
theorem tsq_ok {Ok : List Int → Prop} {sg : List Int} {nb : Nat} (hok1 : ∀ sg l, Ok sg → (stp sg l).1.1 = 0 → Ok (stp sg l).2) (hsg : Ok sg) : ∀ (l : List cm9) (c : Nat) (s : sl9), (∀ x, x ∈ s.2.1 → Ok x) → ∀ x, x ∈ (tsq9 ev stp sg nb l c s).2.1 → Ok x
  | [], c, s, hS => hS
  | cm :: l, c, s, hS => by
    show ∀ x, x ∈ (if s.1.1 ≠ 0 then s else tsq9 ev stp sg nb l (c + 1) (tcq9 ev stp sg nb c cm s)).2.1 → Ok x
    by_cases h : s.1.1 ≠ 0
    · rw [if_pos h]
      exact hS
    · rw [if_neg h]
      exact tsq_ok hok1 hsg l (c + 1) _ (tcq_ok hok1 hsg hS)
theorem ssq_ok {Ok : List Int → Prop} {sg : List Int} {nb : Nat} {tg : Nat × Nat} {S : List (List Int)} (hok1 : ∀ sg l, Ok sg → (stp sg l).1.1 = 0 → Ok (stp sg l).2) (hsg : Ok sg) (hS : ∀ x, x ∈ S → Ok x) : ∀ x, x ∈ (ssq9 ev stp tg cms sg nb S).2.1 → Ok x := by
  unfold ssq9
  split
  · exact hS
  split
  · exact hS
  exact tsq_ok hok1 hsg _ _ _ hS
end EXX
end
section
/-! The reference: the solver's tables are those of what was explored. -/
section TSV
variable {a n L w : Nat} {M : mM} {F B : Nat → Nat} {mu to up dn : Nat → Int}
theorem rgetR {α : Type} (f : Nat → α) (n k : Nat) : ((List.range n).map f)[k]? = if k < n then some (f k) else none := by
  by_cases h : k < n
  · rw [if_pos h, List.getElem?_map, List.getElem?_range h]
    all_goals rfl
  · rw [if_neg h]
    exact List.getElem?_eq_none (by rw [List.length_map, List.length_range]; omega)
theorem wsL_app {x : Nat → Rat} : ∀ l r : List (Nat × Int), wsL9 x (l ++ r) = wsL9 x l + wsL9 x r
  | [], r => by
    show wsL9 x r = 0 + wsL9 x r
    grind
  | b :: l, r => by
    show (b.2 : Rat) * x b.1 + wsL9 x (l ++ r) = (b.2 : Rat) * x b.1 + wsL9 x l + wsL9 x r
    rw [wsL_app l r]
    grind
theorem wsL_map {x : Nat → Rat} {p : Nat → Nat} {q : Nat → Int} : ∀ m, wsL9 x ((List.range m).map (fun t => (p t, q t))) = sr (fun t => (q t : Rat) * x (p t)) m
  | 0 => rfl
  | m + 1 => by
    rw [List.range_succ, List.map_append, wsL_app, wsL_map m]
    show _ + ((q m : Rat) * x (p m) + 0) = sr (fun t => (q t : Rat) * x (p t)) m + (q m : Rat) * x (p m)
    grind
theorem sr_cq {g h : Nat → Rat} {y : Rat} : ∀ n, (∀ t, t < n → g t = h t * y) → sr g n = sr h n * y
  | 0, _ => by
    show (0 : Rat) = 0 * y
    grind
  | n + 1, e => by
    show sr g n + g n = (sr h n + h n) * y
    rw [sr_cq n (fun t ht => e t (by omega)), e n (by omega)]
    grind
theorem inv_q {m c q : Rat} (h : m * c = q) (m0 : m ≠ 0) : c = q * m⁻¹ := by
  have e := Rat.mul_inv_cancel _ m0
  grind
theorem tl_svt (tt : TT M a n L w F B mu to up dn) (tl : TL M (a + 117) F B mu to up dn n L w) (hB : B L = w) (gb : GB M (a + 117)) (hto : ∀ j, j < w → 0 ≤ to j ∧ to j < n) : SvT M (a + 117) (xtR M a n) := by
  have lenT : (xtR M a n).length = n := by unfold xtR; rw [List.length_map, List.length_range]
  obtain ⟨⟨t0, t1, t2⟩, ⟨fn, fk⟩, -, bk, wk⟩ := tt
  obtain ⟨-, ⟨n1, n2, n3⟩, ⟨f1, f2⟩, ⟨b1, b2⟩, m1, w1, -, -, kd⟩ := tl
  have eF : ∀ j, j ≤ n → mI M (a + 117 + 23) j = (F j : Int) := fun j hj => by
    by_cases z : j = n
    · rw [z, f2, fn]
    · exact f1 j (by omega)
  have eB : ∀ j, j ≤ L → mI M (a + 117 + 25) j = (B j : Int) := fun j hj => by
    by_cases z : j = L
    · rw [z, b2, hB]
    · exact b1 j (by omega)
  refine ⟨by rw [n1]; unfold xtR; rw [List.length_map, List.length_range], fun k x hx => ?_⟩
  unfold xtR at hx
  rw [rgetR] at hx
  by_cases hk : k < n
  · rw [if_pos hk] at hx
    have ex := Option.some.inj hx
    subst ex
    obtain ⟨g7, g8, g9, g10⟩ := fk k hk
    have e23 := eF k (by omega)
    have e24 := eF (k + 1) (by omega)
    refine ⟨?_, ?_, fun i c hc => ?_⟩
    · rw [kd k hk, show a + 117 - 11 = a + 106 by first | rfl | omega]
      all_goals rfl
    · unfold mny stR cmL
      rw [List.length_map, List.length_range, e23, e24, g8, Int.toNat_natCast]
      omega
    · have hc' : ((List.range (mI M (a + 108) k).toNat).map (fun t => cmQ M a ((mI M (a + 107) k).toNat + t)))[i]? = some c := hc
      rw [rgetR, g7, g8, Int.toNat_natCast, Int.toNat_natCast] at hc'
      by_cases hi : i < F (k + 1) - F k
      · rw [if_pos hi] at hc'
        have ec := Option.some.inj hc'
        obtain ⟨q1, q2, q3, q4, q5⟩ := bk (F k + i) (by omega)
        have e25 := eB (F k + i) (by omega)
        have e26 := eB (F k + i + 1) (by omega)
        have bl : c.2.2 = (List.range (B (F k + i + 1) - B (F k + i))).map (fun t => ((mI M (a + 21185) (B (F k + i) + t)).toNat, mL M (a + 21186) (B (F k + i) + t) * (nt M (a + 115) (F k + i) / mL M (a + 21187) (B (F k + i) + t)))) := by
          rw [← ec]
          unfold cmQ brR
          rw [q1, q2, Int.toNat_natCast, Int.toNat_natCast]
        rw [e23, Int.toNat_natCast]
        refine ⟨by rw [m1 (F k + i) (by omega), ← q5, ← ec]; rfl, fun J => ?_, fun b hb => ?_, fun f => ?_⟩
        rotate_left
        · rw [bl] at hb
          obtain ⟨t, t3, t4⟩ := List.mem_map.mp hb
          have t5 := List.mem_range.mp t3
          rw [← t4, lenT]
          show (mI M (a + 21185) (B (F k + i) + t)).toNat < n
          have h1 := (wk (B (F k + i) + t) (by omega)).1
          have h2 := hto (B (F k + i) + t) (by omega)
          omega
        · have ecx : cx M (a + 117) k i = F k + i := by
            unfold cx
            rw [e23, Int.toNat_natCast]
          have ebg : bg M (a + 117) (F k + i) = B (F k + i) := by
            unfold bg
            rw [e25, Int.toNat_natCast]
          have enb : nb M (a + 117) (F k + i) = B (F k + i + 1) - B (F k + i) := by
            unfold nb
            rw [e25, e26]
            omega
          have c21 : c.2.1 = nt M (a + 115) (F k + i) := by rw [← ec]; rfl
          have hc2 : ((F k + i : Nat) : Int) < mI M (a + 117) 2 := by rw [n2]; omega
          have gk := (gb (F k + i) hc2).1.1
          have em : mI M (a + 117 + 24) (F k + i) = nt M (a + 115) (F k + i) := by rw [m1 (F k + i) (by omega), ← q5]
          unfold wr9 cw
          rw [bl, wsL_map, c21, ecx, ebg, enb]
          refine sr_cq _ (fun t ht => ?_)
          have w9 := w1 (B (F k + i) + t) (by omega)
          have k9 := wk (B (F k + i) + t) (by omega)
          have ci := gb.chq_int hc2 (b := t) (by rw [enb]; exact ht)
          rw [ebg, em] at ci
          rw [w9.2.1, w9.2.2] at ci
          have m0 : ((nt M (a + 115) (F k + i) : Int) : Rat) ≠ 0 := ic_ne (by rw [← em]; omega)
          show chq M (a + 117) (B (F k + i) + t) * f (mI M (a + 117 + 26) (B (F k + i) + t)).toNat = ((mL M (a + 21186) (B (F k + i) + t) * (nt M (a + 115) (F k + i) / mL M (a + 21187) (B (F k + i) + t)) : Int) : Rat) * f (mI M (a + 21185) (B (F k + i) + t)).toNat * ((nt M (a + 115) (F k + i) : Int) : Rat)⁻¹
          rw [inv_q ci m0, k9.2.1, k9.2.2.1, k9.1, w9.1]
          generalize ((up (B (F k + i) + t) * (nt M (a + 115) (F k + i) / dn (B (F k + i) + t)) : Int) : Rat) = A
          generalize f (to (B (F k + i) + t)).toNat = Y
          generalize ((nt M (a + 115) (F k + i) : Int) : Rat)⁻¹ = Z
          grind
        unfold leadQ ldA9
        rw [e23, Int.toNat_natCast, e25, e26, bl]
        constructor
        · rintro ⟨b, u1, u2, u3⟩
          refine ⟨_, List.mem_map.mpr ⟨b - B (F k + i), List.mem_range.mpr (by omega), rfl⟩, ?_⟩
          show J (mI M (a + 21185) (B (F k + i) + (b - B (F k + i)))).toNat
          rw [show B (F k + i) + (b - B (F k + i)) = b by first | rfl | omega, (wk b (by omega)).1, ← (w1 b (by omega)).1]
          exact u3
        · rintro ⟨y, y1, y2⟩
          obtain ⟨t, t3, t4⟩ := List.mem_map.mp y1
          have t5 := List.mem_range.mp t3
          rw [← t4] at y2
          have y3 : J (mI M (a + 21185) (B (F k + i) + t)).toNat := y2
          refine ⟨B (F k + i) + t, by omega, by omega, ?_⟩
          rw [(w1 _ (by omega)).1, ← (wk _ (by omega)).1]
          exact y3
      · rw [if_neg hi] at hc'
        cases hc'
  · rw [if_neg hk] at hx
    cases hx
end TSV
end
section
/-! The reference: explore, exactly, its loops. -/
section EXY
variable {G : mG} {d a g T R W C Z : Nat} {M M' M1 M2 M3 : mM} {E : Eg9} {tg : Int} {Nt9 : tP9} {ww pl lo hi : Nat → Int} {XV : List Int → Int → vrs} {ev : List Int → Nat → Nat → vrs} {cvS : List Int → Nat → vrs} {stp : List Int → List (Nat × Nat × Nat × Nat) → (Int × Int) × List Int} {tgI : Nat × Nat} {cms : List cm9}
theorem x_ex199 {xX : Int → mM → Prop} {n L w : Nat} {B F : Nat → Nat} {mu to up dn : Nat → Int} (hxX : ∀ M', FI (vF (a + 117)) M1 M' → mOk M' → Wd M' a → SvT M' (a + 117) (xtR M' a n) → mI M' (a + 117 + 30) 0 = 0 → xX (mI M1 a 16) M') (hb : bE Nt9 M a g T R W C Z E tg M1) (h29 : mI M1 a 29 = (n : Int)) (hn1 : 1 ≤ n) (xd : XD M1 a g n W L w L B) (hw : B L = w) (hF : F 0 = 0 ∧ F n = L ∧ ∀ k, k < n → F k ≤ F (k + 1) ∧ mI M1 (a + 107) k = (F k : Int) ∧ mI M1 (a + 108) k = ((F (k + 1) - F k : Nat) : Int)) (e1 : mu = nt M1 (a + 115)) (e2 : to = mI M1 (a + 21185)) (e3 : up = mL M1 (a + 21186)) (e4 : dn = mL M1 (a + 21187)) : ∀ (t k : Nat) (M2 : mM), k + t = n → tI M1 a n L w F B mu to up dn k (F k) (B (F k)) M2 → h_MM_explore_199 G (d + 1) a k M2 (fun r M' => i32 r ∧ RI0 Nt9 M' a ∧ FR M a M' ∧ xX r M') := by
  have hn5 := xd.1.2.2
  have w1 := hb.2.1.2.1
  have hg := hb.2.1.2.2.1.2
  have no : ∀ q : Nat, False → q ∈ nums a := fun _ z => z.elim
  have fl : ∀ {Mx : mM}, mOk Mx → FI (vF (a + 117)) M1 Mx → mI Mx a = mI M1 a := fun o f => f.2.2.2.2.2.2 a (fun z => by
    have z' : a + 117 ≤ a ∧ a ≤ a + 117 + 21067 := z
    omega)
  intro t
  induction t with
  | zero =>
    intro k M2 hk h
    have ek : k = n := by omega
    subst ek
    obtain ⟨o2, w2, f2, tt, tl⟩ := h
    have a2 := fl o2 f2
    rw [hF.2.1, hw] at tl
    obtain ⟨sv, my⟩ := exp_sv xd hw hF e1 e2 e3 e4 tl
    have svt := tl_svt tt tl hw sv.2.2.1 (fun j hj => by rw [e2]; exact (xd.2.2.2.1 j hj).1)
    refine k_MM_explore_199 o2 (i32s (by omega) (by omega)) ⟨w2.1.1, ?_⟩
    rw [a2, h29]
    refine ⟨fun _ => ⟨(hb.2.1.1 _ _).1, ?_, hb.1.trans (FR.fi f2 (fun x z => by
      have z' : a + 117 ≤ x ∧ x ≤ a + 117 + 21067 := z
      omega)), hxX M2 f2 o2 w2 svt (tl.1.2.2.2.2 0 (by decide))⟩, fun q => absurd (Int.le_refl _) q⟩
    have m2 := mv_sol o2 w1 f2
    have nv : ∀ x, vF (a + 117) x → ¬ (x = g ∨ (g + 13 ≤ x ∧ x ≤ g + 29)) := fun x z => by
      have z' : a + 117 ≤ x ∧ x ≤ a + 117 + 21067 := z
      omega
    have gd := gd_mv (hb.2.1.gd hb.2.2.2.2.1.2) w1 hg m2 no (fun _ z => z.elim) nv
    have R2 := m2.rfl_a w1 no
    have tp := w1.tape
    have l9 : ln M2 (a + 109) = (L : Int) := by rw [(m2.lst k109 (fun z => z)).1]; exact xd.2.2.2.2.1.1
    refine ⟨o2, w2, ⟨by rw [R2]; exact hb.2.2.1.1.sm (m2.lst tp.1 (fun z => z)), by rw [R2, (m2.lst tp.2.1 (fun z => z)).1]; exact hb.2.2.1.2⟩, ?_⟩
    rw [R2, hb.2.1.2.2.1.1]
    unfold RX
    rw [a2, h29, Int.toNat_natCast]
    refine ⟨by omega, sv, fun _ => gd, fun _ => ⟨hb.2.2.2.2.1.1, fun k' hk' => ?_, by rw [l9]; exact tt.2.2.1.1, by rw [l9]; exact tt.2.2.1.2.1, fun i hi => ?_⟩, hb.2.2.2.1⟩
    · rw [a2, h29] at hk'
      obtain ⟨t7, t8, t9, t10⟩ := tt.2.1.2 k' (by omega)
      rw [t7, t8, l9, my k' (by omega)]
      exact ⟨by omega, by omega, by omega, rfl⟩
    · rw [l9] at hi
      obtain ⟨i1, i2, i3, i4, -⟩ := tt.2.2.2.1 i (by omega)
      have := tt.1.2.2
      rw [i1, i2]
      exact ⟨by omega, by omega, by omega⟩
  | succ t ih =>
    intro k M2 hk h
    have o2 := h.1
    have w2 := h.2.1
    have a2 := fl o2 h.2.2.1
    refine k_MM_explore_199 o2 (i32s (by omega) (by omega)) ⟨w2.1.1, ?_⟩
    rw [a2, h29, show (k : Int) + 1 = ((k + 1 : Nat) : Int) by first | rfl | omega]
    refine ⟨fun q => absurd q (by omega), fun _ => (s_MM_tellState (d := d) h (by omega) (fun i hi => ?_)).mono (fun M3 t3 => ⟨t3.1, ih (k + 1) M3 (by omega) t3.2⟩)⟩
    rw [e1]
    have := (xd.2.2.2.2.2.2 i hi).2.2.1
    exact ⟨by omega, by omega⟩
theorem x_ex115 {xX : Int → mM → Prop} {X : (Int × Int) × Nat × List (List Int) × xt9} {Ok : List Int → Prop} (hev : ∀ sg i j, ev sg i j = vlq ww (cvS sg) pl 0 0 i j) (hstp : ∀ sg l, stp sg l = ((stq9 ww (cvS sg) pl lo hi l (fun v => sg.getD v 0)).1, (List.range W).map (stq9 ww (cvS sg) pl lo hi l (fun v => sg.getD v 0)).2)) (hok1 : ∀ sg l, Ok sg → (stp sg l).1.1 = 0 → Ok (stp sg l).2) (hok2 : ∀ sg, Ok sg → GOk ev cms sg) (hp : GP ww pl XV ev M1 g R W C T E tgI cms lo hi) (hkd : kdT X.2.2.2) (hxX : ∀ r M', xpR X a g W r M' → mI M' a 0 = mI M1 a 0 → xX r M') (hb : bE Nt9 M a g T R W C Z E tg M1) : ∀ (t k : Nat) (M2 : mM), 512 ≤ k + t → pI M1 a g T R W C Z E tg k M2 → k ≤ 512 → pX ev stp tgI cms Ok X a W k M2 → h_MM_explore_115 G (d + 9) a k M2 (fun r M' => i32 r ∧ RI0 Nt9 M' a ∧ FR M a M' ∧ xX r M') := by
  -- the loop has ended
  have fin : ∀ (k : Nat) (M2 : mM), k ≤ 512 → pI M1 a g T R W C Z E tg k M2 → pX ev stp tgI cms Ok X a W k M2 → ((mI M2 a 29 ≤ k) ∨ ¬ (mI M2 a 16 = 0)) → ∀ v56 : Int, v56 = (if mI M2 a 16 = 0 then (-1) else (k : Int) - 1) → i32 v56 ∧ ∀ M60, M60 = mUI M2 a 30 v56 → ∀ v63 : Int, v63 = (if mI M60 a 16 = 0 then (-1) else mI M60 a 17) → i32 v63 ∧ ∀ M67, M67 = mUI M60 a 12 v63 → ∀ v70 : Int, v70 = (if mI M67 a 16 = 0 then mI M67 a 29 else 0) → i32 v70 ∧ ∀ M74, M74 = mUI M67 a 29 v70 → h_MM_explore_199 G (d + 9) a 0 M74 (fun r M' => i32 r ∧ RI0 Nt9 M' a ∧ FR M a M' ∧ xX r M') := by
    intro k M2 hk h px hend v56 e56
    obtain ⟨x1, gg, hh⟩ := h
    have w2 := gg.2.1
    have i56 : i32 v56 := by rw [e56]; split <;> exact i32s (by omega) (by omega)
    refine ⟨i56, fun M60 e60 v63 e63 => ?_⟩
    obtain ⟨m60, f60⟩ := mv_fld i56 gg.1 w2 e60
    have i63 : i32 v63 := by
      rw [e63]
      split
      · exact ⟨by decide, by decide⟩
      · exact (m60.1 _ _).1
    refine ⟨i63, fun M67 e67 v70 e70 => ?_⟩
    obtain ⟨m67, f67⟩ := mv_fld i63 m60.1 m60.2.1 e67
    have i70 : i32 v70 := by
      rw [e70]
      split
      · exact (m67.1 _ _).1
      · exact ⟨by decide, by decide⟩
    refine ⟨i70, fun M74 e74 => ?_⟩
    obtain ⟨m74, f74⟩ := mv_fld i70 m67.1 m67.2.1 e74
    have mm := (m60.trans m67).trans m74
    have no : ∀ q : Nat, False → q ∈ nums a := fun _ z => z.elim
    have F74 : ∀ i, i ≠ 29 → i ≠ 12 → i ≠ 30 → mI M74 a i = mI M2 a i := fun i i1 i2 i3 => by rw [f74, if_neg i1, f67, if_neg i2, f60, if_neg i3]
    have b2 := hb.st x1.1 (fun q hq => hq) (fun x hx => hx) (fun i _ _ i16 i17 i23 i29 _ i40 => x1.2 i i16 i17 i23 i29 i40)
    have b74 := b2.st mm (fun _ z => z.elim) (fun x z => Or.inl z) (fun i _ i12 _ _ _ i29 i30 _ => F74 i i29 i12 i30)
    have w74 := b74.2.1.2.1
    have z0 : mI M74 a 0 = mI M1 a 0 := by rw [F74 0 (by decide) (by decide) (by decide)]; exact x1.2 0 (by decide) (by decide) (by decide) (by decide) (by decide)
    have z67 : mI M67 a 16 = mI M2 a 16 := by rw [f67, if_neg (by decide), f60, if_neg (by decide)]
    by_cases z : mI M2 a 16 = 0
    · have e29 : mI M74 a 29 = mI M2 a 29 := by rw [f74, if_pos rfl, e70, if_pos (by rw [z67]; exact z), f67, if_neg (by decide), f60, if_neg (by decide)]
      obtain ⟨n, L, w, B, F, y1, y2, y3, y4⟩ := hh z
      have h29 : mI M2 a 29 = (n : Int) := y1.1.1
      have kn : k = n := by
        rcases hend with q | q
        · omega
        · exact absurd z q
      subst kn
      have hg := gg.2.2.1.2
      have gs := gs_st w2 hg mm no (fun _ z => z.elim) (fun x z => by omega)
      have xd := y1.mv w2 mm no (fun _ z => z.elim) (fun x z => by omega) gs e29 (F74 40 (by decide) (by decide) (by decide))
      have c7 := (mm.cellL w2 no (offx (a := a) (o := 107) (by decide)) (by omega)).1
      have c8 := (mm.cellL w2 no (offx (a := a) (o := 108) (by decide)) (by omega)).1
      have hF : F 0 = 0 ∧ F k = L ∧ ∀ k', k' < k → F k' ≤ F (k' + 1) ∧ mI M74 (a + 107) k' = (F k' : Int) ∧ mI M74 (a + 108) k' = ((F (k' + 1) - F k' : Nat) : Int) := by rw [c7, c8]; exact y4
      have tz : TL M74 (a + 117) F B (nt M74 (a + 115)) (mI M74 (a + 21185)) (mL M74 (a + 21186)) (mL M74 (a + 21187)) 0 0 0 := tl_zero b74.2.2.2.2.2.1 b74.2.2.2.2.2.2.1 b74.2.2.2.2.2.2.2.1 b74.2.2.2.2.2.2.2.2 (by omega)
      have hW12 := gg.2.2.2.2.2.2.2.1.1.2.1
      have c5 := (mm.cellL w2 no (offx (a := a) (o := 105) (by decide)) (by omega)).1
      have c6 := (mm.cellL w2 no (offx (a := a) (o := 106) (by decide)) (by omega)).1
      have c85 := (mm.cellL w2 no (offx (a := a) (o := 21185) (by decide)) (by omega)).1
      have c86 := (mm.cellL w2 no (offx (a := a) (o := 21186) (by decide)) (by omega)).2
      have c87 := (mm.cellL w2 no (offx (a := a) (o := 21187) (by decide)) (by omega)).2
      obtain ⟨S, T9, x1', x2, x3, x4, x5, w9, x6, x7, x8, x9⟩ := px.1 z
      have lS : S.length = k := by omega
      have eX : X = ((0, 0), k, S, T9) := by
        rw [x1', show 513 - k = (512 - k) + 1 by first | rfl | omega]
        exact exq_n (List.getElem?_eq_none (by omega))
      have ew : w9 = w := by
        have := y1.2.1.1
        omega
      have z16 : mI M74 a 16 = 0 := by rw [F74 16 (by decide) (by decide) (by decide)]; exact z
      have hxx : ∀ M', FI (vF (a + 117)) M74 M' → mOk M' → Wd M' a → SvT M' (a + 117) (xtR M' a k) → mI M' (a + 117 + 30) 0 = 0 → xX (mI M74 a 16) M' := fun M' f' o' w' svt hs0 => by
        have sT : XTr M' a g W X.2.2.1 X.2.2.2 → SvT M' (a + 117) X.2.2.2 := fun xt => by
          have e := xt.2.2.1
          rw [← e, eX]
          show SvT M' (a + 117) (xtR M' a S.length)
          rw [lS]
          exact svt
        refine hxX _ _ (Or.inr ⟨by rw [eX], z16, ?_, ?_, (fun xt => ⟨xt, sT xt, hkd, hs0⟩) ?_⟩) (by rw [f'.2.2.2.2.2.2 a (fun z => by have z' : a + 117 ≤ a ∧ a ≤ a + 117 + 21067 := z; omega)]; exact z0)
        · rw [f'.2.2.2.2.2.2 a (fun z => by have z' : a + 117 ≤ a ∧ a ≤ a + 117 + 21067 := z; omega), f74, if_neg (by decide), f67, if_pos rfl, e63, if_pos (by rw [f60, if_neg (by decide)]; exact z)]
        · rw [f'.2.2.2.2.2.2 a (fun z => by have z' : a + 117 ≤ a ∧ a ≤ a + 117 + 21067 := z; omega), f74, if_neg (by decide), f67, if_neg (by decide), f60, if_pos rfl, e56, if_pos z]
        · have mv' := mv_sol o' w74 f'
          have nv : ∀ x, vF (a + 117) x → a + 117 ≤ x ∧ x ≤ a + 117 + 21067 := fun x z => z
          have gs' := gs_st w74 hg mv' no (fun _ z => z.elim) (fun x z => by have := nv x z; omega)
          have aI' := (mv'.fld w74 no (fun z => by have := nv _ z; omega)).1
          have xd' := xd.mv w74 mv' no (fun _ z => z.elim) (fun x z => by have := nv x z; omega) gs' (by rw [aI']) (by rw [aI'])
          rw [eX]
          refine XTr.sol (M := M74) ?_ w74 mv' nv hW12 aI' ⟨L, w, B, by rw [lS]; exact xd', y2⟩
          refine ⟨by rw [e29]; exact x2, by rw [SmR_cg (M := M2) hW12 (fun j _ => by rw [c5])]; exact x3, ?_, w9, by rw [F74 40 (by decide) (by decide) (by decide)]; exact x6, fun j hj => by rw [c86, c87]; exact x8 j hj, ⟨L, w, B, by rw [lS]; exact xd, y2⟩⟩
          rw [lS, ← x4]
          refine xtR_cg (L := L) (fun k' _ => by rw [c6]) (fun k' _ => by rw [c7, c8]; exact ⟨rfl, rfl⟩) (fun k' hk' => ?_) (fun i hi => ?_)
          · have mF : ∀ j, k' + 1 + j ≤ k → F (k' + 1) ≤ F (k' + 1 + j) := fun j => by
              induction j with
              | zero => intro _; exact Nat.le_refl _
              | succ j ih =>
                intro hj
                have a1 := ih (by omega)
                have a2 := (y4.2.2 (k' + 1 + j) (by omega)).1
                have e : k' + 1 + (j + 1) = k' + 1 + j + 1 := by omega
                rw [e]
                omega
            have m1 := mF (k - (k' + 1)) (by omega)
            rw [show k' + 1 + (k - (k' + 1)) = k by first | rfl | omega, y4.2.1] at m1
            obtain ⟨q1, q2, q3⟩ := y4.2.2 k' hk'
            rw [q2, q3]
            omega
          · unfold cmQ
            rw [show nt M74 (a + 109) = nt M2 (a + 109) from funext (fun j => (mm.lst k109 (fun z => z)).2.1 j), show nt M74 (a + 111) = nt M2 (a + 111) from funext (fun j => (mm.lst k111 (fun z => z)).2.1 j), show nt M74 (a + 113) = nt M2 (a + 113) from funext (fun j => (mm.lst k113 (fun z => z)).2.1 j), show nt M74 (a + 115) = nt M2 (a + 115) from funext (fun j => (mm.lst k115 (fun z => z)).2.1 j), brR_cg (M := M2) (M' := M74) (fun _ _ _ => by rw [c85, c86, c87]; exact ⟨rfl, rfl, rfl⟩)]
      refine x_ex199 hxx b74 (by rw [e29]; exact h29) y1.1.2.1 xd y2 hF rfl rfl rfl rfl k 0 M74 (by omega) ⟨b74.2.1.1, w74, FI.refl, xd.tt y2 hF, ?_⟩
      rw [y4.1, y1.2.2.2.2.2.1.1]
      exact tz
    · have e29 : mI M74 a 29 = 0 := by rw [f74, if_pos rfl, e70, if_neg (by rw [z67]; exact z)]
      have key := b74.ri0 e29
      refine k_MM_explore_199 b74.2.1.1 ⟨by decide, by decide⟩ ⟨w74.1.1, fun _ => ⟨(b74.2.1.1 _ _).1, key.1, key.2, hxX _ _ (Or.inl ?_) z0⟩, fun q => absurd (by rw [e29]; exact Int.le_refl _) q⟩
      obtain ⟨x1', x2⟩ := px.2 z
      have z60 : ¬ mI M60 a 16 = 0 := by rw [f60, if_neg (by decide)]; exact z
      rw [x1']
      refine ⟨z, by rw [F74 16 (by decide) (by decide) (by decide)], ?_, ?_, e29, b74.2.2.2.2.2.2.2.2 0 (by decide)⟩
      · rw [f74, if_neg (by decide), f67, if_pos rfl, e63, if_neg z60, f60, if_neg (by decide)]
      · rw [f74, if_neg (by decide), f67, if_neg (by decide), f60, if_pos rfl, e56, if_neg z]
        omega
  intro t
  induction t with
  | zero =>
    intro k M2 hk h hk5 px
    have w2 := h.2.1.2.1
    refine k_MM_explore_115 h.2.1.1 (i32s (by omega) (by omega)) ⟨w2.1.1, fun q => fin k M2 hk5 h px q, fun q => ?_⟩
    have z : mI M2 a 16 = 0 := Classical.byContradiction (fun y => q (Or.inr y))
    have q1 : ¬ (mI M2 a 29 ≤ k) := fun y => q (Or.inl y)
    obtain ⟨n, L, w, B, F, y1, y2, y3, y4⟩ := h.2.2 z
    have := y1.1
    omega
  | succ t ih =>
    intro k M2 hk h hk5 px
    have w2 := h.2.1.2.1
    refine k_MM_explore_115 h.2.1.1 (i32s (by omega) (by omega)) ⟨w2.1.1, fun q => fin k M2 hk5 h px q, fun q => ?_⟩
    have z : mI M2 a 16 = 0 := Classical.byContradiction (fun y => q (Or.inr y))
    have q1 : ¬ (mI M2 a 29 ≤ k) := fun y => q (Or.inl y)
    obtain ⟨n, L, w, B, F, y1, y2, y3, y4⟩ := h.2.2 z
    have hn := y1.1
    have kn : k < n := by omega
    obtain ⟨S, T9, x1', x2, x3, x4, x5, w9, x6, x7, x8, x9⟩ := px.1 z
    have hR := h.2.1.2.2.2.2.2.2.2.1.1.1
    have gs12 : Gs M1 M2 g := h.1.gs hb.2.1.2.1 hb.2.1.2.2.1.2
    have lS : S.length = n := by omega
    have ew : w9 = w := by
      have := y1.2.1.1
      omega
    subst ew
    have gk : S[k]? = some (lsR M2 a W k) := by
      rw [← x3, lS]
      exact SmR_get kn
    have okk : Ok (lsR M2 a W k) := x9 _ (List.mem_of_getElem? gk)
    have eL : (∀ k', k' < k → (mI M2 (a + 107) k').toNat + (mI M2 (a + 108) k').toNat ≤ L) := fun k' hk' => by
      have mF : ∀ j, k' + 1 + j ≤ k → F (k' + 1) ≤ F (k' + 1 + j) := fun j => by
        induction j with
        | zero => intro _; exact Nat.le_refl _
        | succ j ih =>
          intro hj
          have a1 := ih (by omega)
          have a2 := (y4.2.2 (k' + 1 + j) (by omega)).1
          have e : k' + 1 + (j + 1) = k' + 1 + j + 1 := by omega
          rw [e]
          omega
      have m1 := mF (k - (k' + 1)) (by omega)
      rw [show k' + 1 + (k - (k' + 1)) = k by first | rfl | omega, y4.2.1] at m1
      obtain ⟨q1, q2, q3⟩ := y4.2.2 k' hk'
      rw [q2, q3]
      omega
    refine (x_MM_state0 (d := d) (S9 := S) (T9 := T9) hev hstp (hp.gs gs12 hR) rfl (hok2 _ okk) x2 x3 x4 eL x7 x8 h.2.1 y1 y2 z kn).mono (fun M3 t3 => ⟨t3.1, ?_⟩)
    rw [show (k : Int) + 1 = ((k + 1 : Nat) : Int) by first | rfl | omega]
    have fu : 513 - k = (512 - k) + 1 := by omega
    rw [fu] at x1'
    refine ih (k + 1) M3 (by omega) (pI.next h.1 t3.2.1 y1 y2 kn y4) (by omega) ⟨fun z3 => ?_, fun z3 => ?_⟩
    · rcases t3.2.2 with ⟨q, -⟩ | ⟨-, gq, -, -⟩
      · exact absurd z3 q
      have g1 := gq.1
      have okS := ssq_ok (tg := tgI) (cms := cms) (nb := nbx9 T9) (ev := ev) hok1 okk x9
      obtain ⟨i1, i2, i3, i4, i5, i6, L2, w2, i7, i8, i9, i10, i11, i12, i13⟩ := gq
      refine ⟨_, T9 ++ [((ssq9 ev stp tgI cms (lsR M2 a W k) (nbx9 T9) S).2.2.1, (ssq9 ev stp tgI cms (lsR M2 a W k) (nbx9 T9) S).2.2.2)], ?_, i2, i3, ?_, ?_, w2, i10, ?_, i13, okS⟩
      · rw [x1', exq_s gk (by rw [g1]), show 513 - (k + 1) = 512 - k by first | rfl | omega]
      · rw [xtR_s, i4]
        unfold stR
        rw [i5, i7, i8.2, Int.toNat_natCast, Int.toNat_natCast, i11]
      · have := t3.2.1.2.2.2 z3
        obtain ⟨-, n2, L3, w3, B3, hn2, -, -, -, -, hx2⟩ := this
        have := hx2.1
        omega
      · rw [nbx_app]
        show nbx9 T9 + (nbq9 _ + 0) = w2
        omega
    · rcases t3.2.2 with ⟨q, e⟩ | ⟨q, -⟩
      · rw [x1', exq_f gk (by rw [e]; exact q), e]
        exact ⟨rfl, rfl⟩
      · exact absurd q z3
theorem x_ex81 {xX : Int → mM → Prop} {X : (Int × Int) × Nat × List (List Int) × xt9} {Ok : List Int → Prop} {s0 : List Int} (hev : ∀ sg i j, ev sg i j = vlq ww (cvS sg) pl 0 0 i j) (hstp : ∀ sg l, stp sg l = ((stq9 ww (cvS sg) pl lo hi l (fun v => sg.getD v 0)).1, (List.range W).map (stq9 ww (cvS sg) pl lo hi l (fun v => sg.getD v 0)).2)) (hok1 : ∀ sg l, Ok sg → (stp sg l).1.1 = 0 → Ok (stp sg l).2) (hok2 : ∀ sg, Ok sg → GOk ev cms sg) (hp : GP ww pl XV ev M1 g R W C T E tgI cms lo hi) (hkd : kdT X.2.2.2) (hxX : ∀ r M', xpR X a g W r M' → mI M' a 0 = mI M1 a 0 → xX r M') (hX : X = xpl9 ev stp tgI cms s0) (hs0 : s0 = (List.range W).map (fun v => mI M1 (g + 21) v)) (hok0 : Ok s0) (hb : bE Nt9 M a g T R W C Z E tg M1) (z16 : mI M1 a 16 = 0) (h29 : mI M1 a 29 = 1) (h40 : mI M1 a 40 = 0) (hl : ln M1 (a + 109) = 0 ∧ ln M1 (a + 111) = 0 ∧ ln M1 (a + 113) = 0 ∧ ln M1 (a + 115) = 0) : ∀ (t v : Nat) (M2 : mM), v + t = W → Mv (fun _ => False) (fun x => x = a + 105) M1 a M2 → (∀ v', v' < v → mI M2 (a + 105) v' = mI M1 (g + 21) v') → h_MM_explore_81 G (d + 9) a v M2 (fun r M' => i32 r ∧ RI0 Nt9 M' a ∧ FR M a M' ∧ xX r M') := by
  have gg1 := hb.2.1
  have w1 := gg1.2.1
  have hg := gg1.2.2.1.2
  have hD := gg1.2.2.2.2.2.2.2.1
  have hBd := hD.1
  have no : ∀ q : Nat, False → q ∈ nums a := fun _ z => z.elim
  intro t
  induction t with
  | zero =>
    intro v M2 hv m hn
    have ev : v = W := by omega
    subst ev
    have w2 := m.2.1
    have aI := (m.fld w1 no (by omega)).1
    have b2 := hb.st m (fun _ z => z.elim) (fun x z => Or.inr (Or.inl (by omega))) (fun i _ _ _ _ _ _ _ _ => by rw [aI])
    have gg2 := b2.2.1
    have gs := gs_st w1 hg m no (fun _ z => z.elim) (fun x z => by omega)
    refine k_MM_explore_81 gg2.1 (i32s (by omega) (by omega)) ⟨w2.1.1, ?_⟩
    rw [gg2.2.2.1.1, gg2.2.2.2.2.2.1.2.1]
    refine ⟨(w2.gp hg).1, fun _ => ?_, fun q => absurd (Int.le_refl _) q⟩
    have l : ∀ {q}, q ∈ nums a → ln M1 q = 0 → ln M2 q = ((0 : Nat) : Int) := fun hq hz => by rw [(m.lst hq (fun z => z)).1, hz]; rfl
    have xd : XD M2 a g 1 v 0 0 0 (fun _ => 0) := ⟨⟨by rw [aI, h29]; rfl, by omega, by omega⟩, ⟨by rw [aI, h40]; rfl, by omega⟩, fun k u hk hu => ?_, fun j hj => absurd hj (by omega), ⟨l k109 hl.1, l k111 hl.2.1, l k113 hl.2.2.1, l k115 hl.2.2.2⟩, ⟨rfl, Nat.le_refl _, Nat.le_refl _⟩, fun i hi => absurd hi (by omega)⟩
    · refine x_ex115 hev hstp hok1 hok2 (hp.gs gs hBd.1) hkd (fun r M' u v => hxX r M' u (v.trans (by rw [aI]))) b2 512 0 M2 (by omega) ⟨xF.refl gg2.1 w2, gg2, fun _ => ⟨1, 0, 0, fun _ => 0, fun _ => 0, xd, rfl, by omega, rfl, rfl, fun k' hk' => absurd hk' (by omega)⟩⟩ (by omega) ⟨fun _ => ⟨[s0], [], hX, by rw [aI, h29]; rfl, ?_, rfl, by show (1 : Nat) ≤ 512; omega, 0, by rw [aI, h40]; rfl, rfl, fun j hj => absurd hj (by omega), fun s hs => by rw [List.mem_singleton.mp hs]; exact hok0⟩, fun z => absurd (by rw [aI]; exact z16) z⟩
      show SmR M2 a v 1 = [s0]
      rw [SmR_s]
      show [] ++ [lsR M2 a v 0] = [s0]
      rw [hs0, List.nil_append]
      unfold lsR
      exact congrArg (fun x => [x]) (List.map_congr_left (fun u hu => by rw [show 12 * 0 + u = u by first | rfl | omega]; exact hn u (List.mem_range.mp hu)))
    · have k0 : k = 0 := by omega
      subst k0
      obtain ⟨v1, v2, v3, -⟩ := hD.2.2.2.1 u hu
      rw [(gs.2.1 19 (by omega) (by omega)).1, (gs.2.1 20 (by omega) (by omega)).1, show 12 * 0 + u = u by first | rfl | omega, hn u hu]
      exact ⟨v2, v3⟩
  | succ t ih =>
    intro v M2 hv m hn
    have w2 := m.2.1
    have aI := (m.fld w1 no (by omega)).1
    have b2 := hb.st m (fun _ z => z.elim) (fun x z => Or.inr (Or.inl (by omega))) (fun i _ _ _ _ _ _ _ _ => by rw [aI])
    have gg2 := b2.2.1
    have gs := gs_st w1 hg m no (fun _ z => z.elim) (fun x z => by omega)
    have A5 : mK M2 (a + 105) = 30 ∧ mN M2 (a + 105) = 6144 := w2.1.2.2.2.2.2.2.2.2.1.1
    have b12 : ((0 : Int) ≤ (v : Int) ∧ (v : Int) < ((12 : Nat) : Int)) := by omega
    refine k_MM_explore_81 gg2.1 (i32s (by omega) (by omega)) ⟨w2.1.1, ?_⟩
    rw [gg2.2.2.1.1, gg2.2.2.2.2.2.1.2.1, show mR M2 a 31 = a + 105 from w2.1.2.2.2.2.2.1.1, show mR M2 g 16 = g + 21 from (w2.gp hg).2.2.1.2.2.2.1, Int.toNat_natCast, (gs.2.1 21 (by omega) (by omega)).1]
    refine ⟨(w2.gp hg).1, fun q => absurd q (by omega), fun _ => ⟨(w2.gp hg).2.2.2.2.1.2.2.2.1, by rw [(w2.gp hg).2.2.2.2.1.2.2.2.2]; exact b12, A5.1, by rw [A5.2]; omega, fun M3 e3 => ?_⟩⟩
    obtain ⟨m3, f3, l3⟩ := mv_cell (gg1.1 _ _).1 gg2.1 w2 (show a ≤ a + 105 by omega) (offx (a := a) (o := 105) (by decide)) e3
    rw [show (v : Int) + 1 = ((v + 1 : Nat) : Int) by first | rfl | omega]
    refine ih (v + 1) M3 (by omega) (m.trans m3) (fun v' hv' => ?_)
    rw [f3]
    by_cases y : v' = v
    · rw [if_pos ⟨rfl, y⟩, y]
    · rw [if_neg (fun z => y z.2)]
      exact hn v' (by omega)
theorem x_MM_explore {X : (Int × Int) × Nat × List (List Int) × xt9} {Ok : List Int → Prop} {s0 : List Int} (hev : ∀ sg i j, ev sg i j = vlq ww (cvS sg) pl 0 0 i j) (hstp : ∀ sg l, stp sg l = ((stq9 ww (cvS sg) pl lo hi l (fun v => sg.getD v 0)).1, (List.range W).map (stq9 ww (cvS sg) pl lo hi l (fun v => sg.getD v 0)).2)) (hok1 : ∀ sg l, Ok sg → (stp sg l).1.1 = 0 → Ok (stp sg l).2) (hok2 : ∀ sg, Ok sg → GOk ev cms sg) (hX : X = xpl9 ev stp tgI cms s0) (hok0 : Ok s0) (hG : mI M a 11 ≠ 0 → GdX ww pl XV ev Nt9.2.2 M (mR M a 9) W tgI cms lo hi s0) (h : RI0 Nt9 M a) : Ci G y_MM_explore (d + 10) [vr a] M (fun r M' => i32 r ∧ RI0 Nt9 M' a ∧ FR M a M' ∧ ((mI M a 11 = 0 ∧ r = 0 ∧ xU M M' a ∧ mI M' a 0 = 1) ∨ (mI M a 11 ≠ 0 ∧ xpR X a (mR M a 9) W r M' ∧ mI M' a 0 = 0))) := by
  have wd := h.2.1
  refine k_MM_explore h.1 ⟨wd.1.1, fun v3 e3 M8 e8 => ?_⟩
  have i3 : i32 v3 := by rw [e3]; split <;> exact ⟨by decide, by decide⟩
  obtain ⟨r8, F8, f8⟩ := h.step i3 ⟨by decide, by decide, by decide⟩ e8
  obtain ⟨o8, w8, t8, x8⟩ := id r8
  refine ⟨fun q M12 e12 M14 e14 => ?_, fun q => ⟨⟨by decide, by decide⟩, r8, F8.1, Or.inl ?_⟩⟩
  rotate_left
  · have z : mI M8 a 0 = v3 := by rw [f8, if_pos rfl]
    rw [z] at q
    by_cases y : mI M a 11 = 0
    · exact ⟨y, rfl, xU.one e8, by rw [z, e3, if_pos y]⟩
    · rw [if_neg y] at e3
      omega
  have kn : mI M8 a 11 ≠ 0 := fun z => by
    rw [f8, if_pos rfl] at q
    rw [f8, if_neg (by decide)] at z
    rw [if_pos z] at e3
    omega
  have hg := w8.g9
  have kn0 : mI M a 11 ≠ 0 := fun z => kn (by rw [f8, if_neg (by decide)]; exact z)
  have gs8 : Gs M M8 (mR M a 9) := by
    have m8 := (mv_fld i3 h.1 wd e8).1
    exact gs_st wd wd.g9 m8 (fun _ z => z.elim) (fun _ z => z.elim) (fun x z => by have := wd.g9; omega)
  have r98 : mR M8 a 9 = mR M a 9 := by rw [e8]; rfl
  obtain ⟨T, R, C, Z, E, tg, g1, g2, g3, g4, g5, g6, g7, gp0, gi0⟩ := (hG kn0).gs gs8
  rw [← r98] at g1 g3 g4 g5 g7 gp0 gi0
  generalize hgm : mR M8 a 9 = g at *
  have gg8 : GG M8 a g T R W C Z E tg := ⟨o8, w8, ⟨hgm, hg⟩, g1, g2, g3, g4, g5, g6⟩
  have no : ∀ q : Nat, False → q ∈ nums a := fun _ z => z.elim
  obtain ⟨m12, f12⟩ := mv_fld (v := 1) ⟨by decide, by decide⟩ o8 w8 e12
  obtain ⟨m14, f14⟩ := mv_fld (v := 0) ⟨by decide, by decide⟩ m12.1 m12.2.1 e14
  have up0 : ∀ {Mx My : mM}, Wd Mx a → Mv (fun _ => False) (fun x => x = a) Mx a My → Mv (xP a) (fun x => x = a) Mx a My := fun wx m => m.mono (fun _ z => z.elim) (fun x z => z) (fun q hq => wx.lt (xP_in hq))
  have m814 := (up0 w8 m12).trans (up0 m12.2.1 m14)
  -- the lists are emptied
  have emp : ∀ {p : Nat} {Mx My : mM}, p ∈ nums a → xP a p → Mv (xP a) (fun x => x = a) M8 a Mx → My = mUI Mx p 1 0 → Mv (xP a) (fun x => x = a) M8 a My ∧ mI My a = mI Mx a ∧ ln My p = 0 ∧ ∀ q, q ∈ nums a → q ≠ p → ln My q = ln Mx q := fun {p Mx My} hp hx mx e => by
    have wx := mx.2.1
    have b : 0 ≤ ln Mx p := (wx.nu hp).2.2.2.1.1
    obtain ⟨my, ly, -, -⟩ := mv_set mx.1 wx hp (v := 0) (by omega) b e
    exact ⟨mx.trans (my.mono (fun q hq => by rw [hq]; exact hx) (fun _ z => z.elim) (fun q hq => wx.lt (xP_in hq))), (my.fld wx (fun q hq => by rw [hq]; exact hp) (fun z => z)).1, ly, fun q hq hne => (my.lst hq hne).1⟩
  have R6 : ∀ {Mx : mM}, Wd Mx a → mR Mx a 35 = a + 109 ∧ mR Mx a 36 = a + 111 ∧ mR Mx a 37 = a + 113 ∧ mR Mx a 38 = a + 115 ∧ mR Mx a 39 = a + 117 := fun w => ⟨w.1.2.2.2.2.2.1.2.2.2.2.1, w.1.2.2.2.2.2.1.2.2.2.2.2.1, w.1.2.2.2.2.2.1.2.2.2.2.2.2.1, w.1.2.2.2.2.2.1.2.2.2.2.2.2.2.1, w.1.2.2.2.2.2.1.2.2.2.2.2.2.2.2⟩
  have w14 := m814.2.1
  rw [(R6 w14).1]
  refine ⟨(w14.nu k109).1, fun M17 e17 => ?_⟩
  obtain ⟨m17, a17, l17, u17⟩ := emp k109 (by show a + 109 = a + 99 ∨ a + 109 = a + 109 ∨ a + 109 = a + 111 ∨ a + 109 = a + 113 ∨ a + 109 = a + 115; omega) m814 e17
  have w17 := m17.2.1
  rw [(R6 w17).2.1]
  refine ⟨(w17.nu k111).1, fun M20 e20 => ?_⟩
  obtain ⟨m20, a20, l20, u20⟩ := emp k111 (by show a + 111 = a + 99 ∨ a + 111 = a + 109 ∨ a + 111 = a + 111 ∨ a + 111 = a + 113 ∨ a + 111 = a + 115; omega) m17 e20
  have w20 := m20.2.1
  rw [(R6 w20).2.2.1]
  refine ⟨(w20.nu k113).1, fun M23 e23 => ?_⟩
  obtain ⟨m23, a23, l23, u23⟩ := emp k113 (by show a + 113 = a + 99 ∨ a + 113 = a + 109 ∨ a + 113 = a + 111 ∨ a + 113 = a + 113 ∨ a + 113 = a + 115; omega) m20 e23
  have w23 := m23.2.1
  rw [(R6 w23).2.2.2.1]
  refine ⟨(w23.nu k115).1, fun M26 e26 => ?_⟩
  obtain ⟨m26, a26, l26, u26⟩ := emp k115 (by show a + 115 = a + 99 ∨ a + 115 = a + 109 ∨ a + 115 = a + 111 ∨ a + 115 = a + 113 ∨ a + 115 = a + 115; omega) m23 e26
  have w26 := m26.2.1
  have hin : ∀ q, xP a q → q ∈ nums a := fun q hq => xP_in hq
  have unP : ∀ q, xP a q → q = a + 99 ∨ q = a + 109 ∨ q = a + 111 ∨ q = a + 113 ∨ q = a + 115 := fun q hq => hq
  have ag26 := ag_mv w8 m26 hin (fun x z => by omega)
  have S26 := x8.2.1.ag ag26
  have F26 : ∀ i, i ≠ 29 → i ≠ 40 → mI M26 a i = mI M8 a i := fun i i1 i2 => by rw [a26, a23, a20, a17, f14, if_neg i2, f12, if_neg i1]
  have v29 : mI M26 a 29 = 1 := by rw [a26, a23, a20, a17, f14, if_neg (by decide), f12, if_pos rfl]
  have v40 : mI M26 a 40 = 0 := by rw [a26, a23, a20, a17, f14, if_pos rfl]
  have gs26 := gs_st w8 hg m26 hin (fun q hq z => by
    have z' : q = g + 1 ∨ q = g + 3 ∨ q = g + 5 ∨ q = g + 7 ∨ q = g + 9 ∨ q = g + 11 ∨ q = g + 30 ∨ q = g + 32 ∨ q = g + 34 := z
    have := unP q hq
    omega) (fun x z => by omega)
  have R26 := m26.rfl_a w8 hin
  have gg26 := gg8.gs m26.1 w26 (by rw [R26]) gs26
  have FR26 := F8.1.trans (FR.mv m26 hin (fun x z => by omega))
  have k109z : ln M26 (a + 109) = 0 := by rw [u26 _ k109 (by omega), u23 _ k109 (by omega), u20 _ k109 (by omega), l17]
  have k111z : ln M26 (a + 111) = 0 := by rw [u26 _ k111 (by omega), u23 _ k111 (by omega), l20]
  have k113z : ln M26 (a + 113) = 0 := by rw [u26 _ k113 (by omega), l23]
  have tp := w8.tape
  have s13 := w8.1.2.1
  have t26 : Tpl Nt9 M26 (mR M26 a 1) ∧ ln M26 (mR M26 a 2) ≤ 16384 := ⟨by rw [R26]; exact t8.1.sm (m26.lst tp.1 (fun z => by have := unP _ z; omega)), by rw [R26, (m26.lst tp.2.1 (fun z => by have := unP _ z; omega)).1]; exact t8.2⟩
  rw [(R6 w26).2.2.2.2]
  refine ⟨S26.1.1, (s_MS_clear m26.1 S26).mono (fun M29 t29 => ?_)⟩
  obtain ⟨o29, f29, S29, s2, s3, s30⟩ := t29
  have m29 := mv_sol o29 w26 f29
  have w29 := m29.2.1
  have R29 := m29.rfl_a w26 no
  have nv : ∀ x, vF (a + 117) x → a + 117 ≤ x ∧ x ≤ a + 117 + 21067 := fun x z => z
  have a29 := (m29.fld w26 no (fun z => by have := nv _ z; omega)).1
  have gs29 := gs_st w26 hg m29 no (fun _ z => z.elim) (fun x z => by have := nv x z; omega)
  have gg29 := gg26.gs o29 w29 (by rw [R29]) gs29
  have tp26 := w26.tape
  have b29 : bE Nt9 M a g T R W C Z E tg M29 := ⟨FR26.trans (FR.fi f29 (fun x z => by have := nv x z; omega)), gg29, ⟨by rw [R29]; exact t26.1.sm (m29.lst tp26.1 (fun z => z)), by rw [R29, (m29.lst tp26.2.1 (fun z => z)).1]; exact t26.2⟩, by rw [a29, F26 48 (by decide) (by decide), F26 11 (by decide) (by decide)]; exact x8.2.2.2.2, ⟨by rw [a29, F26 11 (by decide) (by decide)]; exact kn, g3.2.1.symm.trans g7.1, g3.1.symm.trans g7.2.1, g3.2.2.1.symm.trans g7.2.2.1, g7.2.2.2⟩, S29, s2, s3, s30⟩
  refine ⟨o29, w29.1.1, fun M33 e33 => ?_⟩
  obtain ⟨m33, f33⟩ := mv_fld (v := 0) ⟨by decide, by decide⟩ o29 w29 e33
  have b33 := b29.st m33 (fun _ z => z.elim) (fun x z => Or.inl z) (fun i _ _ i16 _ _ _ _ _ => by rw [f33, if_neg i16])
  have ls : ∀ {q}, q ∈ nums a → ln M33 q = ln M26 q := fun hq => by rw [(m33.lst hq (fun z => z)).1, (m29.lst hq (fun z => z)).1]
  have gs829 : Gs M8 M33 g := (gs26.trans gs29).trans (gs_st w29 hg m33 no (fun _ z => z.elim) (fun x z => by omega))
  have gp33 := gp0.gs gs829 g5.1.1
  have key := x_ex81 (G := G) (d := d) (xX := fun r M' => (mI M a 11 = 0 ∧ r = 0 ∧ xU M M' a ∧ mI M' a 0 = 1) ∨ (mI M a 11 ≠ 0 ∧ xpR X a (mR M a 9) W r M' ∧ mI M' a 0 = 0)) hev hstp hok1 hok2 gp33 (by rw [hX]; exact xpl_kd (fun cm hc => by
    obtain ⟨i, hi⟩ := List.getElem?_of_mem hc
    rcases (gp33.2.2.2.2.2.2 i cm hi).1 with y | y
    · exact Or.inl y.1
    · exact Or.inr y.1)) (fun r M' u v => Or.inr ⟨kn0, by rw [← r98]; exact u, v.trans (by rw [f33, if_neg (by decide), a29, F26 0 (by decide) (by decide), f8, if_pos rfl, e3, if_neg kn0])⟩) hX (by rw [(gs829.2.1 21 (by omega) (by omega)).1]; exact gi0) hok0 b33 (by rw [f33, if_pos rfl]) (by rw [f33, if_neg (by decide), a29]; exact v29) (by rw [f33, if_neg (by decide), a29]; exact v40) ⟨by rw [ls k109]; exact k109z, by rw [ls k111]; exact k111z, by rw [ls k113]; exact k113z, by rw [ls k115]; exact l26⟩ W 0 M33 (by omega) (Mv.refl b33.2.1.1 b33.2.1.2.1 (fun _ z => z.elim)) (fun v' hv' => absurd hv' (by omega))
  exact key
end EXY
end
