section
/-! The reference's workOut, exactly: rules in a state. -/
section WRT
variable {G : mG} {d a g R W T : Nat} {M : mM} {Q : mM → Prop} {E : Nat → Nat} {ww pl : Nat → Int} {xv : Int → vrs}
theorem x_wo_runT (h0 : Ev True M a g R W T) (hF : Fm M g R W T E) (hFx : FmX ww pl xv M g R E) : ∀ (b : Nat) (nv : Nat → Int) (n0 : Nat), b ≤ R → (∀ r : Nat, r < b → mI M (g + 13) r ≠ 0 → E r ≤ n0) → ∀ (f md n e e0 Lk V kk : Nat) (u : Nat → Int) (M2 : mM) (rs : List (Nat × Nat)), kk = md + (1 - md) → Ty (nme True M g b W) (tn M g) M g f md n e u → TBy9 ww pl M g nv md rs n e → n0 ≤ n → e ≤ e0 → e0 ≤ T → EO True M a g R W T M2 → XVq M2 a g R W xv → mI M2 a 16 = 0 → ln M2 (a + 99) = (Lk + 2 * kk : Nat) → (∀ j, j < kk → nt M2 (a + 99) (Lk + 2 * (kk - 1 - j)) = 0 ∧ nt M2 (a + 99) (Lk + 2 * (kk - 1 - j) + 1) = ci M g n j) → mI M2 a 23 = (V : Int) → V + e0 ≤ T + (n - n0) → Lk + 2 * (e - n) ≤ 2 * (T - n0) → (∀ M3, EO True M a g R W T M3 → fvq M3 a (vfX ww pl xv nv rs) → Q M3) → (∀ M3, woR True M a g R W T Lk V kk u M2 M3 → woX ww pl xv nv a V rs u M3 → XVq M3 a g R W xv → h_MM_workOut_19 G (d + 3) a g M3 Q) → h_MM_workOut_19 G (d + 3) a g M2 Q := by
  have w0 := h0.2.1
  have hBd := h0.2.2.2.2.1
  have hg := h0.2.2.1
  intro b
  induction b using Nat.strongRecOn with
  | _ b ihb =>
  intro nv n0 hbR hbE f
  induction f using Nat.strongRecOn with
  | _ f ih =>
  intro md n e e0 Lk V kk u M2 rs hkk ht htb hn0 he he0 h hxv h16 lk pk hV hVb hLb hX hQ
  obtain ⟨hrs, htb⟩ := htb
  have hlt := ht.tn.lt
  have hVs := vbS hVb hn0
  have hLs := lbS hLb hlt
  have hVh : Hid (V + e0 ≤ T + (n - n0)) := hVb
  have hLh : Hid (Lk + 2 * (e - n) ≤ 2 * (T - n0)) := hLb
  clear hVb hLb
  cases f with
  | zero => exact ht.elim
  | succ f =>
    rw [Ty] at ht
    by_cases c0 : md = 0
    · subst c0
      have kk1 : kk = 1 := by omega
      subst kk1
      rw [if_pos rfl] at ht
      obtain ⟨p0, p1⟩ := pk 0 (by omega)
      rw [show Lk + 2 * (1 - 1 - 0) = Lk by omega] at p0 p1
      have pn : nt M2 (a + 99) (Lk + 1) = (n : Int) := p1
      obtain ⟨-, -, ht⟩ := ht
      rw [if_pos rfl] at htb
      obtain ⟨i, j, rfl, tm⟩ := htb
      have eo : Eo ww 6 i j := hrs (i, j) (List.mem_singleton.2 rfl)
      have tn9 := fun (_ : Unit) => tv_node (cv := cvn9 ww xv nv) _ 0 i j (Nat.le_refl _) (Or.inl ⟨rfl, eo⟩) rfl _ 0 _ _ tm
      have vf1 : vfX ww pl xv nv [(i, j)] = if (vlX ww pl xv nv (i, j)).1 = 0 then (0, 0, 1) else vlX ww pl xv nv (i, j) := rfl
      have w1 : ∀ {M3 : mM} {A B : Int}, vlX ww pl xv nv (i, j) = vr9 (u 0) A B → mL M3 (a + 97) (V + 0) = A → mL M3 (a + 98) (V + 0) = B → woX ww pl xv nv a V [(i, j)] u M3 := fun {M3 A B} e1 e2 e3 => by
        refine ⟨by rw [vf1, e1]; rfl, fun t ht => ?_⟩
        have t0 : t = 0 := by simp at ht; omega
        subst t0
        rw [e2, e3]
        exact e1
      have w1x : ∀ {M3 : mM}, EO True M a g R W T M3 → (vlX ww pl xv nv (i, j)).1 ≠ 0 → mI M3 a 16 = (vlX ww pl xv nv (i, j)).1 → mI M3 a 17 = (vlX ww pl xv nv (i, j)).2.1 → Q M3 := fun {M3} l3 z1 z2 z3 => hX M3 l3 (by rw [vf1, if_neg z1]; exact ⟨z1, z2, z3⟩)
      rcases ht with ⟨b1, b2, b3, b4, b5, b6⟩ | ⟨k, c, b1, b2, b3, b4, b5⟩
      · -- a leaf
        refine s_wo2 (n := n) (X := Lk) (s := 0) h h16 lk (Or.inl rfl) p0 pn (fun _ M4 t4 => ?_) (fun z => absurd z (by decide)) (fun z => absurd z (by decide)) (fun z => absurd z (by decide))
        obtain ⟨m4, l4, e4⟩ := t4
        have E4 := h.pile m4
        have K4 := kp99 h.1.2.1 m4
        have nd4 := E4.nod n
        have gs4 := E4.gs w0
        obtain ⟨-, -, kw, kl, ks, kv, kx⟩ : fp M g n = -1 ∧ e = n + 1 ∧ ∃ k, (ww k = 1 ∨ ww k = 2 ∨ ww k = 12 ∨ ww k = 13) ∧ so M g n = ww k ∧ va M g n = nv k ∧ vlq ww (cvn9 ww xv nv) pl 0 0 i j = cvn9 ww xv nv k := by
          rcases tn9 () with q | ⟨q, -⟩
          · exact q
          · rw [b2] at q; omega
        have X4 := hxv.pile hg h.1.2.1 m4
        have kvx : vlX ww pl xv nv (i, j) = cvn9 ww xv nv kw := kx
        refine (x_bg_leafT (t := u 0) (V := V) (X := Lk) X4 E4.2.1 (by omega) (by rw [nd4.1]; exact b3) (by rw [nd4.1, nd4.2.1]; exact b4) (by rw [nd4.1, nd4.2.1]; exact fun z => ((b5 z).up hbR).gs gs4) (by rw [nd4.1, nd4.2.1, gs4.tyn]; exact b6) (by rw [K4.1]; exact hV) (by omega) l4 (by omega)).mono (fun M5 t5 => ⟨t5.1, ?_⟩)
        rcases t5.2 with ⟨A, B, v1, v2, v3⟩ | ⟨q1, q2, q3⟩
        · rw [nd4.1, nd4.2.1] at v3
          have Y5 := v2
          obtain ⟨y1, y2, y3, y4, y5⟩ := v2
          have E5 := E4.step y1 (fun _ z => z.elim) (fun x hx => hx) (fun i _ _ i3 => y3 i i3)
          have X5 := X4.st hg E4.1.2.1 y1 (fun _ z => z.elim) (fun x hx => hx)
          have s5 := y1.lst (n99 (a := a)) (fun z => z)
          refine hQ M5 ⟨E5, by rw [y3 16 (by omega), K4.1]; exact h16, by rw [s5.1]; exact l4, fun j hj => by rw [s5.2.1, e4], y2, fun j hj => ⟨by rw [y4, if_neg (by omega), K4.2.1], by rw [y5, if_neg (by omega), K4.2.2]⟩, fun j hj => ?_⟩ (w1 (A := A) (B := B) ?_ (by rw [y4, if_pos (by omega)]) (by rw [y5, if_pos (by omega)])) X5
          · have j0 : j = 0 := by omega
            subst j0
            rw [y4, y5, if_pos (by omega), if_pos (by omega)]
            exact v1
          · rw [kvx, ← v3]
            unfold cvn9
            rw [← ks, ← kv]
        · obtain ⟨fF, f1, f2, f3, m5, l5, e5, x3, xv9, x0, xr⟩ := q3
          rw [nd4.2.1] at f1 f2 f3 xv9 xr q2
          rw [nd4.1] at q1
          rw [gs4.tyn] at q2
          rw [gs4.1] at f2
          rw [gs4.2.2.1] at xr
          have hv := b5 q1
          obtain ⟨r, hr, hrb⟩ : ∃ r : Nat, va M g n = (r : Int) ∧ r < b := by
            rcases hv with z | z
            · exact ⟨(va M g n).toNat, by omega, by omega⟩
            · exact absurd z.2.1 (by omega)
          rw [hr] at f2 f3 xv9 xr q2
          rw [Int.toNat_natCast] at f2 f3 xr
          obtain ⟨n', f', fr1, fr2, fr3, fr4⟩ := hF r (by omega) f2
          obtain ⟨n9, nv', i', j', gx1, gx2, gx3, gx4⟩ := hFx r (by omega) f2
          have n99' : n9 = n' := by
            have := gx1.symm.trans fr1
            omega
          subst n99'
          have E5 := E4.pile m5
          have K5 := kp99 E4.1.2.1 m5
          have X5 := X4.pile hg E4.1.2.1 m5
          have hE := hbE r hrb f2
          have lt' := fr4.tn.lt
          have w1v : ww kw = 1 := by rw [← ks]; exact q1
          have vlf : vlX ww pl xv nv (i, j) = xv (r : Int) := by
            rw [kvx]
            unfold cvn9
            rw [if_pos w1v, ← kv, hr]
          have vlg : vlX ww pl xv nv (i, j) = vlX ww pl xv nv' (i', j') := by rw [vlf, gx4]
          have vf1' : vfX ww pl xv nv' [(i', j')] = if (vlX ww pl xv nv' (i', j')).1 = 0 then (0, 0, 1) else vlX ww pl xv nv' (i', j') := rfl
          refine ihb r hrb nv' n9 (by omega) fr3 f' 0 n9 (E r) (E r) (Lk + 2) V 1 (fun _ => tn M g r) M5 [(i', j')] (by omega) fr4 ⟨fun x hx => by rw [List.mem_singleton.1 hx]; exact gx2, by rw [if_pos rfl]; exact ⟨i', j', rfl, gx3⟩⟩ (Nat.le_refl _) (Nat.le_refl _) fr2 E5 X5 (by rw [K5.1, K4.1]; exact h16) (by rw [l5]) (fun j hj => ?_) (by rw [K5.1, K4.1]; exact hV) (by first | exact sbV (by omega) | omega) (by first | exact sbL (by omega) (by omega) | omega) (fun M6 l6 p6 => ?_) (fun M6 h6 x6 X6 => ?_)
          · have j0 : j = 0 := by omega
            subst j0
            exact ⟨x0, xr.trans fr1⟩
          · rw [vf1'] at p6
            have z1 : (vlX ww pl xv nv' (i', j')).1 ≠ 0 := fun z => by rw [if_pos z] at p6; exact p6.1 rfl
            rw [if_neg z1] at p6
            exact w1x l6 (by rw [vlg]; exact z1) (by rw [vlg]; exact p6.2.1) (by rw [vlg]; exact p6.2.2)
          · have va0 : vlX ww pl xv nv' (i', j') = _ := x6.2 0 (by simp)
            obtain ⟨E6, z16, l6, e6, v6, k6, o6⟩ := h6
            refine s_wo2 (n := r) (X := Lk) (s := 3) E6 z16 l6 (Or.inr (Or.inr (Or.inr rfl))) (by rw [e6 Lk (by omega)]; exact x3) (by rw [e6 (Lk + 1) (by omega)]; exact xv9) (fun z => absurd z (by decide)) (fun z => absurd z (by decide)) (fun z => absurd z (by decide)) (fun _ M7 t7 => ?_)
            obtain ⟨m7, l7, e7⟩ := t7
            have E7 := E6.pile m7
            have K7 := kp99 E6.1.2.1 m7
            have X7 := X6.pile hg E6.1.2.1 m7
            refine ⟨by omega, V, by rw [K7.1]; exact v6, by omega, fun M8 M9 M10 e8 e9 e10 => ?_⟩
            have o := o6 0 (by omega)
            rw [show V + 0 = V by omega, ← K7.2.1, ← K7.2.2] at o
            rw [show V + 0 = V by omega, ← K7.2.1, ← K7.2.2] at va0
            obtain ⟨E10, i10, s10, la10, lb10⟩ := E7.met w0 o e8 e9 e10
            have t7 := (E7.gs w0).tyn
            have X10 := X7.met hg (r := r) (A := mL M7 (a + 97) V) (B := mL M7 (a + 98) V) (by rw [t7, ← vlf, vlg]; exact va0) e8 e9 e10
            refine ⟨E10.1.1, hQ M10 ⟨E10, by rw [i10, K7.1]; exact z16, by rw [s10.1]; exact l7, fun j hj => by rw [s10.2.1, e7, e6 j (by omega), e5 j hj, e4], by rw [i10, K7.1]; exact v6, fun j hj => ⟨by rw [la10, K7.2.1, (k6 j hj).1, K5.2.1, K4.2.1], by rw [lb10, K7.2.2, (k6 j hj).2, K5.2.2, K4.2.2]⟩, fun j hj => ?_⟩ (w1 (A := mL M7 (a + 97) V) (B := mL M7 (a + 98) V) (by rw [vlg, va0, q2]) (by rw [la10]; rfl) (by rw [lb10]; rfl)) X10⟩
            have j0 : j = 0 := by omega
            subst j0
            rw [q2, la10, lb10]
            exact o
      · -- a node with parts
        have hge := b4.tn.ge
        have nl : ¬ (so M g n = 1 ∨ so M g n = 2 ∨ so M g n = 12 ∨ so M g n = 13) := fun z => by unfold ari at b2; omega
        have hty : tyr (so M g n) k c (u 0) := by
          unfold tyn at b5
          rw [if_neg (by omega), if_neg (by omega), if_neg (by omega)] at b5
          exact b5
        obtain ⟨-, rs2, r1, r2, r3, r4, r5⟩ : fp M g n = ((n + 1 : Nat) : Int) ∧ ∃ rs : List (Nat × Nat), rs ≠ [] ∧ (∀ r, r ∈ rs → Eo ww 6 r.1 r.2) ∧ Tbq ww pl nv (so M g) (pm M g) (va M g) (fp M g) (np M g) (-1) rs (n + 1) e ∧ (so M g n ≠ 1 ∧ so M g n ≠ 2 ∧ so M g n ≠ 12 ∧ so M g n ≠ 13) ∧ (((so M g n ≠ 29 ∧ so M g n ≠ 30 ∧ so M g n ≠ 32) ∧ vlX ww pl xv nv (i, j) = vsq ww (cvn9 ww xv nv) pl rs (fnv (so M g n) (pm M g n) rs.length)) ∨ ((so M g n = 29 ∨ so M g n = 30) ∧ ∃ r1 r2, rs = [r1, r2] ∧ vlX ww pl xv nv (i, j) = vbd (vlX ww pl xv nv r1) (fun x y => if so M g n = 29 ↔ x = 0 then (0, x, y) else vlX ww pl xv nv r2)) ∨ (so M g n = 32 ∧ ∃ r1 r2 r3, rs = [r1, r2, r3] ∧ vlX ww pl xv nv (i, j) = vbd (vlX ww pl xv nv r1) (fun x _ => if x = 0 then vlX ww pl xv nv r3 else vlX ww pl xv nv r2))) := by
          rcases tn9 () with ⟨q, -⟩ | q
          · rw [b3] at q; omega
          · exact q
        have rk : rs2.length = k := tb_len2 r3 b4.tn b1
        by_cases cs : so M g n = 29 ∨ so M g n = 30 ∨ so M g n = 32
        · -- and, or, ask
          have k2 : 2 ≤ k := by unfold ari at b2; omega
          cases f with
          | zero => exact b4.elim
          | succ f1 =>
            have b4' := b4
            rw [Ty, if_neg (by omega), if_neg (by omega)] at b4'
            obtain ⟨m, q1, q2, q3⟩ := b4'
            have l1 := q2.tn.lt
            have l3 := q3.tn.ge
            -- the first part and the rest
            obtain ⟨ra, rt, rfl⟩ : ∃ ra rt, rs2 = ra :: rt := by
              cases rs2 with
              | nil => exact absurd rfl r1
              | cons r rs => exact ⟨r, rs, rfl⟩
            have lrt : rt.length = k - 1 := by simp only [List.length_cons] at rk; omega
            obtain ⟨rb, rt2, rfl⟩ : ∃ rb rt2, rt = rb :: rt2 := by
              cases rt with
              | nil => simp at lrt; omega
              | cons r rs => exact ⟨r, rs, rfl⟩
            obtain ⟨m', tb1, tb2, tb3⟩ := r3
            have em : m' = m := by omega
            subst em
            have eoa : Eo ww 6 ra.1 ra.2 := r2 ra (List.mem_cons_self ..)
            have vfa : vfX ww pl xv nv [ra] = if (vlX ww pl xv nv ra).1 = 0 then (0, 0, 1) else vlX ww pl xv nv ra := rfl
            -- a fault of the first part is the node's
            have xa : (vlX ww pl xv nv ra).1 ≠ 0 → vlX ww pl xv nv (i, j) = vlX ww pl xv nv ra := fun z => by
              rcases r5 with ⟨q, -⟩ | ⟨-, x1, x2, e1, e2⟩ | ⟨-, x1, x2, x3, e1, e2⟩
              · omega
              · have := (List.cons.inj e1).1
                subst this
                rw [e2, vbd, if_neg z]
              · have := (List.cons.inj e1).1
                subst this
                rw [e2, vbd, if_neg z]
            refine s_wo2 (n := n) (X := Lk) (s := 0) h h16 lk (Or.inl rfl) p0 pn (fun _ M4 t4 => ?_) (fun z => absurd z (by decide)) (fun z => absurd z (by decide)) (fun z => absurd z (by decide))
            obtain ⟨m4, l4, e4⟩ := t4
            have E4 := h.pile m4
            have K4 := kp99 h.1.2.1 m4
            have nd4 := E4.nod n
            refine (s_bg_first (X := Lk) E4.2.1 (by omega) (by rw [nd4.1]; exact cs) l4 (by omega)).mono (fun M5 t5 => ⟨t5.1, ?_⟩)
            obtain ⟨-, m5, l5, e5, x2, xn, x0, xf⟩ := t5
            rw [nd4.2.2.1] at xf
            have E5 := E4.pile m5
            have K5 := kp99 E4.1.2.1 m5
            refine ih f1 (by omega) 0 (n + 1) m' e0 (Lk + 2) V 1 c M5 [ra] (by omega) q2 ⟨fun x hx => by rw [List.mem_singleton.1 hx]; exact eoa, by rw [if_pos rfl]; exact ⟨ra.1, ra.2, rfl, tb1⟩⟩ (by omega) (by omega) he0 E5 ((hxv.pile hg h.1.2.1 m4).pile hg E4.1.2.1 m5) (by rw [K5.1, K4.1]; exact h16) (by rw [l5]) (fun j' hj' => ?_) (by rw [K5.1, K4.1]; exact hV) (by first | exact sbV (by omega) | omega) (by first | exact sbL (by omega) (by omega) | omega) (fun M6 l6 p6 => ?_) (fun M6 h6 x6 X6 => ?_)
            · have j0 : j' = 0 := by omega
              subst j0
              exact ⟨x0, xf.trans b3⟩
            · rw [vfa] at p6
              have z1 : (vlX ww pl xv nv ra).1 ≠ 0 := fun z => by rw [if_pos z] at p6; exact p6.1 rfl
              rw [if_neg z1] at p6
              have := xa z1
              exact w1x l6 (by rw [this]; exact z1) (by rw [this]; exact p6.2.1) (by rw [this]; exact p6.2.2)
            · have va0 := x6.2 0 (by simp)
              have va1 : (vlX ww pl xv nv ra).1 = 0 := by rw [show vlX ww pl xv nv ra = _ from va0]; rfl
              obtain ⟨E6, z16, l6, e6, v6, k6, o6⟩ := h6
              refine s_wo2 (n := n) (X := Lk) (s := 2) E6 z16 l6 (Or.inr (Or.inr (Or.inl rfl))) (by rw [e6 Lk (by omega)]; exact x2) (by rw [e6 (Lk + 1) (by omega)]; exact xn) (fun z => absurd z (by decide)) (fun z => absurd z (by decide)) (fun _ M7 t7 => ?_) (fun z => absurd z (by decide))
              obtain ⟨m7, l7, e7⟩ := t7
              have E7 := E6.pile m7
              have K7 := kp99 E6.1.2.1 m7
              have nd7 := E7.nod
              refine (x_MM_choose0 (d := d + 1) (V := V) (X := Lk) (c1 := n + 1) (c2 := m') E7.2.1 (by omega) (by rw [(nd7 n).2.2.1]; exact b3) (by omega) (by rw [(nd7 (n + 1)).2.2.2]; exact q1) (by omega) (by rw [K7.1]; exact v6) (by omega) l7 (by omega)).mono (fun M8 t8 => ⟨t8.1, ?_⟩)
              have lowT : ∀ j, j < Lk → nt M7 (a + 99) j = nt M2 (a + 99) j := fun j hj => by rw [e7, e6 j (by omega), e5 j hj, e4]
              have lowV : ∀ j, j < V → mL M7 (a + 97) j = mL M2 (a + 97) j ∧ mL M7 (a + 98) j = mL M2 (a + 98) j := fun j hj => ⟨by rw [K7.2.1, (k6 j hj).1, K5.2.1, K4.2.1], by rw [K7.2.2, (k6 j hj).2, K5.2.2, K4.2.2]⟩
              have u0t : c 0 = 1 := by
                unfold tyr at hty
                by_cases c32 : so M g n = 32
                · rw [if_neg (by omega), if_neg (by omega), if_pos c32] at hty
                  exact hty.1
                · rw [if_pos (by omega)] at hty
                  exact hty.1 0 (by omega)
              have va2 : vlX ww pl xv nv ra = (0, mL M7 (a + 97) V, 1) := by
                have q := show vlX ww pl xv nv ra = _ from va0
                rw [q, K7.2.1]
                unfold vr9
                rw [if_pos u0t]
                rfl
              have va3 : mL M7 (a + 97) V = 0 ∨ mL M7 (a + 97) V = 1 := by
                have o := o6 0 (by omega)
                rw [u0t, ← K7.2.1, ← K7.2.2] at o
                unfold vok at o
                rcases o with o | o
                · omega
                · exact o.2.1
              rcases t8.2 with ⟨y1, y3, y2⟩ | ⟨cc, hcc, m8, v8, f8, l8, e8, x8, y8⟩
              · subst y2
                rw [(nd7 n).1] at y1 y3
                refine hQ M8 ⟨E7, by rw [K7.1]; exact z16, l7, lowT, by rw [K7.1]; exact v6, lowV, fun j hj => ?_⟩ ?_ (X6.pile hg E6.1.2.1 m7)
                rotate_left
                · rcases r5 with ⟨q, -⟩ | ⟨q, x1, x2, e1, e2⟩ | ⟨q, -⟩
                  · omega
                  · have := (List.cons.inj e1).1
                    subst this
                    have hu1 : u 0 = 1 := by
                      unfold tyr at hty
                      rw [if_pos (by omega)] at hty
                      exact hty.2
                    have ob := (o6 0 (by omega))
                    rw [u0t, ← K7.2.1, ← K7.2.2] at ob
                    refine w1 (A := mL M8 (a + 97) V) (B := mL M8 (a + 98) V) ?_ rfl rfl
                    rw [e2, va2, vbd, if_pos rfl]
                    show (if so M g n = 29 ↔ mL M8 (a + 97) V = 0 then ((0, mL M8 (a + 97) V, 1) : vrs) else vlX ww pl xv nv x2) = _
                    rw [if_pos (by constructor <;> intro zz <;> omega)]
                    unfold vr9
                    rw [if_pos hu1]
                  · omega
                have j0 : j = 0 := by omega
                subst j0
                have o := o6 0 (by omega)
                rw [← K7.2.1, ← K7.2.2] at o
                unfold tyr at hty
                rw [if_pos (by omega)] at hty
                rw [hty.2, ← hty.1 0 (by omega)]
                exact o
              · have E8 := E7.step m8 (fun q hq => hq) (fun x hx => Or.inl hx) (fun i _ _ i3 => f8 i i3)
                have w7 := E7.1.2.1
                have in9 : ∀ q, q = a + 99 → q ∈ nums a := fun q hq => by rw [hq]; exact n99
                have l97 := (m8.cellL w7 in9 (offx (a := a) (o := 97) (by decide)) (by omega)).2
                have l98 := (m8.cellL w7 in9 (offx (a := a) (o := 98) (by decide)) (by omega)).2
                obtain ⟨n2, e2, f2, u2, d1, d2, d3, d4, d5, d6, rc, dr1, dr2, dr3⟩ : ∃ (n2 e2 f2 : Nat) (u2 : Nat → Int), cc = (n2 : Int) ∧ f2 < f1 + 1 + 1 ∧ Ty (nme True M g b W) (tn M g) M g f2 0 n2 e2 u2 ∧ u2 0 = u 0 ∧ m' ≤ n2 ∧ e2 ≤ e ∧ ∃ rc : Nat × Nat, Eo ww 6 rc.1 rc.2 ∧ Td ww pl nv (so M g) (pm M g) (va M g) (fp M g) (np M g) 0 0 rc.1 rc.2 n2 e2 ∧ vlX ww pl xv nv (i, j) = vlX ww pl xv nv rc := by
                  unfold tyr at hty
                  cases f1 with
                  | zero => exact q3.elim
                  | succ f2 =>
                    by_cases c32 : so M g n = 32
                    · have k3 : k = 3 := by unfold ari at b2; omega
                      subst k3
                      rw [if_neg (by omega), if_neg (by omega), if_pos c32] at hty
                      rw [Ty, if_neg (by omega), if_neg (by omega)] at q3
                      obtain ⟨m2, r1', r2', r3'⟩ := q3
                      have g1 := r2'.tn.lt
                      have g2 := r3'.tn.lt
                      obtain ⟨rd3, rfl⟩ : ∃ r, rt2 = [r] := by
                        cases rt2 with
                        | nil => simp at lrt
                        | cons r rs =>
                          cases rs with
                          | nil => exact ⟨r, rfl⟩
                          | cons r2 rs => simp at lrt
                      obtain ⟨m3, tc1, tc2, tc3⟩ := tb3
                      have em3 : m3 = m2 := by omega
                      subst em3
                      obtain ⟨x1, x2, x3, e1, e2⟩ : ∃ r1 r2 r3, ([ra, rb, rd3] : List (Nat × Nat)) = [r1, r2, r3] ∧ vlX ww pl xv nv (i, j) = vbd (vlX ww pl xv nv r1) (fun x _ => if x = 0 then vlX ww pl xv nv r3 else vlX ww pl xv nv r2) := by
                        rcases r5 with ⟨q, -⟩ | ⟨q, -⟩ | ⟨-, q⟩
                        · omega
                        · omega
                        · exact q
                      simp only [List.cons.injEq, and_true] at e1
                      obtain ⟨e1a, e1b, e1c⟩ := e1
                      subst e1a e1b e1c
                      rcases hcc with z | z
                      · refine ⟨m', m3, f2, _, z.1, by omega, r2', hty.2.1, Nat.le_refl _, by omega, rb, r2 rb (by simp), tc1, ?_⟩
                        rw [e2, va2, vbd, if_pos rfl]
                        show (if mL M7 (a + 97) V = 0 then _ else _) = _
                        rw [if_neg]
                        rw [(nd7 n).1] at z
                        omega
                      · cases f2 with
                        | zero => exact r3'.elim
                        | succ f3 =>
                          rw [Ty, if_neg (by omega), if_pos (by omega)] at r3'
                          refine ⟨m3, e, f3, _, z.2.1.trans ((nd7 m').2.2.2.trans r1'), by omega, r3'.2, hty.2.2, by omega, Nat.le_refl _, rd3, r2 rd3 (by simp), tc3.1, ?_⟩
                          rw [e2, va2, vbd, if_pos rfl]
                          show (if mL M7 (a + 97) V = 0 then _ else _) = _
                          rw [if_pos]
                          have := z.2.2
                          omega
                    · have k3 : k = 2 := by unfold ari at b2; omega
                      subst k3
                      rw [if_pos (by omega)] at hty
                      rw [Ty, if_neg (by omega), if_pos (by omega)] at q3
                      have rt0 : rt2 = [] := by
                        cases rt2 with
                        | nil => rfl
                        | cons r rs => simp at lrt
                      subst rt0
                      obtain ⟨x1, x2, e1, e2⟩ : ∃ r1 r2, ([ra, rb] : List (Nat × Nat)) = [r1, r2] ∧ vlX ww pl xv nv (i, j) = vbd (vlX ww pl xv nv r1) (fun x y => if so M g n = 29 ↔ x = 0 then (0, x, y) else vlX ww pl xv nv r2) := by
                        rcases r5 with ⟨q, -⟩ | ⟨-, q⟩ | ⟨q, -⟩
                        · omega
                        · exact q
                        · omega
                      simp only [List.cons.injEq, and_true] at e1
                      obtain ⟨e1a, e1b⟩ := e1
                      subst e1a e1b
                      rcases hcc with z | z
                      · refine ⟨m', e, f2, _, z.1, by omega, q3.2, (hty.1 1 (by omega)).trans hty.2.symm, Nat.le_refl _, Nat.le_refl _, rb, r2 rb (by simp), tb3.1, ?_⟩
                        rw [e2, va2, vbd, if_pos rfl]
                        show (if so M g n = 29 ↔ mL M7 (a + 97) V = 0 then _ else _) = _
                        rw [if_neg]
                        rw [(nd7 n).1] at z
                        omega
                      · exact absurd ((nd7 n).1.symm.trans z.1) c32
                have g3 := d3.tn.lt
                refine ih f2 d2 0 n2 e2 e0 Lk V 1 u2 M8 [rc] (by omega) d3 ⟨fun x hx => by rw [List.mem_singleton.1 hx]; exact dr1, by rw [if_pos rfl]; exact ⟨rc.1, rc.2, rfl, dr2⟩⟩ (by omega) (by omega) he0 E8 ((X6.pile hg E6.1.2.1 m7).st hg E7.1.2.1 m8 (fun q hq => hq) (fun x hx => Or.inl hx)) (by rw [f8 16 (by omega), K7.1]; exact z16) (by rw [l8]) (fun j hj => ?_) v8 (by first | exact sbV (by omega) | omega) (by first | exact sbL (by omega) (by omega) | omega) (fun M9 l9 p9 => hX M9 l9 (by rw [vf1, dr3]; exact p9)) (fun M9 h9 x9 X9 => hQ M9 ?_ ?_ X9)
                · have j0 : j = 0 := by omega
                  subst j0
                  exact ⟨x8, y8.trans d1⟩
                rotate_left
                · have q9 := x9.2 0 (by simp)
                  rw [d4] at q9
                  exact w1 (by rw [dr3]; exact q9) rfl rfl
                · obtain ⟨E9, y16, l9, e9, v9, k9, o9⟩ := h9
                  refine ⟨E9, y16, l9, fun j hj => by rw [e9 j hj, e8 j hj, lowT j hj], v9, fun j hj => ⟨by rw [(k9 j hj).1, l97, (lowV j hj).1], by rw [(k9 j hj).2, l98, (lowV j hj).2]⟩, fun j hj => ?_⟩
                  have j0 : j = 0 := by omega
                  subst j0
                  rw [← d4]
                  exact o9 0 hj
        · -- the parts first
          refine s_wo2 (n := n) (X := Lk) (s := 0) h h16 lk (Or.inl rfl) p0 pn (fun _ M4 t4 => ?_) (fun z => absurd z (by decide)) (fun z => absurd z (by decide)) (fun z => absurd z (by decide))
          obtain ⟨m4, l4, e4⟩ := t4
          have E4 := h.pile m4
          have K4 := kp99 h.1.2.1 m4
          have nd4 := E4.nod n
          refine (s_bg_parts (X := Lk) E4.2.1 (by omega) b1 (by rw [nd4.1]; omega) (by rw [nd4.2.2.1]; exact b3) (E4.tnn b4.tn) (by omega) l4 (by omega)).mono (fun M5 t5 => ⟨t5.1, ?_⟩)
          obtain ⟨-, m5, l5, e5, x1, xn, v5⟩ := t5
          have E5 := E4.pile m5
          have K5 := kp99 E4.1.2.1 m5
          have cie : ∀ j, ci M4 g (n + 1) j = ci M g (n + 1) j := ci_cg (fun k => (E4.nod k).2.2.2)
          refine ih f (by omega) k (n + 1) e e0 (Lk + 2) V k c M5 rs2 (by omega) b4 ⟨r2, by rw [if_neg (by omega)]; exact ⟨rk, r3⟩⟩ (by omega) he he0 E5 ((hxv.pile hg h.1.2.1 m4).pile hg E4.1.2.1 m5) (by rw [K5.1, K4.1]; exact h16) (by rw [l5]) (fun j hj => ⟨(v5 j hj).1, (v5 j hj).2.trans (cie j)⟩) (by rw [K5.1, K4.1]; exact hV) (by first | exact sbV (by omega) | omega) (by first | exact sbL (by omega) (by omega) | omega) (fun M6 l6 p6 => ?_) (fun M6 h6 x6 X6 => ?_)
          · have e9 : vlX ww pl xv nv (i, j) = vfX ww pl xv nv rs2 := by
              rcases r5 with ⟨-, q⟩ | ⟨q, -⟩ | ⟨q, -⟩
              · rw [q]; unfold vsq; rw [if_neg p6.1]
              · omega
              · omega
            exact w1x l6 (by rw [e9]; exact p6.1) (by rw [e9]; exact p6.2.1) (by rw [e9]; exact p6.2.2)
          have e9 : vlX ww pl xv nv (i, j) = fnv (so M g n) (pm M g n) k (fun t => vlX ww pl xv nv (rs2.getD t (0, 0))) := by
            rcases r5 with ⟨-, q⟩ | ⟨q, -⟩ | ⟨q, -⟩
            · rw [q]; unfold vsq; rw [if_pos x6.1, rk]
            · omega
            · omega
          obtain ⟨E6, z16, l6, e6, v6, k6, o6⟩ := h6
          refine s_wo2 (n := n) (X := Lk) (s := 1) E6 z16 l6 (Or.inr (Or.inl rfl)) (by rw [e6 Lk (by omega)]; exact x1) (by rw [e6 (Lk + 1) (by omega)]; exact xn) (fun z => absurd z (by decide)) (fun _ M7 t7 => ?_) (fun z => absurd z (by decide)) (fun z => absurd z (by decide))
          obtain ⟨m7, l7, e7⟩ := t7
          have E7 := E6.pile m7
          have K7 := kp99 E6.1.2.1 m7
          have nd7 := E7.nod n
          refine (x_MM_finish (d := d) (V := V) (k := k) (c := c) (t := u 0) E7.2.1 (by omega) b1 (by rw [nd7.1]; exact b2) (by rw [nd7.1]; omega) (by rw [nd7.2.2.1]; exact b3) (E7.tnn b4.tn) (by omega) (by rw [nd7.1]; exact hty) (fun j hj => by rw [K7.2.1, K7.2.2]; exact o6 j hj) (by rw [K7.1]; exact v6) (by omega)).mono (fun M8 t8 => ⟨t8.1, ?_⟩)
          obtain ⟨-, ⟨y1, y2, y3, y4⟩, y5⟩ := t8
          have ex : fnv (so M7 g n) (pm M7 g n) k (fun j => vr9 (c j) (mL M7 (a + 97) (V + j)) (mL M7 (a + 98) (V + j))) = vlX ww pl xv nv (i, j) := by
            rw [e9, nd7.1, E7.pm]
            refine fnv_cg b1 (by rw [← nd7.1, nd7.1]; exact b2) (fun t ht => ?_)
            rw [x6.2 t (by rw [rk]; exact ht), K7.2.1, K7.2.2]
          rw [ex] at y5
          have E8 := E7.step y1 (fun _ z => z.elim) (fun x hx => hx) y2
          have s8 := y1.lst (n99 (a := a)) (fun z => z)
          have z7 : mI M7 a 16 = 0 := by rw [K7.1]; exact z16
          by_cases z8 : mI M8 a 16 = 0
          rotate_left
          · have w8 := E8.1.2.1
            refine k_MM_workOut_19 E8.1.1 ?_
            rw [r24w w8]
            refine ⟨w8.1.1, (w8.nu n99).1, fun _ => ?_, fun q => absurd (Or.inr z8) q⟩
            rcases y5 with ⟨q1, q2, q3⟩ | ⟨q2, -⟩
            · exact w1x E8 q1 q2 q3
            · rw [q2] at z8; exact absurd z7 z8
          have z := z8
          refine hQ M8 ?_ ?_ ((X6.pile hg E6.1.2.1 m7).st hg E7.1.2.1 y1 (fun _ z => z.elim) (fun x hx => hx))
          rotate_left
          · rcases y5 with ⟨q1, q2, -⟩ | ⟨-, q2⟩
            · rw [z] at q2; exact absurd q2.symm q1
            · exact w1 q2 rfl rfl
          rcases y4 with y | ⟨w1', w2, w3⟩
          · exact absurd z y
          · refine ⟨E8, z, by rw [s8.1]; exact l7, fun j hj => by rw [s8.2.1, e7, e6 j (by omega), e5 j hj, e4], w2, fun j hj => ⟨by rw [(y3 j hj).1, K7.2.1, (k6 j hj).1, K5.2.1, K4.2.1], by rw [(y3 j hj).2, K7.2.2, (k6 j hj).2, K5.2.2, K4.2.2]⟩, fun j hj => ?_⟩
            have j0 : j = 0 := by omega
            subst j0
            exact w3
    · rw [if_neg c0] at ht htb
      obtain ⟨hlen, htb⟩ := htb
      have kkm : kk = md := by omega
      subst kkm
      by_cases c1 : kk = 1
      · subst c1
        rw [if_pos rfl] at ht
        obtain ⟨r, rfl⟩ : ∃ r, rs = [r] := by
          cases rs with
          | nil => simp at hlen
          | cons r rs =>
            cases rs with
            | nil => exact ⟨r, rfl⟩
            | cons r2 rs => simp at hlen
        exact ih f (by omega) 0 n e e0 Lk V 1 u M2 [r] (by omega) ht.2 ⟨hrs, by rw [if_pos rfl]; exact ⟨r.1, r.2, rfl, htb.1⟩⟩ hn0 he he0 h hxv h16 lk pk hV hVh hLh hX hQ
      · rw [if_neg c1] at ht
        obtain ⟨m, q1, q2, q3⟩ := ht
        have l1 := q2.tn.lt
        have l2 := q3.tn.ge
        obtain ⟨r, r2, rs2, rfl⟩ : ∃ r r2 rs2, rs = r :: r2 :: rs2 := by
          cases rs with
          | nil => simp at hlen; omega
          | cons r rs =>
            cases rs with
            | nil => simp at hlen; omega
            | cons r2 rs => exact ⟨r, r2, rs, rfl⟩
        obtain ⟨m', tb1, tb2, tb3⟩ := htb
        have em : m' = m := by omega
        subst em
        have eor : Eo ww 6 r.1 r.2 := hrs r (List.mem_cons_self ..)
        have vfc : vfX ww pl xv nv (r :: r2 :: rs2) = if (vlX ww pl xv nv r).1 = 0 then vfX ww pl xv nv (r2 :: rs2) else vlX ww pl xv nv r := rfl
        have vf1 : vfX ww pl xv nv [r] = if (vlX ww pl xv nv r).1 = 0 then (0, 0, 1) else vlX ww pl xv nv r := rfl
        refine ih f (by omega) 0 n m' e0 (Lk + 2 * (kk - 1)) V 1 u M2 [r] (by omega) q2 ⟨fun x hx => by rw [List.mem_singleton.1 hx]; exact eor, by rw [if_pos rfl]; exact ⟨r.1, r.2, rfl, tb1⟩⟩ hn0 (by omega) he0 h hxv h16 (by rw [lk]; omega) (fun j hj => ?_) hV (by first | exact sbV (by omega) | omega) (by first | exact sbL (by omega) (by omega) | omega) (fun M3 l3 p3 => hX M3 l3 (by
          rw [vf1] at p3
          have z1 : (vlX ww pl xv nv r).1 ≠ 0 := fun z => by rw [if_pos z] at p3; exact p3.1 rfl
          rw [if_neg z1] at p3
          rw [vfc, if_neg z1]
          exact p3)) (fun M3 h3 x3 X3 => ?_)
        · have j0 : j = 0 := by omega
          subst j0
          have := pk 0 (by omega)
          rw [show Lk + 2 * (kk - 1) + 2 * (1 - 1 - 0) = Lk + 2 * (kk - 1 - 0) by omega]
          exact this
        · obtain ⟨g1, g2, g3, g4, g5, g6, g7⟩ := h3
          have va0 := x3.2 0 (by simp)
          have va1 : (vlX ww pl xv nv r).1 = 0 := by rw [show vlX ww pl xv nv r = _ from va0]; rfl
          refine ih f (by omega) (kk - 1) m' e e0 Lk (V + 1) (kk - 1) (fun j => u (j + 1)) M3 (r2 :: rs2) (by omega) q3 ⟨fun x hx => hrs x (List.mem_cons_of_mem _ hx), by rw [if_neg (by omega)]; exact ⟨by simp only [List.length_cons] at hlen ⊢; omega, tb3⟩⟩ (by omega) he he0 g1 X3 g2 g3 (fun j hj => ?_) g5 (by first | exact sbV (by omega) | omega) (by first | exact sbL (by omega) (by omega) | omega) (fun M4 l4 p4 => hX M4 l4 (by rw [vfc, if_pos va1]; exact p4)) (fun M4 h4 x4 X4 => hQ M4 ?_ ?_ X4)
          · have := pk (j + 1) (by omega)
            rw [ci_succ q1, show Lk + 2 * (kk - 1 - (j + 1)) = Lk + 2 * (kk - 1 - 1 - j) by omega] at this
            rw [g4 _ (by omega), g4 _ (by omega)]
            exact this
          · obtain ⟨f1, f2, f3, f4, f5, f6, f7⟩ := h4
            refine ⟨f1, f2, f3, fun j hj => by rw [f4 j hj, g4 j (by omega)], by rw [f5]; omega, fun j hj => ⟨by rw [(f6 j (by omega)).1, (g6 j hj).1], by rw [(f6 j (by omega)).2, (g6 j hj).2]⟩, fun j hj => ?_⟩
            cases j with
            | zero =>
              rw [(f6 (V + 0) (by omega)).1, (f6 (V + 0) (by omega)).2]
              exact g7 0 (by omega)
            | succ j =>
              have := f7 j (by omega)
              rw [show V + 1 + j = V + (j + 1) by omega] at this
              exact this
          · obtain ⟨f1, f2, f3, f4, f5, f6, f7⟩ := h4
            refine ⟨by rw [vfc, if_pos va1]; exact x4.1, fun t ht => ?_⟩
            cases t with
            | zero =>
              rw [(f6 (V + 0) (by omega)).1, (f6 (V + 0) (by omega)).2]
              exact va0
            | succ t =>
              have := x4.2 t (by simp only [List.length_cons] at ht ⊢; omega)
              rw [show V + 1 + t = V + (t + 1) by omega] at this
              exact this
end WRT
section WTT
variable {G : mG} {d a g R W T : Nat} {M : mM} {E : Nat → Nat} {ww pl nv : Nat → Int} {xv : Int → vrs}
/-- a rule has been worked out in a state, or a fault told -/
def wrkT (M : mM) (a g R W T : Nat) (xv : Int → vrs) (t : Int) (v : vrs) (M' : mM) : Prop := wrkQ True M a g R W T t M' ∧ (mI M a 16 = 0 → fvq M' a v ∨ (mI M' a 16 = 0 ∧ v = vr9 t (mL M' (a + 97) 0) (mL M' (a + 98) 0) ∧ XVq M' a g R W xv))
theorem x_MM_workOutT {b f n e i j : Nat} {t : Int} (hx : XVq M a g R W xv) (h : Ev True M a g R W T) (hF : Fm M g R W T E) (hFx : FmX ww pl xv M g R E) (hb : b ≤ R) (hbE : ∀ r : Nat, r < b → mI M (g + 13) r ≠ 0 → E r ≤ n) (eo : Eo ww 6 i j) (tm : Td ww pl nv (so M g) (pm M g) (va M g) (fp M g) (np M g) 0 0 i j n e) (ht : Ty (nme True M g b W) (tn M g) M g f 0 n e (fun _ => t)) (he : e ≤ T) : Cv G y_MM_workOut (d + 4) [vr a, vr g, vi n] M (fun M' => mOk M' ∧ wrkT M a g R W T xv t (vlX ww pl xv nv (i, j)) M') := by
  obtain ⟨hO, w, hg, hd, hB, -, -⟩ := id h
  have hlt := ht.tn.lt
  refine k_MM_workOut hO (i32s (by omega) (by omega)) ⟨w.1.1, fun M2 e2 => ?_⟩
  obtain ⟨m2, f2⟩ := mv_fld (v := 0) ⟨by omega, by omega⟩ hO w e2
  have E2 : EO True M a g R W T M2 := (EO.refl h).step m2 (fun _ z => z.elim) (fun x hx => Or.inl hx) (fun i _ _ i3 => by rw [f2, if_neg i3])
  have X2 := hx.st hg w m2 (fun _ z => z.elim) (fun x hx => Or.inl hx)
  have w2 := m2.2.1
  rw [r24w w2]
  refine ⟨(w2.nu n99).1, fun M5 e5 => ?_⟩
  have b99 : 0 ≤ ln M2 (a + 99) := (w2.nu n99).2.2.2.1.1
  obtain ⟨m5, l5, -, -⟩ := mv_set m2.1 w2 n99 (v := 0) (by omega) b99 e5
  have E5 := E2.pile m5
  have X5 := X2.pile hg w2 m5
  have K5 := kp99 w2 m5
  refine (s_MM_todo (d := d + 2) (X := 0) ⟨by omega, by omega⟩ (i32s (by omega) (by omega)) m5.1 m5.2.1 l5 (by omega)).mono (fun M7 t7 => ⟨t7.1, ?_⟩)
  obtain ⟨o7, m7, l7, -, x7, y7⟩ := t7
  have E7 := E5.pile m7
  have X7 := X5.pile hg m5.2.1 m7
  have K7 := kp99 E5.1.2.1 m7
  have z17 : mI M7 a 16 = mI M a 16 := by rw [K7.1, K5.1, f2, if_neg (by omega)]
  by_cases z : mI M7 a 16 = 0
  · refine x_wo_runT h hF hFx b nv n hb hbE f 0 n e e 0 0 1 (fun _ => t) M7 [(i, j)] (by omega) ht ⟨fun r hr => by rw [List.mem_singleton.1 hr]; exact eo, by rw [if_pos rfl]; exact ⟨i, j, rfl, tm⟩⟩ (Nat.le_refl _) (Nat.le_refl _) he E7 X7 z l7 (fun j hj => ?_) (by rw [K7.1, K5.1, f2, if_pos rfl]; rfl) (by omega) (by omega) (fun M3 l3 p3 => ?_) (fun M8 h8 x8 X8 => ?_)
    · have j0 : j = 0 := by omega
      subst j0
      exact ⟨x7, y7⟩
    · have p3' : fvq M3 a (if (vlX ww pl xv nv (i, j)).1 = 0 then (0, 0, 1) else vlX ww pl xv nv (i, j)) := p3
      have z1 : (vlX ww pl xv nv (i, j)).1 ≠ 0 := fun z => by rw [if_pos z] at p3'; exact p3'.1 rfl
      rw [if_neg z1] at p3'
      exact ⟨l3.1.1, ⟨l3, Or.inl (by rw [p3'.2.1]; exact z1)⟩, fun _ => Or.inl p3'⟩
    · obtain ⟨E8, z16, l8, -, -, -, o8⟩ := h8
      have w8 := E8.1.2.1
      have l8' : mI M8 (a + 99) 1 = 0 := l8
      refine k_MM_workOut_19 E8.1.1 ?_
      rw [r24w w8, l8']
      exact ⟨w8.1.1, (w8.nu n99).1, fun _ => ⟨E8.1.1, ⟨E8, Or.inr ⟨z16, o8 0 (by omega)⟩⟩, fun _ => Or.inr ⟨z16, x8.2 0 (by simp), X8⟩⟩, fun q => absurd (Or.inl (Int.le_refl _)) q⟩
  · have w := E7.1.2.1
    refine k_MM_workOut_19 E7.1.1 ?_
    rw [r24w w]
    exact ⟨w.1.1, (w.nu n99).1, fun _ => ⟨E7.1.1, ⟨E7, Or.inl z⟩, fun y => absurd (z17.trans y) z⟩, fun q => absurd (Or.inr z) q⟩
end WTT
end
section
/-! The reference's game in pure words; rules are reached in a state. -/
section RGP
/-- a root, and the words that it stands for -/
def Rtq (ww pl : Nat → Int) (XV : List Int → Int → vrs) (ev : List Int → Nat → Nat → vrs) (M : mM) (g R W T : Nat) (E : Eg9) (n t : Int) (i j : Nat) : Prop := ∃ (n' b f e : Nat) (nv : Nat → Int), (n = (n' : Int) ∧ b ≤ R ∧ (∀ r : Nat, r < b → mI M (g + 13) r ≠ 0 → E.1 r ≤ n') ∧ Ty (nme True M g b W) (tn M g) M g f 0 n' e (fun _ => t) ∧ e ≤ T) ∧ Eo ww 6 i j ∧ Td ww pl nv (so M g) (pm M g) (va M g) (fp M g) (np M g) 0 0 i j n' e ∧ ∀ sg, vlX ww pl (XV sg) nv (i, j) = ev sg i j
/-- a branch -/
def RBr (ww pl : Nat → Int) (XV : List Int → Int → vrs) (ev : List Int → Nat → Nat → vrs) (M : mM) (g R W T : Nat) (E : Eg9) (x : Nat) (br : br9) : Prop := mI M (g + 27) x = br.1 ∧ Rtq ww pl XV ev M g R W T E (mI M (g + 26) x) 0 br.2.1.1 br.2.1.2 ∧ mI M (g + 29) x = ((br.2.2.length : Nat) : Int) ∧ ∃ fs : Nat, mI M (g + 28) x = (fs : Int) ∧ ∀ (i : Nat) (q : Nat × Nat × Nat × Nat), br.2.2[i]? = some q → nt M (g + 30) (fs + i) = ((q.1 : Nat) : Int) ∧ nt M (g + 32) (fs + i) = pl q.2.2.2 ∧ q.1 < W ∧ Rtq ww pl XV ev M g R W T E (nt M (g + 34) (fs + i)) (tn M g (100 + (q.1 : Int))) q.2.1 q.2.2.1
/-- a command -/
def RCm (ww pl : Nat → Int) (XV : List Int → Int → vrs) (ev : List Int → Nat → Nat → vrs) (M : mM) (g R W T : Nat) (E : Eg9) (c : Nat) (cm : cm9) : Prop := ((cm.1 = 1 ∧ mI M (g + 22) c = 0) ∨ (cm.1 = 2 ∧ mI M (g + 22) c ≠ 0)) ∧ mI M (g + 23) c = cm.2.1 ∧ Rtq ww pl XV ev M g R W T E (mI M (g + 24) c) 1 cm.2.2.1.1 cm.2.2.1.2 ∧ mI M (g + 25) c = ((cm.2.2.2.length : Nat) : Int) ∧ ∀ (b : Nat) (x : br9), cm.2.2.2[b]? = some x → RBr ww pl XV ev M g R W T E (8 * c + b) x
/-- the game -/
def GP (ww pl : Nat → Int) (XV : List Int → Int → vrs) (ev : List Int → Nat → Nat → vrs) (M : mM) (g R W C T : Nat) (E : Eg9) (tgI : Nat × Nat) (cms : List cm9) (lo hi : Nat → Int) : Prop := (∀ sg, FmX ww pl (XV sg) M g R E.1) ∧ (∀ sg (r : Nat), r < R → mI M (g + 13) r = 0 → XV sg (r : Int) = vr9 (tn M g r) (mL M (g + 16) r) (mL M (g + 17) r)) ∧ (∀ sg (v : Nat), v < W → XV sg (100 + (v : Int)) = (0, sg.getD v 0, 1)) ∧ (∀ v : Nat, v < W → mI M (g + 19) v = lo v ∧ mI M (g + 20) v = hi v) ∧ Rtq ww pl XV ev M g R W T E (mI M g 17) 1 tgI.1 tgI.2 ∧ cms.length = C ∧ ∀ (c : Nat) (cm : cm9), cms[c]? = some cm → RCm ww pl XV ev M g R W T E c cm
variable {G : mG} {d a g T R W C Z : Nat} {M M' M2 : mM} {E : Eg9} {tg : Int} {ww pl lo hi : Nat → Int} {XV : List Int → Int → vrs} {ev : List Int → Nat → Nat → vrs} {tgI : Nat × Nat} {cms : List cm9} {sg : List Int}
theorem gs_nt (k : Gs M M' g) {q : Nat} (hq : gL9 g q) : nt M' q = nt M q := funext (fun j => (k.2.2 q hq).2 j)
theorem gs_gn (k : Gs M M' g) : Gn M g R W T M' := ⟨fun n _ => ⟨(k.2.2 (g + 1) (by first | exact tLk1 g | exact gLk1 g | omega)).2 n, (k.2.2 (g + 7) (by first | exact tLk7 g | exact gLk7 g | omega)).2 n, (k.2.2 (g + 9) (by first | exact tLk9 g | exact gLk9 g | omega)).2 n, (k.2.2 (g + 11) (by first | exact tLk11 g | exact gLk11 g | omega)).2 n, (k.2.2 (g + 3) (by first | exact tLk3 g | exact gLk3 g | omega)).2 n⟩, fun r _ => ⟨by rw [(k.2.1 13 (by omega) (by omega)).1], by rw [(k.2.1 14 (by omega) (by omega)).1]⟩, fun v _ => by rw [(k.2.1 18 (by omega) (by omega)).1]⟩
theorem Rtq.gs {n t : Int} {i j : Nat} (h : Rtq ww pl XV ev M g R W T E n t i j) (k : Gs M M' g) (hR : R ≤ 60) : Rtq ww pl XV ev M' g R W T E n t i j := by
  obtain ⟨n', b, f, e, nv, ⟨h1, h2, h3, h4, h5⟩, h6, h7, h8⟩ := h
  refine ⟨n', b, f, e, nv, ⟨h1, h2, fun r hr z => h3 r hr (by rw [← (k.2.1 13 (by omega) (by omega)).1]; exact z), (gs_gn (R := R) (W := W) (T := T) k).ty hR h2 h5 h4, h5⟩, h6, ?_, h8⟩
  show Td ww pl nv (nt M' (g + 1)) (nt M' (g + 3)) (nt M' (g + 7)) (nt M' (g + 9)) (nt M' (g + 11)) 0 0 i j n' e
  rw [gs_nt k (q := g + 1) (by omega), gs_nt k (q := g + 3) (by omega), gs_nt k (q := g + 7) (by omega), gs_nt k (q := g + 9) (by omega), gs_nt k (q := g + 11) (by omega)]
  exact h7
theorem RBr.gs {x : Nat} {br : br9} (h : RBr ww pl XV ev M g R W T E x br) (k : Gs M M' g) (hR : R ≤ 60) : RBr ww pl XV ev M' g R W T E x br := by
  obtain ⟨h1, h2, h3, fs, h4, h5⟩ := h
  unfold RBr
  rw [(k.2.1 27 (by omega) (by omega)).1, (k.2.1 26 (by omega) (by omega)).1, (k.2.1 29 (by omega) (by omega)).1, (k.2.1 28 (by omega) (by omega)).1, gs_nt k (q := g + 30) (by omega), gs_nt k (q := g + 32) (by omega), gs_nt k (q := g + 34) (by omega), gs_tn k]
  exact ⟨h1, h2.gs k hR, h3, fs, h4, fun i q hq => ⟨(h5 i q hq).1, (h5 i q hq).2.1, (h5 i q hq).2.2.1, (h5 i q hq).2.2.2.gs k hR⟩⟩
theorem RCm.gs {c : Nat} {cm : cm9} (h : RCm ww pl XV ev M g R W T E c cm) (k : Gs M M' g) (hR : R ≤ 60) : RCm ww pl XV ev M' g R W T E c cm := by
  obtain ⟨h1, h2, h3, h4, h5⟩ := h
  unfold RCm
  rw [(k.2.1 22 (by omega) (by omega)).1, (k.2.1 23 (by omega) (by omega)).1, (k.2.1 24 (by omega) (by omega)).1, (k.2.1 25 (by omega) (by omega)).1]
  exact ⟨h1, h2, h3.gs k hR, h4, fun b x hb => (h5 b x hb).gs k hR⟩
theorem GP.gs (h : GP ww pl XV ev M g R W C T E tgI cms lo hi) (k : Gs M M' g) (hR : R ≤ 60) : GP ww pl XV ev M' g R W C T E tgI cms lo hi := by
  obtain ⟨h1, h2, h3, h4, h5, h6, h7⟩ := h
  refine ⟨fun sg r hr z => ?_, fun sg r hr z => ?_, h3, ?_, ?_, h6, fun c cm hc => (h7 c cm hc).gs k hR⟩
  · rw [(k.2.1 13 (by omega) (by omega)).1] at z
    obtain ⟨n, nv, i, j, e1, e2, e3, e4⟩ := h1 sg r hr z
    refine ⟨n, nv, i, j, by rw [(k.2.1 15 (by omega) (by omega)).1]; exact e1, e2, ?_, e4⟩
    show Td ww pl nv (nt M' (g + 1)) (nt M' (g + 3)) (nt M' (g + 7)) (nt M' (g + 9)) (nt M' (g + 11)) 0 0 i j n (E.1 r)
    rw [gs_nt k (q := g + 1) (by omega), gs_nt k (q := g + 3) (by omega), gs_nt k (q := g + 7) (by omega), gs_nt k (q := g + 9) (by omega), gs_nt k (q := g + 11) (by omega)]
    exact e3
  · rw [(k.2.1 13 (by omega) (by omega)).1] at z
    rw [gs_tn k, (k.2.1 16 (by omega) (by omega)).2, (k.2.1 17 (by omega) (by omega)).2]
    exact h2 sg r hr z
  · rw [(k.2.1 19 (by omega) (by omega)).1, (k.2.1 20 (by omega) (by omega)).1]
    exact h4
  · rw [k.1]
    exact h5.gs k hR
/-- what reaching comes to -/
def reX (v : vrs) (t : Int) (xv : Int → vrs) (a g R W : Nat) (M' : mM) : Prop := fvq M' a v ∨ (mI M' a 16 = 0 ∧ v = vr9 t (mL M' (a + 97) 0) (mL M' (a + 98) 0) ∧ XVq M' a g R W xv)
theorem x_MM_reach {n t : Int} {i j : Nat} (h : GG M a g T R W C Z E tg) (hn : En M a g R W) (hf : ∀ sg, FmX ww pl (XV sg) M g R E.1) (hx : XVq M a g R W (XV sg)) (hr : Rtq ww pl XV ev M g R W T E n t i j) (z16 : mI M a 16 = 0) : Cv G y_MM_reach (d + 5) [vr a, vi n] M (fun M' => mOk M' ∧ reQ M a g T R W C Z E tg t M' ∧ reX (ev sg i j) t (XV sg) a g R W M') := by
  obtain ⟨n', b, f, e, nv, ⟨r1, r2, r3, r4, r5⟩, r6, r7, r8⟩ := hr
  subst r1
  have ev' := h.ev hn
  have w := h.2.1
  have hg := h.2.2.1.2
  have hT := h.2.2.2.2.1
  have hlt := r4.tn.lt
  refine k_MM_reach h.1 (i32s (by omega) (by omega)) ⟨w.1.1, ?_⟩
  rw [h.2.2.1.1]
  refine (x_MM_workOutT (d := d) hx ev' h.2.2.2.2.2.2.2.1.2.2.1 (hf sg) r2 r3 r6 r7 r4 r5).mono (fun M' t' => ?_)
  obtain ⟨o', ⟨E', v'⟩, u'⟩ := t'
  have xr' : xr M a M' := ⟨E'.1, E'.2.2⟩
  have x : xe M a M' := xr'.xe w
  have gs := x.gs w hg
  rw [r8 sg] at u'
  refine ⟨o', o', ⟨xr', x.gg h, ⟨fun r hr q1 q2 => (E'.2.1.2.2.2.2.2.1 r hr).2 trivial q1 q2, fun v hv => ?_⟩, v'⟩, u' z16⟩
  rw [(gs.2.1 19 (by omega) (by omega)).1, (gs.2.1 20 (by omega) (by omega)).1, (E'.gs w).2.2.2.2.2.2]
  exact hn.2 v hv
end RGP
end
section
/-! The reference: a state is entered, exactly. -/
section ENX
variable {G : mG} {d a g T R W C Z : Nat} {M M' : mM} {E : Eg9} {tg : Int} {P S : Nat → Prop} {ww pl lo hi : Nat → Int} {XV : List Int → Int → vrs} {ev : List Int → Nat → Nat → vrs} {tgI : Nat × Nat} {cms : List cm9} {sg : List Int}
theorem x_MM_enter {k : Nat} (h : GG M a g T R W C Z E tg) (hk : k < 512) (hv : ∀ v : Nat, v < W → mI M (g + 19) v ≤ mI M (a + 105) (12 * k + v) ∧ mI M (a + 105) (12 * k + v) ≤ mI M (g + 20) v) : Cv G y_MM_enter d [vr a, vi k] M (fun M' => mOk M' ∧ Mv (fun _ => False) (fun x => x = a + 101 ∨ x = a + 102) M a M' ∧ En M' a g R W ∧ (∀ v : Nat, v < W → mI M' (a + 101) v = mI M (a + 105) (12 * k + v)) ∧ ∀ r : Nat, r < R → mI M' (a + 102) r = 0) := by
  have hO := h.1
  have w := h.2.1
  have hg := h.2.2.1.2
  have hBd := h.2.2.2.2.2.2.2.1.1
  have g6 := h.2.2.2.2.2.1.1
  have g12 := h.2.2.2.2.2.1.2.1
  have r9 := h.2.2.1.1
  have ik : i32 (k : Int) := i32s (by omega) (by omega)
  have no : ∀ q : Nat, False → q ∈ nums a := fun _ z => z.elim
  have gsl : ∀ {Mx : mM}, Mv (fun _ => False) (fun x => x = a + 101 ∨ x = a + 102) M a Mx → Gs M Mx g := fun m => gs_st w hg m no (fun _ z => z.elim) (fun x hx => by omega)
  -- the formulas are forgotten
  have L2 : ∀ (c r : Nat) (M2 : mM), r + c = R → Mv (fun _ => False) (fun x => x = a + 101 ∨ x = a + 102) M a M2 → (∀ v : Nat, v < W → mI M2 (a + 101) v = mI M (a + 105) (12 * k + v)) → (∀ r' : Nat, r' < r → mI M2 (a + 102) r' = 0) → h_MM_enter_38 G d a r M2 (fun M' => mOk M' ∧ Mv (fun _ => False) (fun x => x = a + 101 ∨ x = a + 102) M a M' ∧ En M' a g R W ∧ (∀ v : Nat, v < W → mI M' (a + 101) v = mI M (a + 105) (12 * k + v)) ∧ ∀ r : Nat, r < R → mI M' (a + 102) r = 0) := by
    intro c
    induction c with
    | zero =>
      intro r M2 hr m2 n2 f2
      have er : r = R := by omega
      subst er
      have w2 := m2.2.1
      have gs := gsl m2
      refine k_MM_enter_38 m2.1 (i32s (by omega) (by omega)) ⟨w2.1.1, ?_⟩
      rw [m2.rfl_a w no, r9, gs.1, g6]
      refine ⟨(w2.gp hg).1, fun _ => ⟨m2.1, m2, ⟨fun r hr _ q => absurd (f2 r hr) q, fun v hv' => ?_⟩, n2, f2⟩, fun q => absurd (Int.le_refl _) q⟩
      rw [(gs.2.1 19 (by omega) (by omega)).1, (gs.2.1 20 (by omega) (by omega)).1, n2 v hv']
      exact hv v hv'
    | succ c ih =>
      intro r M2 hr m2 n2 f2
      have w2 := m2.2.1
      have gs := gsl m2
      have A2 : mK M2 (a + 102) = 31 ∧ mN M2 (a + 102) = 60 := w2.1.2.2.2.2.2.2.2.1.2.2.2.1
      refine k_MM_enter_38 m2.1 (i32s (by omega) (by omega)) ⟨w2.1.1, ?_⟩
      rw [show mR M2 a 26 = a + 102 from w2.1.2.2.2.2.1.2.2.2.2.2.2.2.2.2.2.1, m2.rfl_a w no, r9, gs.1, g6, Int.toNat_natCast]
      refine ⟨(w2.gp hg).1, fun q => absurd q (by omega), fun _ => ⟨A2.1, by rw [A2.2]; omega, fun M3 e3 => ?_⟩⟩
      obtain ⟨m3, f3, l3⟩ := mv_cell (v := 0) ⟨by decide, by decide⟩ m2.1 w2 (show a ≤ a + 102 by omega) (offx (a := a) (o := 102) (by decide)) e3
      have nx := ih (r + 1) M3 (by omega) (m2.trans (m3.mono (fun _ z => z.elim) (fun x z => Or.inr z) (fun _ z => z.elim))) (fun v hv' => by rw [f3, if_neg (fun z => by omega)]; exact n2 v hv') (fun r' hr' => ?_)
      · rw [show ((r + 1 : Nat) : Int) = (r : Int) + 1 by omega] at nx
        exact nx
      · rw [f3]
        by_cases z : r' = r
        · rw [if_pos ⟨rfl, z⟩]
        · rw [if_neg (fun y => z y.2)]
          exact f2 r' (by omega)
  refine k_MM_enter hO ik ?_
  suffices L1 : ∀ (c v : Nat) (M2 : mM), v + c = W → Mv (fun _ => False) (fun x => x = a + 101 ∨ x = a + 102) M a M2 → mI M2 (a + 105) = mI M (a + 105) → (∀ v' : Nat, v' < v → mI M2 (a + 101) v' = mI M (a + 105) (12 * k + v')) → h_MM_enter_2 G d a k v M2 (fun M' => mOk M' ∧ Mv (fun _ => False) (fun x => x = a + 101 ∨ x = a + 102) M a M' ∧ En M' a g R W ∧ (∀ v : Nat, v < W → mI M' (a + 101) v = mI M (a + 105) (12 * k + v)) ∧ ∀ r : Nat, r < R → mI M' (a + 102) r = 0) from L1 W 0 M (by omega) (Mv.refl hO w (fun _ z => z.elim)) rfl (fun v hv' => absurd hv' (by omega))
  intro c
  induction c with
  | zero =>
    intro v M2 hc m2 e105 n2
    have ev : v = W := by omega
    subst ev
    have w2 := m2.2.1
    have gs := gsl m2
    refine k_MM_enter_2 m2.1 ik (i32s (by omega) (by omega)) ⟨w2.1.1, ?_⟩
    rw [m2.rfl_a w no, r9, gs.1, g12]
    exact ⟨(w2.gp hg).1, fun _ => L2 R 0 M2 (by omega) m2 n2 (fun r hr => absurd hr (by omega)), fun q => absurd (Int.le_refl _) q⟩
  | succ c ih =>
    intro v M2 hc m2 e105 n2
    have w2 := m2.2.1
    have gs := gsl m2
    have A1 : mK M2 (a + 101) = 30 ∧ mN M2 (a + 101) = 12 := w2.1.2.2.2.2.2.2.2.1.2.2.1
    have A5 : mK M2 (a + 105) = 30 ∧ mN M2 (a + 105) = 6144 := w2.1.2.2.2.2.2.2.2.2.1.1
    have r31 : mR M2 a 31 = a + 105 := w2.1.2.2.2.2.2.1.1
    have r25 : mR M2 a 25 = a + 101 := w2.1.2.2.2.2.1.2.2.2.2.2.2.2.2.2.1
    have e9 : mR M2 a 9 = g := by rw [m2.rfl_a w no]; exact r9
    refine k_MM_enter_2 m2.1 ik (i32s (by omega) (by omega)) ⟨w2.1.1, ?_⟩
    rw [r31, r25, e9, gs.1, g12, Int.toNat_natCast, show 12 * (k : Int) + (v : Int) = ((12 * k + v : Nat) : Int) by omega, Int.toNat_natCast, e105]
    refine ⟨(w2.gp hg).1, fun q => absurd q (by omega), fun _ => ⟨A5.1, by rw [A5.2]; omega, A1.1, by rw [A1.2]; omega, fun M3 e3 => ?_⟩⟩
    obtain ⟨m3, f3, l3⟩ := mv_cell (hO _ _).1 m2.1 w2 (show a ≤ a + 101 by omega) (offx (a := a) (o := 101) (by decide)) e3
    have nx := ih (v + 1) M3 (by omega) (m2.trans (m3.mono (fun _ z => z.elim) (fun x z => Or.inl z) (fun _ z => z.elim))) (by rw [← e105]; exact m3.cell w2 no (by omega) (offx (a := a) (o := 105) (by decide)).2.1 (offx (a := a) (o := 105) (by decide)).2.2 (by omega)) (fun v' hv' => ?_)
    · rw [show ((v + 1 : Nat) : Int) = (v : Int) + 1 by omega] at nx
      exact nx
    · rw [f3]
      by_cases z : v' = v
      · rw [if_pos ⟨rfl, z⟩, z]
      · rw [if_neg (fun y => z y.2)]
        exact n2 v' (by omega)
/-- a state's values -/
def lsR (M : mM) (a W k : Nat) : List Int := (List.range W).map (fun v => mI M (a + 105) (12 * k + v))
theorem getD_mp {V v : Nat} {f : Nat → Int} (h : v < V) : ((List.range V).map f).getD v 0 = f v := by
  rw [List.getD_eq_getElem?_getD, List.getElem?_map, List.getElem?_range h]
  rfl
/-- the state is entered: names are worth what they are worth there -/
theorem xv_ent (h : GG M' a g T R W C Z E tg) (hp : GP ww pl XV ev M' g R W C T E tgI cms lo hi) (h1 : ∀ v : Nat, v < W → mI M' (a + 101) v = sg.getD v 0) (h2 : ∀ r : Nat, r < R → mI M' (a + 102) r = 0) : XVq M' a g R W (XV sg) := by
  refine ⟨fun r hr => ⟨fun z => hp.2.1 sg r hr z, fun _ z => absurd (h2 r hr) z⟩, fun v hv => ?_⟩
  obtain ⟨v1, v2, v3, v4, v5, v6⟩ := h.2.2.2.2.2.2.2.1.2.2.2.1 v hv
  have e : tn M' g (100 + (v : Int)) = mI M' (g + 18) v := by
    unfold tn
    rw [if_pos (show (100 : Int) ≤ 100 + (v : Int) by omega), show (100 + (v : Int) - 100).toNat = v by omega]
    rcases v6 with y | y <;> rw [y] <;> rfl
  rw [hp.2.2.1 sg v hv, e, h1 v hv]
  unfold vr9
  rcases v6 with y | y
  · rw [y]; rfl
  · rw [y]; rfl
/-- a step elsewhere leaves the names' values -/
theorem XVq.mv {xv : Int → vrs} (h : XVq M a g R W xv) (w : Wd M a) (m : Mv P S M a M') (hin : ∀ q, P q → q ∈ nums a) (gs : Gs M M' g) (hS : ∀ x, S x → ¬ (a + 101 ≤ x ∧ x ≤ a + 104)) : XVq M' a g R W xv := by
  have c101 := m.cellL w hin (offx (a := a) (o := 101) (by decide)) (fun z => hS _ z (by omega))
  have c102 := m.cellL w hin (offx (a := a) (o := 102) (by decide)) (fun z => hS _ z (by omega))
  have c103 := m.cellL w hin (offx (a := a) (o := 103) (by decide)) (fun z => hS _ z (by omega))
  have c104 := m.cellL w hin (offx (a := a) (o := 104) (by decide)) (fun z => hS _ z (by omega))
  unfold XVq
  rw [gs_tn gs, c101.1, c102.1, c103.2, c104.2, (gs.2.1 13 (by omega) (by omega)).1, (gs.2.1 16 (by omega) (by omega)).2, (gs.2.1 17 (by omega) (by omega)).2, (gs.2.1 18 (by omega) (by omega)).1]
  exact h
end ENX
end
section
/-! The reference: the chances of a command, exactly. -/
section CHX
variable {G : mG} {d a g T R W C Z nb : Nat} {M M' : mM} {E : Eg9} {tg : Int} {ww pl lo hi : Nat → Int} {XV : List Int → Int → vrs} {ev : List Int → Nat → Nat → vrs} {tgI : Nat × Nat} {cms : List cm9} {sg : List Int}
/-- the first n chances -/
def lchR (M : mM) (a n : Nat) : List (Int × Int) := (List.range n).map (fun b => (mL M (a + 21189) b, mL M (a + 21190) b))
theorem lchR_len {n : Nat} : (lchR M a n).length = n := by
  unfold lchR
  rw [List.length_map, List.length_range]
theorem lchR_s {n : Nat} : lchR M a (n + 1) = lchR M a n ++ [(mL M (a + 21189) n, mL M (a + 21190) n)] := by
  unfold lchR
  rw [List.range_succ, List.map_append]
  rfl
theorem lchR_cg {n : Nat} (h : ∀ b, b < n → mL M' (a + 21189) b = mL M (a + 21189) b ∧ mL M' (a + 21190) b = mL M (a + 21190) b) : lchR M' a n = lchR M a n := by
  unfold lchR
  exact List.map_congr_left (fun b hb => by rw [(h b (List.mem_range.mp hb)).1, (h b (List.mem_range.mp hb)).2])
theorem lchR_get {n b : Nat} (h : b < n) : (lchR M a n)[b]? = some (mL M (a + 21189) b, mL M (a + 21190) b) := by
  unfold lchR
  rw [List.getElem?_map, List.getElem?_range h]
  rfl
theorem lchR_drop {n b : Nat} (h : b < n) : (lchR M a n).drop b = (mL M (a + 21189) b, mL M (a + 21190) b) :: (lchR M a n).drop (b + 1) := by
  obtain ⟨hl, he⟩ := List.getElem?_eq_some_iff.mp (lchR_get (M := M) (a := a) h)
  rw [List.drop_eq_getElem_cons hl, he]
theorem gcd_un {x A B : Int} (h1 : 1 ≤ x) (h2 : x ∣ A) (h3 : x ∣ B) (h4 : ∀ z : Int, z ∣ A → z ∣ B → z ∣ x) : x = (Int.gcd A B : Int) := by
  have d1 : x ∣ (Int.gcd A B : Int) := Int.dvd_coe_gcd h2 h3
  have d2 : (Int.gcd A B : Int) ∣ x := h4 _ (Int.gcd_dvd_left ..) (Int.gcd_dvd_right ..)
  exact Int.dvd_antisymm (by omega) (by omega) d1 d2
theorem Gs.trans {M2 : mM} (h : Gs M M2 g) (k : Gs M2 M' g) : Gs M M' g := ⟨k.1.trans h.1, fun i i1 i2 => ⟨(k.2.1 i i1 i2).1.trans (h.2.1 i i1 i2).1, (k.2.1 i i1 i2).2.trans (h.2.1 i i1 i2).2⟩, fun q hq => ⟨(k.2.2 q hq).1.trans (h.2.2 q hq).1, fun j => ((k.2.2 q hq).2 j).trans ((h.2.2 q hq).2 j)⟩⟩
/-- a fault of chances -/
def chE (ch : (Int × Int) × List (Int × Int)) (pc : Int) (M' : mM) (a : Nat) : Prop := (ch.1.1 ≠ 0 ∧ mI M' a 16 = ch.1.1 ∧ mI M' a 17 = ch.1.2) ∨ (ch.1.1 = 0 ∧ muq9 ch.2 1 = 0 ∧ mI M' a 16 = 6 ∧ mI M' a 17 = pc)
/-- what chances come to -/
def chY (ch : (Int × Int) × List (Int × Int)) (pc : Int) (nb : Nat) (xv : Int → vrs) (a g R W : Nat) (x : Int) (M' : mM) : Prop := chE ch pc M' a ∨ (ch.1.1 = 0 ∧ muq9 ch.2 1 ≠ 0 ∧ mI M' a 16 = 0 ∧ x = muq9 ch.2 1 ∧ lchR M' a nb = ch.2 ∧ XVq M' a g R W xv)
theorem x_ch129 {c nb : Nat} {pc : Int} {xv : Int → vrs} {ch : (Int × Int) × List (Int × Int)} (hc : c < C) (ipl : i32 pc) (hnb : nb ≤ 8) : ∀ (t b : Nat) (j : Int) (M2 : mM), b + t = nb → xg M a g T R W C Z E tg M2 → mI M2 (g + 25) c = (nb : Int) → i64 j → (mI M2 a 16 = 0 → chk1 M2 a nb ∧ 1 ≤ j ∧ j < 1000000000 ∧ ∀ b' : Nat, b' < b → mL M2 (a + 21190) b' ∣ j) → (mI M2 a 16 = 0 → ch = ((0, 0), lchR M2 a nb) ∧ muq9 ch.2 1 = muq9 (ch.2.drop b) j ∧ XVq M2 a g R W xv) → (mI M2 a 16 ≠ 0 → chE ch pc M2 a) → h_MM_chances_129 G d a c pc j b M2 (fun x M' => i64 x ∧ mOk M' ∧ chQ M a g T R W C Z E tg nb x M' ∧ chY ch pc nb xv a g R W x M') := by
  intro t
  induction t with
  | zero =>
    intro b j M2 hb h h25 ij hj hz hf
    have eb : b = nb := by omega
    subst eb
    have gg := h.2.1
    have w2 := gg.2.1
    have hg := gg.2.2.1.2
    have hBd := gg.2.2.2.2.2.2.2.1.1
    refine k_MM_chances_129 gg.1 (i32s (by omega) (by omega)) ipl ij (i32s (by omega) (by omega)) ⟨w2.1.1, ?_⟩
    rw [gg.2.2.1.1, show mR M2 g 22 = g + 25 from (w2.gp hg).2.2.1.2.2.2.2.2.2.2.1, Int.toNat_natCast, h25]
    have b60 : ((0 : Int) ≤ (c : Int) ∧ (c : Int) < ((60 : Nat) : Int)) := by omega
    refine ⟨(w2.gp hg).1, (w2.gp hg).2.2.2.2.2.2.2.2.1.1, by rw [(w2.gp hg).2.2.2.2.2.2.2.2.1.2]; exact b60, fun _ => ⟨ij, gg.1, ⟨ij, h, ?_⟩, ?_⟩, fun q => absurd (Or.inl (Int.le_refl _)) q⟩
    · by_cases z : mI M2 a 16 = 0
      · exact Or.inr ⟨z, hj z⟩
      · exact Or.inl z
    · by_cases z : mI M2 a 16 = 0
      · obtain ⟨z1, z2, z3⟩ := hz z
        obtain ⟨-, j1, -⟩ := hj z
        have e2 : ch.2 = lchR M2 a b := by rw [z1]
        have e3 : muq9 ch.2 1 = j := by
          rw [z2, e2, List.drop_eq_nil_of_le (by rw [lchR_len]; exact Nat.le_refl _)]
          rfl
        exact Or.inr ⟨by rw [z1], by rw [e3]; omega, z, e3.symm, e2.symm, z3⟩
      · exact Or.inl (hf z)
  | succ t ih =>
    intro b j M2 hb h h25 ij hj hz hf
    have gg := h.2.1
    have w2 := gg.2.1
    have hg := gg.2.2.1.2
    have hBd := gg.2.2.2.2.2.2.2.1.1
    have b60 : ((0 : Int) ≤ (c : Int) ∧ (c : Int) < ((60 : Nat) : Int)) := by omega
    have b8 : ((0 : Int) ≤ (b : Int) ∧ (b : Int) < ((8 : Nat) : Int)) := by omega
    have ib : i32 (b : Int) := i32s (by omega) (by omega)
    have ic : i32 (c : Int) := i32s (by omega) (by omega)
    have hbn : b < nb := by omega
    refine k_MM_chances_129 gg.1 ic ipl ij ib ⟨w2.1.1, ?_⟩
    rw [gg.2.2.1.1, show mR M2 g 22 = g + 25 from (w2.gp hg).2.2.1.2.2.2.2.2.2.2.1, Int.toNat_natCast, h25, (r4546 w2).1.2, Int.toNat_natCast]
    refine ⟨(w2.gp hg).1, (w2.gp hg).2.2.2.2.2.2.2.2.1.1, by rw [(w2.gp hg).2.2.2.2.2.2.2.2.1.2]; exact b60, fun q => ⟨ij, gg.1, ⟨ij, h, Or.inl ?_⟩, Or.inl (hf ?_)⟩, fun q => ?_⟩
    · rcases q with q | q
      · omega
      · exact q
    · rcases q with q | q
      · omega
      · exact q
    have z2 : mI M2 a 16 = 0 := Classical.byContradiction (fun z => q (Or.inr z))
    obtain ⟨c1, j1, j2, j3⟩ := hj z2
    obtain ⟨z1, zm, zx⟩ := hz z2
    obtain ⟨e1, e2, e3, e4⟩ := c1 b hbn
    refine ⟨(r4546 w2).2.2.1, by rw [(r4546 w2).2.2.2]; exact b8, (s_MM_divisor2 (by omega) ⟨by omega, by omega, by omega⟩ gg.1).mono (fun x M3 h3 => ?_)⟩
    obtain ⟨em, x1, x2, hxa, hxb, hxc⟩ := h3
    have xg9 : x = (Int.gcd j (mL M2 (a + 21190) b) : Int) := gcd_un x1 hxa hxb hxc
    obtain ⟨u, hu⟩ := hxa
    obtain ⟨v, hv⟩ := hxb
    subst em
    have xne : x ≠ 0 := by omega
    have td : Int.tdiv j x = u := by rw [hu]; exact Int.mul_tdiv_cancel_left u xne
    have u0 : 0 < u := by
      by_cases y : 0 < u
      · exact y
      · have := Int.mul_le_mul_of_nonneg_left (show u ≤ 0 by omega) (show 0 ≤ x by omega)
        rw [← hu] at this
        omega
    have u1 : u ≤ j := by
      have := Int.mul_le_mul_of_nonneg_right x1 (show 0 ≤ u by omega)
      rw [← hu] at this
      omega
    have pr : 0 ≤ u * mL M3 (a + 21190) b ∧ u * mL M3 (a + 21190) b ≤ 1000000000 * 1000000000 := ⟨Int.mul_nonneg (by omega) (by omega), Int.mul_le_mul (by omega) (by omega) (by omega) (by omega)⟩
    have p1 : 1 ≤ u * mL M3 (a + 21190) b := by
      have := Int.mul_le_mul (show 1 ≤ u by omega) e3 (by omega) (by omega)
      omega
    have ip : i64 (u * mL M3 (a + 21190) b) := ⟨by omega, by omega⟩
    have dv : ∀ b' : Nat, b' < b + 1 → mL M3 (a + 21190) b' ∣ u * mL M3 (a + 21190) b := fun b' hb' => by
      by_cases y : b' = b
      · rw [y]; exact Int.dvd_mul_left u _
      · refine Int.dvd_trans (j3 b' (by omega)) ?_
        rw [hu, hv, show u * (x * v) = x * u * v by rw [← Int.mul_assoc, Int.mul_comm u x]]
        exact Int.dvd_mul_right (x * u) v
    have uq : j / x = u := by rw [hu]; exact Int.mul_ediv_cancel_left u xne
    have mq : muq9 (ch.2.drop b) j = if 1000000000 ≤ u * mL M3 (a + 21190) b then 0 else muq9 (ch.2.drop (b + 1)) (u * mL M3 (a + 21190) b) := by
      have e2 : ch.2 = lchR M3 a nb := by rw [z1]
      rw [e2, lchR_drop hbn]
      show (if 1000000000 ≤ j / (Int.gcd j (mL M3 (a + 21190) b) : Int) * mL M3 (a + 21190) b then 0 else muq9 ((lchR M3 a nb).drop (b + 1)) (j / (Int.gcd j (mL M3 (a + 21190) b) : Int) * mL M3 (a + 21190) b)) = _
      rw [← xg9, uq]
    rw [(r4546 w2).1.2, td]
    refine ⟨⟨by omega, by omega⟩, gg.1, xne, w2.1.1, (r4546 w2).2.2.1, by rw [(r4546 w2).2.2.2]; exact b8, ip, fun q6 => ?_, fun q6 => ?_⟩
    · refine k_MM_chances_187 gg.1 ic ipl ip ib ?_
      rw [show (b : Int) + 1 = ((b + 1 : Nat) : Int) by omega]
      have q7 := (cmpz _ _).2.2.1.1 q6
      exact ih (b + 1) _ M3 (by omega) h h25 ip (fun _ => ⟨c1, p1, q7, dv⟩) (fun _ => ⟨z1, by rw [zm, mq, if_neg (by omega)], zx⟩) hf
    · refine (s_MM_stop ⟨by decide, by decide⟩ ipl gg.1 w2).mono (fun M4 h4 => ⟨h4.1.1, ?_⟩)
      have X4 := h.stp h4
      refine k_MM_chances_187 h4.1.1 ic ipl ip ib ?_
      rw [show (b : Int) + 1 = ((b + 1 : Nat) : Int) by omega]
      have q7 : 1000000000 ≤ u * mL M3 (a + 21190) b := by
        by_cases y : u * mL M3 (a + 21190) b < 1000000000
        · exact absurd ((cmpz _ _).2.2.1.2 y) q6
        · omega
      refine ih (b + 1) _ M4 (by omega) X4 ?_ ip (fun z => ?_) (fun z => ?_) (fun _ => Or.inr ⟨by rw [z1], by rw [zm, mq, if_pos q7], h4.2.1, h4.2.2.1⟩)
      · have gs := gs_st (P := fun _ => False) (S := fun x => x = a) w2 hg h4.1 (fun _ z => z.elim) (fun _ z => z.elim) (fun x z => by omega)
        rw [(gs.2.1 25 (by omega) (by omega)).1]
        exact h25
      · rw [h4.2.1] at z
        exact absurd z (by decide)
      · rw [h4.2.1] at z
        exact absurd z (by decide)
theorem x_MM_chances {c nb : Nat} {pc : Int} {cm : cm9} (h : GG M a g T R W C Z E tg) (hn : En M a g R W) (hp : GP ww pl XV ev M g R W C T E tgI cms lo hi) (hx : XVq M a g R W (XV sg)) (z16 : mI M a 16 = 0) (hcm : cms[c]? = some cm) (hc : c < C) (ipl : i32 pc) (hnb : mI M (g + 25) c = (nb : Int)) : Cj G y_MM_chances (d + 6) [vr a, vi c, vi pc] M (fun x M' => i64 x ∧ mOk M' ∧ chQ M a g T R W C Z E tg nb x M' ∧ chY (chq9 ev sg cm.2.2.2) pc nb (XV sg) a g R W x M') := by
  have hg := h.2.2.1.2
  have hBd := h.2.2.2.2.2.2.2.1.1
  have nb8 : nb ≤ 8 := by
    have := (h.2.2.2.2.2.2.2.1.2.2.2.2.1 c hc).2.2.1
    omega
  have ic : i32 (c : Int) := i32s (by omega) (by omega)
  refine k_MM_chances h.1 ic ipl ?_
  suffices H : ∀ (t b : Nat) (M2 : mM), b + t = nb → xg M a g T R W C Z E tg M2 → mI M2 (g + 25) c = (nb : Int) → (mI M2 a 16 = 0 → chk1 M2 a b) → (mI M2 a 16 = 0 → chq9 ev sg cm.2.2.2 = ((chq9 ev sg (cm.2.2.2.drop b)).1, lchR M2 a b ++ (chq9 ev sg (cm.2.2.2.drop b)).2) ∧ XVq M2 a g R W (XV sg)) → (mI M2 a 16 ≠ 0 → chE (chq9 ev sg cm.2.2.2) pc M2 a) → h_MM_chances_2 G (d + 5) a c pc b M2 (fun x M' => i64 x ∧ mOk M' ∧ chQ M a g T R W C Z E tg nb x M' ∧ chY (chq9 ev sg cm.2.2.2) pc nb (XV sg) a g R W x M') from H nb 0 M (by omega) ⟨xe.refl h.1 h.2.1, h, hn⟩ hnb (fun _ b' hb' => absurd hb' (by omega)) (fun _ => ⟨rfl, hx⟩) (fun z => absurd z16 z)
  have hR := h.2.2.2.2.2.2.2.1.1.1
  have hlen : cm.2.2.2.length = nb := by
    have e := (hp.2.2.2.2.2.2 c cm hcm).2.2.2.1
    rw [hnb] at e
    omega
  intro t
  induction t with
  | zero =>
    intro b M2 hb x h25 hch hz hf
    have eb : b = nb := by omega
    subst eb
    have gg := x.2.1
    have w2 := gg.2.1
    have b60 : ((0 : Int) ≤ (c : Int) ∧ (c : Int) < ((60 : Nat) : Int)) := by omega
    refine k_MM_chances_2 gg.1 ic ipl (i32s (by omega) (by omega)) ⟨w2.1.1, ?_⟩
    rw [gg.2.2.1.1, show mR M2 g 22 = g + 25 from (w2.gp hg).2.2.1.2.2.2.2.2.2.2.1, Int.toNat_natCast, h25]
    exact ⟨(w2.gp hg).1, (w2.gp hg).2.2.2.2.2.2.2.2.1.1, by rw [(w2.gp hg).2.2.2.2.2.2.2.2.1.2]; exact b60, fun _ => x_ch129 hc ipl nb8 b 0 1 M2 (by omega) x h25 ⟨by decide, by decide⟩ (fun z => ⟨hch z, by decide, by decide, fun b' hb' => absurd hb' (by omega)⟩) (fun z => by
      obtain ⟨z1, z2⟩ := hz z
      have e9 : chq9 ev sg cm.2.2.2 = ((0, 0), lchR M2 a b) := by
        rw [z1, List.drop_eq_nil_of_le (by omega)]
        show ((0, 0), lchR M2 a b ++ []) = _
        rw [List.append_nil]
      exact ⟨e9, by rw [e9]; rfl, z2⟩) hf, fun q => absurd (Or.inl (Int.le_refl _)) q⟩
  | succ t ih =>
    intro b M2 hb x h25 hch hz hf
    have gg := x.2.1
    have w2 := gg.2.1
    have b60 : ((0 : Int) ≤ (c : Int) ∧ (c : Int) < ((60 : Nat) : Int)) := by omega
    have b8 : ((0 : Int) ≤ (b : Int) ∧ (b : Int) < ((8 : Nat) : Int)) := by omega
    have b480 : ((0 : Int) ≤ ((8 * c + b : Nat) : Int) ∧ ((8 * c + b : Nat) : Int) < ((480 : Nat) : Int)) := by omega
    have ib : i32 (b : Int) := i32s (by omega) (by omega)
    have bc := (gg.2.2.2.2.2.2.2.1.2.2.2.2.1 c hc).2.2.2 b (by rw [h25]; omega)
    refine k_MM_chances_2 gg.1 ic ipl ib ⟨w2.1.1, ?_⟩
    rw [gg.2.2.1.1, show mR M2 g 22 = g + 25 from (w2.gp hg).2.2.1.2.2.2.2.2.2.2.1, show mR M2 g 23 = g + 26 from (w2.gp hg).2.2.1.2.2.2.2.2.2.2.2.1, Int.toNat_natCast, h25, show 8 * (c : Int) + (b : Int) = ((8 * c + b : Nat) : Int) by omega, Int.toNat_natCast, Int.toNat_natCast]
    refine ⟨(w2.gp hg).1, (w2.gp hg).2.2.2.2.2.2.2.2.1.1, by rw [(w2.gp hg).2.2.2.2.2.2.2.2.1.2]; exact b60, fun q => ?_, fun q => ⟨(w2.gp hg).2.2.2.2.2.2.2.2.2.1.1, by rw [(w2.gp hg).2.2.2.2.2.2.2.2.2.1.2]; exact b480, ?_⟩⟩
    · have z2 : ¬ (mI M2 a 16 = 0) := by
        rcases q with q | q
        · omega
        · exact q
      exact x_ch129 hc ipl nb8 nb 0 1 M2 (by omega) x h25 ⟨by decide, by decide⟩ (fun z => absurd z z2) (fun z => absurd z z2) hf
    have z2 : mI M2 a 16 = 0 := Classical.byContradiction (fun z => q (Or.inr z))
    have hch := hch z2
    obtain ⟨zq, zx⟩ := hz z2
    obtain ⟨br, hbr⟩ : ∃ br : br9, cm.2.2.2[b]? = some br := ⟨_, List.getElem?_eq_getElem (by omega)⟩
    have gsM : Gs M M2 g := x.1.gs h.2.1 hg
    have rb := ((hp.2.2.2.2.2.2 c cm hcm).2.2.2.2 b br hbr).gs gsM hR
    have dq : cm.2.2.2.drop b = br :: cm.2.2.2.drop (b + 1) := by
      obtain ⟨hl, he⟩ := List.getElem?_eq_some_iff.mp hbr
      rw [List.drop_eq_getElem_cons hl, he]
    rw [dq] at zq
    have hf2 : ∀ sg, FmX ww pl (XV sg) M2 g R E.1 := (hp.gs gsM hR).1
    refine (x_MM_reach (d := d) gg x.2.2 hf2 zx rb.2.1 z2).mono (fun M3 t3 => ?_)
    obtain ⟨o3, ⟨xr3, gg3, en3, v3⟩, u3⟩ := t3
    have x3 := xr3.xe w2
    have X3 : xg M a g T R W C Z E tg M3 := ⟨x.1.trans x3, gg3, en3⟩
    have w3 := gg3.2.1
    have gs3 := x3.gs w2 hg
    have nw : ∀ o, 21188 ≤ o → ¬ woS a (a + o) := fun o ho z => by
      have z' : a + o = a ∨ a + o = a + 97 ∨ a + o = a + 98 ∨ a + o = a + 102 ∨ a + o = a + 103 ∨ a + o = a + 104 := z
      omega
    have k89 := (xr3.1.cellL w2 in99 (offx (a := a) (o := 21189) (by decide)) (nw _ (by omega))).2
    have k90 := (xr3.1.cellL w2 in99 (offx (a := a) (o := 21190) (by decide)) (nw _ (by omega))).2
    have B3 : mR M3 a 21 = a + 97 ∧ mR M3 a 22 = a + 98 := ⟨w3.1.2.2.2.2.1.2.2.2.2.2.2.1, w3.1.2.2.2.2.1.2.2.2.2.2.2.2.1⟩
    have A3 : (mK M3 (a + 97) = 33 ∧ mN M3 (a + 97) = 16400) ∧ (mK M3 (a + 98) = 33 ∧ mN M3 (a + 98) = 16400) := ⟨w3.1.2.2.2.2.2.2.2.1.1, w3.1.2.2.2.2.2.2.2.1.2.1⟩
    rw [B3.1, (r4546 w3).1.1]
    refine ⟨o3, w3.1.1, A3.1.1, by rw [A3.1.2]; decide, (r4546 w3).2.1.1, by rw [(r4546 w3).2.1.2]; exact b8, fun M4 e4 => ?_⟩
    obtain ⟨m4, f4, n4, i4⟩ := mv_ulx (o3 _ _).2 o3 w3 e4
    have X4 := X3.st m4 (fun _ z => z.elim) (fun y z => Or.inr (Or.inr (by omega))) (fun i _ _ _ => by rw [i4])
    have w4 := X4.2.1.2.1
    have B4 : mR M4 a 21 = a + 97 ∧ mR M4 a 22 = a + 98 := ⟨w4.1.2.2.2.2.1.2.2.2.2.2.2.1, w4.1.2.2.2.2.1.2.2.2.2.2.2.2.1⟩
    have A4 : (mK M4 (a + 97) = 33 ∧ mN M4 (a + 97) = 16400) ∧ (mK M4 (a + 98) = 33 ∧ mN M4 (a + 98) = 16400) := ⟨w4.1.2.2.2.2.2.2.2.1.1, w4.1.2.2.2.2.2.2.2.1.2.1⟩
    rw [B4.2, (r4546 w4).1.2, n4 (a + 98) (by omega)]
    refine ⟨A4.2.1, by rw [A4.2.2]; decide, (r4546 w4).2.2.1, by rw [(r4546 w4).2.2.2]; exact b8, fun M5 e5 => ?_⟩
    obtain ⟨m5, f5, n5', i5⟩ := mv_ulx (o3 _ _).2 m4.1 w4 e5
    have X5 := X4.st m5 (fun _ z => z.elim) (fun y z => Or.inr (Or.inr (by omega))) (fun i _ _ _ => by rw [i5])
    have w5 := X5.2.1.2.1
    have B5 : mR M5 a 21 = a + 97 ∧ mR M5 a 22 = a + 98 := ⟨w5.1.2.2.2.2.1.2.2.2.2.2.2.1, w5.1.2.2.2.2.1.2.2.2.2.2.2.2.1⟩
    have A5 : (mK M5 (a + 97) = 33 ∧ mN M5 (a + 97) = 16400) ∧ (mK M5 (a + 98) = 33 ∧ mN M5 (a + 98) = 16400) := ⟨w5.1.2.2.2.2.2.2.2.1.1, w5.1.2.2.2.2.2.2.2.1.2.1⟩
    have iA : mI M5 = mI M3 := by rw [i5, i4]
    have l97 : mL M5 (a + 97) = mL M3 (a + 97) := by rw [n5' _ (by omega), n4 _ (by omega)]
    have l98 : mL M5 (a + 98) = mL M3 (a + 98) := by rw [n5' _ (by omega), n4 _ (by omega)]
    have q89 : ∀ k, mL M5 (a + 21189) k = if k = b then mL M3 (a + 97) 0 else mL M2 (a + 21189) k := fun k => by rw [n5' _ (by omega), f4, k89]
    have q90 : ∀ k, mL M5 (a + 21190) k = if k = b then mL M3 (a + 98) 0 else mL M2 (a + 21190) k := fun k => by rw [f5, n4 _ (by omega), k90]
    have h25' : mI M5 (g + 25) c = (nb : Int) := by rw [iA, (gs3.2.1 25 (by omega) (by omega)).1]; exact h25
    rw [B5.1, B5.2, l97, l98, X5.2.1.2.2.1.1, show mR M5 g 24 = g + 27 from (w5.gp hg).2.2.1.2.2.2.2.2.2.2.2.2.1]
    have z35 : mI M5 a 16 = 0 → vok 0 (mL M3 (a + 97) 0) (mL M3 (a + 98) 0) := fun z => by
      rw [iA] at z
      rcases v3 with y | ⟨-, y⟩
      · exact absurd z y
      · exact y
    have x35 : Mv (fun _ => False) (fun y => a + 21189 ≤ y ∧ y ≤ a + 21190) M3 a M5 := (m4.mono (fun _ z => z) (fun y z => by omega) (fun _ z => z.elim)).trans (m5.mono (fun _ z => z) (fun y z => by omega) (fun _ z => z.elim))
    have gs35 := gs_st w3 hg x35 (fun _ z => z.elim) (fun _ z => z.elim) (fun y z => by omega)
    have lR : lchR M5 a (b + 1) = lchR M2 a b ++ [(mL M3 (a + 97) 0, mL M3 (a + 98) 0)] := by
      rw [lchR_s, q89, q90, if_pos rfl, if_pos rfl, lchR_cg (M := M2) (fun b' hb' => by rw [q89, q90, if_neg (by omega), if_neg (by omega)]; exact ⟨rfl, rfl⟩)]
    have nx : ∀ M6, xg M a g T R W C Z E tg M6 → mI M6 (g + 25) c = (nb : Int) → (mI M6 a 16 = 0 → chk1 M6 a (b + 1)) → (mI M6 a 16 = 0 → chq9 ev sg cm.2.2.2 = ((chq9 ev sg (cm.2.2.2.drop (b + 1))).1, lchR M6 a (b + 1) ++ (chq9 ev sg (cm.2.2.2.drop (b + 1))).2) ∧ XVq M6 a g R W (XV sg)) → (mI M6 a 16 ≠ 0 → chE (chq9 ev sg cm.2.2.2) pc M6 a) → h_MM_chances_118 G (d + 5) a c pc b M6 (fun x M' => i64 x ∧ mOk M' ∧ chQ M a g T R W C Z E tg nb x M' ∧ chY (chq9 ev sg cm.2.2.2) pc nb (XV sg) a g R W x M') := fun M6 X6 k25 kc kz kf => by
      refine k_MM_chances_118 X6.2.1.1 ic ipl ib ?_
      rw [show (b : Int) + 1 = ((b + 1 : Nat) : Int) by omega]
      exact ih (b + 1) M6 (by omega) X6 k25 kc kz kf
    refine ⟨fun _ => ⟨A5.1.1, by rw [A5.1.2]; decide, fun _ => ⟨by rw [A5.1.2]; decide, A5.2.1, by rw [A5.2.2]; decide⟩⟩, fun q5 => ?_, fun q5 => ?_⟩
    · refine ⟨(w5.gp hg).1, (w5.gp hg).2.2.2.2.2.2.2.2.2.2.1.1, by rw [(w5.gp hg).2.2.2.2.2.2.2.2.2.2.1.2]; exact b480, (s_MM_stop ⟨by decide, by decide⟩ (m5.1 _ _).1 m5.1 w5).mono (fun M6 h6 => ⟨h6.1.1, nx M6 (X5.stp h6) ?_ (fun z => ?_) (fun z => ?_) (fun _ => Or.inl ?_)⟩)⟩
      · have gs := gs_st (P := fun _ => False) (S := fun x => x = a) w5 hg h6.1 (fun _ z => z.elim) (fun _ z => z.elim) (fun x z => by omega)
        rw [(gs.2.1 25 (by omega) (by omega)).1]
        exact h25'
      · rw [h6.2.1] at z
        exact absurd z (by decide)
      · rw [h6.2.1] at z
        exact absurd z (by decide)
      · have z3 : mI M3 a 16 = 0 := by rw [← iA]; exact q5.1
        rcases u3 with u3 | ⟨-, u3, -⟩
        · exact absurd (u3.2.1.symm.trans z3) u3.1
        have c1 := (cmpz (mL M3 (a + 97) 0) 0).2.2.1
        have c2 := (cmpz (mL M3 (a + 97) 0) (mL M3 (a + 98) 0)).2.1
        have q6 := q5.2
        rw [c1, c2] at q6
        have e9 : chq9 ev sg (br :: cm.2.2.2.drop (b + 1)) = ((11, br.1), []) := chq_r (by rw [u3]; rfl) (by rw [u3]; show mL M3 (a + 97) 0 < 0 ∨ (if (0 : Int) = 1 then (1 : Int) else mL M3 (a + 98) 0) < mL M3 (a + 97) 0; rw [if_neg (by decide)]; omega)
        rw [zq, e9]
        refine ⟨by show (11 : Int) ≠ 0; decide, h6.2.1, h6.2.2.1.trans ?_⟩
        have gs25 : Gs M2 M5 g := ((xr3.xe w2).gs w2 hg).trans gs35
        show mI M5 (g + 27) (8 * c + b) = br.1
        rw [(gs25.2.1 27 (by omega) (by omega)).1]
        exact rb.1
    · refine nx M5 X5 h25' (fun z b' hb' => ?_) (fun z => ?_) (fun z => ?_)
      rotate_left
      · have z3 : mI M3 a 16 = 0 := by rw [← iA]; exact z
        have q6 : ¬ (cmpL (mL M3 (a + 97) 0) 0 < 0 ∨ ¬ (cmpL (mL M3 (a + 97) 0) (mL M3 (a + 98) 0) ≤ 0)) := fun y => q5 ⟨z, y⟩
        have c1 := (cmpz (mL M3 (a + 97) 0) 0).2.2.1
        have c2 := (cmpz (mL M3 (a + 97) 0) (mL M3 (a + 98) 0)).2.1
        rw [c1, c2] at q6
        rcases u3 with u3 | ⟨-, u3, u4⟩
        · exact absurd (u3.2.1.symm.trans z3) u3.1
        have e9 : chq9 ev sg (br :: cm.2.2.2.drop (b + 1)) = ((chq9 ev sg (cm.2.2.2.drop (b + 1))).1, (mL M3 (a + 97) 0, mL M3 (a + 98) 0) :: (chq9 ev sg (cm.2.2.2.drop (b + 1))).2) := by
          rw [chq_s (by rw [u3]; rfl) (by rw [u3]; show ¬ (mL M3 (a + 97) 0 < 0 ∨ (if (0 : Int) = 1 then (1 : Int) else mL M3 (a + 98) 0) < mL M3 (a + 97) 0); rw [if_neg (by decide)]; omega), u3]
          rfl
        rw [e9] at zq
        refine ⟨?_, u4.mv w3 x35 (fun _ z => z.elim) gs35 (fun y z => by omega)⟩
        rw [zq, lR, List.append_assoc]
        rfl
      · rw [iA] at z
        rcases u3 with u3 | ⟨u3, -⟩
        · have e9 : chq9 ev sg (br :: cm.2.2.2.drop (b + 1)) = (((ev sg br.2.1.1 br.2.1.2).1, (ev sg br.2.1.1 br.2.1.2).2.1), []) := chq_f u3.1
          rw [zq, e9]
          exact Or.inl ⟨u3.1, by rw [iA]; exact u3.2.1, by rw [iA]; exact u3.2.2⟩
        · exact absurd u3 z
      rw [q89, q90]
      by_cases y : b' = b
      · rw [if_pos y, if_pos y]
        have vk := z35 z
        have q6 : ¬ (cmpL (mL M3 (a + 97) 0) 0 < 0 ∨ ¬ (cmpL (mL M3 (a + 97) 0) (mL M3 (a + 98) 0) ≤ 0)) := fun y => q5 ⟨z, y⟩
        have c1 := (cmpz (mL M3 (a + 97) 0) 0).2.2.1
        have c2 := (cmpz (mL M3 (a + 97) 0) (mL M3 (a + 98) 0)).2.1
        rw [c1, c2] at q6
        unfold vok at vk
        omega
      · rw [if_neg y, if_neg y]
        exact hch b' (by omega)
end CHX
end
section
/-! The reference: a variable's next value, and a state is found or made, exactly. -/
section SEX
variable {G : mG} {d a g T R W C Z n k : Nat} {M M' M2 : mM} {E : Eg9} {tg : Int} {ww pl : Nat → Int} {XV : List Int → Int → vrs} {ev : List Int → Nat → Nat → vrs} {sg : List Int}
/-- what setting comes to: v the rule's value, f the fault of the range -/
def seY9 (v : vrs) (f : Int × Int) (q : Nat) (xv : Int → vrs) (a g R W : Nat) (M M' : mM) : Prop := fvq M' a v ∨ (v.1 = 0 ∧ f.1 ≠ 0 ∧ mI M' a 16 = f.1 ∧ mI M' a 17 = f.2) ∨ (v.1 = 0 ∧ f = (0, 0) ∧ mI M' a 16 = 0 ∧ (∀ v', mI M' (a + 21188) v' = if v' = q then v.2.1 else mI M (a + 21188) v') ∧ XVq M' a g R W xv)
theorem x_MM_set1 {v i9 j9 : Nat} {root pc lv hv9 : Int} (h : GG M a g T R W C Z E tg) (hn : En M a g R W) (hx : Nxv M a g W) (hv : v < W) (hf : ∀ sg, FmX ww pl (XV sg) M g R E.1) (xv : XVq M a g R W (XV sg)) (z0 : mI M a 16 = 0) (elo : mI M (g + 19) v = lv) (ehi : mI M (g + 20) v = hv9) (hr : Rtq ww pl XV ev M g R W T E root (tn M g (100 + (v : Int))) i9 j9) (ipl : i32 pc) : Cv G y_MM_set1 (d + 6) [vr a, vi v, vi root, vi pc] M (fun M' => mOk M' ∧ seQ M a g T R W C Z E tg M' ∧ seY9 (ev sg i9 j9) (stfq (ev sg i9 j9).2.1 (ev sg i9 j9).2.2 lv hv9 pc) v (XV sg) a g R W M M') := by
  have w := h.2.1
  have hg := h.2.2.1.2
  have hD := h.2.2.2.2.2.2.2.1
  have hBd := hD.1
  obtain ⟨v1, v2, v3, v4, v5, v6⟩ := hD.2.2.2.1 v hv
  have e1 : tn M g (100 + (v : Int)) = mI M (g + 18) v := by
    unfold tn
    rw [if_pos (show (100 : Int) ≤ 100 + (v : Int) by omega), show (100 + (v : Int) - 100).toNat = v by omega]
    rcases v6 with y | y <;> rw [y] <;> rfl
  have ir : i32 root := by
    obtain ⟨n', b, f, e, nv, ⟨r1, r2, r3, r4, r5⟩, -⟩ := hr
    have := r4.tn.lt
    have := h.2.2.2.2.1
    rw [r1]
    exact i32s (by omega) (by omega)
  have b12 : ((0 : Int) ≤ (v : Int) ∧ (v : Int) < ((12 : Nat) : Int)) := by omega
  have toS : ∀ {Mx : mM}, Mv (fun x => x = a + 99) (woS a) M a Mx → Mv (fun x => x = a + 99) (sxS a) M a Mx := fun m => m.mono (fun q hq => hq) (fun x z => Or.inl z) (lt99 w)
  refine k_MM_set1 h.1 (i32s (by omega) (by omega)) ir ipl ⟨w.1.1, (x_MM_reach (d := d) h hn hf xv hr z0).mono (fun M2 t2 => ?_)⟩
  obtain ⟨o2, ⟨x2, gg2, en2, v2'⟩, u2⟩ := t2
  have w2 := gg2.2.1
  have gs2 := (x2.xe w).gs w hg
  have c88 : mI M2 (a + 21188) = mI M (a + 21188) := (x2.1.cellL w in99 (offx (a := a) (o := 21188) (by decide)) (fun z => by
    have z' : a + 21188 = a ∨ a + 21188 = a + 97 ∨ a + 21188 = a + 98 ∨ a + 21188 = a + 102 ∨ a + 21188 = a + 103 ∨ a + 21188 = a + 104 := z
    omega)).1
  have nx2 : Nxv M2 a g W := fun v' hv' => by
    rw [(gs2.2.1 19 (by omega) (by omega)).1, (gs2.2.1 20 (by omega) (by omega)).1, c88]
    exact hx v' hv'
  refine ⟨o2, w2.1.1, fun z16 => ?_, fun z16 => ⟨o2, ⟨toS x2.1, x2.2, gg2, en2, fun z => absurd z z16⟩, Or.inl (u2.elim id (fun u => absurd u.1 z16))⟩⟩
  have vk : vok (mI M (g + 18) v) (mL M2 (a + 97) 0) (mL M2 (a + 98) 0) := by
    rcases v2' with y | ⟨-, y⟩
    · exact absurd z16 y
    · rw [e1] at y; exact y
  obtain ⟨u3, u4⟩ : ev sg i9 j9 = vr9 (mI M (g + 18) v) (mL M2 (a + 97) 0) (mL M2 (a + 98) 0) ∧ XVq M2 a g R W (XV sg) := by
    rcases u2 with u | ⟨-, u, y⟩
    · exact absurd (u.2.1.symm.trans z16) u.1
    · rw [e1] at u
      exact ⟨u, y⟩
  have f1 : (ev sg i9 j9).1 = 0 := by rw [u3]; rfl
  have f2 : (ev sg i9 j9).2.1 = mL M2 (a + 97) 0 := by rw [u3]; rfl
  have f3 : (ev sg i9 j9).2.2 = if mI M (g + 18) v = 1 then 1 else mL M2 (a + 98) 0 := by rw [u3]; rfl
  have B2 : mR M2 a 21 = a + 97 ∧ mR M2 a 22 = a + 98 ∧ mR M2 a 44 = a + 21188 := ⟨w2.1.2.2.2.2.1.2.2.2.2.2.2.1, w2.1.2.2.2.2.1.2.2.2.2.2.2.2.1, w2.1.2.2.2.2.2.2.1.2.2.2.1⟩
  have A2 : (mK M2 (a + 97) = 33 ∧ mN M2 (a + 97) = 16400) ∧ (mK M2 (a + 98) = 33 ∧ mN M2 (a + 98) = 16400) ∧ (mK M2 (a + 21188) = 30 ∧ mN M2 (a + 21188) = 12) := ⟨w2.1.2.2.2.2.2.2.2.1.1, w2.1.2.2.2.2.2.2.2.1.2.1, w2.1.2.2.2.2.2.2.2.2.2.1.2.2.2.1⟩
  rw [gg2.2.2.1.1, show mR M2 g 13 = g + 18 from (w2.gp hg).2.2.1.1, show mR M2 g 14 = g + 19 from (w2.gp hg).2.2.1.2.1, show mR M2 g 15 = g + 20 from (w2.gp hg).2.2.1.2.2.1, B2.1, B2.2.1, B2.2.2, Int.toNat_natCast, (gs2.2.1 18 (by omega) (by omega)).1, (gs2.2.1 19 (by omega) (by omega)).1, (gs2.2.1 20 (by omega) (by omega)).1]
  have stp : ∀ c : Int, c ≠ 0 → i32 c → stfq (ev sg i9 j9).2.1 (ev sg i9 j9).2.2 lv hv9 pc = (c, pc) → Cv G y_MM_stop (d + 5) [vr a, vi c, vi pc] M2 (fun M3 => mOk M3 ∧ (mOk M3 ∧ seQ M a g T R W C Z E tg M3 ∧ seY9 (ev sg i9 j9) (stfq (ev sg i9 j9).2.1 (ev sg i9 j9).2.2 lv hv9 pc) v (XV sg) a g R W M M3)) := fun c hc ic ef => by
    refine (s_MM_stop ic ipl o2 w2).mono (fun M3 h3 => ?_)
    have X : xg M a g T R W C Z E tg M2 := ⟨x2.xe w, gg2, en2⟩
    have X3 := X.stp h3
    refine ⟨h3.1.1, h3.1.1, ⟨(toS x2.1).trans (h3.1.mono (fun _ z => z.elim) (fun x z => Or.inl (Or.inl z)) (lt99 w2)), fun i i1 i2 i3 => (h3.2.2.2 i i1 i2).trans (x2.2 i i1 i2 i3), X3.2.1, X3.2.2, fun z => ?_⟩, Or.inr (Or.inl ⟨f1, by rw [ef]; exact hc, by rw [ef]; exact h3.2.1, by rw [ef]; exact h3.2.2.1⟩)⟩
    rw [h3.2.1] at z
    exact absurd z hc
  have hq1 : (¬ mI M (g + 18) v = 0 ∨ cmpL (mL M2 (a + 98) 0) 1 = 0) → (if mI M (g + 18) v = 1 then (1 : Int) else mL M2 (a + 98) 0) = 1 := fun q => by
    rcases q with q | q
    · rw [if_pos (by omega)]
    · have := (cmpz _ _).2.2.2.1.1 q
      split <;> omega
  have hq8 : ¬ (¬ mI M (g + 18) v = 0 ∨ cmpL (mL M2 (a + 98) 0) 1 = 0) → (if mI M (g + 18) v = 1 then (1 : Int) else mL M2 (a + 98) 0) ≠ 1 := fun q u => by
    have q1 : mI M (g + 18) v = 0 := Classical.byContradiction (fun z => q (Or.inl z))
    rw [if_neg (by omega)] at u
    exact q (Or.inr ((cmpz _ _).2.2.2.1.2 u))
  refine ⟨(w2.gp hg).1, (w2.gp hg).2.2.2.2.1.1.1, by rw [(w2.gp hg).2.2.2.2.1.1.2]; exact b12, fun _ => ⟨A2.2.1.1, by rw [A2.2.1.2]; decide⟩, fun q => ⟨A2.1.1, by rw [A2.1.2]; decide, (w2.gp hg).2.2.2.2.1.2.1.1, by rw [(w2.gp hg).2.2.2.2.1.2.1.2]; exact b12, fun _ => ⟨by rw [A2.1.2]; decide, (w2.gp hg).2.2.2.2.1.2.2.1.1, by rw [(w2.gp hg).2.2.2.2.1.2.2.1.2]; exact b12⟩, fun q2 => stp 12 (by decide) ⟨by decide, by decide⟩ (by
      have c1 := (cmpz (mL M2 (a + 97) 0) (mI M (g + 19) v)).2.2.1
      have c2 := (cmpz (mL M2 (a + 97) 0) (mI M (g + 20) v)).2.1
      rw [c1, c2] at q2
      unfold stfq
      rw [f3, f2, if_neg (fun u => u (hq1 q)), if_pos (by omega)]), fun q2 => ?_⟩, fun q => stp 8 (by decide) ⟨by decide, by decide⟩ (by unfold stfq; rw [f3, if_pos (hq8 q)])⟩
  have c1 := (cmpz (mL M2 (a + 97) 0) (mI M (g + 19) v)).2.2.1
  have c2 := (cmpz (mL M2 (a + 97) 0) (mI M (g + 20) v)).2.1
  rw [c1, c2] at q2
  have rng : mI M (g + 19) v ≤ mL M2 (a + 97) 0 ∧ mL M2 (a + 97) 0 ≤ mI M (g + 20) v := by omega
  have i97 : i32 (mL M2 (a + 97) 0) := ⟨by omega, by omega⟩
  refine ⟨by rw [A2.1.2]; decide, A2.2.2.1, by rw [A2.2.2.2]; exact b12, i97, fun M3 e3 => ?_⟩
  obtain ⟨m3, g3, l3⟩ := mv_cell i97 o2 w2 (show a ≤ a + 21188 by omega) (offx (a := a) (o := 21188) (by decide)) e3
  have no : ∀ q : Nat, False → q ∈ nums a := fun _ z => z.elim
  have aI := (m3.fld w2 no (by omega)).1
  have X : xg M a g T R W C Z E tg M2 := ⟨x2.xe w, gg2, en2⟩
  have X3 := X.st m3 (fun _ z => z.elim) (fun x z => Or.inr (Or.inr (by omega))) (fun i _ _ _ => by rw [aI])
  have gs3 := gs_st w2 hg m3 no (fun _ z => z.elim) (fun x z => by omega)
  refine ⟨m3.1, ⟨(toS x2.1).trans (m3.mono (fun _ z => z.elim) (fun x z => Or.inr z) (lt99 w2)), fun i i1 i2 i3 => by rw [aI]; exact x2.2 i i1 i2 i3, X3.2.1, X3.2.2, fun _ v' hv' => ?_⟩, Or.inr (Or.inr ⟨f1, ?_, by rw [aI]; exact z16, fun v' => ?_, u4.mv w2 m3 no gs3 (fun x z => by omega)⟩)⟩
  rotate_left
  · unfold stfq
    rw [f3, f2, if_neg (fun u => u (hq1 q)), if_neg (by omega)]
  · rw [g3, f2, c88]
    by_cases y : v' = v
    · rw [if_pos ⟨rfl, y⟩, if_pos y]
    · rw [if_neg (fun z => y z.2), if_neg y]
  rw [(gs3.2.1 19 (by omega) (by omega)).1, (gs3.2.1 20 (by omega) (by omega)).1, g3]
  by_cases y : v' = v
  · rw [if_pos ⟨rfl, y⟩, y, (gs2.2.1 19 (by omega) (by omega)).1, (gs2.2.1 20 (by omega) (by omega)).1]
    exact rng
  · rw [if_neg (fun z => y z.2)]
    exact nx2 v' hv'
/-- the states -/
def SmR (M : mM) (a W n : Nat) : List (List Int) := (List.range n).map (lsR M a W)
/-- the next state -/
def nxR (M : mM) (a W : Nat) : List Int := (List.range W).map (fun v => mI M (a + 21188) v)
theorem SmR_len : (SmR M a W n).length = n := by
  unfold SmR
  rw [List.length_map, List.length_range]
theorem SmR_get (h : k < n) : (SmR M a W n)[k]? = some (lsR M a W k) := by
  unfold SmR
  rw [List.getElem?_map, List.getElem?_range h]
  rfl
theorem SmR_s : SmR M a W (n + 1) = SmR M a W n ++ [lsR M a W n] := by
  unfold SmR
  rw [List.range_succ, List.map_append]
  rfl
theorem SmR_cg (hW : W ≤ 12) (h : ∀ j, j < 12 * n → mI M' (a + 105) j = mI M (a + 105) j) : SmR M' a W n = SmR M a W n := by
  unfold SmR
  refine List.map_congr_left (fun k hk => ?_)
  unfold lsR
  exact List.map_congr_left (fun v hv => h _ (by have := List.mem_range.mp hk; have := List.mem_range.mp hv; omega))
theorem enR_k {x : List Int} (hk : k < n) (hnf : ∀ j, j < k → lsR M a W j ≠ x) (hq : lsR M a W k = x) : enq9 (SmR M a W n) x = some (k, SmR M a W n) := by
  have f : (SmR M a W n).findIdx? (fun y => y == x) = some k := by
    rw [List.findIdx?_eq_some_iff_getElem]
    have gt : ∀ (j : Nat) (h : j < (SmR M a W n).length), (SmR M a W n)[j] = lsR M a W j := fun j h => by
      have := SmR_get (M := M) (a := a) (W := W) (k := j) (n := n) (by rw [SmR_len] at h; exact h)
      rw [List.getElem?_eq_getElem h] at this
      exact Option.some.inj this
    refine ⟨by rw [SmR_len]; exact hk, ?_, fun j hj => ?_⟩
    · rw [gt k]
      exact beq_iff_eq.mpr hq
    · rw [gt j]
      intro u
      exact hnf j hj (beq_iff_eq.mp u)
  unfold enq9
  rw [f]
theorem enR_n {x : List Int} (h : ∀ k, k < n → lsR M a W k ≠ x) : enq9 (SmR M a W n) x = if n = 512 then none else some (n, SmR M a W n ++ [x]) := by
  have f : (SmR M a W n).findIdx? (fun y => y == x) = none := by
    rw [List.findIdx?_eq_none_iff]
    intro y hy
    unfold SmR at hy
    obtain ⟨k, hk, e⟩ := List.mem_map.mp hy
    rw [← e]
    exact beq_eq_false_iff_ne.mpr (h k (List.mem_range.mp hk))
  unfold enq9
  rw [f]
  show (if (SmR M a W n).length = 512 then none else some ((SmR M a W n).length, SmR M a W n ++ [x])) = _
  rw [SmR_len]
/-- what finding a state comes to -/
def soX (S : List (List Int)) (x : List Int) (r : Int) (a W : Nat) (M' : mM) : Prop := (enq9 S x = none ∧ r = -1) ∨ ∃ (k : Nat) (S' : List (List Int)), enq9 S x = some (k, S') ∧ r = (k : Int) ∧ mI M' a 29 = ((S'.length : Nat) : Int) ∧ SmR M' a W S'.length = S'
theorem x_MM_stateOf (h : GG M a g T R W C Z E tg) (hn : mI M a 29 = (n : Int)) (hn5 : n ≤ 512) (hv : Vx M a g n W) (hx : Nxv M a g W) : Ci G y_MM_stateOf d [vr a] M (fun x M' => i32 x ∧ mOk M' ∧ soQ M a g n W x M' ∧ soX (SmR M a W n) (nxR M a W) x a W M') := by
  have hO := h.1
  have w := h.2.1
  have hg := h.2.2.1.2
  have hBd := h.2.2.2.2.2.2.2.1.1
  have g12 := h.2.2.2.2.2.1.2.1
  have r9 := h.2.2.1.1
  have no : ∀ q : Nat, False → q ∈ nums a := fun _ z => z.elim
  have hW12 := hBd.2.1
  -- a new state is filled in
  have L3 : n < 512 → (∀ k, k < n → lsR M a W k ≠ nxR M a W) → ∀ (c v : Nat) (M2 : mM), v + c = W → Mv (fun _ => False) (fun y => y = a ∨ y = a + 105) M a M2 → mI M2 a = mI M a → mI M2 (a + 21188) = mI M (a + 21188) → (∀ j, (12 * n ≤ j → 12 * n + v ≤ j) → mI M2 (a + 105) j = mI M (a + 105) j) → (∀ v', v' < v → mI M2 (a + 105) (12 * n + v') = mI M (a + 21188) v') → h_MM_stateOf_87 G d a v M2 (fun x M' => i32 x ∧ mOk M' ∧ soQ M a g n W x M' ∧ soX (SmR M a W n) (nxR M a W) x a W M') := by
    intro hn' hnf c
    induction c with
    | zero =>
      intro v M2 hc m2 a2 x2 o2 f2
      have ev : v = W := by omega
      subst ev
      have w2 := m2.2.1
      have gs := gs_st w hg m2 no (fun _ z => z.elim) (fun x z => by omega)
      refine k_MM_stateOf_87 m2.1 (i32s (by omega) (by omega)) ⟨w2.1.1, ?_⟩
      rw [m2.rfl_a w no, r9, gs.1, g12, a2, hn]
      refine ⟨(w2.gp hg).1, fun _ => ⟨i32s (by omega) (by omega), fun M3 e3 => ?_⟩, fun q => absurd (Int.le_refl _) q⟩
      obtain ⟨m3, f3⟩ := mv_fld (v := (n : Int) + 1) (i32s (by omega) (by omega)) m2.1 w2 e3
      have mm := m2.trans (m3.mono (fun _ z => z.elim) (fun x z => Or.inl z) (fun _ z => z.elim))
      have gs3 := gs_st w hg mm no (fun _ z => z.elim) (fun x z => by omega)
      have c105 := m3.cell m2.2.1 no (by omega) (offx (a := a) (o := 105) (by decide)).2.1 (offx (a := a) (o := 105) (by decide)).2.2 (by omega)
      have e29 : mI M3 a 29 = (n : Int) + 1 := by rw [f3, if_pos rfl]
      rw [e29]
      refine ⟨i32s (by omega) (by omega), m3.1, Or.inr ⟨n + 1, Or.inr rfl, by omega, by omega, by omega, mm, by rw [e29]; omega, fun i hi => by rw [f3, if_neg hi, a2], fun k v' hk hv' => ?_⟩, Or.inr ⟨n, SmR M a v n ++ [nxR M a v], ?_, by omega, by rw [e29, List.length_append, SmR_len]; show (n : Int) + 1 = ((n + 1 : Nat) : Int); omega, ?_⟩⟩
      rotate_left
      · rw [enR_n hnf, if_neg (by omega)]
      · rw [List.length_append, SmR_len]
        show SmR M3 a v (n + 1) = _
        rw [SmR_s, SmR_cg (M := M) hW12 (fun j hj => by rw [c105]; exact o2 j (by omega))]
        congr 2
        unfold lsR nxR
        exact List.map_congr_left (fun v' hv' => by rw [c105]; exact f2 v' (List.mem_range.mp hv'))
      rw [(gs3.2.1 19 (by omega) (by omega)).1, (gs3.2.1 20 (by omega) (by omega)).1, c105]
      by_cases y : k = n
      · rw [y, f2 v' hv']
        exact hx v' hv'
      · rw [o2 _ (by omega)]
        exact hv k v' (by omega) hv'
    | succ c ih =>
      intro v M2 hc m2 a2 x2 o2 f2
      have w2 := m2.2.1
      have gs := gs_st w hg m2 no (fun _ z => z.elim) (fun x z => by omega)
      have A5 : mK M2 (a + 105) = 30 ∧ mN M2 (a + 105) = 6144 := w2.1.2.2.2.2.2.2.2.2.1.1
      have A8 : mK M2 (a + 21188) = 30 ∧ mN M2 (a + 21188) = 12 := w2.1.2.2.2.2.2.2.2.2.2.1.2.2.2.1
      have r31 : mR M2 a 31 = a + 105 := w2.1.2.2.2.2.2.1.1
      have r44 : mR M2 a 44 = a + 21188 := w2.1.2.2.2.2.2.2.1.2.2.2.1
      have e9 : mR M2 a 9 = g := by rw [m2.rfl_a w no]; exact r9
      refine k_MM_stateOf_87 m2.1 (i32s (by omega) (by omega)) ⟨w2.1.1, ?_⟩
      rw [e9, gs.1, g12, a2, hn, r31, r44, Int.toNat_natCast, show 12 * (n : Int) + (v : Int) = ((12 * n + v : Nat) : Int) by omega, Int.toNat_natCast, x2]
      refine ⟨(w2.gp hg).1, fun q => absurd q (by omega), fun _ => ⟨A8.1, by rw [A8.2]; omega, A5.1, by rw [A5.2]; omega, fun M3 e3 => ?_⟩⟩
      obtain ⟨m3, f3, l3⟩ := mv_cell (hO _ _).1 m2.1 w2 (show a ≤ a + 105 by omega) (offx (a := a) (o := 105) (by decide)) e3
      have nx := ih (v + 1) M3 (by omega) (m2.trans (m3.mono (fun _ z => z.elim) (fun x z => Or.inr z) (fun _ z => z.elim))) (by rw [(m3.fld w2 no (by omega)).1]; exact a2) (by rw [m3.cell w2 no (by omega) (offx (a := a) (o := 21188) (by decide)).2.1 (offx (a := a) (o := 21188) (by decide)).2.2 (by omega)]; exact x2) (fun j hj => by rw [f3, if_neg (fun z => by omega)]; exact o2 j (by omega)) (fun v' hv' => ?_)
      · rw [show ((v + 1 : Nat) : Int) = (v : Int) + 1 by omega] at nx
        exact nx
      · rw [f3]
        by_cases y : v' = v
        · rw [if_pos ⟨rfl, by omega⟩, y]
        · rw [if_neg (fun z => by omega)]
          exact f2 v' (by omega)
  have A5 : mK M (a + 105) = 30 ∧ mN M (a + 105) = 6144 := w.1.2.2.2.2.2.2.2.2.1.1
  have A8 : mK M (a + 21188) = 30 ∧ mN M (a + 21188) = 12 := w.1.2.2.2.2.2.2.2.2.2.1.2.2.2.1
  have r31 : mR M a 31 = a + 105 := w.1.2.2.2.2.2.1.1
  have r44 : mR M a 44 = a + 21188 := w.1.2.2.2.2.2.2.1.2.2.2.1
  refine k_MM_stateOf hO ?_
  suffices L1 : ∀ (c k : Nat), k + c = n → (∀ k', k' < k → lsR M a W k' ≠ nxR M a W) → h_MM_stateOf_2 G d a k M (fun x M' => i32 x ∧ mOk M' ∧ soQ M a g n W x M' ∧ soX (SmR M a W n) (nxR M a W) x a W M') from L1 n 0 (by omega) (fun k' hk' => absurd hk' (by omega))
  intro c
  induction c with
  | zero =>
    intro k hk hnf
    have ek : k = n := by omega
    subst ek
    refine k_MM_stateOf_2 hO (i32s (by omega) (by omega)) ⟨w.1.1, fun _ => ⟨fun q => ⟨⟨by decide, by decide⟩, hO, Or.inl ⟨rfl, rfl⟩, Or.inl ⟨?_, rfl⟩⟩, fun q => ?_⟩, fun q => absurd (by rw [hn]; exact Int.le_refl _) q⟩
    · rw [hn] at q
      rw [enR_n hnf, if_pos (by omega)]
    rw [hn] at q
    exact L3 (by omega) hnf W 0 M (by omega) (Mv.refl hO w (fun _ z => z.elim)) rfl rfl (fun j _ => rfl) (fun v' hv' => absurd hv' (by omega))
  | succ c ih =>
    intro k hk hnf
    have nx : lsR M a W k ≠ nxR M a W → h_MM_stateOf_2 G d a ((k : Int) + 1) M (fun x M' => i32 x ∧ mOk M' ∧ soQ M a g n W x M' ∧ soX (SmR M a W n) (nxR M a W) x a W M') := fun hne => by
      have nx := ih (k + 1) (by omega) (fun k' hk' => by
        by_cases y : k' = k
        · rw [y]; exact hne
        · exact hnf k' (by omega))
      rw [show ((k + 1 : Nat) : Int) = (k : Int) + 1 by omega] at nx
      exact nx
    refine k_MM_stateOf_2 hO (i32s (by omega) (by omega)) ⟨w.1.1, fun q => by rw [hn] at q; omega, fun _ => ?_⟩
    suffices L2 : ∀ (t v : Nat) (s : Int), v + t = W → ((s = 0 ∧ lsR M a W k ≠ nxR M a W) ∨ (s = 1 ∧ ∀ v', v' < v → mI M (a + 105) (12 * k + v') = mI M (a + 21188) v')) → h_MM_stateOf_14 G d a k s v M (fun x M' => i32 x ∧ mOk M' ∧ soQ M a g n W x M' ∧ soX (SmR M a W n) (nxR M a W) x a W M') from L2 W 0 1 (by omega) (Or.inr ⟨rfl, fun v' hv' => absurd hv' (by omega)⟩)
    have fnd : lsR M a W k = nxR M a W → i32 (k : Int) ∧ mOk M ∧ soQ M a g n W k M ∧ soX (SmR M a W n) (nxR M a W) k a W M := fun hq => ⟨i32s (by omega) (by omega), hO, Or.inr ⟨n, Or.inl rfl, hn5, by omega, by omega, Mv.refl hO w (fun _ z => z.elim), hn, fun _ _ => rfl, hv⟩, Or.inr ⟨k, SmR M a W n, enR_k (by omega) hnf hq, rfl, by rw [SmR_len]; exact hn, by rw [SmR_len]⟩⟩
    intro t
    induction t with
    | zero =>
      intro v s hv' hs
      have ev : v = W := by omega
      subst ev
      refine k_MM_stateOf_14 hO (i32s (by omega) (by omega)) (i32s (by omega) (by omega)) (i32s (by omega) (by omega)) ⟨w.1.1, ?_⟩
      rw [r9, g12]
      refine ⟨(w.gp hg).1, fun _ => ⟨fun q0 => nx ?_, fun q0 => fnd ?_⟩, fun q => absurd (Or.inl (Int.le_refl _)) q⟩
      · rcases hs with ⟨-, y⟩ | ⟨y, -⟩
        · exact y
        · omega
      · rcases hs with ⟨y, -⟩ | ⟨-, y⟩
        · omega
        · unfold lsR nxR
          exact List.map_congr_left (fun v' hv' => y v' (List.mem_range.mp hv'))
    | succ t ih2 =>
      intro v s hv' hs
      refine k_MM_stateOf_14 hO (i32s (by omega) (by omega)) (i32s (by omega) (by omega)) (i32s (by omega) (by omega)) ⟨w.1.1, ?_⟩
      rw [r9, g12, r31, r44]
      refine ⟨(w.gp hg).1, fun q => ⟨fun q0 => nx ?_, fun q0 => absurd q0 (by omega)⟩, fun q => ⟨A5.1, by rw [A5.2]; omega, A8.1, by rw [A8.2]; omega, fun u hu => ?_⟩⟩
      · rcases hs with ⟨-, y⟩ | ⟨y, -⟩
        · exact y
        · omega
      rw [show (v : Int) + 1 = ((v + 1 : Nat) : Int) by omega]
      refine ih2 (v + 1) u (by omega) ?_
      have s1 : s = 1 := by omega
      rcases hs with ⟨y, -⟩ | ⟨-, y⟩
      · omega
      rw [show 12 * (k : Int) + (v : Int) = ((12 * k + v : Nat) : Int) by omega, Int.toNat_natCast, Int.toNat_natCast] at hu
      by_cases e : mI M (a + 105) (12 * k + v) = mI M (a + 21188) v
      · refine Or.inr ⟨by rw [hu, if_pos e], fun v' hv' => ?_⟩
        by_cases e2 : v' = v
        · rw [e2]; exact e
        · exact y v' (by omega)
      · refine Or.inl ⟨by rw [hu, if_neg e], fun hq => e ?_⟩
        unfold lsR nxR at hq
        rw [List.map_inj_left] at hq
        exact hq v (List.mem_range.mpr (by omega))
end SEX
end
