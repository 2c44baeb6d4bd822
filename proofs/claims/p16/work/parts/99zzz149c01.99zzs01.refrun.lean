/-! The reference's workOut, exactly: rules in a state. -/
section WRT
variable {G : mG} {d a g R W T : Nat} {M : mM} {Q : mM → Prop} {E : Nat → Nat} {ww pl : Nat → Int} {xv : Int → vrs}
theorem x_wo_runT (h0 : Ev True M a g R W T) (hF : Fm M g R W T E) (hFx : FmX ww pl xv M g R E) : ∀ (b : Nat) (nv : Nat → Int) (n0 : Nat), b ≤ R → (∀ r : Nat, r < b → mI M (g + 13) r ≠ 0 → E r ≤ n0) → ∀ (f md n e e0 Lk V kk : Nat) (u : Nat → Int) (M2 : mM) (rs : List (Nat × Nat)), kk = md + (1 - md) → Ty (nme True M g b W) (tn M g) M g f md n e u → TBy9 ww pl M g nv md rs n e → n0 ≤ n → e ≤ e0 → e0 ≤ T → EO True M a g R W T M2 → XVq M2 a g R W xv → mI M2 a 16 = 0 → ln M2 (a + 99) = (Lk + 2 * kk : Nat) → (∀ j, j < kk → nt M2 (a + 99) (Lk + 2 * (kk - 1 - j)) = 0 ∧ nt M2 (a + 99) (Lk + 2 * (kk - 1 - j) + 1) = ci M g n j) → mI M2 a 23 = (V : Int) → V + e0 ≤ T + (n - n0) → Lk + 2 * (e - n) ≤ 2 * (T - n0) → (∀ M3, EO True M a g R W T M3 → fvq M3 a (vfX ww pl xv nv rs) → Q M3) → (∀ M3, woR True M a g R W T Lk V kk u M2 M3 → woX ww pl xv nv a V rs u M3 → XVq M3 a g R W xv → h_MM_workOut_19 G (d + 3) a g M3 Q) → h_MM_workOut_19 G (d + 3) a g M2 Q := by
  have w0 := h0.2.1
  have hBd := h0.2.2.2.2.1
  have hg := h0.2.2.1
  intro b
  induction b using Nat.strongRecOn with
  | _ b ihb =>
  intro nv n0 hbR hbE f
  induction f using Nat.strongRecOn with
  | _ f ih =>
  intro md n e e0 Lk V kk u M2 rs hkk ht htb hn0 he he0 h hxv h16 lk pk hV hVb hLb hX hQ
  obtain ⟨hrs, htb⟩ := htb
  have hlt := ht.tn.lt
  have hVs := vbS hVb hn0
  have hLs := lbS hLb hlt
  have hVh : Hid (V + e0 ≤ T + (n - n0)) := hVb
  have hLh : Hid (Lk + 2 * (e - n) ≤ 2 * (T - n0)) := hLb
  clear hVb hLb
  cases f with
  | zero => exact ht.elim
  | succ f =>
    rw [Ty] at ht
    by_cases c0 : md = 0
    · subst c0
      have kk1 : kk = 1 := by omega
      subst kk1
      rw [if_pos rfl] at ht
      obtain ⟨p0, p1⟩ := pk 0 (by omega)
      rw [show Lk + 2 * (1 - 1 - 0) = Lk by omega] at p0 p1
      have pn : nt M2 (a + 99) (Lk + 1) = (n : Int) := p1
      obtain ⟨-, -, ht⟩ := ht
      rw [if_pos rfl] at htb
      obtain ⟨i, j, rfl, tm⟩ := htb
      have eo : Eo ww 6 i j := hrs (i, j) (List.mem_singleton.2 rfl)
      have tn9 := fun (_ : Unit) => tv_node (cv := cvn9 ww xv nv) _ 0 i j (Nat.le_refl _) (Or.inl ⟨rfl, eo⟩) rfl _ 0 _ _ tm
      have vf1 : vfX ww pl xv nv [(i, j)] = if (vlX ww pl xv nv (i, j)).1 = 0 then (0, 0, 1) else vlX ww pl xv nv (i, j) := rfl
      have w1 : ∀ {M3 : mM} {A B : Int}, vlX ww pl xv nv (i, j) = vr9 (u 0) A B → mL M3 (a + 97) (V + 0) = A → mL M3 (a + 98) (V + 0) = B → woX ww pl xv nv a V [(i, j)] u M3 := fun {M3 A B} e1 e2 e3 => by
        refine ⟨by rw [vf1, e1]; rfl, fun t ht => ?_⟩
        have t0 : t = 0 := by simp at ht; omega
        subst t0
        rw [e2, e3]
        exact e1
      have w1x : ∀ {M3 : mM}, EO True M a g R W T M3 → (vlX ww pl xv nv (i, j)).1 ≠ 0 → mI M3 a 16 = (vlX ww pl xv nv (i, j)).1 → mI M3 a 17 = (vlX ww pl xv nv (i, j)).2.1 → Q M3 := fun {M3} l3 z1 z2 z3 => hX M3 l3 (by rw [vf1, if_neg z1]; exact ⟨z1, z2, z3⟩)
      rcases ht with ⟨b1, b2, b3, b4, b5, b6⟩ | ⟨k, c, b1, b2, b3, b4, b5⟩
      · -- a leaf
        refine s_wo2 (n := n) (X := Lk) (s := 0) h h16 lk (Or.inl rfl) p0 pn (fun _ M4 t4 => ?_) (fun z => absurd z (by decide)) (fun z => absurd z (by decide)) (fun z => absurd z (by decide))
        obtain ⟨m4, l4, e4⟩ := t4
        have E4 := h.pile m4
        have K4 := kp99 h.1.2.1 m4
        have nd4 := E4.nod n
        have gs4 := E4.gs w0
        obtain ⟨-, -, kw, kl, ks, kv, kx⟩ : fp M g n = -1 ∧ e = n + 1 ∧ ∃ k, (ww k = 1 ∨ ww k = 2 ∨ ww k = 12 ∨ ww k = 13) ∧ so M g n = ww k ∧ va M g n = nv k ∧ vlq ww (cvn9 ww xv nv) pl 0 0 i j = cvn9 ww xv nv k := by
          rcases tn9 () with q | ⟨q, -⟩
          · exact q
          · rw [b2] at q; omega
        have X4 := hxv.pile hg h.1.2.1 m4
        have kvx : vlX ww pl xv nv (i, j) = cvn9 ww xv nv kw := kx
        refine (x_bg_leafT (t := u 0) (V := V) (X := Lk) X4 E4.2.1 (by omega) (by rw [nd4.1]; exact b3) (by rw [nd4.1, nd4.2.1]; exact b4) (by rw [nd4.1, nd4.2.1]; exact fun z => ((b5 z).up hbR).gs gs4) (by rw [nd4.1, nd4.2.1, gs4.tyn]; exact b6) (by rw [K4.1]; exact hV) (by omega) l4 (by omega)).mono (fun M5 t5 => ⟨t5.1, ?_⟩)
        rcases t5.2 with ⟨A, B, v1, v2, v3⟩ | ⟨q1, q2, q3⟩
        · rw [nd4.1, nd4.2.1] at v3
          have Y5 := v2
          obtain ⟨y1, y2, y3, y4, y5⟩ := v2
          have E5 := E4.step y1 (fun _ z => z.elim) (fun x hx => hx) (fun i _ _ i3 => y3 i i3)
          have X5 := X4.st hg E4.1.2.1 y1 (fun _ z => z.elim) (fun x hx => hx)
          have s5 := y1.lst (n99 (a := a)) (fun z => z)
          refine hQ M5 ⟨E5, by rw [y3 16 (by omega), K4.1]; exact h16, by rw [s5.1]; exact l4, fun j hj => by rw [s5.2.1, e4], y2, fun j hj => ⟨by rw [y4, if_neg (by omega), K4.2.1], by rw [y5, if_neg (by omega), K4.2.2]⟩, fun j hj => ?_⟩ (w1 (A := A) (B := B) ?_ (by rw [y4, if_pos (by omega)]) (by rw [y5, if_pos (by omega)])) X5
          · have j0 : j = 0 := by omega
            subst j0
            rw [y4, y5, if_pos (by omega), if_pos (by omega)]
            exact v1
          · rw [kvx, ← v3]
            unfold cvn9
            rw [← ks, ← kv]
        · obtain ⟨fF, f1, f2, f3, m5, l5, e5, x3, xv9, x0, xr⟩ := q3
          rw [nd4.2.1] at f1 f2 f3 xv9 xr q2
          rw [nd4.1] at q1
          rw [gs4.tyn] at q2
          rw [gs4.1] at f2
          rw [gs4.2.2.1] at xr
          have hv := b5 q1
          obtain ⟨r, hr, hrb⟩ : ∃ r : Nat, va M g n = (r : Int) ∧ r < b := by
            rcases hv with z | z
            · exact ⟨(va M g n).toNat, by omega, by omega⟩
            · exact absurd z.2.1 (by omega)
          rw [hr] at f2 f3 xv9 xr q2
          rw [Int.toNat_natCast] at f2 f3 xr
          obtain ⟨n', f', fr1, fr2, fr3, fr4⟩ := hF r (by omega) f2
          obtain ⟨n9, nv', i', j', gx1, gx2, gx3, gx4⟩ := hFx r (by omega) f2
          have n99' : n9 = n' := by
            have := gx1.symm.trans fr1
            omega
          subst n99'
          have E5 := E4.pile m5
          have K5 := kp99 E4.1.2.1 m5
          have X5 := X4.pile hg E4.1.2.1 m5
          have hE := hbE r hrb f2
          have lt' := fr4.tn.lt
          have w1v : ww kw = 1 := by rw [← ks]; exact q1
          have vlf : vlX ww pl xv nv (i, j) = xv (r : Int) := by
            rw [kvx]
            unfold cvn9
            rw [if_pos w1v, ← kv, hr]
          have vlg : vlX ww pl xv nv (i, j) = vlX ww pl xv nv' (i', j') := by rw [vlf, gx4]
          have vf1' : vfX ww pl xv nv' [(i', j')] = if (vlX ww pl xv nv' (i', j')).1 = 0 then (0, 0, 1) else vlX ww pl xv nv' (i', j') := rfl
          refine ihb r hrb nv' n9 (by omega) fr3 f' 0 n9 (E r) (E r) (Lk + 2) V 1 (fun _ => tn M g r) M5 [(i', j')] (by omega) fr4 ⟨fun x hx => by rw [List.mem_singleton.1 hx]; exact gx2, by rw [if_pos rfl]; exact ⟨i', j', rfl, gx3⟩⟩ (Nat.le_refl _) (Nat.le_refl _) fr2 E5 X5 (by rw [K5.1, K4.1]; exact h16) (by rw [l5]) (fun j hj => ?_) (by rw [K5.1, K4.1]; exact hV) (by first | exact sbV (by omega) | omega) (by first | exact sbL (by omega) (by omega) | omega) (fun M6 l6 p6 => ?_) (fun M6 h6 x6 X6 => ?_)
          · have j0 : j = 0 := by omega
            subst j0
            exact ⟨x0, xr.trans fr1⟩
          · rw [vf1'] at p6
            have z1 : (vlX ww pl xv nv' (i', j')).1 ≠ 0 := fun z => by rw [if_pos z] at p6; exact p6.1 rfl
            rw [if_neg z1] at p6
            exact w1x l6 (by rw [vlg]; exact z1) (by rw [vlg]; exact p6.2.1) (by rw [vlg]; exact p6.2.2)
          · have va0 : vlX ww pl xv nv' (i', j') = _ := x6.2 0 (by simp)
            obtain ⟨E6, z16, l6, e6, v6, k6, o6⟩ := h6
            refine s_wo2 (n := r) (X := Lk) (s := 3) E6 z16 l6 (Or.inr (Or.inr (Or.inr rfl))) (by rw [e6 Lk (by omega)]; exact x3) (by rw [e6 (Lk + 1) (by omega)]; exact xv9) (fun z => absurd z (by decide)) (fun z => absurd z (by decide)) (fun z => absurd z (by decide)) (fun _ M7 t7 => ?_)
            obtain ⟨m7, l7, e7⟩ := t7
            have E7 := E6.pile m7
            have K7 := kp99 E6.1.2.1 m7
            have X7 := X6.pile hg E6.1.2.1 m7
            refine ⟨by omega, V, by rw [K7.1]; exact v6, by omega, fun M8 M9 M10 e8 e9 e10 => ?_⟩
            have o := o6 0 (by omega)
            rw [show V + 0 = V by omega, ← K7.2.1, ← K7.2.2] at o
            rw [show V + 0 = V by omega, ← K7.2.1, ← K7.2.2] at va0
            obtain ⟨E10, i10, s10, la10, lb10⟩ := E7.met w0 o e8 e9 e10
            have t7 := (E7.gs w0).tyn
            have X10 := X7.met hg (r := r) (A := mL M7 (a + 97) V) (B := mL M7 (a + 98) V) (by rw [t7, ← vlf, vlg]; exact va0) e8 e9 e10
            refine ⟨E10.1.1, hQ M10 ⟨E10, by rw [i10, K7.1]; exact z16, by rw [s10.1]; exact l7, fun j hj => by rw [s10.2.1, e7, e6 j (by omega), e5 j hj, e4], by rw [i10, K7.1]; exact v6, fun j hj => ⟨by rw [la10, K7.2.1, (k6 j hj).1, K5.2.1, K4.2.1], by rw [lb10, K7.2.2, (k6 j hj).2, K5.2.2, K4.2.2]⟩, fun j hj => ?_⟩ (w1 (A := mL M7 (a + 97) V) (B := mL M7 (a + 98) V) (by rw [vlg, va0, q2]) (by rw [la10]; rfl) (by rw [lb10]; rfl)) X10⟩
            have j0 : j = 0 := by omega
            subst j0
            rw [q2, la10, lb10]
            exact o
      · -- a node with parts
        have hge := b4.tn.ge
        have nl : ¬ (so M g n = 1 ∨ so M g n = 2 ∨ so M g n = 12 ∨ so M g n = 13) := fun z => by unfold ari at b2; omega
        have hty : tyr (so M g n) k c (u 0) := by
          unfold tyn at b5
          rw [if_neg (by omega), if_neg (by omega), if_neg (by omega)] at b5
          exact b5
        obtain ⟨-, rs2, r1, r2, r3, r4, r5⟩ : fp M g n = ((n + 1 : Nat) : Int) ∧ ∃ rs : List (Nat × Nat), rs ≠ [] ∧ (∀ r, r ∈ rs → Eo ww 6 r.1 r.2) ∧ Tbq ww pl nv (so M g) (pm M g) (va M g) (fp M g) (np M g) (-1) rs (n + 1) e ∧ (so M g n ≠ 1 ∧ so M g n ≠ 2 ∧ so M g n ≠ 12 ∧ so M g n ≠ 13) ∧ (((so M g n ≠ 29 ∧ so M g n ≠ 30 ∧ so M g n ≠ 32) ∧ vlX ww pl xv nv (i, j) = vsq ww (cvn9 ww xv nv) pl rs (fnv (so M g n) (pm M g n) rs.length)) ∨ ((so M g n = 29 ∨ so M g n = 30) ∧ ∃ r1 r2, rs = [r1, r2] ∧ vlX ww pl xv nv (i, j) = vbd (vlX ww pl xv nv r1) (fun x y => if so M g n = 29 ↔ x = 0 then (0, x, y) else vlX ww pl xv nv r2)) ∨ (so M g n = 32 ∧ ∃ r1 r2 r3, rs = [r1, r2, r3] ∧ vlX ww pl xv nv (i, j) = vbd (vlX ww pl xv nv r1) (fun x _ => if x = 0 then vlX ww pl xv nv r3 else vlX ww pl xv nv r2))) := by
          rcases tn9 () with ⟨q, -⟩ | q
          · rw [b3] at q; omega
          · exact q
        have rk : rs2.length = k := tb_len2 r3 b4.tn b1
        by_cases cs : so M g n = 29 ∨ so M g n = 30 ∨ so M g n = 32
        · -- and, or, ask
          have k2 : 2 ≤ k := by unfold ari at b2; omega
          cases f with
          | zero => exact b4.elim
          | succ f1 =>
            have b4' := b4
            rw [Ty, if_neg (by omega), if_neg (by omega)] at b4'
            obtain ⟨m, q1, q2, q3⟩ := b4'
            have l1 := q2.tn.lt
            have l3 := q3.tn.ge
            -- the first part and the rest
            obtain ⟨ra, rt, rfl⟩ : ∃ ra rt, rs2 = ra :: rt := by
              cases rs2 with
              | nil => exact absurd rfl r1
              | cons r rs => exact ⟨r, rs, rfl⟩
            have lrt : rt.length = k - 1 := by simp only [List.length_cons] at rk; omega
            obtain ⟨rb, rt2, rfl⟩ : ∃ rb rt2, rt = rb :: rt2 := by
              cases rt with
              | nil => simp at lrt; omega
              | cons r rs => exact ⟨r, rs, rfl⟩
            obtain ⟨m', tb1, tb2, tb3⟩ := r3
            have em : m' = m := by omega
            subst em
            have eoa : Eo ww 6 ra.1 ra.2 := r2 ra (List.mem_cons_self ..)
            have vfa : vfX ww pl xv nv [ra] = if (vlX ww pl xv nv ra).1 = 0 then (0, 0, 1) else vlX ww pl xv nv ra := rfl
            -- a fault of the first part is the node's
            have xa : (vlX ww pl xv nv ra).1 ≠ 0 → vlX ww pl xv nv (i, j) = vlX ww pl xv nv ra := fun z => by
              rcases r5 with ⟨q, -⟩ | ⟨-, x1, x2, e1, e2⟩ | ⟨-, x1, x2, x3, e1, e2⟩
              · omega
              · have := (List.cons.inj e1).1
                subst this
                rw [e2, vbd, if_neg z]
              · have := (List.cons.inj e1).1
                subst this
                rw [e2, vbd, if_neg z]
            refine s_wo2 (n := n) (X := Lk) (s := 0) h h16 lk (Or.inl rfl) p0 pn (fun _ M4 t4 => ?_) (fun z => absurd z (by decide)) (fun z => absurd z (by decide)) (fun z => absurd z (by decide))
            obtain ⟨m4, l4, e4⟩ := t4
            have E4 := h.pile m4
            have K4 := kp99 h.1.2.1 m4
            have nd4 := E4.nod n
            refine (s_bg_first (X := Lk) E4.2.1 (by omega) (by rw [nd4.1]; exact cs) l4 (by omega)).mono (fun M5 t5 => ⟨t5.1, ?_⟩)
            obtain ⟨-, m5, l5, e5, x2, xn, x0, xf⟩ := t5
            rw [nd4.2.2.1] at xf
            have E5 := E4.pile m5
            have K5 := kp99 E4.1.2.1 m5
            refine ih f1 (by omega) 0 (n + 1) m' e0 (Lk + 2) V 1 c M5 [ra] (by omega) q2 ⟨fun x hx => by rw [List.mem_singleton.1 hx]; exact eoa, by rw [if_pos rfl]; exact ⟨ra.1, ra.2, rfl, tb1⟩⟩ (by omega) (by omega) he0 E5 ((hxv.pile hg h.1.2.1 m4).pile hg E4.1.2.1 m5) (by rw [K5.1, K4.1]; exact h16) (by rw [l5]) (fun j' hj' => ?_) (by rw [K5.1, K4.1]; exact hV) (by first | exact sbV (by omega) | omega) (by first | exact sbL (by omega) (by omega) | omega) (fun M6 l6 p6 => ?_) (fun M6 h6 x6 X6 => ?_)
            · have j0 : j' = 0 := by omega
              subst j0
              exact ⟨x0, xf.trans b3⟩
            · rw [vfa] at p6
              have z1 : (vlX ww pl xv nv ra).1 ≠ 0 := fun z => by rw [if_pos z] at p6; exact p6.1 rfl
              rw [if_neg z1] at p6
              have := xa z1
              exact w1x l6 (by rw [this]; exact z1) (by rw [this]; exact p6.2.1) (by rw [this]; exact p6.2.2)
            · have va0 := x6.2 0 (by simp)
              have va1 : (vlX ww pl xv nv ra).1 = 0 := by rw [show vlX ww pl xv nv ra = _ from va0]; rfl
              obtain ⟨E6, z16, l6, e6, v6, k6, o6⟩ := h6
              refine s_wo2 (n := n) (X := Lk) (s := 2) E6 z16 l6 (Or.inr (Or.inr (Or.inl rfl))) (by rw [e6 Lk (by omega)]; exact x2) (by rw [e6 (Lk + 1) (by omega)]; exact xn) (fun z => absurd z (by decide)) (fun z => absurd z (by decide)) (fun _ M7 t7 => ?_) (fun z => absurd z (by decide))
              obtain ⟨m7, l7, e7⟩ := t7
              have E7 := E6.pile m7
              have K7 := kp99 E6.1.2.1 m7
              have nd7 := E7.nod
              refine (x_MM_choose0 (d := d + 1) (V := V) (X := Lk) (c1 := n + 1) (c2 := m') E7.2.1 (by omega) (by rw [(nd7 n).2.2.1]; exact b3) (by omega) (by rw [(nd7 (n + 1)).2.2.2]; exact q1) (by omega) (by rw [K7.1]; exact v6) (by omega) l7 (by omega)).mono (fun M8 t8 => ⟨t8.1, ?_⟩)
              have lowT : ∀ j, j < Lk → nt M7 (a + 99) j = nt M2 (a + 99) j := fun j hj => by rw [e7, e6 j (by omega), e5 j hj, e4]
              have lowV : ∀ j, j < V → mL M7 (a + 97) j = mL M2 (a + 97) j ∧ mL M7 (a + 98) j = mL M2 (a + 98) j := fun j hj => ⟨by rw [K7.2.1, (k6 j hj).1, K5.2.1, K4.2.1], by rw [K7.2.2, (k6 j hj).2, K5.2.2, K4.2.2]⟩
              have u0t : c 0 = 1 := by
                unfold tyr at hty
                by_cases c32 : so M g n = 32
                · rw [if_neg (by omega), if_neg (by omega), if_pos c32] at hty
                  exact hty.1
                · rw [if_pos (by omega)] at hty
                  exact hty.1 0 (by omega)
              have va2 : vlX ww pl xv nv ra = (0, mL M7 (a + 97) V, 1) := by
                have q := show vlX ww pl xv nv ra = _ from va0
                rw [q, K7.2.1]
                unfold vr9
                rw [if_pos u0t]
                rfl
              have va3 : mL M7 (a + 97) V = 0 ∨ mL M7 (a + 97) V = 1 := by
                have o := o6 0 (by omega)
                rw [u0t, ← K7.2.1, ← K7.2.2] at o
                unfold vok at o
                rcases o with o | o
                · omega
                · exact o.2.1
              rcases t8.2 with ⟨y1, y3, y2⟩ | ⟨cc, hcc, m8, v8, f8, l8, e8, x8, y8⟩
              · subst y2
                rw [(nd7 n).1] at y1 y3
                refine hQ M8 ⟨E7, by rw [K7.1]; exact z16, l7, lowT, by rw [K7.1]; exact v6, lowV, fun j hj => ?_⟩ ?_ (X6.pile hg E6.1.2.1 m7)
                rotate_left
                · rcases r5 with ⟨q, -⟩ | ⟨q, x1, x2, e1, e2⟩ | ⟨q, -⟩
                  · omega
                  · have := (List.cons.inj e1).1
                    subst this
                    have hu1 : u 0 = 1 := by
                      unfold tyr at hty
                      rw [if_pos (by omega)] at hty
                      exact hty.2
                    have ob := (o6 0 (by omega))
                    rw [u0t, ← K7.2.1, ← K7.2.2] at ob
                    refine w1 (A := mL M8 (a + 97) V) (B := mL M8 (a + 98) V) ?_ rfl rfl
                    rw [e2, va2, vbd, if_pos rfl]
                    show (if so M g n = 29 ↔ mL M8 (a + 97) V = 0 then ((0, mL M8 (a + 97) V, 1) : vrs) else vlX ww pl xv nv x2) = _
                    rw [if_pos (by constructor <;> intro zz <;> omega)]
                    unfold vr9
                    rw [if_pos hu1]
                  · omega
                have j0 : j = 0 := by omega
                subst j0
                have o := o6 0 (by omega)
                rw [← K7.2.1, ← K7.2.2] at o
                unfold tyr at hty
                rw [if_pos (by omega)] at hty
                rw [hty.2, ← hty.1 0 (by omega)]
                exact o
              · have E8 := E7.step m8 (fun q hq => hq) (fun x hx => Or.inl hx) (fun i _ _ i3 => f8 i i3)
                have w7 := E7.1.2.1
                have in9 : ∀ q, q = a + 99 → q ∈ nums a := fun q hq => by rw [hq]; exact n99
                have l97 := (m8.cellL w7 in9 (offx (a := a) (o := 97) (by decide)) (by omega)).2
                have l98 := (m8.cellL w7 in9 (offx (a := a) (o := 98) (by decide)) (by omega)).2
                obtain ⟨n2, e2, f2, u2, d1, d2, d3, d4, d5, d6, rc, dr1, dr2, dr3⟩ : ∃ (n2 e2 f2 : Nat) (u2 : Nat → Int), cc = (n2 : Int) ∧ f2 < f1 + 1 + 1 ∧ Ty (nme True M g b W) (tn M g) M g f2 0 n2 e2 u2 ∧ u2 0 = u 0 ∧ m' ≤ n2 ∧ e2 ≤ e ∧ ∃ rc : Nat × Nat, Eo ww 6 rc.1 rc.2 ∧ Td ww pl nv (so M g) (pm M g) (va M g) (fp M g) (np M g) 0 0 rc.1 rc.2 n2 e2 ∧ vlX ww pl xv nv (i, j) = vlX ww pl xv nv rc := by
                  unfold tyr at hty
                  cases f1 with
                  | zero => exact q3.elim
                  | succ f2 =>
                    by_cases c32 : so M g n = 32
                    · have k3 : k = 3 := by unfold ari at b2; omega
                      subst k3
                      rw [if_neg (by omega), if_neg (by omega), if_pos c32] at hty
                      rw [Ty, if_neg (by omega), if_neg (by omega)] at q3
                      obtain ⟨m2, r1', r2', r3'⟩ := q3
                      have g1 := r2'.tn.lt
                      have g2 := r3'.tn.lt
                      obtain ⟨rd3, rfl⟩ : ∃ r, rt2 = [r] := by
                        cases rt2 with
                        | nil => simp at lrt
                        | cons r rs =>
                          cases rs with
                          | nil => exact ⟨r, rfl⟩
                          | cons r2 rs => simp at lrt
                      obtain ⟨m3, tc1, tc2, tc3⟩ := tb3
                      have em3 : m3 = m2 := by omega
                      subst em3
                      obtain ⟨x1, x2, x3, e1, e2⟩ : ∃ r1 r2 r3, ([ra, rb, rd3] : List (Nat × Nat)) = [r1, r2, r3] ∧ vlX ww pl xv nv (i, j) = vbd (vlX ww pl xv nv r1) (fun x _ => if x = 0 then vlX ww pl xv nv r3 else vlX ww pl xv nv r2) := by
                        rcases r5 with ⟨q, -⟩ | ⟨q, -⟩ | ⟨-, q⟩
                        · omega
                        · omega
                        · exact q
                      simp only [List.cons.injEq, and_true] at e1
                      obtain ⟨e1a, e1b, e1c⟩ := e1
                      subst e1a e1b e1c
                      rcases hcc with z | z
                      · refine ⟨m', m3, f2, _, z.1, by omega, r2', hty.2.1, Nat.le_refl _, by omega, rb, r2 rb (by simp), tc1, ?_⟩
                        rw [e2, va2, vbd, if_pos rfl]
                        show (if mL M7 (a + 97) V = 0 then _ else _) = _
                        rw [if_neg]
                        rw [(nd7 n).1] at z
                        omega
                      · cases f2 with
                        | zero => exact r3'.elim
                        | succ f3 =>
                          rw [Ty, if_neg (by omega), if_pos (by omega)] at r3'
                          refine ⟨m3, e, f3, _, z.2.1.trans ((nd7 m').2.2.2.trans r1'), by omega, r3'.2, hty.2.2, by omega, Nat.le_refl _, rd3, r2 rd3 (by simp), tc3.1, ?_⟩
                          rw [e2, va2, vbd, if_pos rfl]
                          show (if mL M7 (a + 97) V = 0 then _ else _) = _
                          rw [if_pos]
                          have := z.2.2
                          omega
                    · have k3 : k = 2 := by unfold ari at b2; omega
                      subst k3
                      rw [if_pos (by omega)] at hty
                      rw [Ty, if_neg (by omega), if_pos (by omega)] at q3
                      have rt0 : rt2 = [] := by
                        cases rt2 with
                        | nil => rfl
                        | cons r rs => simp at lrt
                      subst rt0
                      obtain ⟨x1, x2, e1, e2⟩ : ∃ r1 r2, ([ra, rb] : List (Nat × Nat)) = [r1, r2] ∧ vlX ww pl xv nv (i, j) = vbd (vlX ww pl xv nv r1) (fun x y => if so M g n = 29 ↔ x = 0 then (0, x, y) else vlX ww pl xv nv r2) := by
                        rcases r5 with ⟨q, -⟩ | ⟨-, q⟩ | ⟨q, -⟩
                        · omega
                        · exact q
                        · omega
                      simp only [List.cons.injEq, and_true] at e1
                      obtain ⟨e1a, e1b⟩ := e1
                      subst e1a e1b
                      rcases hcc with z | z
                      · refine ⟨m', e, f2, _, z.1, by omega, q3.2, (hty.1 1 (by omega)).trans hty.2.symm, Nat.le_refl _, Nat.le_refl _, rb, r2 rb (by simp), tb3.1, ?_⟩
                        rw [e2, va2, vbd, if_pos rfl]
                        show (if so M g n = 29 ↔ mL M7 (a + 97) V = 0 then _ else _) = _
                        rw [if_neg]
                        rw [(nd7 n).1] at z
                        omega
                      · exact absurd ((nd7 n).1.symm.trans z.1) c32
                have g3 := d3.tn.lt
                refine ih f2 d2 0 n2 e2 e0 Lk V 1 u2 M8 [rc] (by omega) d3 ⟨fun x hx => by rw [List.mem_singleton.1 hx]; exact dr1, by rw [if_pos rfl]; exact ⟨rc.1, rc.2, rfl, dr2⟩⟩ (by omega) (by omega) he0 E8 ((X6.pile hg E6.1.2.1 m7).st hg E7.1.2.1 m8 (fun q hq => hq) (fun x hx => Or.inl hx)) (by rw [f8 16 (by omega), K7.1]; exact z16) (by rw [l8]) (fun j hj => ?_) v8 (by first | exact sbV (by omega) | omega) (by first | exact sbL (by omega) (by omega) | omega) (fun M9 l9 p9 => hX M9 l9 (by rw [vf1, dr3]; exact p9)) (fun M9 h9 x9 X9 => hQ M9 ?_ ?_ X9)
                · have j0 : j = 0 := by omega
                  subst j0
                  exact ⟨x8, y8.trans d1⟩
                rotate_left
                · have q9 := x9.2 0 (by simp)
                  rw [d4] at q9
                  exact w1 (by rw [dr3]; exact q9) rfl rfl
                · obtain ⟨E9, y16, l9, e9, v9, k9, o9⟩ := h9
                  refine ⟨E9, y16, l9, fun j hj => by rw [e9 j hj, e8 j hj, lowT j hj], v9, fun j hj => ⟨by rw [(k9 j hj).1, l97, (lowV j hj).1], by rw [(k9 j hj).2, l98, (lowV j hj).2]⟩, fun j hj => ?_⟩
                  have j0 : j = 0 := by omega
                  subst j0
                  rw [← d4]
                  exact o9 0 hj
        · -- the parts first
          refine s_wo2 (n := n) (X := Lk) (s := 0) h h16 lk (Or.inl rfl) p0 pn (fun _ M4 t4 => ?_) (fun z => absurd z (by decide)) (fun z => absurd z (by decide)) (fun z => absurd z (by decide))
          obtain ⟨m4, l4, e4⟩ := t4
          have E4 := h.pile m4
          have K4 := kp99 h.1.2.1 m4
          have nd4 := E4.nod n
          refine (s_bg_parts (X := Lk) E4.2.1 (by omega) b1 (by rw [nd4.1]; omega) (by rw [nd4.2.2.1]; exact b3) (E4.tnn b4.tn) (by omega) l4 (by omega)).mono (fun M5 t5 => ⟨t5.1, ?_⟩)
          obtain ⟨-, m5, l5, e5, x1, xn, v5⟩ := t5
          have E5 := E4.pile m5
          have K5 := kp99 E4.1.2.1 m5
          have cie : ∀ j, ci M4 g (n + 1) j = ci M g (n + 1) j := ci_cg (fun k => (E4.nod k).2.2.2)
          refine ih f (by omega) k (n + 1) e e0 (Lk + 2) V k c M5 rs2 (by omega) b4 ⟨r2, by rw [if_neg (by omega)]; exact ⟨rk, r3⟩⟩ (by omega) he he0 E5 ((hxv.pile hg h.1.2.1 m4).pile hg E4.1.2.1 m5) (by rw [K5.1, K4.1]; exact h16) (by rw [l5]) (fun j hj => ⟨(v5 j hj).1, (v5 j hj).2.trans (cie j)⟩) (by rw [K5.1, K4.1]; exact hV) (by first | exact sbV (by omega) | omega) (by first | exact sbL (by omega) (by omega) | omega) (fun M6 l6 p6 => ?_) (fun M6 h6 x6 X6 => ?_)
          · have e9 : vlX ww pl xv nv (i, j) = vfX ww pl xv nv rs2 := by
              rcases r5 with ⟨-, q⟩ | ⟨q, -⟩ | ⟨q, -⟩
              · rw [q]; unfold vsq; rw [if_neg p6.1]
              · omega
              · omega
            exact w1x l6 (by rw [e9]; exact p6.1) (by rw [e9]; exact p6.2.1) (by rw [e9]; exact p6.2.2)
          have e9 : vlX ww pl xv nv (i, j) = fnv (so M g n) (pm M g n) k (fun t => vlX ww pl xv nv (rs2.getD t (0, 0))) := by
            rcases r5 with ⟨-, q⟩ | ⟨q, -⟩ | ⟨q, -⟩
            · rw [q]; unfold vsq; rw [if_pos x6.1, rk]
            · omega
            · omega
          obtain ⟨E6, z16, l6, e6, v6, k6, o6⟩ := h6
          refine s_wo2 (n := n) (X := Lk) (s := 1) E6 z16 l6 (Or.inr (Or.inl rfl)) (by rw [e6 Lk (by omega)]; exact x1) (by rw [e6 (Lk + 1) (by omega)]; exact xn) (fun z => absurd z (by decide)) (fun _ M7 t7 => ?_) (fun z => absurd z (by decide)) (fun z => absurd z (by decide))
          obtain ⟨m7, l7, e7⟩ := t7
          have E7 := E6.pile m7
          have K7 := kp99 E6.1.2.1 m7
          have nd7 := E7.nod n
          refine (x_MM_finish (d := d) (V := V) (k := k) (c := c) (t := u 0) E7.2.1 (by omega) b1 (by rw [nd7.1]; exact b2) (by rw [nd7.1]; omega) (by rw [nd7.2.2.1]; exact b3) (E7.tnn b4.tn) (by omega) (by rw [nd7.1]; exact hty) (fun j hj => by rw [K7.2.1, K7.2.2]; exact o6 j hj) (by rw [K7.1]; exact v6) (by omega)).mono (fun M8 t8 => ⟨t8.1, ?_⟩)
          obtain ⟨-, ⟨y1, y2, y3, y4⟩, y5⟩ := t8
          have ex : fnv (so M7 g n) (pm M7 g n) k (fun j => vr9 (c j) (mL M7 (a + 97) (V + j)) (mL M7 (a + 98) (V + j))) = vlX ww pl xv nv (i, j) := by
            rw [e9, nd7.1, E7.pm]
            refine fnv_cg b1 (by rw [← nd7.1, nd7.1]; exact b2) (fun t ht => ?_)
            rw [x6.2 t (by rw [rk]; exact ht), K7.2.1, K7.2.2]
          rw [ex] at y5
          have E8 := E7.step y1 (fun _ z => z.elim) (fun x hx => hx) y2
          have s8 := y1.lst (n99 (a := a)) (fun z => z)
          have z7 : mI M7 a 16 = 0 := by rw [K7.1]; exact z16
          by_cases z8 : mI M8 a 16 = 0
          rotate_left
          · have w8 := E8.1.2.1
            refine k_MM_workOut_19 E8.1.1 ?_
            rw [r24w w8]
            refine ⟨w8.1.1, (w8.nu n99).1, fun _ => ?_, fun q => absurd (Or.inr z8) q⟩
            rcases y5 with ⟨q1, q2, q3⟩ | ⟨q2, -⟩
            · exact w1x E8 q1 q2 q3
            · rw [q2] at z8; exact absurd z7 z8
          have z := z8
          refine hQ M8 ?_ ?_ ((X6.pile hg E6.1.2.1 m7).st hg E7.1.2.1 y1 (fun _ z => z.elim) (fun x hx => hx))
          rotate_left
          · rcases y5 with ⟨q1, q2, -⟩ | ⟨-, q2⟩
            · rw [z] at q2; exact absurd q2.symm q1
            · exact w1 q2 rfl rfl
          rcases y4 with y | ⟨w1', w2, w3⟩
          · exact absurd z y
          · refine ⟨E8, z, by rw [s8.1]; exact l7, fun j hj => by rw [s8.2.1, e7, e6 j (by omega), e5 j hj, e4], w2, fun j hj => ⟨by rw [(y3 j hj).1, K7.2.1, (k6 j hj).1, K5.2.1, K4.2.1], by rw [(y3 j hj).2, K7.2.2, (k6 j hj).2, K5.2.2, K4.2.2]⟩, fun j hj => ?_⟩
            have j0 : j = 0 := by omega
            subst j0
            exact w3
    · rw [if_neg c0] at ht htb
      obtain ⟨hlen, htb⟩ := htb
      have kkm : kk = md := by omega
      subst kkm
      by_cases c1 : kk = 1
      · subst c1
        rw [if_pos rfl] at ht
        obtain ⟨r, rfl⟩ : ∃ r, rs = [r] := by
          cases rs with
          | nil => simp at hlen
          | cons r rs =>
            cases rs with
            | nil => exact ⟨r, rfl⟩
            | cons r2 rs => simp at hlen
        exact ih f (by omega) 0 n e e0 Lk V 1 u M2 [r] (by omega) ht.2 ⟨hrs, by rw [if_pos rfl]; exact ⟨r.1, r.2, rfl, htb.1⟩⟩ hn0 he he0 h hxv h16 lk pk hV hVh hLh hX hQ
      · rw [if_neg c1] at ht
        obtain ⟨m, q1, q2, q3⟩ := ht
        have l1 := q2.tn.lt
        have l2 := q3.tn.ge
        obtain ⟨r, r2, rs2, rfl⟩ : ∃ r r2 rs2, rs = r :: r2 :: rs2 := by
          cases rs with
          | nil => simp at hlen; omega
          | cons r rs =>
            cases rs with
            | nil => simp at hlen; omega
            | cons r2 rs => exact ⟨r, r2, rs, rfl⟩
        obtain ⟨m', tb1, tb2, tb3⟩ := htb
        have em : m' = m := by omega
        subst em
        have eor : Eo ww 6 r.1 r.2 := hrs r (List.mem_cons_self ..)
        have vfc : vfX ww pl xv nv (r :: r2 :: rs2) = if (vlX ww pl xv nv r).1 = 0 then vfX ww pl xv nv (r2 :: rs2) else vlX ww pl xv nv r := rfl
        have vf1 : vfX ww pl xv nv [r] = if (vlX ww pl xv nv r).1 = 0 then (0, 0, 1) else vlX ww pl xv nv r := rfl
        refine ih f (by omega) 0 n m' e0 (Lk + 2 * (kk - 1)) V 1 u M2 [r] (by omega) q2 ⟨fun x hx => by rw [List.mem_singleton.1 hx]; exact eor, by rw [if_pos rfl]; exact ⟨r.1, r.2, rfl, tb1⟩⟩ hn0 (by omega) he0 h hxv h16 (by rw [lk]; omega) (fun j hj => ?_) hV (by first | exact sbV (by omega) | omega) (by first | exact sbL (by omega) (by omega) | omega) (fun M3 l3 p3 => hX M3 l3 (by
          rw [vf1] at p3
          have z1 : (vlX ww pl xv nv r).1 ≠ 0 := fun z => by rw [if_pos z] at p3; exact p3.1 rfl
          rw [if_neg z1] at p3
          rw [vfc, if_neg z1]
          exact p3)) (fun M3 h3 x3 X3 => ?_)
        · have j0 : j = 0 := by omega
          subst j0
          have := pk 0 (by omega)
          rw [show Lk + 2 * (kk - 1) + 2 * (1 - 1 - 0) = Lk + 2 * (kk - 1 - 0) by omega]
          exact this
        · obtain ⟨g1, g2, g3, g4, g5, g6, g7⟩ := h3
          have va0 := x3.2 0 (by simp)
          have va1 : (vlX ww pl xv nv r).1 = 0 := by rw [show vlX ww pl xv nv r = _ from va0]; rfl
          refine ih f (by omega) (kk - 1) m' e e0 Lk (V + 1) (kk - 1) (fun j => u (j + 1)) M3 (r2 :: rs2) (by omega) q3 ⟨fun x hx => hrs x (List.mem_cons_of_mem _ hx), by rw [if_neg (by omega)]; exact ⟨by simp only [List.length_cons] at hlen ⊢; omega, tb3⟩⟩ (by omega) he he0 g1 X3 g2 g3 (fun j hj => ?_) g5 (by first | exact sbV (by omega) | omega) (by first | exact sbL (by omega) (by omega) | omega) (fun M4 l4 p4 => hX M4 l4 (by rw [vfc, if_pos va1]; exact p4)) (fun M4 h4 x4 X4 => hQ M4 ?_ ?_ X4)
          · have := pk (j + 1) (by omega)
            rw [ci_succ q1, show Lk + 2 * (kk - 1 - (j + 1)) = Lk + 2 * (kk - 1 - 1 - j) by omega] at this
            rw [g4 _ (by omega), g4 _ (by omega)]
            exact this
          · obtain ⟨f1, f2, f3, f4, f5, f6, f7⟩ := h4
            refine ⟨f1, f2, f3, fun j hj => by rw [f4 j hj, g4 j (by omega)], by rw [f5]; omega, fun j hj => ⟨by rw [(f6 j (by omega)).1, (g6 j hj).1], by rw [(f6 j (by omega)).2, (g6 j hj).2]⟩, fun j hj => ?_⟩
            cases j with
            | zero =>
              rw [(f6 (V + 0) (by omega)).1, (f6 (V + 0) (by omega)).2]
              exact g7 0 (by omega)
            | succ j =>
              have := f7 j (by omega)
              rw [show V + 1 + j = V + (j + 1) by omega] at this
              exact this
          · obtain ⟨f1, f2, f3, f4, f5, f6, f7⟩ := h4
            refine ⟨by rw [vfc, if_pos va1]; exact x4.1, fun t ht => ?_⟩
            cases t with
            | zero =>
              rw [(f6 (V + 0) (by omega)).1, (f6 (V + 0) (by omega)).2]
              exact va0
            | succ t =>
              have := x4.2 t (by simp only [List.length_cons] at ht ⊢; omega)
              rw [show V + 1 + t = V + (t + 1) by omega] at this
              exact this
end WRT
section WTT
variable {G : mG} {d a g R W T : Nat} {M : mM} {E : Nat → Nat} {ww pl nv : Nat → Int} {xv : Int → vrs}
/-- a rule has been worked out in a state, or a fault told -/
def wrkT (M : mM) (a g R W T : Nat) (xv : Int → vrs) (t : Int) (v : vrs) (M' : mM) : Prop := wrkQ True M a g R W T t M' ∧ (mI M a 16 = 0 → fvq M' a v ∨ (mI M' a 16 = 0 ∧ v = vr9 t (mL M' (a + 97) 0) (mL M' (a + 98) 0) ∧ XVq M' a g R W xv))
theorem x_MM_workOutT {b f n e i j : Nat} {t : Int} (hx : XVq M a g R W xv) (h : Ev True M a g R W T) (hF : Fm M g R W T E) (hFx : FmX ww pl xv M g R E) (hb : b ≤ R) (hbE : ∀ r : Nat, r < b → mI M (g + 13) r ≠ 0 → E r ≤ n) (eo : Eo ww 6 i j) (tm : Td ww pl nv (so M g) (pm M g) (va M g) (fp M g) (np M g) 0 0 i j n e) (ht : Ty (nme True M g b W) (tn M g) M g f 0 n e (fun _ => t)) (he : e ≤ T) : Cv G y_MM_workOut (d + 4) [vr a, vr g, vi n] M (fun M' => mOk M' ∧ wrkT M a g R W T xv t (vlX ww pl xv nv (i, j)) M') := by
  obtain ⟨hO, w, hg, hd, hB, -, -⟩ := id h
  have hlt := ht.tn.lt
  refine k_MM_workOut hO (i32s (by omega) (by omega)) ⟨w.1.1, fun M2 e2 => ?_⟩
  obtain ⟨m2, f2⟩ := mv_fld (v := 0) ⟨by omega, by omega⟩ hO w e2
  have E2 : EO True M a g R W T M2 := (EO.refl h).step m2 (fun _ z => z.elim) (fun x hx => Or.inl hx) (fun i _ _ i3 => by rw [f2, if_neg i3])
  have X2 := hx.st hg w m2 (fun _ z => z.elim) (fun x hx => Or.inl hx)
  have w2 := m2.2.1
  rw [r24w w2]
  refine ⟨(w2.nu n99).1, fun M5 e5 => ?_⟩
  have b99 : 0 ≤ ln M2 (a + 99) := (w2.nu n99).2.2.2.1.1
  obtain ⟨m5, l5, -, -⟩ := mv_set m2.1 w2 n99 (v := 0) (by omega) b99 e5
  have E5 := E2.pile m5
  have X5 := X2.pile hg w2 m5
  have K5 := kp99 w2 m5
  refine (s_MM_todo (d := d + 2) (X := 0) ⟨by omega, by omega⟩ (i32s (by omega) (by omega)) m5.1 m5.2.1 l5 (by omega)).mono (fun M7 t7 => ⟨t7.1, ?_⟩)
  obtain ⟨o7, m7, l7, -, x7, y7⟩ := t7
  have E7 := E5.pile m7
  have X7 := X5.pile hg m5.2.1 m7
  have K7 := kp99 E5.1.2.1 m7
  have z17 : mI M7 a 16 = mI M a 16 := by rw [K7.1, K5.1, f2, if_neg (by omega)]
  by_cases z : mI M7 a 16 = 0
  · refine x_wo_runT h hF hFx b nv n hb hbE f 0 n e e 0 0 1 (fun _ => t) M7 [(i, j)] (by omega) ht ⟨fun r hr => by rw [List.mem_singleton.1 hr]; exact eo, by rw [if_pos rfl]; exact ⟨i, j, rfl, tm⟩⟩ (Nat.le_refl _) (Nat.le_refl _) he E7 X7 z l7 (fun j hj => ?_) (by rw [K7.1, K5.1, f2, if_pos rfl]; rfl) (by omega) (by omega) (fun M3 l3 p3 => ?_) (fun M8 h8 x8 X8 => ?_)
    · have j0 : j = 0 := by omega
      subst j0
      exact ⟨x7, y7⟩
    · have p3' : fvq M3 a (if (vlX ww pl xv nv (i, j)).1 = 0 then (0, 0, 1) else vlX ww pl xv nv (i, j)) := p3
      have z1 : (vlX ww pl xv nv (i, j)).1 ≠ 0 := fun z => by rw [if_pos z] at p3'; exact p3'.1 rfl
      rw [if_neg z1] at p3'
      exact ⟨l3.1.1, ⟨l3, Or.inl (by rw [p3'.2.1]; exact z1)⟩, fun _ => Or.inl p3'⟩
    · obtain ⟨E8, z16, l8, -, -, -, o8⟩ := h8
      have w8 := E8.1.2.1
      have l8' : mI M8 (a + 99) 1 = 0 := l8
      refine k_MM_workOut_19 E8.1.1 ?_
      rw [r24w w8, l8']
      exact ⟨w8.1.1, (w8.nu n99).1, fun _ => ⟨E8.1.1, ⟨E8, Or.inr ⟨z16, o8 0 (by omega)⟩⟩, fun _ => Or.inr ⟨z16, x8.2 0 (by simp), X8⟩⟩, fun q => absurd (Or.inl (Int.le_refl _)) q⟩
  · have w := E7.1.2.1
    refine k_MM_workOut_19 E7.1.1 ?_
    rw [r24w w]
    exact ⟨w.1.1, (w.nu n99).1, fun _ => ⟨E7.1.1, ⟨E7, Or.inl z⟩, fun y => absurd (z17.trans y) z⟩, fun q => absurd (Or.inr z) q⟩
end WTT
