/-! The reference: the chances of a command, exactly. -/
section CHX
variable {G : mG} {d a g T R W C Z nb : Nat} {M M' : mM} {E : Eg9} {tg : Int} {ww pl lo hi : Nat → Int} {XV : List Int → Int → vrs} {ev : List Int → Nat → Nat → vrs} {tgI : Nat × Nat} {cms : List cm9} {sg : List Int}
/-- the first n chances -/
def lchR (M : mM) (a n : Nat) : List (Int × Int) := (List.range n).map (fun b => (mL M (a + 21189) b, mL M (a + 21190) b))
theorem lchR_len {n : Nat} : (lchR M a n).length = n := by
  unfold lchR
  rw [List.length_map, List.length_range]
theorem lchR_s {n : Nat} : lchR M a (n + 1) = lchR M a n ++ [(mL M (a + 21189) n, mL M (a + 21190) n)] := by
  unfold lchR
  rw [List.range_succ, List.map_append]
  rfl
theorem lchR_cg {n : Nat} (h : ∀ b, b < n → mL M' (a + 21189) b = mL M (a + 21189) b ∧ mL M' (a + 21190) b = mL M (a + 21190) b) : lchR M' a n = lchR M a n := by
  unfold lchR
  exact List.map_congr_left (fun b hb => by rw [(h b (List.mem_range.mp hb)).1, (h b (List.mem_range.mp hb)).2])
theorem lchR_get {n b : Nat} (h : b < n) : (lchR M a n)[b]? = some (mL M (a + 21189) b, mL M (a + 21190) b) := by
  unfold lchR
  rw [List.getElem?_map, List.getElem?_range h]
  rfl
theorem lchR_drop {n b : Nat} (h : b < n) : (lchR M a n).drop b = (mL M (a + 21189) b, mL M (a + 21190) b) :: (lchR M a n).drop (b + 1) := by
  obtain ⟨hl, he⟩ := List.getElem?_eq_some_iff.mp (lchR_get (M := M) (a := a) h)
  rw [List.drop_eq_getElem_cons hl, he]
theorem gcd_un {x A B : Int} (h1 : 1 ≤ x) (h2 : x ∣ A) (h3 : x ∣ B) (h4 : ∀ z : Int, z ∣ A → z ∣ B → z ∣ x) : x = (Int.gcd A B : Int) := by
  have d1 : x ∣ (Int.gcd A B : Int) := Int.dvd_coe_gcd h2 h3
  have d2 : (Int.gcd A B : Int) ∣ x := h4 _ (Int.gcd_dvd_left ..) (Int.gcd_dvd_right ..)
  exact Int.dvd_antisymm (by omega) (by omega) d1 d2
theorem Gs.trans {M2 : mM} (h : Gs M M2 g) (k : Gs M2 M' g) : Gs M M' g := ⟨k.1.trans h.1, fun i i1 i2 => ⟨(k.2.1 i i1 i2).1.trans (h.2.1 i i1 i2).1, (k.2.1 i i1 i2).2.trans (h.2.1 i i1 i2).2⟩, fun q hq => ⟨(k.2.2 q hq).1.trans (h.2.2 q hq).1, fun j => ((k.2.2 q hq).2 j).trans ((h.2.2 q hq).2 j)⟩⟩
/-- a fault of chances -/
def chE (ch : (Int × Int) × List (Int × Int)) (pc : Int) (M' : mM) (a : Nat) : Prop := (ch.1.1 ≠ 0 ∧ mI M' a 16 = ch.1.1 ∧ mI M' a 17 = ch.1.2) ∨ (ch.1.1 = 0 ∧ muq9 ch.2 1 = 0 ∧ mI M' a 16 = 6 ∧ mI M' a 17 = pc)
/-- what chances come to -/
def chY (ch : (Int × Int) × List (Int × Int)) (pc : Int) (nb : Nat) (xv : Int → vrs) (a g R W : Nat) (x : Int) (M' : mM) : Prop := chE ch pc M' a ∨ (ch.1.1 = 0 ∧ muq9 ch.2 1 ≠ 0 ∧ mI M' a 16 = 0 ∧ x = muq9 ch.2 1 ∧ lchR M' a nb = ch.2 ∧ XVq M' a g R W xv)
theorem x_ch129 {c nb : Nat} {pc : Int} {xv : Int → vrs} {ch : (Int × Int) × List (Int × Int)} (hc : c < C) (ipl : i32 pc) (hnb : nb ≤ 8) : ∀ (t b : Nat) (j : Int) (M2 : mM), b + t = nb → xg M a g T R W C Z E tg M2 → mI M2 (g + 25) c = (nb : Int) → i64 j → (mI M2 a 16 = 0 → chk1 M2 a nb ∧ 1 ≤ j ∧ j < 1000000000 ∧ ∀ b' : Nat, b' < b → mL M2 (a + 21190) b' ∣ j) → (mI M2 a 16 = 0 → ch = ((0, 0), lchR M2 a nb) ∧ muq9 ch.2 1 = muq9 (ch.2.drop b) j ∧ XVq M2 a g R W xv) → (mI M2 a 16 ≠ 0 → chE ch pc M2 a) → h_MM_chances_129 G d a c pc j b M2 (fun x M' => i64 x ∧ mOk M' ∧ chQ M a g T R W C Z E tg nb x M' ∧ chY ch pc nb xv a g R W x M') := by
  intro t
  induction t with
  | zero =>
    intro b j M2 hb h h25 ij hj hz hf
    have eb : b = nb := by omega
    subst eb
    have gg := h.2.1
    have w2 := gg.2.1
    have hg := gg.2.2.1.2
    have hBd := gg.2.2.2.2.2.2.2.1.1
    refine k_MM_chances_129 gg.1 (i32s (by omega) (by omega)) ipl ij (i32s (by omega) (by omega)) ⟨w2.1.1, ?_⟩
    rw [gg.2.2.1.1, show mR M2 g 22 = g + 25 from (w2.gp hg).2.2.1.2.2.2.2.2.2.2.1, Int.toNat_natCast, h25]
    have b60 : ((0 : Int) ≤ (c : Int) ∧ (c : Int) < ((60 : Nat) : Int)) := by omega
    refine ⟨(w2.gp hg).1, (w2.gp hg).2.2.2.2.2.2.2.2.1.1, by rw [(w2.gp hg).2.2.2.2.2.2.2.2.1.2]; exact b60, fun _ => ⟨ij, gg.1, ⟨ij, h, ?_⟩, ?_⟩, fun q => absurd (Or.inl (Int.le_refl _)) q⟩
    · by_cases z : mI M2 a 16 = 0
      · exact Or.inr ⟨z, hj z⟩
      · exact Or.inl z
    · by_cases z : mI M2 a 16 = 0
      · obtain ⟨z1, z2, z3⟩ := hz z
        obtain ⟨-, j1, -⟩ := hj z
        have e2 : ch.2 = lchR M2 a b := by rw [z1]
        have e3 : muq9 ch.2 1 = j := by
          rw [z2, e2, List.drop_eq_nil_of_le (by rw [lchR_len]; exact Nat.le_refl _)]
          rfl
        exact Or.inr ⟨by rw [z1], by rw [e3]; omega, z, e3.symm, e2.symm, z3⟩
      · exact Or.inl (hf z)
  | succ t ih =>
    intro b j M2 hb h h25 ij hj hz hf
    have gg := h.2.1
    have w2 := gg.2.1
    have hg := gg.2.2.1.2
    have hBd := gg.2.2.2.2.2.2.2.1.1
    have b60 : ((0 : Int) ≤ (c : Int) ∧ (c : Int) < ((60 : Nat) : Int)) := by omega
    have b8 : ((0 : Int) ≤ (b : Int) ∧ (b : Int) < ((8 : Nat) : Int)) := by omega
    have ib : i32 (b : Int) := i32s (by omega) (by omega)
    have ic : i32 (c : Int) := i32s (by omega) (by omega)
    have hbn : b < nb := by omega
    refine k_MM_chances_129 gg.1 ic ipl ij ib ⟨w2.1.1, ?_⟩
    rw [gg.2.2.1.1, show mR M2 g 22 = g + 25 from (w2.gp hg).2.2.1.2.2.2.2.2.2.2.1, Int.toNat_natCast, h25, (r4546 w2).1.2, Int.toNat_natCast]
    refine ⟨(w2.gp hg).1, (w2.gp hg).2.2.2.2.2.2.2.2.1.1, by rw [(w2.gp hg).2.2.2.2.2.2.2.2.1.2]; exact b60, fun q => ⟨ij, gg.1, ⟨ij, h, Or.inl ?_⟩, Or.inl (hf ?_)⟩, fun q => ?_⟩
    · rcases q with q | q
      · omega
      · exact q
    · rcases q with q | q
      · omega
      · exact q
    have z2 : mI M2 a 16 = 0 := Classical.byContradiction (fun z => q (Or.inr z))
    obtain ⟨c1, j1, j2, j3⟩ := hj z2
    obtain ⟨z1, zm, zx⟩ := hz z2
    obtain ⟨e1, e2, e3, e4⟩ := c1 b hbn
    refine ⟨(r4546 w2).2.2.1, by rw [(r4546 w2).2.2.2]; exact b8, (s_MM_divisor2 (by omega) ⟨by omega, by omega, by omega⟩ gg.1).mono (fun x M3 h3 => ?_)⟩
    obtain ⟨em, x1, x2, hxa, hxb, hxc⟩ := h3
    have xg9 : x = (Int.gcd j (mL M2 (a + 21190) b) : Int) := gcd_un x1 hxa hxb hxc
    obtain ⟨u, hu⟩ := hxa
    obtain ⟨v, hv⟩ := hxb
    subst em
    have xne : x ≠ 0 := by omega
    have td : Int.tdiv j x = u := by rw [hu]; exact Int.mul_tdiv_cancel_left u xne
    have u0 : 0 < u := by
      by_cases y : 0 < u
      · exact y
      · have := Int.mul_le_mul_of_nonneg_left (show u ≤ 0 by omega) (show 0 ≤ x by omega)
        rw [← hu] at this
        omega
    have u1 : u ≤ j := by
      have := Int.mul_le_mul_of_nonneg_right x1 (show 0 ≤ u by omega)
      rw [← hu] at this
      omega
    have pr : 0 ≤ u * mL M3 (a + 21190) b ∧ u * mL M3 (a + 21190) b ≤ 1000000000 * 1000000000 := ⟨Int.mul_nonneg (by omega) (by omega), Int.mul_le_mul (by omega) (by omega) (by omega) (by omega)⟩
    have p1 : 1 ≤ u * mL M3 (a + 21190) b := by
      have := Int.mul_le_mul (show 1 ≤ u by omega) e3 (by omega) (by omega)
      omega
    have ip : i64 (u * mL M3 (a + 21190) b) := ⟨by omega, by omega⟩
    have dv : ∀ b' : Nat, b' < b + 1 → mL M3 (a + 21190) b' ∣ u * mL M3 (a + 21190) b := fun b' hb' => by
      by_cases y : b' = b
      · rw [y]; exact Int.dvd_mul_left u _
      · refine Int.dvd_trans (j3 b' (by omega)) ?_
        rw [hu, hv, show u * (x * v) = x * u * v by rw [← Int.mul_assoc, Int.mul_comm u x]]
        exact Int.dvd_mul_right (x * u) v
    have uq : j / x = u := by rw [hu]; exact Int.mul_ediv_cancel_left u xne
    have mq : muq9 (ch.2.drop b) j = if 1000000000 ≤ u * mL M3 (a + 21190) b then 0 else muq9 (ch.2.drop (b + 1)) (u * mL M3 (a + 21190) b) := by
      have e2 : ch.2 = lchR M3 a nb := by rw [z1]
      rw [e2, lchR_drop hbn]
      show (if 1000000000 ≤ j / (Int.gcd j (mL M3 (a + 21190) b) : Int) * mL M3 (a + 21190) b then 0 else muq9 ((lchR M3 a nb).drop (b + 1)) (j / (Int.gcd j (mL M3 (a + 21190) b) : Int) * mL M3 (a + 21190) b)) = _
      rw [← xg9, uq]
    rw [(r4546 w2).1.2, td]
    refine ⟨⟨by omega, by omega⟩, gg.1, xne, w2.1.1, (r4546 w2).2.2.1, by rw [(r4546 w2).2.2.2]; exact b8, ip, fun q6 => ?_, fun q6 => ?_⟩
    · refine k_MM_chances_187 gg.1 ic ipl ip ib ?_
      rw [show (b : Int) + 1 = ((b + 1 : Nat) : Int) by omega]
      have q7 := (cmpz _ _).2.2.1.1 q6
      exact ih (b + 1) _ M3 (by omega) h h25 ip (fun _ => ⟨c1, p1, q7, dv⟩) (fun _ => ⟨z1, by rw [zm, mq, if_neg (by omega)], zx⟩) hf
    · refine (s_MM_stop ⟨by decide, by decide⟩ ipl gg.1 w2).mono (fun M4 h4 => ⟨h4.1.1, ?_⟩)
      have X4 := h.stp h4
      refine k_MM_chances_187 h4.1.1 ic ipl ip ib ?_
      rw [show (b : Int) + 1 = ((b + 1 : Nat) : Int) by omega]
      have q7 : 1000000000 ≤ u * mL M3 (a + 21190) b := by
        by_cases y : u * mL M3 (a + 21190) b < 1000000000
        · exact absurd ((cmpz _ _).2.2.1.2 y) q6
        · omega
      refine ih (b + 1) _ M4 (by omega) X4 ?_ ip (fun z => ?_) (fun z => ?_) (fun _ => Or.inr ⟨by rw [z1], by rw [zm, mq, if_pos q7], h4.2.1, h4.2.2.1⟩)
      · have gs := gs_st (P := fun _ => False) (S := fun x => x = a) w2 hg h4.1 (fun _ z => z.elim) (fun _ z => z.elim) (fun x z => by omega)
        rw [(gs.2.1 25 (by omega) (by omega)).1]
        exact h25
      · rw [h4.2.1] at z
        exact absurd z (by decide)
      · rw [h4.2.1] at z
        exact absurd z (by decide)
theorem x_MM_chances {c nb : Nat} {pc : Int} {cm : cm9} (h : GG M a g T R W C Z E tg) (hn : En M a g R W) (hp : GP ww pl XV ev M g R W C T E tgI cms lo hi) (hx : XVq M a g R W (XV sg)) (z16 : mI M a 16 = 0) (hcm : cms[c]? = some cm) (hc : c < C) (ipl : i32 pc) (hnb : mI M (g + 25) c = (nb : Int)) : Cj G y_MM_chances (d + 6) [vr a, vi c, vi pc] M (fun x M' => i64 x ∧ mOk M' ∧ chQ M a g T R W C Z E tg nb x M' ∧ chY (chq9 ev sg cm.2.2.2) pc nb (XV sg) a g R W x M') := by
  have hg := h.2.2.1.2
  have hBd := h.2.2.2.2.2.2.2.1.1
  have nb8 : nb ≤ 8 := by
    have := (h.2.2.2.2.2.2.2.1.2.2.2.2.1 c hc).2.2.1
    omega
  have ic : i32 (c : Int) := i32s (by omega) (by omega)
  refine k_MM_chances h.1 ic ipl ?_
  suffices H : ∀ (t b : Nat) (M2 : mM), b + t = nb → xg M a g T R W C Z E tg M2 → mI M2 (g + 25) c = (nb : Int) → (mI M2 a 16 = 0 → chk1 M2 a b) → (mI M2 a 16 = 0 → chq9 ev sg cm.2.2.2 = ((chq9 ev sg (cm.2.2.2.drop b)).1, lchR M2 a b ++ (chq9 ev sg (cm.2.2.2.drop b)).2) ∧ XVq M2 a g R W (XV sg)) → (mI M2 a 16 ≠ 0 → chE (chq9 ev sg cm.2.2.2) pc M2 a) → h_MM_chances_2 G (d + 5) a c pc b M2 (fun x M' => i64 x ∧ mOk M' ∧ chQ M a g T R W C Z E tg nb x M' ∧ chY (chq9 ev sg cm.2.2.2) pc nb (XV sg) a g R W x M') from H nb 0 M (by omega) ⟨xe.refl h.1 h.2.1, h, hn⟩ hnb (fun _ b' hb' => absurd hb' (by omega)) (fun _ => ⟨rfl, hx⟩) (fun z => absurd z16 z)
  have hR := h.2.2.2.2.2.2.2.1.1.1
  have hlen : cm.2.2.2.length = nb := by
    have e := (hp.2.2.2.2.2.2 c cm hcm).2.2.2.1
    rw [hnb] at e
    omega
  intro t
  induction t with
  | zero =>
    intro b M2 hb x h25 hch hz hf
    have eb : b = nb := by omega
    subst eb
    have gg := x.2.1
    have w2 := gg.2.1
    have b60 : ((0 : Int) ≤ (c : Int) ∧ (c : Int) < ((60 : Nat) : Int)) := by omega
    refine k_MM_chances_2 gg.1 ic ipl (i32s (by omega) (by omega)) ⟨w2.1.1, ?_⟩
    rw [gg.2.2.1.1, show mR M2 g 22 = g + 25 from (w2.gp hg).2.2.1.2.2.2.2.2.2.2.1, Int.toNat_natCast, h25]
    exact ⟨(w2.gp hg).1, (w2.gp hg).2.2.2.2.2.2.2.2.1.1, by rw [(w2.gp hg).2.2.2.2.2.2.2.2.1.2]; exact b60, fun _ => x_ch129 hc ipl nb8 b 0 1 M2 (by omega) x h25 ⟨by decide, by decide⟩ (fun z => ⟨hch z, by decide, by decide, fun b' hb' => absurd hb' (by omega)⟩) (fun z => by
      obtain ⟨z1, z2⟩ := hz z
      have e9 : chq9 ev sg cm.2.2.2 = ((0, 0), lchR M2 a b) := by
        rw [z1, List.drop_eq_nil_of_le (by omega)]
        show ((0, 0), lchR M2 a b ++ []) = _
        rw [List.append_nil]
      exact ⟨e9, by rw [e9]; rfl, z2⟩) hf, fun q => absurd (Or.inl (Int.le_refl _)) q⟩
  | succ t ih =>
    intro b M2 hb x h25 hch hz hf
    have gg := x.2.1
    have w2 := gg.2.1
    have b60 : ((0 : Int) ≤ (c : Int) ∧ (c : Int) < ((60 : Nat) : Int)) := by omega
    have b8 : ((0 : Int) ≤ (b : Int) ∧ (b : Int) < ((8 : Nat) : Int)) := by omega
    have b480 : ((0 : Int) ≤ ((8 * c + b : Nat) : Int) ∧ ((8 * c + b : Nat) : Int) < ((480 : Nat) : Int)) := by omega
    have ib : i32 (b : Int) := i32s (by omega) (by omega)
    have bc := (gg.2.2.2.2.2.2.2.1.2.2.2.2.1 c hc).2.2.2 b (by rw [h25]; omega)
    refine k_MM_chances_2 gg.1 ic ipl ib ⟨w2.1.1, ?_⟩
    rw [gg.2.2.1.1, show mR M2 g 22 = g + 25 from (w2.gp hg).2.2.1.2.2.2.2.2.2.2.1, show mR M2 g 23 = g + 26 from (w2.gp hg).2.2.1.2.2.2.2.2.2.2.2.1, Int.toNat_natCast, h25, show 8 * (c : Int) + (b : Int) = ((8 * c + b : Nat) : Int) by omega, Int.toNat_natCast, Int.toNat_natCast]
    refine ⟨(w2.gp hg).1, (w2.gp hg).2.2.2.2.2.2.2.2.1.1, by rw [(w2.gp hg).2.2.2.2.2.2.2.2.1.2]; exact b60, fun q => ?_, fun q => ⟨(w2.gp hg).2.2.2.2.2.2.2.2.2.1.1, by rw [(w2.gp hg).2.2.2.2.2.2.2.2.2.1.2]; exact b480, ?_⟩⟩
    · have z2 : ¬ (mI M2 a 16 = 0) := by
        rcases q with q | q
        · omega
        · exact q
      exact x_ch129 hc ipl nb8 nb 0 1 M2 (by omega) x h25 ⟨by decide, by decide⟩ (fun z => absurd z z2) (fun z => absurd z z2) hf
    have z2 : mI M2 a 16 = 0 := Classical.byContradiction (fun z => q (Or.inr z))
    have hch := hch z2
    obtain ⟨zq, zx⟩ := hz z2
    obtain ⟨br, hbr⟩ : ∃ br : br9, cm.2.2.2[b]? = some br := ⟨_, List.getElem?_eq_getElem (by omega)⟩
    have gsM : Gs M M2 g := x.1.gs h.2.1 hg
    have rb := ((hp.2.2.2.2.2.2 c cm hcm).2.2.2.2 b br hbr).gs gsM hR
    have dq : cm.2.2.2.drop b = br :: cm.2.2.2.drop (b + 1) := by
      obtain ⟨hl, he⟩ := List.getElem?_eq_some_iff.mp hbr
      rw [List.drop_eq_getElem_cons hl, he]
    rw [dq] at zq
    have hf2 : ∀ sg, FmX ww pl (XV sg) M2 g R E.1 := (hp.gs gsM hR).1
    refine (x_MM_reach (d := d) gg x.2.2 hf2 zx rb.2.1 z2).mono (fun M3 t3 => ?_)
    obtain ⟨o3, ⟨xr3, gg3, en3, v3⟩, u3⟩ := t3
    have x3 := xr3.xe w2
    have X3 : xg M a g T R W C Z E tg M3 := ⟨x.1.trans x3, gg3, en3⟩
    have w3 := gg3.2.1
    have gs3 := x3.gs w2 hg
    have nw : ∀ o, 21188 ≤ o → ¬ woS a (a + o) := fun o ho z => by
      have z' : a + o = a ∨ a + o = a + 97 ∨ a + o = a + 98 ∨ a + o = a + 102 ∨ a + o = a + 103 ∨ a + o = a + 104 := z
      omega
    have k89 := (xr3.1.cellL w2 in99 (offx (a := a) (o := 21189) (by decide)) (nw _ (by omega))).2
    have k90 := (xr3.1.cellL w2 in99 (offx (a := a) (o := 21190) (by decide)) (nw _ (by omega))).2
    have B3 : mR M3 a 21 = a + 97 ∧ mR M3 a 22 = a + 98 := ⟨w3.1.2.2.2.2.1.2.2.2.2.2.2.1, w3.1.2.2.2.2.1.2.2.2.2.2.2.2.1⟩
    have A3 : (mK M3 (a + 97) = 33 ∧ mN M3 (a + 97) = 16400) ∧ (mK M3 (a + 98) = 33 ∧ mN M3 (a + 98) = 16400) := ⟨w3.1.2.2.2.2.2.2.2.1.1, w3.1.2.2.2.2.2.2.2.1.2.1⟩
    rw [B3.1, (r4546 w3).1.1]
    refine ⟨o3, w3.1.1, A3.1.1, by rw [A3.1.2]; decide, (r4546 w3).2.1.1, by rw [(r4546 w3).2.1.2]; exact b8, fun M4 e4 => ?_⟩
    obtain ⟨m4, f4, n4, i4⟩ := mv_ulx (o3 _ _).2 o3 w3 e4
    have X4 := X3.st m4 (fun _ z => z.elim) (fun y z => Or.inr (Or.inr (by omega))) (fun i _ _ _ => by rw [i4])
    have w4 := X4.2.1.2.1
    have B4 : mR M4 a 21 = a + 97 ∧ mR M4 a 22 = a + 98 := ⟨w4.1.2.2.2.2.1.2.2.2.2.2.2.1, w4.1.2.2.2.2.1.2.2.2.2.2.2.2.1⟩
    have A4 : (mK M4 (a + 97) = 33 ∧ mN M4 (a + 97) = 16400) ∧ (mK M4 (a + 98) = 33 ∧ mN M4 (a + 98) = 16400) := ⟨w4.1.2.2.2.2.2.2.2.1.1, w4.1.2.2.2.2.2.2.2.1.2.1⟩
    rw [B4.2, (r4546 w4).1.2, n4 (a + 98) (by omega)]
    refine ⟨A4.2.1, by rw [A4.2.2]; decide, (r4546 w4).2.2.1, by rw [(r4546 w4).2.2.2]; exact b8, fun M5 e5 => ?_⟩
    obtain ⟨m5, f5, n5', i5⟩ := mv_ulx (o3 _ _).2 m4.1 w4 e5
    have X5 := X4.st m5 (fun _ z => z.elim) (fun y z => Or.inr (Or.inr (by omega))) (fun i _ _ _ => by rw [i5])
    have w5 := X5.2.1.2.1
    have B5 : mR M5 a 21 = a + 97 ∧ mR M5 a 22 = a + 98 := ⟨w5.1.2.2.2.2.1.2.2.2.2.2.2.1, w5.1.2.2.2.2.1.2.2.2.2.2.2.2.1⟩
    have A5 : (mK M5 (a + 97) = 33 ∧ mN M5 (a + 97) = 16400) ∧ (mK M5 (a + 98) = 33 ∧ mN M5 (a + 98) = 16400) := ⟨w5.1.2.2.2.2.2.2.2.1.1, w5.1.2.2.2.2.2.2.2.1.2.1⟩
    have iA : mI M5 = mI M3 := by rw [i5, i4]
    have l97 : mL M5 (a + 97) = mL M3 (a + 97) := by rw [n5' _ (by omega), n4 _ (by omega)]
    have l98 : mL M5 (a + 98) = mL M3 (a + 98) := by rw [n5' _ (by omega), n4 _ (by omega)]
    have q89 : ∀ k, mL M5 (a + 21189) k = if k = b then mL M3 (a + 97) 0 else mL M2 (a + 21189) k := fun k => by rw [n5' _ (by omega), f4, k89]
    have q90 : ∀ k, mL M5 (a + 21190) k = if k = b then mL M3 (a + 98) 0 else mL M2 (a + 21190) k := fun k => by rw [f5, n4 _ (by omega), k90]
    have h25' : mI M5 (g + 25) c = (nb : Int) := by rw [iA, (gs3.2.1 25 (by omega) (by omega)).1]; exact h25
    rw [B5.1, B5.2, l97, l98, X5.2.1.2.2.1.1, show mR M5 g 24 = g + 27 from (w5.gp hg).2.2.1.2.2.2.2.2.2.2.2.2.1]
    have z35 : mI M5 a 16 = 0 → vok 0 (mL M3 (a + 97) 0) (mL M3 (a + 98) 0) := fun z => by
      rw [iA] at z
      rcases v3 with y | ⟨-, y⟩
      · exact absurd z y
      · exact y
    have x35 : Mv (fun _ => False) (fun y => a + 21189 ≤ y ∧ y ≤ a + 21190) M3 a M5 := (m4.mono (fun _ z => z) (fun y z => by omega) (fun _ z => z.elim)).trans (m5.mono (fun _ z => z) (fun y z => by omega) (fun _ z => z.elim))
    have gs35 := gs_st w3 hg x35 (fun _ z => z.elim) (fun _ z => z.elim) (fun y z => by omega)
    have lR : lchR M5 a (b + 1) = lchR M2 a b ++ [(mL M3 (a + 97) 0, mL M3 (a + 98) 0)] := by
      rw [lchR_s, q89, q90, if_pos rfl, if_pos rfl, lchR_cg (M := M2) (fun b' hb' => by rw [q89, q90, if_neg (by omega), if_neg (by omega)]; exact ⟨rfl, rfl⟩)]
    have nx : ∀ M6, xg M a g T R W C Z E tg M6 → mI M6 (g + 25) c = (nb : Int) → (mI M6 a 16 = 0 → chk1 M6 a (b + 1)) → (mI M6 a 16 = 0 → chq9 ev sg cm.2.2.2 = ((chq9 ev sg (cm.2.2.2.drop (b + 1))).1, lchR M6 a (b + 1) ++ (chq9 ev sg (cm.2.2.2.drop (b + 1))).2) ∧ XVq M6 a g R W (XV sg)) → (mI M6 a 16 ≠ 0 → chE (chq9 ev sg cm.2.2.2) pc M6 a) → h_MM_chances_118 G (d + 5) a c pc b M6 (fun x M' => i64 x ∧ mOk M' ∧ chQ M a g T R W C Z E tg nb x M' ∧ chY (chq9 ev sg cm.2.2.2) pc nb (XV sg) a g R W x M') := fun M6 X6 k25 kc kz kf => by
      refine k_MM_chances_118 X6.2.1.1 ic ipl ib ?_
      rw [show (b : Int) + 1 = ((b + 1 : Nat) : Int) by omega]
      exact ih (b + 1) M6 (by omega) X6 k25 kc kz kf
    refine ⟨fun _ => ⟨A5.1.1, by rw [A5.1.2]; decide, fun _ => ⟨by rw [A5.1.2]; decide, A5.2.1, by rw [A5.2.2]; decide⟩⟩, fun q5 => ?_, fun q5 => ?_⟩
    · refine ⟨(w5.gp hg).1, (w5.gp hg).2.2.2.2.2.2.2.2.2.2.1.1, by rw [(w5.gp hg).2.2.2.2.2.2.2.2.2.2.1.2]; exact b480, (s_MM_stop ⟨by decide, by decide⟩ (m5.1 _ _).1 m5.1 w5).mono (fun M6 h6 => ⟨h6.1.1, nx M6 (X5.stp h6) ?_ (fun z => ?_) (fun z => ?_) (fun _ => Or.inl ?_)⟩)⟩
      · have gs := gs_st (P := fun _ => False) (S := fun x => x = a) w5 hg h6.1 (fun _ z => z.elim) (fun _ z => z.elim) (fun x z => by omega)
        rw [(gs.2.1 25 (by omega) (by omega)).1]
        exact h25'
      · rw [h6.2.1] at z
        exact absurd z (by decide)
      · rw [h6.2.1] at z
        exact absurd z (by decide)
      · have z3 : mI M3 a 16 = 0 := by rw [← iA]; exact q5.1
        rcases u3 with u3 | ⟨-, u3, -⟩
        · exact absurd (u3.2.1.symm.trans z3) u3.1
        have c1 := (cmpz (mL M3 (a + 97) 0) 0).2.2.1
        have c2 := (cmpz (mL M3 (a + 97) 0) (mL M3 (a + 98) 0)).2.1
        have q6 := q5.2
        rw [c1, c2] at q6
        have e9 : chq9 ev sg (br :: cm.2.2.2.drop (b + 1)) = ((11, br.1), []) := chq_r (by rw [u3]; rfl) (by rw [u3]; show mL M3 (a + 97) 0 < 0 ∨ (if (0 : Int) = 1 then (1 : Int) else mL M3 (a + 98) 0) < mL M3 (a + 97) 0; rw [if_neg (by decide)]; omega)
        rw [zq, e9]
        refine ⟨by show (11 : Int) ≠ 0; decide, h6.2.1, h6.2.2.1.trans ?_⟩
        have gs25 : Gs M2 M5 g := ((xr3.xe w2).gs w2 hg).trans gs35
        show mI M5 (g + 27) (8 * c + b) = br.1
        rw [(gs25.2.1 27 (by omega) (by omega)).1]
        exact rb.1
    · refine nx M5 X5 h25' (fun z b' hb' => ?_) (fun z => ?_) (fun z => ?_)
      rotate_left
      · have z3 : mI M3 a 16 = 0 := by rw [← iA]; exact z
        have q6 : ¬ (cmpL (mL M3 (a + 97) 0) 0 < 0 ∨ ¬ (cmpL (mL M3 (a + 97) 0) (mL M3 (a + 98) 0) ≤ 0)) := fun y => q5 ⟨z, y⟩
        have c1 := (cmpz (mL M3 (a + 97) 0) 0).2.2.1
        have c2 := (cmpz (mL M3 (a + 97) 0) (mL M3 (a + 98) 0)).2.1
        rw [c1, c2] at q6
        rcases u3 with u3 | ⟨-, u3, u4⟩
        · exact absurd (u3.2.1.symm.trans z3) u3.1
        have e9 : chq9 ev sg (br :: cm.2.2.2.drop (b + 1)) = ((chq9 ev sg (cm.2.2.2.drop (b + 1))).1, (mL M3 (a + 97) 0, mL M3 (a + 98) 0) :: (chq9 ev sg (cm.2.2.2.drop (b + 1))).2) := by
          rw [chq_s (by rw [u3]; rfl) (by rw [u3]; show ¬ (mL M3 (a + 97) 0 < 0 ∨ (if (0 : Int) = 1 then (1 : Int) else mL M3 (a + 98) 0) < mL M3 (a + 97) 0); rw [if_neg (by decide)]; omega), u3]
          rfl
        rw [e9] at zq
        refine ⟨?_, u4.mv w3 x35 (fun _ z => z.elim) gs35 (fun y z => by omega)⟩
        rw [zq, lR, List.append_assoc]
        rfl
      · rw [iA] at z
        rcases u3 with u3 | ⟨u3, -⟩
        · have e9 : chq9 ev sg (br :: cm.2.2.2.drop (b + 1)) = (((ev sg br.2.1.1 br.2.1.2).1, (ev sg br.2.1.1 br.2.1.2).2.1), []) := chq_f u3.1
          rw [zq, e9]
          exact Or.inl ⟨u3.1, by rw [iA]; exact u3.2.1, by rw [iA]; exact u3.2.2⟩
        · exact absurd u3 z
      rw [q89, q90]
      by_cases y : b' = b
      · rw [if_pos y, if_pos y]
        have vk := z35 z
        have q6 : ¬ (cmpL (mL M3 (a + 97) 0) 0 < 0 ∨ ¬ (cmpL (mL M3 (a + 97) 0) (mL M3 (a + 98) 0) ≤ 0)) := fun y => q5 ⟨z, y⟩
        have c1 := (cmpz (mL M3 (a + 97) 0) 0).2.2.1
        have c2 := (cmpz (mL M3 (a + 97) 0) (mL M3 (a + 98) 0)).2.1
        rw [c1, c2] at q6
        unfold vok at vk
        omega
      · rw [if_neg y, if_neg y]
        exact hch b' (by omega)
end CHX
