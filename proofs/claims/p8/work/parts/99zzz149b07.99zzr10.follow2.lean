/-! The class's game, exactly: follow, the whole. -/
section GBF
variable {stp : List Int → List (Nat × Nat × Nat × Nat) → (Int × Int) × List Int} {sg : List Int} {pc m : Int} {nb : Nat} {x : br9 × (Int × Int)} {r : List (br9 × (Int × Int))} {S S2 : List (List Int)} {B : List (Nat × Int)}
theorem flq_0 (h : x.2.1 = 0) : flq9 stp sg pc m nb (x :: r) S B = flq9 stp sg pc m nb r S B := if_pos h
theorem flq_f (h : x.2.1 ≠ 0) (h1 : (stp sg x.1.2.2).1.1 ≠ 0) : flq9 stp sg pc m nb (x :: r) S B = ((stp sg x.1.2.2).1, S, B) := (if_neg h).trans (if_pos h1)
theorem flq_n (h : x.2.1 ≠ 0) (h1 : (stp sg x.1.2.2).1.1 = 0) (h2 : enq9 S (stp sg x.1.2.2).2 = none) : flq9 stp sg pc m nb (x :: r) S B = ((5, x.1.1), S, B) := by
  refine (if_neg h).trans ((if_neg (fun u => u h1)).trans ?_)
  rw [h2]
theorem flq_e {to : Nat} (h : x.2.1 ≠ 0) (h1 : (stp sg x.1.2.2).1.1 = 0) (h2 : enq9 S (stp sg x.1.2.2).2 = some (to, S2)) : flq9 stp sg pc m nb (x :: r) S B = match jnq9 to (m / x.2.2 * x.2.1) B with | some B' => flq9 stp sg pc m nb r S2 B' | none => if nb + B.length = 4096 then ((5, pc), S2, B) else flq9 stp sg pc m nb r S2 (B ++ [(to, m / x.2.2 * x.2.1)]) := by
  refine (if_neg h).trans ((if_neg (fun u => u h1)).trans ?_)
  rw [h2]
  rfl
theorem getD_map {V v : Nat} {f : Nat → Int} (h : v < V) : ((List.range V).map f).getD v 0 = f v := by
  rw [List.getD_eq_getElem?_getD, List.getElem?_map, List.getElem?_range h]
  rfl
variable {w pl lo hi : Nat → Int} {cv : Nat → vrs} {V : Nat}
theorem stq_nx : ∀ (l : List (Nat × Nat × Nat × Nat)) (nx nx' : Nat → Int), (∀ v, v < V → nx v = nx' v) → (stq9 w cv pl lo hi l nx).1 = (stq9 w cv pl lo hi l nx').1 ∧ ∀ v, v < V → (stq9 w cv pl lo hi l nx).2 v = (stq9 w cv pl lo hi l nx').2 v
  | [], nx, nx', h => ⟨rfl, h⟩
  | q :: l, nx, nx', h => by
    rw [stq9, stq9]
    by_cases c1 : (vlq w cv pl 0 0 q.2.1 q.2.2.1).1 ≠ 0
    · rw [if_pos c1, if_pos c1]
      exact ⟨rfl, h⟩
    · rw [if_neg c1, if_neg c1]
      by_cases c2 : (stfq (vlq w cv pl 0 0 q.2.1 q.2.2.1).2.1 (vlq w cv pl 0 0 q.2.1 q.2.2.1).2.2 (lo q.1) (hi q.1) (pl q.2.2.2)).1 ≠ 0
      · rw [if_pos c2, if_pos c2]
        exact ⟨rfl, h⟩
      · rw [if_neg c2, if_neg c2]
        refine stq_nx l _ _ (fun v hv => ?_)
        show (if v = q.1 then _ else nx v) = (if v = q.1 then _ else nx' v)
        rw [h v hv]
/-- sets keep the ranges -/
theorem stq_in : ∀ (l : List (Nat × Nat × Nat × Nat)) (nx : Nat → Int), (stq9 w cv pl lo hi l nx).1.1 = 0 → ∀ v, (stq9 w cv pl lo hi l nx).2 v = nx v ∨ (lo v ≤ (stq9 w cv pl lo hi l nx).2 v ∧ (stq9 w cv pl lo hi l nx).2 v ≤ hi v)
  | [], nx, _, v => Or.inl rfl
  | q :: l, nx, h, v => by
    rw [stq9] at h ⊢
    by_cases c1 : (vlq w cv pl 0 0 q.2.1 q.2.2.1).1 ≠ 0
    · rw [if_pos c1] at h
      exact absurd h c1
    · rw [if_neg c1] at h ⊢
      by_cases c2 : (stfq (vlq w cv pl 0 0 q.2.1 q.2.2.1).2.1 (vlq w cv pl 0 0 q.2.1 q.2.2.1).2.2 (lo q.1) (hi q.1) (pl q.2.2.2)).1 ≠ 0
      · rw [if_pos c2] at h
        exact absurd h c2
      · rw [if_neg c2] at h ⊢
        rcases stq_in l _ h v with y | y
        · rw [y]
          by_cases e : v = q.1
          · rw [if_pos e]
            right
            unfold stfq at c2
            by_cases d1 : (vlq w cv pl 0 0 q.2.1 q.2.2.1).2.2 ≠ 1
            · rw [if_pos d1] at c2
              exact absurd (show (8 : Int) ≠ 0 by decide) c2
            · rw [if_neg d1] at c2
              by_cases d2 : (vlq w cv pl 0 0 q.2.1 q.2.2.1).2.1 < lo q.1 ∨ hi q.1 < (vlq w cv pl 0 0 q.2.1 q.2.2.1).2.1
              · rw [if_pos d2] at c2
                exact absurd (show (12 : Int) ≠ 0 by decide) c2
              · rw [e]
                omega
          · rw [if_neg e]
            exact Or.inl rfl
        · exact Or.inr y
end GBF
section GBG
variable {W pl nq lo hi : Nat → Int} {sm : Nat → Nat → Prop} {N V : Nat} {nms : List nm9} {sg : List Int}
theorem stp_ok (hv : vcn nms = V) (vo : VrO nms lo hi) (so : SgO (fun v => sg.getD v 0) nms) {l : List (Nat × Nat × Nat × Nat)} (h : (stpq W pl nq sm N nms V lo hi sg l).1.1 = 0) : SgO (fun v => (stpq W pl nq sm N nms V lo hi sg l).2.getD v 0) nms := by
  intro l1 e l2 he h3
  have e9 : vcn (e :: l2) = vcn l2 + 1 := by
    show vcn l2 + (if e.2.1 = 3 then 1 else 0) = _
    rw [if_pos h3]
  have vl : vcn l1 < V := by
    rw [← hv, he, vcn_app, e9]
    omega
  obtain ⟨⟨v1, v2⟩, v3⟩ := vo l1 e l2 he h3
  obtain ⟨s1, s2⟩ := so l1 e l2 he h3
  have hin := stq_in l _ h (vcn l1)
  have eq9 : (stpq W pl nq sm N nms V lo hi sg l).2.getD (vcn l1) 0 = _ := getD_map vl
  show ((stpq W pl nq sm N nms V lo hi sg l).2.getD (vcn l1) 0).natAbs ≤ 999999999 ∧ (e.2.2.1 = 1 → (stpq W pl nq sm N nms V lo hi sg l).2.getD (vcn l1) 0 = 0 ∨ (stpq W pl nq sm N nms V lo hi sg l).2.getD (vcn l1) 0 = 1)
  rw [eq9]
  rcases hin with y | y
  · rw [y]
    exact ⟨s1, s2⟩
  · refine ⟨by omega, fun u => ?_⟩
    obtain ⟨w1, w2⟩ := v3 u
    rw [w1, w2] at y
    omega
end GBG
section GBH
variable {G : mG} {d z g p O P K V F L cnt Ab Be C Ab0 Be0 C0 n N c cc u v k cn bc bc0 br : Nat} {M0 M M' M1 : mM} {ns : Nat → Int} {sf ef : Nat → Nat} {F1 : Nat} {ns1 : Nat → Int} {sf1 ef1 : Nat → Nat} {W pl nq : Nat → Int} {sm : Nat → Nat → Prop} {nms : List nm9} {sgL : List Int} {sum9 m : Int} {x : br9 × (Int × Int)} {S : List (List Int)} {B : List (Nat × Int)}
theorem x_Ga_follow (hF : FMx G) (cx : gcx M0 g p O P L V F Ab0 Be0 ns sf ef W pl nq sm N n nms) (vo : VrO nms (mI M0 (p + 3)) (mI M0 (p + 4))) (hx : GX M0 z g p O P K V F1 ns1 sf1 ef1 L cnt Ab0 Be0 C0 M Ab Be C) (st : gst9 M g V F ns W pl nq sm N nms k (fun v => sgL.getD v 0)) (hk : k < cn) (so : SoO nms S) (ge : gxe M g V cn S) (hB : B = brl M g bc0 (bc - bc0)) (hc : c < cnt) (hcn5 : cn ≤ 512) (hbc : mI M g 13 = ((bc : Nat) : Int)) (hip : ipG M g cn bc0 bc sum9) (hx0 : x.2.1 ≠ 0) {sh : Int} (esh : sh = m / x.2.2 * x.2.1) (hsh : 1 ≤ sh) (hsm : sum9 + sh < 1000000000) (hcc : mI M g 12 = ((cc : Nat) : Int)) (hcc2 : cc ≤ 4096) (h7 : mI M (g + 7) cc = ((bc0 : Nat) : Int)) (hbr : br < 480) (hpl : mI M0 (p + 13) br = x.1.1) (hs : ∃ s2 : Nat, mI M0 (p + 15) br = ((s2 : Nat) : Int) ∧ SeC M0 O P L V W pl nq sm n ns ef nms x.1.2.2 s2) : Ci G y_Ga_follow (d + 5) [vr g, vi c, vi br, vi sh] M (fun r M' => foQ M0 z g p O P K V F1 ns1 sf1 ef1 L cnt Ab0 Be0 C0 M bc0 cn (sum9 + sh) r M' ∧ foX (flq9 (stpq W pl nq sm N nms V (mI M0 (p + 3)) (mI M0 (p + 4))) sgL (mI M0 (p + 10) c) m bc0) x S B g V F ns W pl nq sm N nms k sgL bc0 r M') := by
  have hcn := ge.1
  have hsl : SLt M g cn := fun i hi => (ge.2.1.1.1 i hi).imp id (fun ⟨k, k1, k2⟩ => ⟨by omega, by omega⟩)
  obtain ⟨h1, h2, h3, h4, h5, -⟩ := id hx
  obtain ⟨g0, ⟨-, -, -, -, -, -, -, -, -, g15, -⟩, -, -⟩ := id h2
  have c60 := h4.2.2.2.2.1.2
  have V12 := h4.2.2.1.2
  have off := ga_off hx
  obtain ⟨ip1, ip2, ip3, ip4⟩ := id hip
  have smb := wsm_ge (M := M) (g := g) (x := bc0) (n := bc - bc0) (fun i a b => (ip3 i a (by omega)).2.2) (bc - bc0) (Nat.le_refl _)
  rw [ip4] at smb
  refine k_Ga_follow h1 (i32s (by omega) (by omega)) (i32s (by omega) (by omega)) ⟨by omega, by omega⟩ ?_
  rw [g15]
  refine ⟨g0, h3.1, ?_⟩
  refine k_Ma_beginSets h1 ?_
  rw [h3.2.1.1, h3.2.1.2.1]
  have hbs := h3.2.2.2.2.1
  have nm := h3.2.2.2.1.1
  refine ⟨h3.1, h3.2.2.1.1, h3.2.2.1.2.1, ⟨hbs.1, by omega, by omega, hbs.2, by rw [nm]; omega⟩, fun M3 e3 => ?_⟩
  have f3 : FI (fun x => x = g + 12) M M3 := by
    rw [e3]
    refine ⟨rfl, rfl, rfl, rfl, rfl, rfl, fun x hx => ?_⟩
    funext j
    exact if_neg (fun t => hx t.1)
  have o3 : mOk M3 := by rw [e3]; exact mOk_Cpy h1
  have x3 := hx.fi o3 (f3.mono (fun x y => Or.inr (Or.inl y)))
  have nb3 : ∀ x, x ≠ g + 12 → mI M3 x = mI M x := fun x hx => f3.2.2.2.2.2.2 x hx
  have n3 : ∀ v, v < V → mI M3 (g + 12) v = sgL.getD v 0 := fun v hv => by
    rw [e3]
    show (if g + 12 = g + 12 ∧ Int.toNat 0 ≤ v ∧ v < Int.toNat 0 + 12 then mI M (g + 1) (Int.toNat (mI M (g + 10) 4) + (v - Int.toNat 0)) else mI M (g + 12) v) = _
    rw [if_pos ⟨rfl, Nat.zero_le _, by show v < 0 + 12; omega⟩, st.1, Int.toNat_natCast]
    exact st.2.1 v hv
  have fl3 : flF M g p bc0 M3 := ⟨fun i _ _ _ => by rw [nb3 g (by omega)], fun i _ _ => nb3 _ (by omega), ⟨nb3 _ (by omega), nb3 _ (by omega)⟩, by rw [nb3 _ (by omega)], fun i hi => nb3 _ (off i 12 hi (by omega)), fun i _ => ⟨by rw [nb3 _ (by omega)], by rw [nb3 _ (by omega)]⟩⟩
  obtain ⟨s2, sb1, sb2⟩ := hs
  have st3 : gst9 M3 g V F ns W pl nq sm N nms k (fun v => sgL.getD v 0) := st.cg (fun i _ => by rw [nb3 _ (by omega)]) (fun v _ => by rw [nb3 _ (by omega)]) (nb3 _ (by omega)) (nb3 _ (by omega)) (nb3 _ (by omega))
  have ge3 : gxe M3 g V cn S := ge.cg V12 (by rw [nb3 g (by omega)]) (nb3 _ (by omega)) (nb3 _ (by omega))
  have cn3 : mI M3 g 0 = ((cn : Nat) : Int) := ge3.1
  have bc3 : mI M3 g 13 = ((bc : Nat) : Int) := by rw [nb3 g (by omega)]; exact hbc
  have cc3 : mI M3 g 12 = ((cc : Nat) : Int) := by rw [nb3 g (by omega)]; exact hcc
  have sl3 : SLt M3 g cn := fun i hi => by rw [nb3 _ (by omega)]; exact hsl i hi
  have ip3' : ipG M3 g cn bc0 bc sum9 := ⟨ip1, ip2, fun i a b => by rw [nb3 _ (by omega), nb3 _ (by omega)]; exact ip3 i a b, by rw [wsm_cg (M := M) _ (fun i _ _ => by rw [nb3 _ (by omega)])]; exact ip4⟩
  obtain ⟨-, k2, k3, k4, k5, -⟩ := id x3
  obtain ⟨j0, ⟨-, -, -, -, -, -, -, -, -, j15, -⟩, -, -⟩ := id k2
  have p19 := k4.1.2.2.2.2.2.2.1.2.2.2.2.2.2.2.2.2.2.2.2
  have kp19 := k4.1.2.2.2.2.2.2.2.1.2.2.2.2.2.2.2.2.2.2.2.2
  have np19 := k4.1.2.2.2.2.2.2.2.2.2.2.2.2.2.2.2.2.2.2.2.2
  rw [k5.1, p19, np19, j15, Int.toNat_natCast, gx_p x3 15 (by omega), sb1]
  refine ⟨o3, j0, k4.1.1, kp19, by omega, k3.1, (x_Ga_runs (nx := fun j => mI M3 (g + 12) j) hF x3 cx st3 sb2 (fun j _ => rfl)).mono (fun x12 M11 kk => ?_)⟩
  obtain ⟨⟨i12, o11, hx12, Ab', Be', C', hx11, f11, s11, -⟩, rx, st11⟩ := kk
  obtain ⟨nx1, nx2⟩ := stq_nx (V := V) (w := W) (cv := cvs W pl nq sm N (fun v => sgL.getD v 0) nms.reverse) (pl := pl) (lo := mI M0 (p + 3)) (hi := mI M0 (p + 4)) x.1.2.2 (fun j => mI M3 (g + 12) j) (fun v => sgL.getD v 0) n3
  rw [nx1] at rx
  obtain ⟨ce1, ce2⟩ := ga_ce x3 f11
  have ce0 := ce1 0 (by omega)
  rw [Nat.add_zero] at ce0
  have fl11 : flF M g p bc0 M11 := fl3.trans ⟨fun i _ _ _ => by rw [ce0], fun i _ _ => ce1 i (by omega), ⟨ce1 21 (by omega), ce1 22 (by omega)⟩, s11, ce2, fun i _ => ⟨by rw [ce1 8 (by omega)], by rw [ce1 9 (by omega)]⟩⟩
  have ge11 : gxe M11 g V cn S := ge3.cg V12 (by rw [ce0]) (ce1 1 (by omega)) (ce1 20 (by omega))
  have cn11 : mI M11 g 0 = ((cn : Nat) : Int) := ge11.1
  have bc11 : mI M11 g 13 = ((bc : Nat) : Int) := by rw [ce0]; exact bc3
  have cc11 : mI M11 g 12 = ((cc : Nat) : Int) := by rw [ce0]; exact cc3
  have sl11 : SLt M11 g cn := fun i hi => by rw [ce1 20 (by omega)]; exact sl3 i hi
  have ip11 : ipG M11 g cn bc0 bc sum9 := ⟨ip1, ip2, fun i a b => by rw [ce1 8 (by omega), ce1 9 (by omega)]; exact ip3'.2.2.1 i a b, by rw [wsm_cg (M := M3) _ (fun i _ _ => by rw [ce1 9 (by omega)])]; exact ip3'.2.2.2⟩
  have hB11 : B = brl M11 g bc0 (bc - bc0) := by
    rw [hB]
    exact (brl_cg _ (fun i _ _ => by rw [ce1 8 (by omega), ce1 9 (by omega), nb3 _ (by omega), nb3 _ (by omega)]; exact ⟨rfl, rfl⟩)).symm
  have h711 : mI M11 (g + 7) cc = ((bc0 : Nat) : Int) := by rw [ce1 7 (by omega), nb3 _ (by omega)]; exact h7
  clear ce1 ce2 ce0 f3 nb3 fl3 cn3 bc3 cc3 sl3 ip3' k2 k3 k4 k5 x3 f11 s11 e3 o3 p19 kp19 np19 nx1 n3 st3 ge3
  obtain ⟨-, l2, l3, l4, l5, -⟩ := id hx11
  obtain ⟨m0, ⟨-, -, -, -, -, -, m7, -, -, m15, -⟩, ⟨-, -, -, -, -, -, mk7, -⟩, ⟨-, -, -, -, -, -, mn7, -⟩⟩ := id l2
  refine ⟨i12, o11, fun y => ⟨m0, (x_Ga_machineFault o11 m0 m15 l3.1).mono (fun r M' q => ?_)⟩, fun y => ⟨m0, (x_Ga_enter (d := d + 2) hx11 cn11 hcn5 ge11.2.1).mono (fun x22 M21 kk => ?_)⟩⟩
  · obtain ⟨-, rx1, rx2, rx3⟩ := rx.resolve_right (fun u => by have := u.1; omega)
    obtain ⟨q1, q2, q3, q4⟩ := q
    have r0 : r ≠ 0 := by rw [q2, rx2]; exact rx1
    refine ⟨q1, q3.1, pl_fo hbc hx11 fl11 cn11 (Nat.le_refl _) hcn5 sl11 bc11 ⟨ip1, ip2⟩ q3 q1 r0, Or.inl ⟨r0, fun rest => ?_⟩⟩
    rw [flq_f hx0 (show (stpq W pl nq sm N nms V (mI M0 (p + 3)) (mI M0 (p + 4)) sgL x.1.2.2).1.1 ≠ 0 from rx1)]
    show (stq9 W (cvs W pl nq sm N (fun v => sgL.getD v 0) nms.reverse) pl (mI M0 (p + 3)) (mI M0 (p + 4)) x.1.2.2 (fun v => sgL.getD v 0)).1 = _
    rw [q2, rx2, q4, rx3]
  obtain ⟨-, rx1, rx2⟩ := rx.resolve_left (fun u => y u.1)
  have nx9 : nxm M11 g V = (stpq W pl nq sm N nms V (mI M0 (p + 3)) (mI M0 (p + 4)) sgL x.1.2.2).2 := by
    unfold nxm stpq
    refine List.map_congr_left (fun v hv => ?_)
    have hv := List.mem_range.mp hv
    rw [← nx2 v hv]
    exact rx2 v (by omega)
  have so9 := stp_ok cx.2.2.2.2.2 vo st.2.2.1 (show (stpq W pl nq sm N nms V (mI M0 (p + 3)) (mI M0 (p + 4)) sgL x.1.2.2).1.1 = 0 from rx1)
  obtain ⟨⟨hx21, f21, r21, cn', cn21, cnn, cn5', sl21, hto, i22, -⟩, ex⟩ := kk
  have off21 := ga_off hx21
  have nb : ∀ x, x ≠ g → x ≠ g + 1 → x ≠ g + 20 → mI M21 x = mI M11 x := fun x a b c => f21.2.2.2.2.2.2 x (fun y => y.elim a (fun y => y.elim b c))
  have fl21 : flF M g p bc0 M21 := fl11.trans ⟨fun i i0 _ _ => r21 i i0, fun i _ _ => nb _ (by omega) (by omega) (by omega), ⟨nb _ (by omega) (by omega) (by omega), nb _ (by omega) (by omega) (by omega)⟩, by rw [nb _ (by omega) (by omega) (by omega)], fun i hi => nb _ (off i 0 hi (by omega)) (off i 1 hi (by omega)) (off i 20 hi (by omega)), fun i _ => ⟨by rw [nb _ (by omega) (by omega) (by omega)], by rw [nb _ (by omega) (by omega) (by omega)]⟩⟩
  have bc21 : mI M21 g 13 = ((bc : Nat) : Int) := by rw [r21 13 (by decide)]; exact bc11
  have cc21 : mI M21 g 12 = ((cc : Nat) : Int) := by rw [r21 12 (by decide)]; exact cc11
  have ip21 : ipG M21 g cn' bc0 bc sum9 := ⟨ip1, ip2, fun i a b => by
    rw [nb (g + 8) (by omega) (by omega) (by omega), nb (g + 9) (by omega) (by omega) (by omega)]
    obtain ⟨c1, c2, c3⟩ := ip11.2.2.1 i a b
    exact ⟨c1, by omega, c3⟩, by rw [wsm_cg (M := M11) _ (fun i _ _ => by rw [nb (g + 9) (by omega) (by omega) (by omega)])]; exact ip11.2.2.2⟩
  have hB21 : B = brl M21 g bc0 (bc - bc0) := by
    rw [hB11]
    exact (brl_cg _ (fun i _ _ => by rw [nb (g + 8) (by omega) (by omega) (by omega), nb (g + 9) (by omega) (by omega) (by omega)]; exact ⟨rfl, rfl⟩)).symm
  obtain ⟨o21, a2, a3, a4, a5, -⟩ := id hx21
  obtain ⟨b0, ⟨-, -, -, -, -, -, b7, -⟩, ⟨-, -, -, -, -, -, bk7, -⟩, ⟨-, -, -, -, -, -, bn7, -⟩⟩ := id a2
  have p17 := a4.1.2.2.2.2.2.2.1.2.2.2.2.2.2.2.2.2.2.1
  have kp17 := a4.1.2.2.2.2.2.2.2.1.2.2.2.2.2.2.2.2.2.2.1
  have np17 := a4.1.2.2.2.2.2.2.2.2.2.2.2.2.2.2.2.2.2.2.1
  rw [a5.1, p17, np17, b7, bn7, cc21, Int.toNat_natCast, nb (g + 7) (by omega) (by omega) (by omega), h711]
  refine ⟨i22, o21, fun y => ⟨b0, a4.1.1, kp17, by omega, (x_Ga_fault ⟨by decide, by decide⟩ (o21 _ _).1 o21 b0).mono (fun r M' q => ?_)⟩, fun y => ⟨b0, bk7, by omega, ?_⟩⟩
  · rw [q.1]
    refine ⟨⟨by decide, by decide⟩, q.2.1.1, pl_fo hbc hx21 fl21 cn21 cnn cn5' sl21 bc21 ⟨ip1, ip2⟩ q.2.1 ⟨by decide, by decide⟩ (by decide), Or.inl ⟨by decide, fun rest => ?_⟩⟩
    have en : enq9 S (stpq W pl nq sm N nms V (mI M0 (p + 3)) (mI M0 (p + 4)) sgL x.1.2.2).2 = none := by
      rcases ex with ⟨k', -, -, e1, -⟩ | ⟨no, ⟨e1, -, -⟩ | ⟨-, e1, -⟩⟩
      · rw [y] at e1; omega
      · rw [← nx9, ← ge11.2.2, enqN9 no, if_pos e1]
      · rw [y] at e1; omega
    rw [flq_n hx0 rx1 en, q.2.2, gx_p hx21 13 (by omega), hpl]
  · have hto := hto.resolve_left y
    obtain ⟨tn, etn⟩ : ∃ tn : Nat, x22 = ((tn : Nat) : Int) := ⟨x22.toNat, by omega⟩
    have key : ∃ S2, enq9 S (stpq W pl nq sm N nms V (mI M0 (p + 3)) (mI M0 (p + 4)) sgL x.1.2.2).2 = some (tn, S2) ∧ SoO nms S2 ∧ gxe M21 g V cn' S2 ∧ ∀ j, j < 12 * cn → mI M21 (g + 1) j = mI M11 (g + 1) j := by
      rcases ex with ⟨k', e1, e2, e3, e4⟩ | ⟨no, ⟨-, e1, -⟩ | ⟨e1, e2, e3, e4, e5, e6⟩⟩
      · subst e4
        have cc' : cn' = cn := by rw [cn21] at cn11; omega
        refine ⟨S, ?_, so, by rw [cc']; exact ge11, fun j _ => rfl⟩
        rw [← nx9, ← ge11.2.2, enq_k ge11.2.1 e1 e2, show k' = tn by omega]
      · exact absurd e1 y
      · have cc' : cn' = cn + 1 := by rw [cn21] at e3; omega
        refine ⟨S ++ [nxm M11 g V], ?_, fun s hs => ?_, ?_, e6⟩
        · rw [← nx9, ← ge11.2.2, enqN9 no, if_neg (by omega), show cn = tn by omega]
        · rcases List.mem_append.mp hs with h | h
          · exact so s h
          · rw [List.mem_singleton.mp h, nx9]
            exact so9
        · rw [cc']
          exact ⟨e3, e4, by rw [Sm9_s e5 V12 e6, ge11.2.2]⟩
    obtain ⟨S2, y1, y2, y3, y4⟩ := key
    have st21 : gst9 M21 g V F ns W pl nq sm N nms k (fun v => sgL.getD v 0) := st11.cg (fun i _ => by rw [nb _ (by omega) (by omega) (by omega)]) (fun v hv => y4 _ (by omega)) (nb _ (by omega) (by omega) (by omega)) (nb _ (by omega) (by omega) (by omega)) (nb _ (by omega) (by omega) (by omega))
    exact x_fo69 cx st21 y2 y3 hB21 etn (fun rest => by rw [flq_e hx0 rx1 y1, ← esh]; rfl) hbc hx21 fl21 hc cn5' bc21 ip21 hsh hsm hto cnn (bc - bc0) bc0 (by omega) (Nat.le_refl _) ip1 (fun j a b => absurd a (by omega))
end GBH
