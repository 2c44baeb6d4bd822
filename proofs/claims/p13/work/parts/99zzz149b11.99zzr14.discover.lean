/-! The class's game, exactly: discover. -/
section GBN
variable {ev : List Int → Nat → Nat → vrs} {stp : List Int → List (Nat × Nat × Nat × Nat) → (Int × Int) × List Int} {sg : List Int} {nb c f k : Nat} {cm : cm9} {s : sl9} {l cms : List cm9} {tg : Nat × Nat} {S : List (List Int)} {T : xt9}
theorem tsq_f (h : s.1.1 ≠ 0) : tsq9 ev stp sg nb l c s = s := by
  cases l with
  | nil => rfl
  | cons cm l => exact if_pos h
theorem tsq_c (h : s.1 = (0, 0)) : tsq9 ev stp sg nb (cm :: l) c s = tsq9 ev stp sg nb l (c + 1) (tcq9 ev stp sg nb c cm s) := if_neg (fun u => u (by rw [h]))
theorem tcq_k : (tcq9 ev stp sg nb c cm s).2.2.1 = s.2.2.1 ∨ (tcq9 ev stp sg nb c cm s).2.2.1 = cm.1 := by
  unfold tcq9
  repeat' split
  all_goals first | exact Or.inl rfl | exact Or.inr rfl
theorem ssq_f (h : (ev sg tg.1 tg.2).1 ≠ 0) : ssq9 ev stp tg cms sg nb S = (((ev sg tg.1 tg.2).1, (ev sg tg.1 tg.2).2.1), S, 0, []) := if_pos h
theorem ssq_t (h : (ev sg tg.1 tg.2).1 = 0) (h1 : (ev sg tg.1 tg.2).2.1 ≠ 0) : ssq9 ev stp tg cms sg nb S = ((0, 0), S, 3, []) := (if_neg (fun u => u h)).trans (if_pos h1)
theorem ssq_n (h : (ev sg tg.1 tg.2).1 = 0) (h1 : (ev sg tg.1 tg.2).2.1 = 0) : ssq9 ev stp tg cms sg nb S = tsq9 ev stp sg nb cms 0 ((0, 0), S, 0, []) := (if_neg (fun u => u h)).trans (if_neg (fun u => u h1))
theorem exq_n (h : S[k]? = none) : exq9 ev stp tg cms (f + 1) k S T = ((0, 0), k, S, T) := by
  rw [exq9, h]
theorem exq_f (h : S[k]? = some sg) (h1 : (ssq9 ev stp tg cms sg (nbx9 T) S).1.1 ≠ 0) : exq9 ev stp tg cms (f + 1) k S T = ((ssq9 ev stp tg cms sg (nbx9 T) S).1, k, [], []) := by
  rw [exq9, h]
  exact if_pos h1
theorem exq_s (h : S[k]? = some sg) (h1 : (ssq9 ev stp tg cms sg (nbx9 T) S).1.1 = 0) : exq9 ev stp tg cms (f + 1) k S T = exq9 ev stp tg cms f (k + 1) (ssq9 ev stp tg cms sg (nbx9 T) S).2.1 (T ++ [((ssq9 ev stp tg cms sg (nbx9 T) S).2.2.1, (ssq9 ev stp tg cms sg (nbx9 T) S).2.2.2)]) := by
  rw [exq9, h]
  exact if_neg (fun u => u h1)
end GBN
/-- what discover comes to -/
def dcX (X : (Int × Int) × Nat × List (List Int) × xt9) (g V : Nat) (r : Int) (M' : mM) : Prop := (r ≠ 0 ∧ X.1 = (r, mI M' g 10) ∧ mI M' g 11 = ((X.2.1 : Nat) : Int)) ∨ (r = 0 ∧ X.1 = (0, 0) ∧ ∃ cn : Nat, gxe M' g V cn X.2.2.1 ∧ xtm M' g cn = X.2.2.2)
section GBO
variable {G : mG} {d z g p O P K V F L cnt U w9 Ab Be C Ab0 Be0 C0 n N c cn k cc bc : Nat} {M0 M M' : mM} {ns : Nat → Int} {sf ef : Nat → Nat} {F1 : Nat} {ns1 : Nat → Int} {sf1 ef1 : Nat → Nat} {W pl nq : Nat → Int} {sm : Nat → Nat → Prop} {nms : List nm9} {T : xt9} {tg : Nat × Nat} {cms : List cm9} {sgL : List Int} {RS : sl9} {X : (Int × Int) × Nat × List (List Int) × xt9}
theorem x_dc96 (hF : FMx G) (cx : gcx M0 g p O P L V F Ab0 Be0 ns sf ef W pl nq sm N n nms) (px : PGx M0 p O P L V cnt W pl nq sm n ns ef nms tg cms) {st : Int} (hXf : RS.1.1 ≠ 0 → X = (RS.1, k, [], [])) (nx : ∀ (M : mM) (Ab Be C cn cc bc : Nat), GX M0 z g p O P K V F1 ns1 sf1 ef1 L cnt Ab0 Be0 C0 M Ab Be C → GQ M g cn k cc bc ∧ GS M g k → k < cn → mI M (g + 10) 9 = st + k + 1 → RS.1 = (0, 0) → SoO nms RS.2.1 → gxe M g V cn RS.2.1 → xtm M g (k + 1) = T ++ [(RS.2.2.1, RS.2.2.2)] → nbx9 (T ++ [(RS.2.2.1, RS.2.2.2)]) = bc → h_Ga_discover_72 G (d + 6) g ((k : Int) + 1) M (fun r M' => dcQ M0 z g p O P K V F1 ns1 sf1 ef1 L cnt Ab0 Be0 C0 st r M' ∧ dcX X g V r M')) (hk : k < 512) (hst0 : 0 ≤ st) : ∀ (t i : Nat) (M : mM) (Ab Be C cn cc bc : Nat) (r : Int), cnt ≤ i + t → i ≤ cnt → i32 r → GX M0 z g p O P K V F1 ns1 sf1 ef1 L cnt Ab0 Be0 C0 M Ab Be C → mI M (g + 10) 9 = st + k + 1 → (r = 0 → (GQ M g cn k cc bc ∧ GS M g k) ∧ k < cn) → (r = 0 → ∃ s, GQe M g V nms k T s ∧ gst9 M g V F ns W pl nq sm N nms k (fun v => sgL.getD v 0) ∧ ((s.2.2.1 = 3 ∧ RS = s) ∨ (s.2.2.1 ≠ 3 ∧ RS = tsq9 (evq W pl nq sm N nms) (stpq W pl nq sm N nms V (mI M0 (p + 3)) (mI M0 (p + 4))) sgL (nbx9 T) (cms.drop i) i s))) → (r ≠ 0 → RS.1 = (r, mI M g 10)) → h_Ga_discover_96 G (d + 6) g k r i M (fun r M' => dcQ M0 z g p O P K V F1 ns1 sf1 ef1 L cnt Ab0 Be0 C0 st r M' ∧ dcX X g V r M') := by
  intro t
  obtain ⟨vo, -, -, hlen, hcC⟩ := px
  have fin : ∀ {i : Nat} {M : mM} {Ab Be C cn cc bc : Nat} {r : Int}, i32 r → GX M0 z g p O P K V F1 ns1 sf1 ef1 L cnt Ab0 Be0 C0 M Ab Be C → mI M (g + 10) 9 = st + k + 1 → (r = 0 → (GQ M g cn k cc bc ∧ GS M g k) ∧ k < cn) → (r = 0 → cnt ≤ i ∨ mI M (g + 2) k = 3) → (r = 0 → ∃ s, GQe M g V nms k T s ∧ gst9 M g V F ns W pl nq sm N nms k (fun v => sgL.getD v 0) ∧ ((s.2.2.1 = 3 ∧ RS = s) ∨ (s.2.2.1 ≠ 3 ∧ RS = tsq9 (evq W pl nq sm N nms) (stpq W pl nq sm N nms V (mI M0 (p + 3)) (mI M0 (p + 4))) sgL (nbx9 T) (cms.drop i) i s))) → (r ≠ 0 → RS.1 = (r, mI M g 10)) → ((r = 0) → (h_Ga_discover_72 G (d + 6) g ((k : Int) + 1) M (fun r M' => dcQ M0 z g p O P K V F1 ns1 sf1 ef1 L cnt Ab0 Be0 C0 st r M' ∧ dcX X g V r M'))) ∧ (¬ (r = 0) → (∀ M52, M52 = mUI M g 11 k → Cv G y_Ga_clear (d + 6) [vr g] M52 (fun M54 => mOk M54 ∧ (dcQ M0 z g p O P K V F1 ns1 sf1 ef1 L cnt Ab0 Be0 C0 st r M54 ∧ dcX X g V r M54)))) := fun {i M Ab Be C cn cc bc r} ir hx hst hq hex he hne => by
    refine ⟨fun r0 => ?_, fun r0 M52 e52 => ?_⟩
    · obtain ⟨s, q1, q2, q3⟩ := he r0
      have eRS : RS = s := by
        rcases q3 with q3 | ⟨q3, q4⟩
        · exact q3.2
        · rcases hex r0 with y | y
          · rw [q4, List.drop_eq_nil_of_le (by omega)]
            rfl
          · rw [q1.2.2.2.2.1] at y
            exact absurd y q3
      obtain ⟨x1, x2, ⟨cnx, x3⟩, x4, x5, fcx, ccx, bcx, x6, x7, x8, x9, x10, x11⟩ := q1
      obtain ⟨⟨hQ, hS⟩, hkn⟩ := hq r0
      obtain ⟨⟨u1, -, -⟩, u4, u5, -, -, -, -, -, -, -, t8⟩ := id hQ
      have ecn : cnx = cn := by have a := x3.1; rw [u1] at a; omega
      have ecc : ccx = cc := by rw [u4] at x8; omega
      have ebc : bcx = bc := by rw [u5] at x9; omega
      subst ecn
      subst ecc
      subst ebc
      refine nx M Ab Be C cnx ccx bcx hx ⟨hQ, hS⟩ hkn hst (by rw [eRS]; exact x1) (by rw [eRS]; exact x2) (by rw [eRS]; exact x3) ?_ ?_
      · show xtm M g k ++ [stm M g k] = _
        rw [x4, eRS]
        unfold stm
        rw [x5, x6, t8, Int.toNat_natCast, Int.toNat_natCast, x10]
      · rw [nbx_app, eRS]
        show nbx9 T + (nbq9 s.2.2.2 + 0) = bcx
        omega
    · have f52 : FI (fun x => x = g) M M52 := by rw [e52]; exact FI.ui rfl
      have o52 : mOk M52 := by rw [e52]; exact mOk_UI hx.1 ⟨by omega, by omega⟩
      refine (s_Ga_clear o52 (by rw [f52.1]; exact hx.2.1.1)).mono (fun M54 q => ?_)
      obtain ⟨q1, q2, q3⟩ := q
      have ff := f52.trans q2
      refine ⟨q1, ⟨ir, ⟨g + 1, 1, Ab, Be, C, Or.inl rfl, hx.fi q1 (ff.mono (fun x y => Or.inl (by have y' : x = g := y; omega)))⟩, ?_, fun t => absurd t r0, fun _ => ⟨by rw [q3, if_neg (by decide), if_neg (by decide), if_pos rfl], by rw [q3, if_neg (by decide), if_pos rfl], by rw [q3, if_pos rfl]⟩⟩, Or.inl ⟨r0, ?_, ?_⟩⟩
      · rw [ff.2.2.2.2.2.2 _ (show ¬ g + 10 = g by omega), hst]
        omega
      · have a := hne r0
        rw [hXf (by rw [a]; exact r0), a, q3, if_neg (by decide), if_neg (by decide), if_neg (by decide), mI_ui g 10 e52, if_neg (fun t => absurd t.2 (by decide))]
      · have a := hne r0
        rw [hXf (by rw [a]; exact r0), q3, if_neg (by decide), if_neg (by decide), if_neg (by decide), mI_ui g 11 e52, if_pos ⟨rfl, rfl⟩]
  induction t with
  | zero =>
    intro i M Ab Be C cn cc bc r ht hi ir hx hst hq he hne
    obtain ⟨h1, h2, h3, h4, h5, -⟩ := id hx
    have c12 := h4.2.2.2.2.1.1
    have c60 := h4.2.2.2.2.1.2
    refine k_Ga_discover_96 h1 (i32s (by omega) (by omega)) ir (i32s (by omega) (by omega)) ?_
    rw [h5.1, c12]
    exact ⟨h2.1, h4.1.1, fun y => absurd y (by omega), fun _ => fin ir hx hst hq (fun _ => Or.inl (by omega)) he hne, fun y => absurd (Or.inl (by omega)) y⟩
  | succ t ih =>
    intro i M Ab Be C cn cc bc r ht hi ir hx hst hq he hne
    obtain ⟨h1, h2, h3, h4, h5, -⟩ := id hx
    obtain ⟨g0, ⟨-, r2, -⟩, ⟨-, k2, -⟩, ⟨-, n2, -⟩⟩ := id h2
    have c12 := h4.2.2.2.2.1.1
    have c60 := h4.2.2.2.2.1.2
    refine k_Ga_discover_96 h1 (i32s (by omega) (by omega)) ir (i32s (by omega) (by omega)) ?_
    rw [h5.1, c12, r2, n2, Int.toNat_natCast]
    refine ⟨g0, h4.1.1, fun _ _ => ⟨k2, by omega⟩, fun y => fin ir hx hst hq (fun r0 => ?_) he hne, fun y => ?_⟩
    · rcases y with y | y | y
      · exact Or.inl (by omega)
      · exact absurd r0 y
      · exact Or.inr y
    have r0 : r = 0 := Classical.byContradiction (fun t => y (Or.inr (Or.inl t)))
    have k3 : mI M (g + 2) k ≠ 3 := fun t => y (Or.inr (Or.inr t))
    have ic : i < cnt := by
      by_cases t : ((cnt : Nat) : Int) ≤ i
      · exact absurd (Or.inl t) y
      · omega
    obtain ⟨q1, q2⟩ := hq r0
    obtain ⟨s, v1, v2, v3⟩ := he r0
    have s3 : s.2.2.1 ≠ 3 := by rw [← v1.2.2.2.2.1]; exact k3
    have eRS := (v3.resolve_left (fun a => s3 a.1)).2
    obtain ⟨cm, hcm⟩ : ∃ cm, cms[i]? = some cm := ⟨cms[i], List.getElem?_eq_getElem (by omega)⟩
    have hdr : cms.drop i = cm :: cms.drop (i + 1) := by
      rw [List.drop_eq_getElem_cons (by omega)]
      rw [List.getElem?_eq_getElem (by omega)] at hcm
      rw [Option.some.inj hcm]
    have cC := hcC i cm hcm
    rw [hdr, tsq_c v1.1] at eRS
    refine (x_Ga_tryCommand hF cx vo cC hx v2 v1 q2 ic hk q1.1 q1.2).mono (fun r' M' q => ?_)
    obtain ⟨⟨w1, ⟨A', B', C', w2⟩, w3, w4⟩, w5⟩ := q
    rw [show ((i : Int) + 1) = ((i + 1 : Nat) : Int) by omega]
    by_cases e : r' = 0
    · obtain ⟨cn', cc', bc', y5, y6, y7, y8, y9⟩ := w4 e
      obtain ⟨-, z1, z2⟩ := w5.resolve_left (fun a => a.1 e)
      refine ⟨w1, w2.1, ih (i + 1) M' A' B' C' cn' cc' bc' r' (by omega) (by omega) w1 w2 (by rw [w3]; exact hst) (fun _ => ⟨⟨⟨⟨y5.1, y5.2.2.1, y5.2.2.2⟩, y6, y7, y8⟩, y9⟩, by omega⟩) (fun _ => ⟨_, z1, z2, Or.inr ⟨?_, eRS⟩⟩) (fun t => absurd e t)⟩
      rcases tcq_k (ev := evq W pl nq sm N nms) (stp := stpq W pl nq sm N nms V (mI M0 (p + 3)) (mI M0 (p + 4))) (sg := sgL) (nb := nbx9 T) (c := i) (cm := cm) (s := s) with a | a
      · rw [a]; exact s3
      · rw [a]
        have := cC.2.1
        omega
    · obtain ⟨-, z1⟩ := w5.resolve_right (fun a => e a.1)
      exact ⟨w1, w2.1, ih (i + 1) M' A' B' C' cn cc bc r' (by omega) (by omega) w1 w2 (by rw [w3]; exact hst) (fun t => absurd t e) (fun t => absurd t e) (fun _ => by rw [eRS, tsq_f (by rw [z1]; exact e)]; exact z1)⟩
theorem x_dc72 (hF : FMx G) (cx : gcx M0 g p O P L V F Ab0 Be0 ns sf ef W pl nq sm N n nms) (px : PGx M0 p O P L V cnt W pl nq sm n ns ef nms tg cms) {st : Int} (hst0 : 0 ≤ st ∧ st < 100000000) : ∀ (t k : Nat) (M : mM) (U w9 Ab Be C cn cc bc : Nat) (S : List (List Int)) (T : xt9), 512 ≤ k + t → k ≤ 512 → (U = g + 1 ∨ U = g + 11) → GY U w9 M0 z g p O P K V F1 ns1 sf1 ef1 L cnt Ab0 Be0 C0 M Ab Be C → cn ≤ 512 → 1 ≤ cn → k ≤ cn → mI M g 12 = ((cc : Nat) : Int) → mI M g 13 = ((bc : Nat) : Int) → ((k = 0 ∧ cc = 0 ∧ bc = 0) ∨ (∃ k', k = k' + 1 ∧ GT M g cn k' cc bc ∧ GS M g k')) → mI M (g + 10) 9 = st + k → SoO nms S → gxe M g V cn S → xtm M g k = T → nbx9 T = bc → X = exq9 (evq W pl nq sm N nms) (stpq W pl nq sm N nms V (mI M0 (p + 3)) (mI M0 (p + 4))) tg cms (513 - k) k S T → h_Ga_discover_72 G (d + 6) g k M (fun r M' => dcQ M0 z g p O P K V F1 ns1 sf1 ef1 L cnt Ab0 Be0 C0 st r M' ∧ dcX X g V r M') := by
  intro t
  have done : ∀ {k : Nat} {M : mM} {U w9 Ab Be C cn cc bc : Nat} {S : List (List Int)} {T : xt9}, k ≤ 512 → (U = g + 1 ∨ U = g + 11) → GY U w9 M0 z g p O P K V F1 ns1 sf1 ef1 L cnt Ab0 Be0 C0 M Ab Be C → cn ≤ 512 → 1 ≤ cn → cn = k → mI M g 12 = ((cc : Nat) : Int) → mI M g 13 = ((bc : Nat) : Int) → ((k = 0 ∧ cc = 0 ∧ bc = 0) ∨ (∃ k', k = k' + 1 ∧ GT M g cn k' cc bc ∧ GS M g k')) → mI M (g + 10) 9 = st + k → gxe M g V cn S → xtm M g k = T → X = exq9 (evq W pl nq sm N nms) (stpq W pl nq sm N nms V (mI M0 (p + 3)) (mI M0 (p + 4))) tg cms (513 - k) k S T → dcQ M0 z g p O P K V F1 ns1 sf1 ef1 L cnt Ab0 Be0 C0 st 0 M ∧ dcX X g V 0 M := fun {k M U w9 Ab Be C cn cc bc S T} hk hU hx hcn h1c hck hcc hbc hgt hst ge hxt hX => by
    have hsl : SLt M g cn := fun i hi => (ge.2.1.1.1 i hi).imp id (fun ⟨k, k1, k2⟩ => ⟨by omega, by omega⟩)
    refine ⟨⟨⟨by decide, by decide⟩, ⟨U, w9, Ab, Be, C, hU, hx⟩, by rw [hst]; omega, fun _ => ?_, fun t => absurd rfl t⟩, Or.inr ⟨rfl, ?_⟩⟩
    · rcases hgt with ⟨k0, -⟩ | ⟨k', ek, gt⟩
      · omega
      · exact ⟨cn, cc, bc, h1c, ⟨⟨ge.1, hcn, hsl⟩, hcc, hbc, by rw [show cn - 1 = k' by omega]; exact gt.1⟩, by rw [show cn - 1 = k' by omega]; exact gt.2⟩
    · have sn : S[k]? = none := by
        rw [← ge.2.2, List.getElem?_eq_none_iff, Sm9_len]
        omega
      rw [show 513 - k = (512 - k) + 1 by omega, exq_n sn] at hX
      rw [hX]
      exact ⟨rfl, cn, ge, by rw [hck]; exact hxt⟩
  induction t with
  | zero =>
    intro k M U w9 Ab Be C cn cc bc S T ht hk hU hx hcn h1c hkc hcc hbc hgt hst so ge hxt hnb hX
    refine k_Ga_discover_72 hx.1 (i32s (by omega) (by omega)) ⟨hx.2.1.1, fun _ => done hk hU hx hcn h1c (by omega) hcc hbc hgt hst ge hxt hX, fun y => absurd (Or.inr (by omega)) y⟩
  | succ t ih =>
    intro k M U w9 Ab Be C cn cc bc S T ht hk hU hx hcn h1c hkc hcc hbc hgt hst so ge hxt hnb hX
    refine k_Ga_discover_72 hx.1 (i32s (by omega) (by omega)) ?_
    rw [ge.1]
    refine ⟨hx.2.1.1, fun y => done hk hU hx hcn h1c (by omega) hcc hbc hgt hst ge hxt hX, fun y => ?_⟩
    have k5 : k < 512 ∧ k < cn := by omega
    have hsl : SLt M g cn := fun i hi => (ge.2.1.1.1 i hi).imp id (fun ⟨k, k1, k2⟩ => ⟨by omega, by omega⟩)
    have hSk : S[k]? = some (lsm M g V k) := by rw [← ge.2.2]; exact Sm9_get k5.2
    rw [show 513 - k = (512 - k) + 1 by omega] at hX
    refine (x_Ga_lookAt (d := d + 1) hF cx px.2.2.1 so ge k5.2 hxt hnb hU hx k5.1 ⟨ge.1, hcn, hsl⟩ hcc hbc (by rw [hst]; clear hgt; omega) (hgt.imp id (fun ⟨k', e, q⟩ => ⟨k', e, q.1⟩)) (fun j hj => by
      rcases hgt with ⟨k0, -⟩ | ⟨k', ek, -, q⟩
      · omega
      · exact q j (by omega))).mono (fun r M' q => ?_)
    obtain ⟨⟨w1, ⟨A', B', C', w2⟩, w3, w4⟩, w5⟩ := q
    rw [hst] at w3
    refine ⟨w1, w2.1, x_dc96 (RS := ssq9 (evq W pl nq sm N nms) (stpq W pl nq sm N nms V (mI M0 (p + 3)) (mI M0 (p + 4))) tg cms (lsm M g V k) (nbx9 T) S) (T := T) (sgL := lsm M g V k) hF cx px (fun hf => by rw [hX, exq_f hSk hf]) (fun M2 A2 B2 C2 cn2 cc2 bc2 y1 y2 y3 y4 y5 y6 y7 y8 y9 => ?_) k5.1 hst0.1 cnt 0 M' A' B' C' cn cc bc r (by omega) (by omega) w1 w2 w3 (fun r0 => ⟨w4 r0, k5.2⟩) (fun r0 => ?_) (fun r0 => ?_)⟩
    · rw [show ((k : Int) + 1) = ((k + 1 : Nat) : Int) by omega]
      obtain ⟨⟨z1, z2, z3, z4⟩, z5⟩ := y2
      exact ih (k + 1) M2 (g + 1) 1 A2 B2 C2 cn2 cc2 bc2 _ _ (by omega) (by omega) (Or.inl rfl) y1 z1.2.1 (by omega) (by omega) z2 z3 (Or.inr ⟨k, rfl, z4, z5⟩) (by rw [y4]; omega) y6 y7 y8 y9 (by rw [hX, exq_s hSk (by rw [y5]), show 513 - (k + 1) = 512 - k by omega])
    · obtain ⟨-, e1, e2, e3⟩ := w5.resolve_left (fun a => a.1 r0)
      refine ⟨_, e2, e3, ?_⟩
      by_cases y0 : (evq W pl nq sm N nms (lsm M g V k) tg.1 tg.2).2.1 = 0
      · rw [if_pos y0]
        exact Or.inr ⟨by show (0 : Int) ≠ 3; decide, ssq_n e1 y0⟩
      · rw [if_neg y0]
        exact Or.inl ⟨rfl, ssq_t e1 y0⟩
    · obtain ⟨-, e1, e2⟩ := w5.resolve_right (fun a => r0 a.1)
      rw [ssq_f e1]
      exact e2
end GBO
