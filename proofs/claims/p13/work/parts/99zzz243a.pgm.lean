/-! The class's program tells a game: what exploring it comes to. -/
section PGD
variable {z g p O P K V F1 L cnt Ab Be : Nat} {M : mM} {ns1 : Nat → Int} {sf1 ef1 : Nat → Nat} {X9 : xR9}
theorem pgm_dc (pg : Pgm X9 M p O P) (hw : PW M z p O P K V F1 ns1 sf1 ef1 L cnt) (hO : ¬ gaS g Ab Be O) (hP : ¬ gaS g Ab Be P) : ∃ (F : Nat) (ns : Nat → Int) (sf ef : Nat → Nat) (W pl nq : Nat → Int) (sm : Nat → Nat → Prop) (N n : Nat) (nms : List nm9) (tg : Nat × Nat) (cms : List cm9), gcx M g p O P L V F Ab Be ns sf ef W pl nq sm N n nms ∧ PGx M p O P L V cnt W pl nq sm n ns ef nms tg cms ∧ xpl9 (evq W pl nq sm N nms) (stpq W pl nq sm N nms V (mI M (p + 3)) (mI M (p + 4))) tg cms ((List.range V).map (mI M (p + 5))) = X9 := by
  obtain ⟨⟨W, pl, nq, sm, N, nms, gm⟩, c4, n, hq, ⟨L', ns, sf, ef, h1, h2, h3, h4, ⟨a1, a2, a3⟩, ⟨t1, t2⟩, h7, h8⟩, ⟨v3, v60, v12, ht⟩, hX⟩ := pg
  obtain ⟨pk, ⟨p2, -, -⟩, ⟨p3, -⟩, -, ⟨p12, -⟩, -⟩ := hw
  have eL : L' = L := by
    rw [p2] at h1
    omega
  subst eL
  have eV : vcn nms = V := by
    have v3 : mI M p 3 = ((vcn nms : Nat) : Int) := v3
    rw [p3] at v3
    omega
  have ec : gm.2.2.length = cnt := by
    have h7 : gm.2.2.length = c4.2.2.1 := h7
    have v12 : mI M p 12 = ((c4.2.2.1 : Nat) : Int) := v12
    rw [p12] at v12
    omega
  have eW : gm.1.length = V := a1.trans eV
  have vo : VlO nms gm.1 := ⟨a1, fun v x hx => ⟨(a2 v x hx).2.2.2.1, (a2 v x hx).2.2.2.2⟩, a3⟩
  obtain ⟨tg, htg⟩ : ∃ tg, gm.2.1 = some tg := by
    cases e : gm.2.1 with
    | none => exact absurd (t1 e) ht
    | some tg => exact ⟨tg, rfl⟩
  refine ⟨rcn nms, ns, sf, ef, W, pl, nq, sm, N, n, nms, tg, gm.2.2, ⟨⟨hO, hP, pk.2.2.2.2.1.2.1, pk.2.2.2.2.1.2.2, v60⟩, hq, h2, h3, rfl, eV⟩, ⟨fun l1 e l2 he e3 => ?_, fun l1 e l2 he e3 => ?_, t2 tg htg, ec, fun c cm hc => ?_⟩, ?_⟩
  · obtain ⟨x, hx, -, b1, -, b3⟩ := vlo_get vo he e3
    obtain ⟨y3, y4, -⟩ := a2 _ x hx
    rw [y3, y4]
    exact ⟨b1, b3⟩
  · obtain ⟨x, hx, -, b1, b2, b3⟩ := vlo_get vo he e3
    obtain ⟨-, -, y5, -⟩ := a2 _ x hx
    rw [y5]
    exact ⟨by omega, fun u => by have := b3 u; omega⟩
  · rw [← eV]
    exact h8 c cm hc
  · have eS : (List.range V).map (mI M (p + 5)) = gm.1.map (fun x => x.2.2) := by
      refine List.ext_getElem? (fun v => ?_)
      by_cases y : v < V
      · have hx := List.getElem?_eq_getElem (l := gm.1) (i := v) (by rw [eW]; exact y)
        rw [List.getElem?_map, List.getElem?_range y, List.getElem?_map, hx]
        exact congrArg some (a2 v _ hx).2.2.1
      · rw [List.getElem?_eq_none (by rw [List.length_map, List.length_range]; omega), List.getElem?_eq_none (by rw [List.length_map, eW]; omega)]
    rw [hX, eS]
    have eX : XpG (W, pl, nq, sm, N, nms, gm) = xpl9 (evq W pl nq sm N nms) (stpq W pl nq sm N nms V (fun v => (gm.1.getD v (0, 0, 0)).1) (fun v => (gm.1.getD v (0, 0, 0)).2.1)) tg gm.2.2 (gm.1.map (fun x => x.2.2)) := by
      rw [← eW]
      show xpl9 _ _ (gm.2.1.getD (0, 0)) _ _ = _
      rw [htg]
      rfl
    rw [eX]
    refine xpl_cg (fun sg => rfl) (fun cm hc => ⟨fun sg => rfl, fun b hb => ⟨fun sg => rfl, fun sg => stpq_lo (fun q hq9 => ?_)⟩⟩)
    obtain ⟨c, hc'⟩ := List.getElem?_of_mem hc
    obtain ⟨b', hb'⟩ := List.getElem?_of_mem hb
    obtain ⟨-, -, -, -, u, v, -, -, -, -, d10⟩ := h8 c cm hc'
    obtain ⟨-, -, s2, -, r, l', e9, -, d11, -⟩ := d10 b' b hb'
    obtain ⟨-, -, -, lt, -⟩ := d11 q hq9
    have lt' : q.1 < V := by
      rw [← eV]
      exact lt
    have hx := List.getElem?_eq_getElem (l := gm.1) (i := q.1) (by rw [eW]; exact lt')
    obtain ⟨y3, y4, -⟩ := a2 _ _ hx
    have gd : gm.1.getD q.1 (0, 0, 0) = gm.1[q.1]'(by rw [eW]; exact lt') := by
      rw [List.getD_eq_getElem?_getD, hx]
      rfl
    show mI M (p + 3) q.1 = (gm.1.getD q.1 (0, 0, 0)).1 ∧ mI M (p + 4) q.1 = (gm.1.getD q.1 (0, 0, 0)).2.1
    rw [gd]
    exact ⟨y3, y4⟩
end PGD
