section
/-! The class's reader of texts: consts, formulas, vars and targets keep the game. -/
section TXV2
variable {q p O P L L' V F n c Nn k e e0 r : Nat} {M0 M M' M1 M2 : mM} {ns : Nat → Int} {sf ef : Nat → Nat} {W pl nq E : Nat → Int} {Cf : Nat → Int × Int} {sm : Nat → Nat → Prop} {nms : List nm9} {s s' : st9} {g : gm9} {v : vrs}
/-- a const or a formula keeps the game -/
theorem CGm.named {l1 kq : Int} (cg : CGm M p O P W pl nq sm Nn n s g) (hp : mI M p 2 = ((L : Nat) : Int)) (tx : txE M q p O P L M1) (sz : snZ p O P F L e l1 v M1 M2) (hF : rcn s.1 = F) (h4 : l1 = 4 ∨ l1 = 7) (eo : Eo W 6 (k + 3) e0) (e0n : e0 ≤ n) (nx : nxq W 34 Nn (k + 1) = e0) (hk : kq = 0 ∨ kq = 1) (gv : l1 = 4 → vgd kq v ∧ v.1 = 0) (hf : l1 = 7 → LfC W nq sm n s.1 Cf ∧ Cd W Cf pl (mI M1 O) (mI M1 P) 0 0 0 (k + 3) e0 L e ∧ mI M1 O e = 0 ∧ (fl W (E9 sm s.1 0) pl 0 (k + 3) e0).1 = 0 ∧ kq = kdq W (E9 sm s.1 0) 0 (k + 3) e0) : CGm M2 p O P W pl nq sm Nn n (s.1 ++ [(k + 1, (if l1 = 4 then 1 else 2), kq, if l1 = 4 then v else (0, 0, 1))], (s.2.1.1, s.2.1.2.1 + 1, s.2.1.2.2), (0, 0)) g := by
  obtain ⟨L0, ns, sf, ef, g1, g2, g3, g4, g5, g6, g7, g8⟩ := cg
  have eL : L0 = L := by rw [hp] at g1; omega
  subst eL
  obtain ⟨⟨d1, d2, d3, d4, d5⟩, z4, z7, z9⟩ := sz
  have tp := tx.2.2.2.2.1
  have to := tx.2.2.2.2.2
  have p9 : ∀ i, 9 ≤ i → i ≤ 15 → mI M2 (p + i) = mI M (p + i) := fun i i9 i15 => by rw [d1 i i9 i15, tp i (by omega) i15]
  have cd : cdE O P L0 M M2 := fun i hi => by rw [d4, d5]; exact to i hi
  have t6 : ∀ j, j < rcn s.1 → mI M2 (p + 6) j = mI M (p + 6) j ∧ mI M2 (p + 7) j = mI M (p + 7) j ∧ mI M2 (p + 8) j = mI M (p + 8) j := fun j hj => by
    obtain ⟨a, b, c⟩ := d3 j (by omega)
    rw [a, b, c, tp 6 (by omega) (by omega), tp 7 (by omega) (by omega), tp 8 (by omega) (by omega)]
    exact ⟨rfl, rfl, rfl⟩
  have p11 : mI M2 p 11 = mI M p 11 := by rw [z9, tx.2.2.2.1 11 (by decide)]
  have vl : ∀ e9 : nm9, e9.2.1 ≠ 3 → VlC M2 p (s.1 ++ [e9]) g.1 := fun e9 h3 => by
    obtain ⟨v1, v2, v3⟩ := g5
    refine ⟨?_, fun v x hx => ?_, fun l1 e l2 he e3 e1 x hx => ?_⟩
    · rw [vcn_app, v1]
      show _ = vcn s.1 + (0 + (if e9.2.1 = 3 then 1 else 0))
      rw [if_neg h3]
      rfl
    · rw [d2 3 (by omega) (by omega), d2 4 (by omega) (by omega), d2 5 (by omega) (by omega), tp 3 (by omega) (by omega), tp 4 (by omega) (by omega), tp 5 (by omega) (by omega)]
      exact v2 v x hx
    · rcases app_sp he with ⟨-, b, -⟩ | ⟨l2', -, b⟩
      · rw [b] at e3
        exact absurd e3 h3
      · exact v3 l1 e l2' b e3 e1 x hx
  have rc1 : ∀ e9 : nm9, e9.2.1 ≠ 3 → rcn (s.1 ++ [e9]) = rcn s.1 + 1 ∧ vcn (s.1 ++ [e9]) = vcn s.1 := fun e9 h3 => by
    rw [rcn_app, vcn_app]
    show rcn s.1 + (0 + (if e9.2.1 = 3 then 0 else 1)) = _ ∧ vcn s.1 + (0 + (if e9.2.1 = 3 then 1 else 0)) = _
    rw [if_neg h3, if_neg h3]
    exact ⟨rfl, rfl⟩
  rcases h4 with h4 | h4
  · subst h4
    obtain ⟨gv1, gv2⟩ := gv rfl
    obtain ⟨⟨y1, y2⟩, y3⟩ := z4 rfl
    rw [if_pos rfl, if_pos rfl]
    have n3 : ((k + 1, 1, kq, v) : nm9).2.1 ≠ 3 := by simp
    obtain ⟨r1, r2⟩ := rc1 (k + 1, 1, kq, v) n3
    have ne : ∀ x, x < rcn s.1 → (fun x => if x = rcn s.1 then (4 : Int) else ns x) x = ns x ∧ ef x = ef x := fun x hx => ⟨if_neg (by omega), rfl⟩
    have gd := gv1.resolve_right (fun u => by omega)
    refine ⟨L0, fun x => if x = rcn s.1 then (4 : Int) else ns x, sf, ef, y3, g2.add ⟨by simp, by simp⟩ hk (fun _ => gv1) (fun u => absurd u (by simp)), g3.add (Nat.le_refl _) cd t6 (fun x hx => ⟨if_neg (by omega), rfl, rfl⟩) (fun _ => ⟨if_pos rfl, fun _ => ⟨?_, ?_⟩, fun u => absurd u (by simp)⟩), fun x hx h7 => ?_, vl _ n3, ⟨g6.1, fun tg ht => ?_⟩, g7, fun c cm hc => ?_⟩
    · show v = (0, mI M2 (p + 6) (rcn s.1), mI M2 (p + 7) (rcn s.1))
      rw [hF, y1, y2, ← gv2]
    · rw [hF, y2]
      omega
    · rw [r1] at hx
      by_cases y : x = rcn s.1
      · have h7 : (if x = rcn s.1 then (4 : Int) else ns x) = 7 := h7
        rw [if_pos y] at h7
        exact absurd h7 (by decide)
      · have h7 : (if x = rcn s.1 then (4 : Int) else ns x) = 7 := h7
        rw [if_neg y] at h7
        exact g4 x (by omega) h7
    · obtain ⟨sT, a1, a2⟩ := g6.2 tg ht
      exact ⟨sT, by rw [p11]; exact a1, a2.step cd (Nat.le_refl _) ne⟩
    · exact (g8 c cm hc).step p9 cd (Nat.le_refl _) (by rw [r2]; exact Nat.le_refl _) ne
  · subst h4
    obtain ⟨f1, f2, f3, f4, f5⟩ := hf rfl
    obtain ⟨y1, y3⟩ := z7 rfl
    rw [if_neg (by decide), if_neg (by decide)]
    have n3 : ((k + 1, 2, kq, ((0 : Int), (0 : Int), (1 : Int))) : nm9).2.1 ≠ 3 := by simp
    obtain ⟨r1, r2⟩ := rc1 (k + 1, 2, kq, (0, 0, 1)) n3
    have lt := f2.lt
    have ne : ∀ x, x < rcn s.1 → (fun x => if x = rcn s.1 then (7 : Int) else ns x) x = ns x ∧ (fun x => if x = rcn s.1 then e else ef x) x = ef x := fun x hx => ⟨if_neg (by omega), if_neg (by omega)⟩
    refine ⟨e + 1, fun x => if x = rcn s.1 then (7 : Int) else ns x, fun x => if x = rcn s.1 then L0 else sf x, fun x => if x = rcn s.1 then e else ef x, y3, g2.add ⟨by simp, by simp⟩ hk (fun u => absurd u (by simp)) (fun _ => ?_), g3.add (by omega) cd t6 (fun x hx => ⟨if_neg (by omega), if_neg (by omega), if_neg (by omega)⟩) (fun _ => ⟨if_pos rfl, fun u => absurd u (by simp), fun _ => ⟨?_, ?_, ?_, ?_, fun y hy h7 => ?_, Cf, f1, ?_⟩⟩), fun x hx h7 => ?_, vl _ n3, ⟨g6.1, fun tg ht => ?_⟩, g7, fun c cm hc => ?_⟩
    · show Eo W 6 (k + 1 + 2) (nxq W 34 Nn (k + 1)) ∧ nxq W 34 Nn (k + 1) ≤ n ∧ _ ∧ _
      rw [nx]
      exact ⟨eo, e0n, f4, f5⟩
    · show mI M2 (p + 8) (rcn s.1) = (((if rcn s.1 = rcn s.1 then L0 else sf (rcn s.1) : Nat)) : Int)
      rw [if_pos rfl, hF]
      exact y1
    · show (if rcn s.1 = rcn s.1 then L0 else sf (rcn s.1)) < (if rcn s.1 = rcn s.1 then e else ef (rcn s.1))
      rw [if_pos rfl, if_pos rfl]
      exact lt
    · show (if rcn s.1 = rcn s.1 then e else ef (rcn s.1)) < e + 1
      rw [if_pos rfl]
      omega
    · show mI M2 O (if rcn s.1 = rcn s.1 then e else ef (rcn s.1)) = 0
      rw [if_pos rfl, d4]
      exact f3
    · have h7 : (if y = rcn s.1 then (7 : Int) else ns y) = 7 := h7
      show (if y = rcn s.1 then e else ef y) < (if rcn s.1 = rcn s.1 then L0 else sf (rcn s.1))
      rw [if_neg (by omega), if_pos rfl]
      rw [if_neg (by omega)] at h7
      exact g4 y hy h7
    · show Cd W Cf pl (mI M2 O) (mI M2 P) 0 0 0 (k + 1 + 2) (nxq W 34 Nn (k + 1)) (if rcn s.1 = rcn s.1 then L0 else sf (rcn s.1)) (if rcn s.1 = rcn s.1 then e else ef (rcn s.1))
      rw [if_pos rfl, if_pos rfl, nx, d4, d5]
      exact f2
    · rw [r1] at hx
      have h7 : (if x = rcn s.1 then (7 : Int) else ns x) = 7 := h7
      show (if x = rcn s.1 then e else ef x) < e + 1
      by_cases y : x = rcn s.1
      · rw [if_pos y]
        omega
      · rw [if_neg y] at h7 ⊢
        have := g4 x (by omega) h7
        omega
    · obtain ⟨sT, a1, a2⟩ := g6.2 tg ht
      exact ⟨sT, by rw [p11]; exact a1, a2.step cd (by omega) ne⟩
    · exact (g8 c cm hc).step p9 cd (by omega) (by rw [r2]; exact Nat.le_refl _) ne
/-- a var's range and init are put behind the others -/
theorem CGm.var {kq t1 t2 t3 : Int} (cg : CGm M p O P W pl nq sm Nn n s g) (hp : mI M p 2 = ((L : Nat) : Int)) (tx : ∀ i, 3 ≤ i → i ≤ 15 → mI M1 (p + i) = mI M (p + i)) (t11 : mI M1 p 11 = mI M p 11) (to : cdE O P L M M1) (sz : svD p O P V L t1 t2 t3 M1 M2) (hV : vcn s.1 = V) (hk : kq = 0 ∨ kq = 1) (hb : t1.natAbs ≤ 999999999 ∧ t2.natAbs ≤ 999999999) (hi : t1 ≤ t3 ∧ t3 ≤ t2) (h1 : kq = 1 → t1 = 0 ∧ t2 = 1) : CGm M2 p O P W pl nq sm Nn n (s.1 ++ [(k + 1, 3, kq, (0, 0, 1))], (s.2.1.1 + 1, s.2.1.2), (0, 0)) (g.1 ++ [(t1, t2, t3)], g.2) := by
  obtain ⟨L0, ns, sf, ef, g1, g2, g3, g4, g5, g6, g7, g8⟩ := cg
  have eL : L0 = L := by rw [hp] at g1; omega
  subst eL
  obtain ⟨d1, d2, ⟨d3, d4⟩, d5, d6⟩ := sz
  have p9 : ∀ i, 6 ≤ i → i ≤ 15 → mI M2 (p + i) = mI M (p + i) := fun i i6 i15 => by rw [d1 i i6 i15, tx i (by omega) i15]
  have cd : cdE O P L0 M M2 := fun i hi => by rw [d3, d4]; exact to i hi
  have r1 : rcn (s.1 ++ [(k + 1, 3, kq, ((0 : Int), (0 : Int), (1 : Int)))]) = rcn s.1 ∧ vcn (s.1 ++ [(k + 1, 3, kq, ((0 : Int), (0 : Int), (1 : Int)))]) = vcn s.1 + 1 := by
    rw [rcn_app, vcn_app]
    exact ⟨rfl, rfl⟩
  have ne : ∀ x, x < rcn s.1 → ns x = ns x ∧ ef x = ef x := fun x _ => ⟨rfl, rfl⟩
  refine ⟨L0, ns, sf, ef, d5, g2.add ⟨by simp, by simp⟩ hk (fun u => absurd u (by simp)) (fun u => absurd u (by simp)), g3.add (Nat.le_refl _) cd (fun j _ => by rw [p9 6 (by omega) (by omega), p9 7 (by omega) (by omega), p9 8 (by omega) (by omega)]; exact ⟨rfl, rfl, rfl⟩) (fun x _ => ⟨rfl, rfl, rfl⟩) (fun u => absurd rfl u), fun x hx h7 => g4 x (by rw [r1.1] at hx; exact hx) h7, ?_, ⟨g6.1, fun tg ht => ?_⟩, g7, fun c cm hc => (g8 c cm hc).step (fun i i9 i15 => p9 i (by omega) i15) cd (Nat.le_refl _) (by rw [r1.2]; omega) ne⟩
  · obtain ⟨v1, v2, v3⟩ := g5
    have at9 : ∀ {v : Nat} {x : Int × Int × Int}, (g.1 ++ [(t1, t2, t3)])[v]? = some x → (v = V ∧ x = (t1, t2, t3)) ∨ (v ≠ V ∧ v < V ∧ g.1[v]? = some x) := fun {v x} hx => by
      by_cases y : v < g.1.length
      · rw [List.getElem?_append_left y] at hx
        exact Or.inr ⟨by omega, by omega, hx⟩
      · rw [List.getElem?_append_right (by omega)] at hx
        by_cases y2 : v - g.1.length = 0
        · rw [y2] at hx
          exact Or.inl ⟨by omega, (Option.some.inj hx).symm⟩
        · rw [List.getElem?_eq_none (by simp; omega)] at hx
          exact absurd hx (by simp)
    refine ⟨by rw [List.length_append, v1, r1.2]; rfl, fun v x hx => ?_, fun l1 e l2 he e3 e1 x hx => ?_⟩
    · rw [(d2 v).1, (d2 v).2.1, (d2 v).2.2]
      rcases at9 hx with ⟨a, b⟩ | ⟨a, a', b⟩
      · rw [if_pos a, if_pos a, if_pos a, b]
        exact ⟨rfl, rfl, rfl, hb, hi⟩
      · rw [if_neg a, if_neg a, if_neg a, tx 3 (by omega) (by omega), tx 4 (by omega) (by omega), tx 5 (by omega) (by omega)]
        exact v2 v x b
    · rcases app_sp he with ⟨a, b, -⟩ | ⟨l2', -, b⟩
      · rw [a] at hx
        rcases at9 hx with ⟨-, c⟩ | ⟨c, -⟩
        · rw [c]
          rw [b] at e1
          exact h1 e1
        · exact absurd hV c
      · have vl : vcn l1 < V := by
          have e9 : vcn (e :: l2') = vcn l2' + 1 := by
            show vcn l2' + (if e.2.1 = 3 then 1 else 0) = _
            rw [if_pos e3]
          rw [← hV, b, vcn_app, e9]
          omega
        rcases at9 hx with ⟨c, -⟩ | ⟨-, -, c⟩
        · omega
        · exact v3 l1 e l2' b e3 e1 x c
  · obtain ⟨sT, a1, a2⟩ := g6.2 tg ht
    exact ⟨sT, by rw [d6, t11]; exact a1, a2.step cd (Nat.le_refl _) ne⟩
/-- a target is put down -/
theorem CGm.target (cg : CGm M p O P W pl nq sm Nn n s g) (hp : mI M p 2 = ((L : Nat) : Int)) (eo : Eo W 6 (k + 1) e) (en : e ≤ n) (lf : LfC W nq sm n s.1 Cf) (hfl : (fl W (E9 sm s.1 0) pl 0 (k + 1) e).1 = 0) (td : tgD W pl Cf p O P L k e M M2) : CGm M2 p O P W pl nq sm Nn n (s.1, (s.2.1.1, s.2.1.2.1, s.2.1.2.2.1, 1), (0, 0)) (g.1, some (k + 1, e), g.2.2) := by
  obtain ⟨L0, ns, sf, ef, g1, g2, g3, g4, g5, g6, g7, g8⟩ := cg
  have eL : L0 = L := by rw [hp] at g1; omega
  subst eL
  obtain ⟨t1, t2, L', t3, t4, t5, t6⟩ := td
  have lt := t5.lt
  have ne : ∀ x, x < rcn s.1 → ns x = ns x ∧ ef x = ef x := fun x _ => ⟨rfl, rfl⟩
  have nil : s.1 = s.1 ++ [] := (List.append_nil _).symm
  refine ⟨L' + 1, ns, sf, ef, t3, g2, ?_, fun x hx h7 => by have := g4 x hx h7; omega, ?_, ⟨fun u => absurd u (by simp), fun tg ht => ?_⟩, g7, fun c cm hc => ?_⟩
  · intro l1 e' l2 he e3
    have rl : rcn s.1 = rcn l1 + rcn (e' :: l2) := by rw [he, rcn_app]
    obtain ⟨f1, f2, f3⟩ := g3 l1 e' l2 he e3
    refine ⟨f1, fun y => by rw [t2 6 (by omega) (by omega), t2 7 (by omega) (by omega)]; exact f2 y, fun y => ?_⟩
    obtain ⟨k1, k2, k3, k4, k5, ec, k6, k7⟩ := f3 y
    exact ⟨by rw [t2 8 (by omega) (by omega)]; exact k1, k2, by omega, by rw [(t6 _ k3).1]; exact k4, k5, ec, k6, k7.cg (fun t _ h2 => t6 t (by omega))⟩
  · obtain ⟨v1, v2, v3⟩ := g5
    exact ⟨v1, fun v x hx => by rw [t2 3 (by omega) (by omega), t2 4 (by omega) (by omega), t2 5 (by omega) (by omega)]; exact v2 v x hx, v3⟩
  · have ht : some (k + 1, e) = some tg := ht
    have ht := Option.some.inj ht
    subst ht
    refine ⟨L0, t1, s.1, [], Cf, L', nil, eo, en, hfl, lf, fun x hx h7 => g4 x hx h7, t5, by omega, t4⟩
  · have := (g8 c cm hc).step (l9 := []) (ns' := ns) (ef' := ef) (V' := vcn s.1) (fun i i9 i15 => t2 i (by omega) i15) t6 (show L0 ≤ L' + 1 by omega) (Nat.le_refl _) ne
    rw [List.append_nil] at this
    exact this
theorem brs_e {f i : Nat} (h : e ≤ i) : brs9 W pl sm Nn nms e f i = [] := by
  cases f with
  | zero => rfl
  | succ f => rw [brs9, if_pos h]
/-- a command is put behind the others -/
theorem CGm.cmd {cnt ar b L0 : Nat} (cg : CGm M p O P W pl nq sm Nn n s g) (hp : mI M p 2 = ((L0 : Nat) : Int)) (hcnt : s.2.1.2.2.1 = cnt) (hV : vcn s.1 = V) (cr : cmR9 W pl nq sm Nn n V q p O P L0 c cnt k ar s.1 M (e + 1) b M1) (ct : CT M (q + 1) p s.1) (hl : s.1.length = c) (z : mI M1 (q + 1) 3 = 0) (ne : no34 W k e) (we : W e = 34) (hr : nxq W 17 Nn (k + 1) = ar) (b8 : b ≤ 8) (v480 : ∀ v : Nat, mI M1 (p + 12) (cnt + 1) = ((v : Nat) : Int) → v ≤ 480) : CGm M1 p O P W pl nq sm Nn n (s.1, (s.2.1.1, s.2.1.2.1, s.2.1.2.2.1 + 1, s.2.1.2.2.2), (0, 0)) (g.1, g.2.1, g.2.2 ++ [cmd9 W pl sm Nn s.1 k e]) := by
  obtain ⟨L9, ns, sf, ef, g1, g2, g3, g4, g5, g6, g7, g8⟩ := cg
  have eL : L9 = L0 := by rw [hp] at g1; omega
  subst eL
  obtain ⟨L, u, bl, ⟨a1, a1'⟩, a2, ⟨f1, f2, f3, f4, f5, f6⟩, ⟨a4, a5⟩, ⟨sg, a6, a7⟩, a8, a9, a10, a11⟩ := cr ct hl z
  have ebl := a10 e ne we
  rw [brs_e (Nat.le_succ e), List.append_nil] at ebl
  have glen : g.2.2.length = cnt := by rw [g7, hcnt]
  have nil : s.1 = s.1 ++ [] := (List.append_nil _).symm
  have nn : ∀ x, x < rcn s.1 → ns x = ns x ∧ ef x = ef x := fun x _ => ⟨rfl, rfl⟩
  have ru : ∀ {i j sx : Nat}, RuC M O P L9 W pl nq sm n ns ef s.1 i j sx → RuC M1 O P L W pl nq sm n ns ef s.1 i j sx := fun {i j sx} h => by
    have := h.step (l9 := []) (ns' := ns) (ef' := ef) f5 a1' nn
    rw [List.append_nil] at this
    exact this
  have se : ∀ {l : List (Nat × Nat × Nat × Nat)} {sx : Nat}, SeC M O P L9 V W pl nq sm n ns ef s.1 l sx → SeC M1 O P L V W pl nq sm n ns ef s.1 l sx := fun {l sx} h => by
    have := h.step (l9 := []) (ns' := ns) (ef' := ef) f5 a1' (Nat.le_refl _) nn
    rw [List.append_nil] at this
    exact this
  have rw1 : ∀ {i j sx : Nat}, RwC M1 O P L9 L W pl nq sm n s.1 i j sx → RuC M1 O P L W pl nq sm n ns ef s.1 i j sx := fun {i j sx} h => by
    obtain ⟨Cf, e9, b1, b2, b3, b4, b5, b6, b7, b8⟩ := h
    exact ⟨s.1, [], Cf, e9, nil, b2, b3, b4, b1, fun x hx h7 => by have := g4 x hx h7; omega, b6, b7, b8⟩
  have sw1 : ∀ {l : List (Nat × Nat × Nat × Nat)} {sx : Nat}, SwC M1 O P L9 L V W pl nq sm n s.1 l sx → SeC M1 O P L V W pl nq sm n ns ef s.1 l sx := fun {l sx} h => by
    obtain ⟨e9, b1, b2, b3, b4, b5⟩ := h
    exact ⟨s.1, [], e9, nil, b1, fun x hx h7 => by have := g4 x hx h7; omega, b3, b4, b5⟩
  rw [hV] at g8
  have mono : ∀ d c' : Nat, c' + 1 + d = cnt → ∀ v : Nat, mI M (p + 12) (c' + 1) = ((v : Nat) : Int) → v ≤ u := by
    intro d
    induction d with
    | zero =>
      intro c' hc v hv
      rw [show c' + 1 = cnt by omega, a2] at hv
      omega
    | succ d ih =>
      intro c' hc v hv
      obtain ⟨cm, hcm⟩ : ∃ cm, g.2.2[c' + 1]? = some cm := ⟨g.2.2[c' + 1], List.getElem?_eq_getElem (by omega)⟩
      obtain ⟨-, -, -, -, u', v', h6, h7, ⟨h8, -, -⟩, -⟩ := g8 (c' + 1) cm hcm
      rw [h6] at hv
      have := ih (c' + 1) (by omega) v' h7
      omega
  have e3 : ∀ i, 3 ≤ i → i ≤ 8 → mI M1 (p + i) = mI M (p + i) := f1
  refine ⟨L, ns, sf, ef, a1, g2, ?_, fun x hx h7 => by have := g4 x hx h7; omega, ?_, ⟨g6.1, fun tg ht => ?_⟩, ?_, fun c' cm hc => ?_⟩
  · intro l1 e' l2 he h3
    obtain ⟨k1, k2, k3⟩ := g3 l1 e' l2 he h3
    refine ⟨k1, fun y => by rw [e3 6 (by omega) (by omega), e3 7 (by omega) (by omega)]; exact k2 y, fun y => ?_⟩
    obtain ⟨m1, m2, m3, m4, m5, ec, m6, m7⟩ := k3 y
    exact ⟨by rw [e3 8 (by omega) (by omega)]; exact m1, m2, by omega, by rw [(f5 _ m3).1]; exact m4, m5, ec, m6, m7.cg (fun t _ h2 => f5 t (by omega))⟩
  · obtain ⟨v1, v2, v3⟩ := g5
    exact ⟨v1, fun v x hx => by rw [e3 3 (by omega) (by omega), e3 4 (by omega) (by omega), e3 5 (by omega) (by omega)]; exact v2 v x hx, v3⟩
  · obtain ⟨sT, b1, b2⟩ := g6.2 tg ht
    exact ⟨sT, by rw [f6]; exact b1, ru b2⟩
  · show (g.2.2 ++ [cmd9 W pl sm Nn s.1 k e]).length = s.2.1.2.2.1 + 1
    rw [List.length_append, g7]
    rfl
  · have hc : (g.2.2 ++ [cmd9 W pl sm Nn s.1 k e])[c']? = some cm := hc
    show CmC M1 p O P L (vcn s.1) W pl nq sm n ns ef s.1 c' cm
    rw [hV]
    by_cases cl : c' < g.2.2.length
    · rw [List.getElem?_append_left cl] at hc
      obtain ⟨h1, h2, h3, ⟨sg', h4, h5⟩, u', v', h6, h7, h8, h9, h10⟩ := g8 c' cm hc
      have vu := mono (cnt - (c' + 1)) c' (by omega) v' h7
      obtain ⟨y9, y10, y11⟩ := f2 c' (by omega)
      refine ⟨by rw [y9]; exact h1, h2, by rw [y10]; exact h3, ⟨sg', by rw [y11]; exact h4, ru h5⟩, u', v', by rw [f3 _ (by omega)]; exact h6, by rw [f3 _ (by omega)]; exact h7, h8, h9, fun t x hx => ?_⟩
      have tl : t < cm.2.2.2.length := (List.getElem?_eq_some_iff.mp hx).1
      obtain ⟨y13, y14, y15⟩ := f4 (u' + t) (by omega)
      obtain ⟨m1, ⟨s1, m2, m3⟩, s2, m4, m5⟩ := h10 t x hx
      exact ⟨by rw [y13]; exact m1, ⟨s1, by rw [y14]; exact m2, ru m3⟩, s2, by rw [y15]; exact m4, se m5⟩
    · have cle := (List.getElem?_eq_some_iff.mp hc).1
      rw [List.length_append] at cle
      have ce : c' = cnt := by simp at cle; omega
      rw [List.getElem?_append_right (by omega), show c' - g.2.2.length = 0 by omega] at hc
      have hc : cmd9 W pl sm Nn s.1 k e = cm := Option.some.inj hc
      subst hc
      subst ce
      have v8 := v480 _ a8
      refine ⟨a4, ?_, a5, ⟨sg, a6, ?_⟩, u, u + bl.length, by rw [f3 _ (Nat.le_refl _)]; exact a2, a8, by omega, ?_, fun t x hx => ?_⟩
      · show (if W k = 7 then (1 : Int) else 2) = 1 ∨ (if W k = 7 then (1 : Int) else 2) = 2
        split
        · exact Or.inl rfl
        · exact Or.inr rfl
      · show RuC M1 O P L W pl nq sm n ns ef s.1 (k + 1) (nxq W 17 Nn (k + 1)) sg
        rw [hr]
        exact rw1 a7
      · show (brs9 W pl sm Nn s.1 e Nn (nxq W 17 Nn (k + 1) + 1)).length = _
        rw [hr, ebl]
        omega
      · have hx : (brs9 W pl sm Nn s.1 e Nn (nxq W 17 Nn (k + 1) + 1))[t]? = some x := hx
        rw [hr, ebl] at hx
        obtain ⟨m1, ⟨s1, m2, m3⟩, s2, m4, m5⟩ := a11 t x hx
        exact ⟨m1, ⟨s1, m2, rw1 m3⟩, s2, m4, sw1 m5⟩
end TXV2
end
section
/-! The class's reader of texts, exactly: an item is settled. -/
section TXX
variable {G : mG} {d z q w T A B D N C n p O P K Ab Be Cm V F c L cnt a nw k e e0 Nn L' : Nat} {M0 M M' M1 M2 : mM} {ns : Nat → Int} {sf ef : Nat → Nat} {H : Nat → Nat} {W pl nq E : Nat → Int} {Cf : Nat → Int × Int} {sm : Nat → Nat → Prop} {s s' : st9} {ft f2 : Int × Int} {g : gm9}
/-- the state behind the item at k -/
noncomputable def sN (W pl nq : Nat → Int) (sm : Nat → Nat → Prop) (Nn k : Nat) (s : st9) : st9 := if s.2.2.1 ≠ 0 then s else ite9 W pl nq sm Nn 60 k s
theorem sN_n (h : s.2.2.1 ≠ 0) : sN W pl nq sm Nn k s = s := if_pos h
theorem sN_r (h : s.2.2.1 = 0) (hW : W k = 3 ∨ W k = 6) (he : nxq W 34 Nn k = e) : sN W pl nq sm Nn k s = itr W pl nq sm k e s := by
  unfold sN
  rw [if_neg (fun u => u h)]
  unfold ite9
  simp only [he]
  rw [if_pos hW]
theorem sN_v (h : s.2.2.1 = 0) (hW : W k = 4) (he : nxq W 34 Nn k = e) : sN W pl nq sm Nn k s = itv W pl nq sm Nn k e s := by
  unfold sN
  rw [if_neg (fun u => u h)]
  unfold ite9
  simp only [he]
  rw [if_neg (by omega), if_pos hW]
theorem sN_t (h : s.2.2.1 = 0) (hW : W k = 11) (he : nxq W 34 Nn k = e) : sN W pl nq sm Nn k s = itt W pl sm k e s := by
  unfold sN
  rw [if_neg (fun u => u h)]
  unfold ite9
  simp only [he]
  rw [if_neg (by omega), if_neg (by omega), if_pos hW]
theorem sN_c (h : s.2.2.1 = 0) (hW : W k = 7 ∨ W k = 8) (he : nxq W 34 Nn k = e) : sN W pl nq sm Nn k s = itc W pl sm Nn 60 k e s := by
  unfold sN
  rw [if_neg (fun u => u h)]
  unfold ite9
  simp only [he]
  rw [if_neg (by omega), if_neg (by omega), if_neg (by omega)]
theorem ECq.fw {nms : List nm9} {co : Int} {s0 : Nat} (h : ECq M (q + 1) p n W nq sm nms c co E Cf) (ct : CT M (q + 1) p nms) (f : txE M q p O P s0 M') : ECq M' (q + 1) p n W nq sm nms c co E Cf := by
  refine ⟨h.1, fun _ hl => ?_⟩
  have k := h.2 ct hl
  rw [f.2.2.1 7 (by decide) (by decide), f.2.2.1 8 (by decide) (by decide)]
  exact k
theorem CSm.tx {s0 : Nat} (cs : CSm M q p s) (f : txE M q p O P s0 M') : CSm M' q p s := by
  obtain ⟨c1, c2, c3, c4, c5, c6⟩ := cs
  have e := f.2.2.2.1
  exact ⟨c1.tx f, by rw [e 3 (by decide)]; exact c2, by rw [e 7 (by decide)]; exact c3, by rw [e 12 (by decide)]; exact c4, by rw [e 11 (by decide)]; exact c5, c6⟩
theorem CSm.len (cs : CSm M q p s) (h : TX M z q w T A B D N C n p O P K Ab Be Cm V F ns sf ef c cnt L) : s.1.length = c ∧ s.2.1.1 = V ∧ s.2.1.2.1 = F ∧ s.2.1.2.2.1 = cnt := by
  obtain ⟨c1, c2, c3, c4, c5, c6⟩ := cs
  have y0 := c1.1
  have y1 := h.2.1.2.2.1.1
  have y2 := h.2.1.1.1
  have y3 := h.2.1.2.1.1
  have y4 := h.2.2.1.1
  refine ⟨?_, ?_, ?_, ?_⟩ <;> omega
theorem cv_eq {x y : Nat} (hy : y ≤ n) (eo : Eo W 6 x y) : vlq W (cvn W nq sm s.1 n) pl 0 0 x y = vlq W (cv9 W nq sm s.1) pl 0 0 x y := by
  refine vl_ci0 (fun k _ k2 => ?_) eo
  unfold cvn
  rw [if_pos (by omega)]
theorem x_TR_settleNamed_bad {Y : mM → Prop} {l1 : Int} (h4 : l1 = 4 ∨ l1 = 7) (h : TX M z q w T A B D N C n p O P K Ab Be Cm V F ns sf ef c cnt L) (hLe : L ≤ e) (hp : mI M p 2 = ((e + 1 : Nat) : Int)) (ha : mI M (q + 1) 2 = ((a : Nat) : Int)) (han : a ≤ n) (hLa : e + 1 ≤ a) (hd : mI M (q + 1) 5 = 0) (hF : FT M (q + 1) ft) (f0 : ft.1 ≠ 0) (es : s'.2.2 = ft) : Cv G y_TR_settleNamed (d + 6) [vr q, vi l1] M (fun M' => itE M z q w T A B D N C n p O P K Ab Be Cm M' ∧ itZ q p s' M' ∧ mI M' (q + 1) 2 = ((a : Nat) : Int) ∧ (s'.2.2.1 = 0 → Y M')) := by
  obtain ⟨t0, t1, t2, t3, t4, t5⟩ := h.1.2.1
  refine k_TR_settleNamed h.1.1.1 (i32s (by omega) (by omega)) ?_
  have f3 : mI M (q + 1) 3 ≠ 0 := by rw [hF.1]; exact f0
  refine ⟨t0, by rw [t1]; exact h.1.1.2.1.1, fun y0 => absurd (by rw [t1] at y0; exact y0) f3, fun y0 => ?_⟩
  exact ⟨⟨Ab, Be, Cm, V, F, ns, sf, ef, c, cnt, e + 1, a, h.any (fun _ => Nat.le_succ_of_le hLe), hp, ha, han, hLa, hd, trF.refl⟩, itZ.bad (by rw [es]; exact hF) (by rw [es]; exact f0), ha, fun t => absurd t (by rw [es]; exact f0)⟩
theorem x_st_named {l1 : Int} (hFx : FMx G) (h4 : l1 = 4 ∨ l1 = 7) (hl1 : l1 = W k + 1) (h0 : TX M z q w T A B D N C n p O P K Ab Be Cm V F ns sf ef c cnt L) (h : TX M1 z q w T A B D N C n p O P K Ab Be Cm V F ns sf ef c cnt L) (y60 : 60 ≤ F → mI M1 (q + 1) 3 ≠ 0) (cd : Cod M1 O P (vco l1 V) F (nco l1 ns) L e H 1) (hp : mI M1 p 2 = ((e + 1 : Nat) : Int)) (ha : mI M1 (q + 1) 2 = ((a : Nat) : Int)) (han : a ≤ n) (hLa : e + 1 ≤ a) (hd : mI M1 (q + 1) 5 = 0) (hn : mI M1 q 3 = ((nw : Nat) : Int) ∧ nw < n ∧ mI M1 A nw = 2) (h8 : mI M1 q 8 = 0 ∨ mI M1 q 8 = 1) (h21 : mI M1 (q + 21) 0 = ((L : Nat) : Int)) (zs : itZ q p s M) (wt : WTq M1 T A B D n W pl nq sm) (hw : W (k + 1) = 1 ∧ W (k + 2) = 23) (eo : Eo W 6 (k + 3) e0) (w34 : W e0 = 34) (e0n : e0 ≤ n) (hNn : n ≤ Nn) (ec : ECq M (q + 1) p n W nq sm s.1 c (if l1 = 4 then 1 else 0) E Cf) (hkd : mI M1 q 8 = kdq W E 0 (k + 3) e0) (kn : CT M (q + 1) p s.1 → s.1.length = c → knf sm pl s.1 (k + 1) f2) (hFT : FT M1 (q + 1) (fst9 (fst9 (fst9 s.2.2 (if F < 60 then (0, 0) else (5, pl k))) f2) (fl W E pl 0 (k + 3) e0))) (pL : mI M1 p 2 = ((L' + 1 : Nat) : Int)) (oL : mI M1 O L' = 0) (hc : Cd W Cf pl (mI M1 O) (mI M1 P) 0 0 0 (k + 3) e0 L L') (tx : txF M q p O P L M1) (q3 : mI M1 q 3 = ((k + 1 : Nat) : Int)) (hp0 : mI M p 2 = ((L : Nat) : Int)) (cg : s.2.2.1 = 0 → CGm M p O P W pl nq sm Nn n s g) : nxq W 34 Nn k = e0 ∧ Cv G y_TR_settleNamed (d + 6) [vr q, vi l1] M1 (fun M' => itE M1 z q w T A B D N C n p O P K Ab Be Cm M' ∧ itZ q p (sN W pl nq sm Nn k s) M' ∧ mI M' (q + 1) 2 = ((a : Nat) : Int) ∧ ((sN W pl nq sm Nn k s).2.2.1 = 0 → CGm M' p O P W pl nq sm Nn n (sN W pl nq sm Nn k s) g)) := by
  have wk : W k = 3 ∨ W k = 6 := by omega
  have ne : no34 W k e0 := (((no34.nil.sc (by omega)).sc (by rw [hw.1]; decide)).sc (by rw [hw.2]; decide)).eo eo
  have nx : nxq W 34 Nn k = e0 := nxq_34 ne w34 (by omega)
  refine ⟨nx, ?_⟩
  have eL : L' = e := by
    rw [hp] at pL
    omega
  subst eL
  have hnw : nw = k + 1 := by
    have := hn.1
    rw [q3] at this
    omega
  by_cases f0 : s.2.2.1 = 0
  · have cs := zs.2 f0
    have ct := cs.1
    obtain ⟨hl, eV, eF, eC⟩ := cs.len h0
    have F60 : F ≤ 60 := h.2.1.2.1.2
    have cs1 := cs.tx tx.2
    have ec1 := ec.fw ct tx.2
    have e9 : E = E9 sm s.1 (if W k = 3 then 1 else 0) := by
      have u := (ec.2 ct hl).1
      by_cases w3 : W k = 3
      · rw [if_pos (show l1 = 4 by omega), if_neg (by decide)] at u
        rw [if_pos w3]
        exact u
      · rw [if_neg (show ¬ l1 = 4 by omega), if_pos rfl] at u
        rw [if_neg w3]
        exact u
    have kn := kn ct hl
    rw [fst9_zr f0] at hFT
    obtain ⟨p1, p2⟩ := itc_r (W := W) (pl := pl) (nq := nq) (sm := sm) (k := k) (e := e0) (s := s) (nF := F) (f := fl W E pl 0 (k + 3) e0) (v := vlq W (cv9 W nq sm s.1) pl 0 0 (k + 3) e0) rfl (by rw [e9]) rfl eF F60 kn
    have es := sN_r (pl := pl) (nq := nq) (sm := sm) f0 wk nx
    rw [← es, ← e9] at p2
    rw [← es] at p1
    generalize sN W pl nq sm Nn k s = s' at p1 p2 ⊢
    have gvd : (fst9 (fst9 (if F < 60 then (0, 0) else (5, pl k)) f2) (fl W E pl 0 (k + 3) e0)).1 = 0 → l1 = 4 → vgd (kdq W E 0 (k + 3) e0) (vlq W (cv9 W nq sm s.1) pl 0 0 (k + 3) e0) := fun u l4 => ?_
    refine (x_TR_settleNamed (k0 := k) (e0 := e0) (s := s) (s' := s') (v := vlq W (cv9 W nq sm s.1) pl 0 0 (k + 3) e0) hFx h4 h y60 cd hp ha han hLa hd hn h8 h21 wt hnw cs1 ec1 hkd eo e0n hc oL hFT (fun u => (fst9_1.mp u).2) rfl gvd p1 (fun u l4 v1 => (p2 u).1 (by omega) v1) (fun u v0 => ?_)).mono (fun M' kk => ⟨kk.1, kk.2.1, kk.2.2.1, fun z => ?_⟩)
    rotate_left 2
    · subst l4
      have h9 : ∀ i, i < c → mI M1 (q + 1 + 9) i = 0 ∨ mI M1 (q + 1 + 9) i = 1 := fun i hi => (h.2.1.2.2.1.2.2 i hi).2.2
      have lf := lf_ex wt ec1 cs1.1 hl h9
      have g := vl_ok (pl := pl) (fun k a b => (lf k a b).1) _ 0 (k + 3) e0 (Nat.le_refl _) (Or.inl ⟨rfl, eo⟩) (fst9_1.mp u).2 (fun u => absurd u (by first | decide | simp)) 0
      rw [cv_eq e0n eo] at g
      exact g
    · by_cases w3 : W k = 3
      · have l4 : l1 = 4 := by omega
        have r := (p2 u).2 (fun _ => v0 l4)
        rw [if_pos w3, if_pos w3] at r
        rw [if_pos l4, if_pos l4]
        exact r
      · have l4 : ¬ l1 = 4 := by omega
        have r := (p2 u).2 (fun x => absurd x w3)
        rw [if_neg w3, if_neg w3] at r
        rw [if_neg l4, if_neg l4]
        exact r
    · have u : (fst9 (fst9 (if F < 60 then (0, 0) else (5, pl k)) f2) (fl W E pl 0 (k + 3) e0)).1 = 0 := Classical.byContradiction (fun u => u (by rw [← p1 u]; exact z))
      have sz := kk.2.2.2 z
      have f0' := (fst9_1.mp u).2
      have nx1 : nxq W 34 Nn (k + 1) = e0 := nxq_34 ⟨by have := eo.pr.1; omega, fun j j1 j2 => ne.2 j (by omega) j2⟩ w34 (by omega)
      have hk01 : kdq W E 0 (k + 3) e0 = 0 ∨ kdq W E 0 (k + 3) e0 = 1 := kd_01
      have hv4 : l1 = 4 → (vlq W (cv9 W nq sm s.1) pl 0 0 (k + 3) e0).1 = 0 := fun l4 => Classical.byContradiction (fun v1 => v1 (by
        have q := (p2 u).1 (by omega) v1
        rw [q] at z
        exact z))
      have res := CGm.named (k := k) (e0 := e0) (kq := kdq W E 0 (k + 3) e0) (Cf := Cf) (cg f0) hp0 tx.2 sz (by rw [cs.2.2.2.2.2.2.2, eF]) h4 eo e0n nx1 hk01 (fun l4 => ⟨gvd u l4, hv4 l4⟩) (fun l7 => by
        have n4 : ¬ l1 = 4 := by omega
        rw [if_neg (show ¬ W k = 3 by omega)] at e9
        rw [if_neg n4] at ec
        rw [e9] at f0' ⊢
        exact ⟨ec.lf ct hl (fun i hi => (h0.2.1.2.2.1.2.2 i hi).2.2), hc, oL, f0', rfl⟩)
      by_cases w3 : W k = 3
      · have l4 : l1 = 4 := by omega
        have r := (p2 u).2 (fun _ => hv4 l4)
        rw [if_pos w3, if_pos w3] at r
        rw [if_pos l4, if_pos l4] at res
        rw [r]
        exact res
      · have l4 : ¬ l1 = 4 := by omega
        have r := (p2 u).2 (fun x => absurd x w3)
        rw [if_neg w3, if_neg w3] at r
        rw [if_neg l4, if_neg l4] at res
        rw [r]
        exact res
  · rw [sN_n f0]
    rw [fst9_n f0, fst9_n f0, fst9_n f0] at hFT
    exact x_TR_settleNamed_bad h4 h cd.2.2.2.2.2 hp ha han hLa hd hFT f0 rfl
end TXX
end
