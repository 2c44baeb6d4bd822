section
/-! The class's game, exactly: states and branches as lists; a branch is put to its command. -/
section GBD
variable {M M' : mM} {g V cn k a m : Nat}
/-- state k -/
def lsm (M : mM) (g V k : Nat) : List Int := (List.range V).map (fun v => mI M (g + 1) (12 * k + v))
/-- all states -/
def Sm9 (M : mM) (g V cn : Nat) : List (List Int) := (List.range cn).map (lsm M g V)
/-- the next state -/
def nxm (M : mM) (g V : Nat) : List Int := (List.range V).map (fun v => mI M (g + 10 + 2) v)
/-- m branches from a on -/
def brl (M : mM) (g a : Nat) : Nat → List (Nat × Int)
  | 0 => []
  | m + 1 => brl M g a m ++ [((mI M (g + 8) (a + m)).toNat, mI M (g + 9) (a + m))]
theorem lsm_nx : lsm M g V k = nxm M g V ↔ mtk M g V k := by
  unfold lsm nxm mtk
  rw [List.map_inj_left]
  exact ⟨fun h v hv => h v (List.mem_range.mpr hv), fun h v hv => h v (List.mem_range.mp hv)⟩
theorem lsm_cg (h : ∀ v, v < V → mI M' (g + 1) (12 * k + v) = mI M (g + 1) (12 * k + v)) : lsm M' g V k = lsm M g V k := by
  unfold lsm
  exact List.map_congr_left (fun v hv => h v (List.mem_range.mp hv))
theorem Sm9_cg (hV : V ≤ 12) (h : ∀ j, j < 12 * cn → mI M' (g + 1) j = mI M (g + 1) j) : Sm9 M' g V cn = Sm9 M g V cn := by
  unfold Sm9
  exact List.map_congr_left (fun k hk => lsm_cg (fun v hv => h _ (by have := List.mem_range.mp hk; omega)))
theorem Sm9_len : (Sm9 M g V cn).length = cn := by
  unfold Sm9
  rw [List.length_map, List.length_range]
theorem Sm9_get (h : k < cn) : (Sm9 M g V cn)[k]? = some (lsm M g V k) := by
  unfold Sm9
  rw [List.getElem?_map, List.getElem?_range h]
  rfl
theorem Sm9_s (h1 : ∀ v, v < 12 → mI M' (g + 1) (12 * cn + v) = mI M (g + 10 + 2) v) (hV : V ≤ 12) (h2 : ∀ j, j < 12 * cn → mI M' (g + 1) j = mI M (g + 1) j) : Sm9 M' g V (cn + 1) = Sm9 M g V cn ++ [nxm M g V] := by
  have e : Sm9 M' g V (cn + 1) = Sm9 M' g V cn ++ [lsm M' g V cn] := by
    unfold Sm9
    rw [List.range_succ, List.map_append]
    rfl
  rw [e, Sm9_cg hV h2]
  congr 2
  unfold lsm nxm
  exact List.map_congr_left (fun v hv => h1 v (by have := List.mem_range.mp hv; omega))
theorem enq_k (sm : SLm M g V cn) (hk : k < cn) (mt : mtk M g V k) : enq9 (Sm9 M g V cn) (nxm M g V) = some (k, Sm9 M g V cn) := by
  have f : (Sm9 M g V cn).findIdx? (fun y => y == nxm M g V) = some k := by
    rw [List.findIdx?_eq_some_iff_getElem]
    have gt : ∀ (j : Nat) (h : j < (Sm9 M g V cn).length), (Sm9 M g V cn)[j] = lsm M g V j := fun j h => by
      have := Sm9_get (M := M) (g := g) (V := V) (k := j) (cn := cn) (by rw [Sm9_len] at h; exact h)
      rw [List.getElem?_eq_getElem h] at this
      exact Option.some.inj this
    refine ⟨by rw [Sm9_len]; exact hk, ?_, fun j hj => ?_⟩
    · rw [gt k]
      exact beq_iff_eq.mpr (lsm_nx.mpr mt)
    · rw [gt j]
      intro u
      have mj := lsm_nx.mp (beq_iff_eq.mp u)
      have := sm.2 j k (by omega) hk (fun v hv => by rw [mj v hv, mt v hv])
      omega
  unfold enq9
  rw [f]
theorem enqN9 (h : ∀ k, k < cn → ¬ mtk M g V k) : enq9 (Sm9 M g V cn) (nxm M g V) = if cn = 512 then none else some (cn, Sm9 M g V cn ++ [nxm M g V]) := by
  have f : (Sm9 M g V cn).findIdx? (fun y => y == nxm M g V) = none := by
    rw [List.findIdx?_eq_none_iff]
    intro y hy
    unfold Sm9 at hy
    obtain ⟨k, hk, e⟩ := List.mem_map.mp hy
    rw [← e]
    exact beq_eq_false_iff_ne.mpr (fun u => h k (List.mem_range.mp hk) (lsm_nx.mp u))
  unfold enq9
  rw [f]
  show (if (Sm9 M g V cn).length = 512 then none else some ((Sm9 M g V cn).length, Sm9 M g V cn ++ [nxm M g V])) = _
  rw [Sm9_len]
theorem jnq_n {to : Nat} {wt : Int} : ∀ l : List (Nat × Int), (∀ x, x ∈ l → x.1 ≠ to) → jnq9 to wt l = none
  | [], _ => rfl
  | x :: l, h => by
    show (if x.1 = to then some ((x.1, x.2 + wt) :: l) else (jnq9 to wt l).map (fun l => x :: l)) = none
    rw [if_neg (h x List.mem_cons_self), jnq_n l (fun y hy => h y (List.mem_cons_of_mem _ hy))]
    rfl
theorem jnq_s {to : Nat} {wt : Int} {y : Nat × Int} {l2 : List (Nat × Int)} (hy : y.1 = to) : ∀ l : List (Nat × Int), (∀ x, x ∈ l → x.1 ≠ to) → jnq9 to wt (l ++ y :: l2) = some (l ++ (y.1, y.2 + wt) :: l2)
  | [], _ => by
    show (if y.1 = to then some ((y.1, y.2 + wt) :: l2) else (jnq9 to wt l2).map (fun l => y :: l)) = _
    rw [if_pos hy]
    rfl
  | x :: l, h => by
    show (if x.1 = to then some ((x.1, x.2 + wt) :: (l ++ y :: l2)) else (jnq9 to wt (l ++ y :: l2)).map (fun l => x :: l)) = _
    rw [if_neg (h x List.mem_cons_self), jnq_s hy l (fun z hz => h z (List.mem_cons_of_mem _ hz))]
    rfl
theorem brl_cg : ∀ m, (∀ i, a ≤ i → i < a + m → mI M' (g + 8) i = mI M (g + 8) i ∧ mI M' (g + 9) i = mI M (g + 9) i) → brl M' g a m = brl M g a m
  | 0, _ => rfl
  | m + 1, h => by
    show brl M' g a m ++ [((mI M' (g + 8) (a + m)).toNat, mI M' (g + 9) (a + m))] = brl M g a m ++ [((mI M (g + 8) (a + m)).toNat, mI M (g + 9) (a + m))]
    rw [brl_cg m (fun i h1 h2 => h i h1 (by omega)), (h (a + m) (by omega) (by omega)).1, (h (a + m) (by omega) (by omega)).2]
theorem brl_len : ∀ m, (brl M g a m).length = m
  | 0 => rfl
  | m + 1 => by
    show (brl M g a m ++ [_]).length = m + 1
    rw [List.length_append, brl_len m]
    rfl
theorem brl_mem {x : Nat × Int} : ∀ m, x ∈ brl M g a m → ∃ i, a ≤ i ∧ i < a + m ∧ x = ((mI M (g + 8) i).toNat, mI M (g + 9) i)
  | 0, h => absurd h (by simp [brl])
  | m + 1, h => by
    rcases List.mem_append.mp h with h | h
    · obtain ⟨i, h1, h2, h3⟩ := brl_mem m h
      exact ⟨i, h1, by omega, h3⟩
    · exact ⟨a + m, by omega, by omega, List.mem_singleton.mp h⟩
theorem brl_sp {i : Nat} : ∀ m, brl M g a (i + 1 + m) = brl M g a i ++ ((mI M (g + 8) (a + i)).toNat, mI M (g + 9) (a + i)) :: brl M g (a + i + 1) m
  | 0 => rfl
  | m + 1 => by
    show brl M g a (i + 1 + m) ++ [((mI M (g + 8) (a + (i + 1 + m))).toNat, mI M (g + 9) (a + (i + 1 + m)))] = _
    rw [brl_sp m, show a + (i + 1 + m) = a + i + 1 + m by omega]
    show _ = brl M g a i ++ _ :: (brl M g (a + i + 1) m ++ [_])
    rw [List.append_assoc]
    rfl
end GBD
/-- all states are sound -/
def SoO (nms : List nm9) (S : List (List Int)) : Prop := ∀ s, s ∈ S → SgO (fun v => s.getD v 0) nms
/-- the states in memory are S -/
def gxe (M : mM) (g V cn : Nat) (S : List (List Int)) : Prop := mI M g 0 = ((cn : Nat) : Int) ∧ SLm M g V cn ∧ Sm9 M g V cn = S
section GBE
variable {G : mG} {d z g p O P K V F L cnt Ab Be C Ab0 Be0 C0 n N c cc u v k cn bc bc0 : Nat} {M0 M M' M1 : mM} {ns : Nat → Int} {sf ef : Nat → Nat} {F1 : Nat} {ns1 : Nat → Int} {sf1 ef1 : Nat → Nat} {W pl nq : Nat → Int} {sm : Nat → Nat → Prop} {nms : List nm9} {sgL : List Int} {sum9 : Int}
theorem gxe.cg {S : List (List Int)} (h : gxe M g V cn S) (hV : V ≤ 12) (e0 : mI M' g 0 = mI M g 0) (e1 : mI M' (g + 1) = mI M (g + 1)) (e20 : mI M' (g + 20) = mI M (g + 20)) : gxe M' g V cn S := by
  obtain ⟨h1, h2, h3⟩ := h
  refine ⟨by rw [e0]; exact h1, ?_, by rw [Sm9_cg (M := M) (M' := M') hV (fun j _ => by rw [e1])]; exact h3⟩
  unfold SLm at h2 ⊢
  rw [e1, e20]
  exact h2
/-- what following a branch comes to; fq what the pure following is: of the rest, the states and the branches -/
def foX (fq : List (br9 × (Int × Int)) → List (List Int) → List (Nat × Int) → (Int × Int) × List (List Int) × List (Nat × Int)) (x : br9 × (Int × Int)) (S : List (List Int)) (B : List (Nat × Int)) (g V F : Nat) (ns W pl nq : Nat → Int) (sm : Nat → Nat → Prop) (N : Nat) (nms : List nm9) (k : Nat) (sgL : List Int) (bc0 : Nat) (r : Int) (M' : mM) : Prop := (r ≠ 0 ∧ ∀ rest, (fq (x :: rest) S B).1 = (r, mI M' g 10)) ∨ (r = 0 ∧ ∃ (S' : List (List Int)) (B' : List (Nat × Int)) (cn' bc' : Nat), (∀ rest, fq (x :: rest) S B = fq rest S' B') ∧ SoO nms S' ∧ gxe M' g V cn' S' ∧ mI M' g 13 = ((bc' : Nat) : Int) ∧ brl M' g bc0 (bc' - bc0) = B' ∧ gst9 M' g V F ns W pl nq sm N nms k (fun v => sgL.getD v 0))
theorem x_fo69 {sh to : Int} {tn : Nat} {fq : List (br9 × (Int × Int)) → List (List Int) → List (Nat × Int) → (Int × Int) × List (List Int) × List (Nat × Int)} {x : br9 × (Int × Int)} {S S2 : List (List Int)} {B : List (Nat × Int)} (cx : gcx M0 g p O P L V F Ab0 Be0 ns sf ef W pl nq sm N n nms) (st : gst9 M g V F ns W pl nq sm N nms k (fun v => sgL.getD v 0)) (so : SoO nms S2) (ge : gxe M g V cn S2) (hB : B = brl M g bc0 (bc - bc0)) (etn : to = ((tn : Nat) : Int)) (hfq : ∀ rest, fq (x :: rest) S B = match jnq9 tn sh B with | some B' => fq rest S2 B' | none => if bc0 + B.length = 4096 then ((5, mI M0 (p + 10) c), S2, B) else fq rest S2 (B ++ [(tn, sh)])) (hb1 : mI M1 g 13 = ((bc : Nat) : Int)) (hx : GX M0 z g p O P K V F1 ns1 sf1 ef1 L cnt Ab0 Be0 C0 M Ab Be C) (hf : flF M1 g p bc0 M) (hc : c < cnt) (hcn5 : cn ≤ 512) (hbc : mI M g 13 = ((bc : Nat) : Int)) (hip : ipG M g cn bc0 bc sum9) (hsh : 1 ≤ sh) (hsm : sum9 + sh < 1000000000) (hto : 0 ≤ to ∧ to < cn) (hcc : v ≤ cn) : ∀ (t i : Nat), bc ≤ i + t → bc0 ≤ i → i ≤ bc → (∀ j, bc0 ≤ j → j < i → mI M (g + 8) j ≠ to) → h_Ga_follow_69 G d g c sh to i M (fun r M' => foQ M0 z g p O P K V F1 ns1 sf1 ef1 L cnt Ab0 Be0 C0 M1 bc0 v (sum9 + sh) r M' ∧ foX fq x S B g V F ns W pl nq sm N nms k sgL bc0 r M') := by
  have hcn := ge.1
  have hsl : SLt M g cn := fun i hi => (ge.2.1.1.1 i hi).imp id (fun ⟨k, k1, k2⟩ => ⟨by omega, by omega⟩)
  obtain ⟨h1, h2, h3, h4, h5, -⟩ := id hx
  obtain ⟨g0, ⟨-, -, -, -, -, -, -, g8, g9, -⟩, ⟨-, -, -, -, -, -, -, k8, k9, -⟩, ⟨-, -, -, -, -, -, -, n8, n9, -⟩⟩ := h2
  have p14 := h4.1.2.2.2.2.2.2.1.2.2.2.2.2.2.2.1
  have kp14 := h4.1.2.2.2.2.2.2.2.1.2.2.2.2.2.2.2.1
  have np14 := h4.1.2.2.2.2.2.2.2.2.2.2.2.2.2.2.2.1
  have c60 := h4.2.2.2.2.1.2
  have V12 := h4.2.2.1.2
  have ep := gx_p hx
  obtain ⟨ip1, ip2, ip3, ip4⟩ := hip
  have off := ga_off hx
  have wpos : ∀ i, bc0 ≤ i → i < bc0 + (bc - bc0) → 1 ≤ mI M (g + 9) i := fun i a b => (ip3 i a (by omega)).2.2
  have smb := wsm_ge wpos (bc - bc0) (Nat.le_refl _)
  rw [ip4] at smb
  have lB : B.length = bc - bc0 := by rw [hB, brl_len]
  have jn : (∀ j, bc0 ≤ j → j < bc → mI M (g + 8) j ≠ to) → jnq9 tn sh B = none := fun hh => jnq_n B (fun y hy => by
    rw [hB] at hy
    obtain ⟨i, i1, i2, i3⟩ := brl_mem _ hy
    rw [i3]
    have a := hh i i1 (by omega)
    have b := (ip3 i i1 (by omega)).1
    show (mI M (g + 8) i).toNat ≠ tn
    omega)
  -- no branch has that goal yet
  have new : (∀ j, bc0 ≤ j → j < bc → mI M (g + 8) j ≠ to) → mK M g = 7 ∧ (((mI M g 13 = 4096) → (mK M (mR M g 14) = 6 ∧ mK M (mR M (mR M g 14) 14) = 30 ∧ ((0 : Int) ≤ c ∧ (c : Int) < (mN M (mR M (mR M g 14) 14) : Int)) ∧ Ci G y_Ga_fault d [vr g, vi 5, vi (mI M (mR M (mR M g 14) 14) (Int.toNat c))] M (fun x62 M61 => i32 x62 ∧ mOk M61 ∧ (foQ M0 z g p O P K V F1 ns1 sf1 ef1 L cnt Ab0 Be0 C0 M1 bc0 v (sum9 + sh) x62 M61 ∧ foX fq x S B g V F ns W pl nq sm N nms k sgL bc0 x62 M61)))) ∧ (¬ (mI M g 13 = 4096) → (mK M (mR M g 8) = 30 ∧ ((0 : Int) ≤ mI M g 13 ∧ mI M g 13 < (mN M (mR M g 8) : Int)) ∧ ∀ M66, M66 = mUI M (mR M g 8) (Int.toNat (mI M g 13)) to → mK M66 (mR M66 g 9) = 30 ∧ ((0 : Int) ≤ mI M66 g 13 ∧ mI M66 g 13 < (mN M66 (mR M66 g 9) : Int)) ∧ ∀ M70, M70 = mUI M66 (mR M66 g 9) (Int.toNat (mI M66 g 13)) sh → i32 ((mI M70 g 13) + 1) ∧ ∀ M73, M73 = mUI M70 g 13 ((mI M70 g 13) + 1) → foQ M0 z g p O P K V F1 ns1 sf1 ef1 L cnt Ab0 Be0 C0 M1 bc0 v (sum9 + sh) 0 M73 ∧ foX fq x S B g V F ns W pl nq sm N nms k sgL bc0 0 M73))) := fun hno => by
    have jn0 := jn hno
    refine ⟨g0, fun y => ?_, fun y => ?_⟩
    · rw [h5.1, p14, np14, Int.toNat_natCast]
      refine ⟨h4.1.1, kp14, by omega, (x_Ga_fault ⟨by decide, by decide⟩ (h1 _ _).1 h1 g0).mono (fun r M' q => ?_)⟩
      obtain ⟨e, ⟨q1, q2, q3⟩, q4⟩ := q
      rw [e]
      have nb : ∀ x, x ≠ g → mI M' x = mI M x := fun x hx => q2.2.2.2.2.2.2 x hx
      refine ⟨⟨by decide, by decide⟩, q1, ⟨⟨by decide, by decide⟩, hf.trans ⟨fun i _ i10 _ => q3 i i10, fun i i2 _ => nb _ (by omega), ⟨nb _ (by omega), nb _ (by omega)⟩, by rw [nb _ (by omega)], fun i hi => nb _ (by have := off i 0 hi (by omega); omega), fun i _ => ⟨by rw [nb _ (by omega)], by rw [nb _ (by omega)]⟩⟩, ⟨Ab, Be, C, hx.fi q1 (q2.mono (fun x y => Or.inl (by have y' : x = g := y; omega)))⟩, cn, bc, ⟨by rw [q3 0 (by decide)]; exact hcn, hcc, hcn5, fun i hi => by rw [nb _ (by omega)]; exact hsl i hi⟩, by rw [q3 13 (by decide)]; exact hbc, ip1, ⟨ip2, by omega⟩, fun u => absurd u (by decide)⟩, Or.inl ⟨by decide, fun rest => ?_⟩⟩
      rw [hfq rest, jn0]
      show (if bc0 + B.length = 4096 then ((5, mI M0 (p + 10) c), S2, B) else fq rest S2 (B ++ [(tn, sh)])).1 = _
      rw [if_pos (by rw [lB]; omega), q4, ep 10 (by omega)]
    · rw [g8, n8, hbc, Int.toNat_natCast]
      refine ⟨k8, by omega, fun M66 e66 => ?_⟩
      have f66 : FI (fun x => x = g + 8) M M66 := by rw [e66]; exact FI.ui rfl
      rw [f66.1, f66.2.1, f66.2.2.1, g9, n9, f66.2.2.2.2.2.2 g (show ¬ g = g + 8 by omega), hbc, Int.toNat_natCast]
      refine ⟨k9, by omega, fun M70 e70 => ?_⟩
      have f70 : FI (fun x => x = g + 9) M66 M70 := by rw [e70]; exact FI.ui rfl
      rw [f70.2.2.2.2.2.2 g (show ¬ g = g + 9 by omega), f66.2.2.2.2.2.2 g (show ¬ g = g + 8 by omega), hbc]
      refine ⟨⟨by omega, by omega⟩, fun M73 e73 => ?_⟩
      have f73 : FI (fun x => x = g) M70 M73 := by rw [e73]; exact FI.ui rfl
      have ff : FI (fun x => x = g ∨ x = g + 8 ∨ x = g + 9) M M73 := ((f66.mono (fun _ y => Or.inr (Or.inl y))).trans (f70.mono (fun _ y => Or.inr (Or.inr y)))).trans (f73.mono (fun _ y => Or.inl y))
      have o73 : mOk M73 := by rw [e73]; exact mOk_UI (by rw [e70]; exact mOk_UI (by rw [e66]; exact mOk_UI h1 ⟨by omega, by omega⟩) ⟨by omega, by omega⟩) ⟨by omega, by omega⟩
      have nb : ∀ x, x ≠ g → x ≠ g + 8 → x ≠ g + 9 → mI M73 x = mI M x := fun x a b c => ff.2.2.2.2.2.2 x (fun y => y.elim a (fun y => y.elim b c))
      have i73 : ∀ i, mI M73 g i = if i = 13 then (bc : Int) + 1 else mI M g i := fun i => by
        rw [mI_ui g i e73]
        by_cases y : i = 13
        · rw [if_pos ⟨rfl, y⟩, if_pos y]
        · rw [if_neg (fun t => y t.2), if_neg y, f70.2.2.2.2.2.2 g (show ¬ g = g + 9 by omega), f66.2.2.2.2.2.2 g (show ¬ g = g + 8 by omega)]
      have w73 : ∀ i, mI M73 (g + 9) i = if i = bc then sh else mI M (g + 9) i := fun i => by
        rw [f73.2.2.2.2.2.2 _ (show ¬ g + 9 = g by omega), mI_ui _ i e70]
        by_cases y : i = bc
        · rw [if_pos ⟨rfl, y⟩, if_pos y]
        · rw [if_neg (fun t => y t.2), if_neg y, f66.2.2.2.2.2.2 _ (show ¬ g + 9 = g + 8 by omega)]
      have v73 : ∀ i, mI M73 (g + 8) i = if i = bc then to else mI M (g + 8) i := fun i => by
        rw [f73.2.2.2.2.2.2 _ (show ¬ g + 8 = g by omega), f70.2.2.2.2.2.2 _ (show ¬ g + 8 = g + 9 by omega), mI_ui _ i e66]
        by_cases y : i = bc
        · rw [if_pos ⟨rfl, y⟩, if_pos y]
        · rw [if_neg (fun t => y t.2), if_neg y]
      have i13 : mI M73 g 13 = ((bc + 1 : Nat) : Int) := by rw [i73, if_pos rfl]; omega
      refine ⟨⟨⟨by decide, by decide⟩, hf.trans ⟨fun i _ _ i13 => by rw [i73, if_neg i13], fun i i2 i7 => nb _ (by omega) (by omega) (by omega), ⟨nb _ (by omega) (by omega) (by omega), nb _ (by omega) (by omega) (by omega)⟩, by rw [nb _ (by omega) (by omega) (by omega)], fun i hi => nb _ (off i 0 hi (by omega)) (off i 8 hi (by omega)) (off i 9 hi (by omega)), fun i hi => ⟨by rw [v73, if_neg (by omega)], by rw [w73, if_neg (by omega)]⟩⟩, ⟨Ab, Be, C, hx.fi o73 (ff.mono (fun x y => Or.inl (by have y' : x = g ∨ x = g + 8 ∨ x = g + 9 := y; omega)))⟩, cn, bc + 1, ⟨by rw [i73, if_neg (by decide)]; exact hcn, hcc, hcn5, fun i hi => by rw [nb _ (by omega) (by omega) (by omega)]; exact hsl i hi⟩, i13, by omega, ⟨by omega, by omega⟩, fun _ => ⟨by omega, by omega, fun i a b => ?_, ?_⟩⟩, Or.inr ⟨rfl, S2, B ++ [(tn, sh)], cn, bc + 1, fun rest => ?_, so, ge.cg V12 (by rw [i73, if_neg (by decide)]) (nb _ (by omega) (by omega) (by omega)) (nb _ (by omega) (by omega) (by omega)), i13, ?_, st.cg (fun i _ => by rw [nb _ (by omega) (by omega) (by omega)]) (fun v _ => by rw [nb _ (by omega) (by omega) (by omega)]) (nb _ (by omega) (by omega) (by omega)) (nb _ (by omega) (by omega) (by omega)) (nb _ (by omega) (by omega) (by omega))⟩⟩
      · rw [v73, w73]
        by_cases y : i = bc
        · rw [if_pos y, if_pos y]
          exact ⟨hto.1, hto.2, hsh⟩
        · rw [if_neg y, if_neg y]
          exact ip3 i a (by omega)
      · rw [show bc + 1 - bc0 = (bc - bc0) + 1 by omega]
        show wsm M73 g bc0 (bc - bc0) + mI M73 (g + 9) (bc0 + (bc - bc0)) = sum9 + sh
        rw [wsm_cg (M := M) (bc - bc0) (fun i a b => by rw [w73, if_neg (by omega)]), ip4, w73, if_pos (by omega)]
      · rw [hfq rest, jn0]
        show (if bc0 + B.length = 4096 then ((5, mI M0 (p + 10) c), S2, B) else fq rest S2 (B ++ [(tn, sh)])) = _
        rw [if_neg (by rw [lB]; omega)]
      · rw [show bc + 1 - bc0 = (bc - bc0) + 1 by omega]
        show brl M73 g bc0 (bc - bc0) ++ [((mI M73 (g + 8) (bc0 + (bc - bc0))).toNat, mI M73 (g + 9) (bc0 + (bc - bc0)))] = _
        rw [brl_cg (M := M) (bc - bc0) (fun i a b => by rw [v73, w73, if_neg (by omega), if_neg (by omega)]; exact ⟨rfl, rfl⟩), v73, w73, if_pos (by omega), if_pos (by omega), ← hB, etn, Int.toNat_natCast]
  intro t
  induction t with
  | zero =>
    intro i hi hi0 hi2 hno
    refine k_Ga_follow_69 h1 (i32s (by omega) (by omega)) ⟨by omega, by omega⟩ ⟨by omega, by omega⟩ (i32s (by omega) (by omega)) ⟨g0, fun _ => (new (fun j a b => hno j a (by omega))).2, fun y => absurd y (by omega)⟩
  | succ t ih =>
    intro i hi hi0 hi2 hno
    refine k_Ga_follow_69 h1 (i32s (by omega) (by omega)) ⟨by omega, by omega⟩ ⟨by omega, by omega⟩ (i32s (by omega) (by omega)) ⟨g0, fun y => (new (fun j a b => hno j a (by omega))).2, fun y => ?_⟩
    have ib : i < bc := by omega
    rw [g8, n8, g9, n9, Int.toNat_natCast]
    have wl := wsm_le wpos (bc - bc0) (Nat.le_refl _) i hi0 (by omega)
    have w1 := (ip3 i hi0 ib).2.2
    rw [ip4] at wl
    refine ⟨k8, by omega, fun y1 => ⟨k9, by omega, by omega, ⟨by omega, by omega⟩, fun M87 e87 => ?_⟩, fun y1 => ?_⟩
    · have f87 : FI (fun x => x = g + 9) M M87 := by rw [e87]; exact FI.ui rfl
      have nb : ∀ x, x ≠ g + 9 → mI M87 x = mI M x := fun x hx => f87.2.2.2.2.2.2 x hx
      have o87 : mOk M87 := by rw [e87]; exact mOk_UI h1 ⟨by omega, by omega⟩
      have w87 : ∀ j, mI M87 (g + 9) j = if j = i then mI M (g + 9) i + sh else mI M (g + 9) j := fun j => by
        rw [mI_ui _ j e87]
        by_cases y : j = i
        · rw [if_pos ⟨rfl, y⟩, if_pos y]
        · rw [if_neg (fun t => y t.2), if_neg y]
      have sp : B = brl M g bc0 (i - bc0) ++ ((mI M (g + 8) i).toNat, mI M (g + 9) i) :: brl M g (i + 1) (bc - (i + 1)) := by
        rw [hB, show bc - bc0 = (i - bc0) + 1 + (bc - (i + 1)) by omega, brl_sp, show bc0 + (i - bc0) = i by omega]
      have js : jnq9 tn sh B = some (brl M g bc0 (i - bc0) ++ ((mI M (g + 8) i).toNat, mI M (g + 9) i + sh) :: brl M g (i + 1) (bc - (i + 1))) := by
        rw [sp]
        refine jnq_s (by show (mI M (g + 8) i).toNat = tn; omega) _ (fun q hq => ?_)
        obtain ⟨j, j1, j2, j3⟩ := brl_mem _ hq
        rw [j3]
        have a := hno j j1 (by omega)
        have b := (ip3 j j1 (by omega)).1
        show (mI M (g + 8) j).toNat ≠ tn
        omega
      refine ⟨⟨⟨by decide, by decide⟩, hf.trans ⟨fun i _ _ _ => by rw [nb g (by omega)], fun i i2 i7 => nb _ (by omega), ⟨nb _ (by omega), nb _ (by omega)⟩, by rw [nb _ (by omega)], fun i hi => nb _ (off i 9 hi (by omega)), fun j hj => ⟨by rw [nb _ (by omega)], by rw [w87, if_neg (by omega)]⟩⟩, ⟨Ab, Be, C, hx.fi o87 (f87.mono (fun x y => Or.inl (by have y' : x = g + 9 := y; omega)))⟩, cn, bc, ⟨by rw [nb g (by omega)]; exact hcn, hcc, hcn5, fun j hj => by rw [nb _ (by omega)]; exact hsl j hj⟩, by rw [nb g (by omega)]; exact hbc, ip1, ⟨ip2, by omega⟩, fun _ => ⟨ip1, ip2, fun j a b => ?_, ?_⟩⟩, Or.inr ⟨rfl, S2, brl M g bc0 (i - bc0) ++ ((mI M (g + 8) i).toNat, mI M (g + 9) i + sh) :: brl M g (i + 1) (bc - (i + 1)), cn, bc, fun rest => ?_, so, ge.cg V12 (by rw [nb g (by omega)]) (nb _ (by omega)) (nb _ (by omega)), by rw [nb g (by omega)]; exact hbc, ?_, st.cg (fun i _ => by rw [nb _ (by omega)]) (fun v _ => by rw [nb _ (by omega)]) (nb _ (by omega)) (nb _ (by omega)) (nb _ (by omega))⟩⟩
      · rw [nb (g + 8) (by omega), w87]
        obtain ⟨c1, c2, c3⟩ := ip3 j a b
        refine ⟨c1, c2, ?_⟩
        by_cases y : j = i
        · rw [if_pos y]; omega
        · rw [if_neg y]; exact c3
      · rw [wsm_add w87 hi0, if_pos (by omega), ip4]
      · rw [hfq rest, js]
      · rw [show bc - bc0 = (i - bc0) + 1 + (bc - (i + 1)) by omega, brl_sp, show bc0 + (i - bc0) = i by omega, brl_cg (M := M) (i - bc0) (fun j a b => by rw [nb (g + 8) (by omega), w87, if_neg (by omega)]; exact ⟨rfl, rfl⟩), brl_cg (M := M) (bc - (i + 1)) (fun j a b => by rw [nb (g + 8) (by omega), w87, if_neg (by omega)]; exact ⟨rfl, rfl⟩), w87, if_pos rfl, nb (g + 8) (by omega)]
    · rw [show ((i : Int) + 1) = ((i + 1 : Nat) : Int) by omega]
      refine ih (i + 1) (by omega) (by omega) (by omega) (fun j a b => ?_)
      by_cases yj : j = i
      · rw [yj]; exact y1
      · exact hno j a (by omega)
end GBE
end
section
/-! The class's game, exactly: follow, the whole. -/
section GBF
variable {stp : List Int → List (Nat × Nat × Nat × Nat) → (Int × Int) × List Int} {sg : List Int} {pc m : Int} {nb : Nat} {x : br9 × (Int × Int)} {r : List (br9 × (Int × Int))} {S S2 : List (List Int)} {B : List (Nat × Int)}
theorem flq_0 (h : x.2.1 = 0) : flq9 stp sg pc m nb (x :: r) S B = flq9 stp sg pc m nb r S B := if_pos h
theorem flq_f (h : x.2.1 ≠ 0) (h1 : (stp sg x.1.2.2).1.1 ≠ 0) : flq9 stp sg pc m nb (x :: r) S B = ((stp sg x.1.2.2).1, S, B) := (if_neg h).trans (if_pos h1)
theorem flq_n (h : x.2.1 ≠ 0) (h1 : (stp sg x.1.2.2).1.1 = 0) (h2 : enq9 S (stp sg x.1.2.2).2 = none) : flq9 stp sg pc m nb (x :: r) S B = ((5, x.1.1), S, B) := by
  refine (if_neg h).trans ((if_neg (fun u => u h1)).trans ?_)
  rw [h2]
theorem flq_e {to : Nat} (h : x.2.1 ≠ 0) (h1 : (stp sg x.1.2.2).1.1 = 0) (h2 : enq9 S (stp sg x.1.2.2).2 = some (to, S2)) : flq9 stp sg pc m nb (x :: r) S B = match jnq9 to (m / x.2.2 * x.2.1) B with | some B' => flq9 stp sg pc m nb r S2 B' | none => if nb + B.length = 4096 then ((5, pc), S2, B) else flq9 stp sg pc m nb r S2 (B ++ [(to, m / x.2.2 * x.2.1)]) := by
  refine (if_neg h).trans ((if_neg (fun u => u h1)).trans ?_)
  rw [h2]
  rfl
theorem getD_map {V v : Nat} {f : Nat → Int} (h : v < V) : ((List.range V).map f).getD v 0 = f v := by
  rw [List.getD_eq_getElem?_getD, List.getElem?_map, List.getElem?_range h]
  rfl
variable {w pl lo hi : Nat → Int} {cv : Nat → vrs} {V : Nat}
theorem stq_nx : ∀ (l : List (Nat × Nat × Nat × Nat)) (nx nx' : Nat → Int), (∀ v, v < V → nx v = nx' v) → (stq9 w cv pl lo hi l nx).1 = (stq9 w cv pl lo hi l nx').1 ∧ ∀ v, v < V → (stq9 w cv pl lo hi l nx).2 v = (stq9 w cv pl lo hi l nx').2 v
  | [], nx, nx', h => ⟨rfl, h⟩
  | q :: l, nx, nx', h => by
    rw [stq9, stq9]
    by_cases c1 : (vlq w cv pl 0 0 q.2.1 q.2.2.1).1 ≠ 0
    · rw [if_pos c1, if_pos c1]
      exact ⟨rfl, h⟩
    · rw [if_neg c1, if_neg c1]
      by_cases c2 : (stfq (vlq w cv pl 0 0 q.2.1 q.2.2.1).2.1 (vlq w cv pl 0 0 q.2.1 q.2.2.1).2.2 (lo q.1) (hi q.1) (pl q.2.2.2)).1 ≠ 0
      · rw [if_pos c2, if_pos c2]
        exact ⟨rfl, h⟩
      · rw [if_neg c2, if_neg c2]
        refine stq_nx l _ _ (fun v hv => ?_)
        show (if v = q.1 then _ else nx v) = (if v = q.1 then _ else nx' v)
        rw [h v hv]
/-- sets keep the ranges -/
theorem stq_in : ∀ (l : List (Nat × Nat × Nat × Nat)) (nx : Nat → Int), (stq9 w cv pl lo hi l nx).1.1 = 0 → ∀ v, (stq9 w cv pl lo hi l nx).2 v = nx v ∨ (lo v ≤ (stq9 w cv pl lo hi l nx).2 v ∧ (stq9 w cv pl lo hi l nx).2 v ≤ hi v)
  | [], nx, _, v => Or.inl rfl
  | q :: l, nx, h, v => by
    rw [stq9] at h ⊢
    by_cases c1 : (vlq w cv pl 0 0 q.2.1 q.2.2.1).1 ≠ 0
    · rw [if_pos c1] at h
      exact absurd h c1
    · rw [if_neg c1] at h ⊢
      by_cases c2 : (stfq (vlq w cv pl 0 0 q.2.1 q.2.2.1).2.1 (vlq w cv pl 0 0 q.2.1 q.2.2.1).2.2 (lo q.1) (hi q.1) (pl q.2.2.2)).1 ≠ 0
      · rw [if_pos c2] at h
        exact absurd h c2
      · rw [if_neg c2] at h ⊢
        rcases stq_in l _ h v with y | y
        · rw [y]
          by_cases e : v = q.1
          · rw [if_pos e]
            right
            unfold stfq at c2
            by_cases d1 : (vlq w cv pl 0 0 q.2.1 q.2.2.1).2.2 ≠ 1
            · rw [if_pos d1] at c2
              exact absurd (show (8 : Int) ≠ 0 by decide) c2
            · rw [if_neg d1] at c2
              by_cases d2 : (vlq w cv pl 0 0 q.2.1 q.2.2.1).2.1 < lo q.1 ∨ hi q.1 < (vlq w cv pl 0 0 q.2.1 q.2.2.1).2.1
              · rw [if_pos d2] at c2
                exact absurd (show (12 : Int) ≠ 0 by decide) c2
              · rw [e]
                omega
          · rw [if_neg e]
            exact Or.inl rfl
        · exact Or.inr y
end GBF
section GBG
variable {W pl nq lo hi : Nat → Int} {sm : Nat → Nat → Prop} {N V : Nat} {nms : List nm9} {sg : List Int}
theorem stp_ok (hv : vcn nms = V) (vo : VrO nms lo hi) (so : SgO (fun v => sg.getD v 0) nms) {l : List (Nat × Nat × Nat × Nat)} (h : (stpq W pl nq sm N nms V lo hi sg l).1.1 = 0) : SgO (fun v => (stpq W pl nq sm N nms V lo hi sg l).2.getD v 0) nms := by
  intro l1 e l2 he h3
  have e9 : vcn (e :: l2) = vcn l2 + 1 := by
    show vcn l2 + (if e.2.1 = 3 then 1 else 0) = _
    rw [if_pos h3]
  have vl : vcn l1 < V := by
    rw [← hv, he, vcn_app, e9]
    omega
  obtain ⟨⟨v1, v2⟩, v3⟩ := vo l1 e l2 he h3
  obtain ⟨s1, s2⟩ := so l1 e l2 he h3
  have hin := stq_in l _ h (vcn l1)
  have eq9 : (stpq W pl nq sm N nms V lo hi sg l).2.getD (vcn l1) 0 = _ := getD_map vl
  show ((stpq W pl nq sm N nms V lo hi sg l).2.getD (vcn l1) 0).natAbs ≤ 999999999 ∧ (e.2.2.1 = 1 → (stpq W pl nq sm N nms V lo hi sg l).2.getD (vcn l1) 0 = 0 ∨ (stpq W pl nq sm N nms V lo hi sg l).2.getD (vcn l1) 0 = 1)
  rw [eq9]
  rcases hin with y | y
  · rw [y]
    exact ⟨s1, s2⟩
  · refine ⟨by omega, fun u => ?_⟩
    obtain ⟨w1, w2⟩ := v3 u
    rw [w1, w2] at y
    omega
end GBG
section GBH
variable {G : mG} {d z g p O P K V F L cnt Ab Be C Ab0 Be0 C0 n N c cc u v k cn bc bc0 br : Nat} {M0 M M' M1 : mM} {ns : Nat → Int} {sf ef : Nat → Nat} {F1 : Nat} {ns1 : Nat → Int} {sf1 ef1 : Nat → Nat} {W pl nq : Nat → Int} {sm : Nat → Nat → Prop} {nms : List nm9} {sgL : List Int} {sum9 m : Int} {x : br9 × (Int × Int)} {S : List (List Int)} {B : List (Nat × Int)}
theorem x_Ga_follow (hF : FMx G) (cx : gcx M0 g p O P L V F Ab0 Be0 ns sf ef W pl nq sm N n nms) (vo : VrO nms (mI M0 (p + 3)) (mI M0 (p + 4))) (hx : GX M0 z g p O P K V F1 ns1 sf1 ef1 L cnt Ab0 Be0 C0 M Ab Be C) (st : gst9 M g V F ns W pl nq sm N nms k (fun v => sgL.getD v 0)) (hk : k < cn) (so : SoO nms S) (ge : gxe M g V cn S) (hB : B = brl M g bc0 (bc - bc0)) (hc : c < cnt) (hcn5 : cn ≤ 512) (hbc : mI M g 13 = ((bc : Nat) : Int)) (hip : ipG M g cn bc0 bc sum9) (hx0 : x.2.1 ≠ 0) {sh : Int} (esh : sh = m / x.2.2 * x.2.1) (hsh : 1 ≤ sh) (hsm : sum9 + sh < 1000000000) (hcc : mI M g 12 = ((cc : Nat) : Int)) (hcc2 : cc ≤ 4096) (h7 : mI M (g + 7) cc = ((bc0 : Nat) : Int)) (hbr : br < 480) (hpl : mI M0 (p + 13) br = x.1.1) (hs : ∃ s2 : Nat, mI M0 (p + 15) br = ((s2 : Nat) : Int) ∧ SeC M0 O P L V W pl nq sm n ns ef nms x.1.2.2 s2) : Ci G y_Ga_follow (d + 5) [vr g, vi c, vi br, vi sh] M (fun r M' => foQ M0 z g p O P K V F1 ns1 sf1 ef1 L cnt Ab0 Be0 C0 M bc0 cn (sum9 + sh) r M' ∧ foX (flq9 (stpq W pl nq sm N nms V (mI M0 (p + 3)) (mI M0 (p + 4))) sgL (mI M0 (p + 10) c) m bc0) x S B g V F ns W pl nq sm N nms k sgL bc0 r M') := by
  have hcn := ge.1
  have hsl : SLt M g cn := fun i hi => (ge.2.1.1.1 i hi).imp id (fun ⟨k, k1, k2⟩ => ⟨by omega, by omega⟩)
  obtain ⟨h1, h2, h3, h4, h5, -⟩ := id hx
  obtain ⟨g0, ⟨-, -, -, -, -, -, -, -, -, g15, -⟩, -, -⟩ := id h2
  have c60 := h4.2.2.2.2.1.2
  have V12 := h4.2.2.1.2
  have off := ga_off hx
  obtain ⟨ip1, ip2, ip3, ip4⟩ := id hip
  have smb := wsm_ge (M := M) (g := g) (x := bc0) (n := bc - bc0) (fun i a b => (ip3 i a (by omega)).2.2) (bc - bc0) (Nat.le_refl _)
  rw [ip4] at smb
  refine k_Ga_follow h1 (i32s (by omega) (by omega)) (i32s (by omega) (by omega)) ⟨by omega, by omega⟩ ?_
  rw [g15]
  refine ⟨g0, h3.1, ?_⟩
  refine k_Ma_beginSets h1 ?_
  rw [h3.2.1.1, h3.2.1.2.1]
  have hbs := h3.2.2.2.2.1
  have nm := h3.2.2.2.1.1
  refine ⟨h3.1, h3.2.2.1.1, h3.2.2.1.2.1, ⟨hbs.1, by omega, by omega, hbs.2, by rw [nm]; omega⟩, fun M3 e3 => ?_⟩
  have f3 : FI (fun x => x = g + 12) M M3 := by
    rw [e3]
    refine ⟨rfl, rfl, rfl, rfl, rfl, rfl, fun x hx => ?_⟩
    funext j
    exact if_neg (fun t => hx t.1)
  have o3 : mOk M3 := by rw [e3]; exact mOk_Cpy h1
  have x3 := hx.fi o3 (f3.mono (fun x y => Or.inr (Or.inl y)))
  have nb3 : ∀ x, x ≠ g + 12 → mI M3 x = mI M x := fun x hx => f3.2.2.2.2.2.2 x hx
  have n3 : ∀ v, v < V → mI M3 (g + 12) v = sgL.getD v 0 := fun v hv => by
    rw [e3]
    show (if g + 12 = g + 12 ∧ Int.toNat 0 ≤ v ∧ v < Int.toNat 0 + 12 then mI M (g + 1) (Int.toNat (mI M (g + 10) 4) + (v - Int.toNat 0)) else mI M (g + 12) v) = _
    rw [if_pos ⟨rfl, Nat.zero_le _, by show v < 0 + 12; omega⟩, st.1, Int.toNat_natCast]
    exact st.2.1 v hv
  have fl3 : flF M g p bc0 M3 := ⟨fun i _ _ _ => by rw [nb3 g (by omega)], fun i _ _ => nb3 _ (by omega), ⟨nb3 _ (by omega), nb3 _ (by omega)⟩, by rw [nb3 _ (by omega)], fun i hi => nb3 _ (off i 12 hi (by omega)), fun i _ => ⟨by rw [nb3 _ (by omega)], by rw [nb3 _ (by omega)]⟩⟩
  obtain ⟨s2, sb1, sb2⟩ := hs
  have st3 : gst9 M3 g V F ns W pl nq sm N nms k (fun v => sgL.getD v 0) := st.cg (fun i _ => by rw [nb3 _ (by omega)]) (fun v _ => by rw [nb3 _ (by omega)]) (nb3 _ (by omega)) (nb3 _ (by omega)) (nb3 _ (by omega))
  have ge3 : gxe M3 g V cn S := ge.cg V12 (by rw [nb3 g (by omega)]) (nb3 _ (by omega)) (nb3 _ (by omega))
  have cn3 : mI M3 g 0 = ((cn : Nat) : Int) := ge3.1
  have bc3 : mI M3 g 13 = ((bc : Nat) : Int) := by rw [nb3 g (by omega)]; exact hbc
  have cc3 : mI M3 g 12 = ((cc : Nat) : Int) := by rw [nb3 g (by omega)]; exact hcc
  have sl3 : SLt M3 g cn := fun i hi => by rw [nb3 _ (by omega)]; exact hsl i hi
  have ip3' : ipG M3 g cn bc0 bc sum9 := ⟨ip1, ip2, fun i a b => by rw [nb3 _ (by omega), nb3 _ (by omega)]; exact ip3 i a b, by rw [wsm_cg (M := M) _ (fun i _ _ => by rw [nb3 _ (by omega)])]; exact ip4⟩
  obtain ⟨-, k2, k3, k4, k5, -⟩ := id x3
  obtain ⟨j0, ⟨-, -, -, -, -, -, -, -, -, j15, -⟩, -, -⟩ := id k2
  have p19 := k4.1.2.2.2.2.2.2.1.2.2.2.2.2.2.2.2.2.2.2.2
  have kp19 := k4.1.2.2.2.2.2.2.2.1.2.2.2.2.2.2.2.2.2.2.2.2
  have np19 := k4.1.2.2.2.2.2.2.2.2.2.2.2.2.2.2.2.2.2.2.2.2
  rw [k5.1, p19, np19, j15, Int.toNat_natCast, gx_p x3 15 (by omega), sb1]
  refine ⟨o3, j0, k4.1.1, kp19, by omega, k3.1, (x_Ga_runs (nx := fun j => mI M3 (g + 12) j) hF x3 cx st3 sb2 (fun j _ => rfl)).mono (fun x12 M11 kk => ?_)⟩
  obtain ⟨⟨i12, o11, hx12, Ab', Be', C', hx11, f11, s11, -⟩, rx, st11⟩ := kk
  obtain ⟨nx1, nx2⟩ := stq_nx (V := V) (w := W) (cv := cvs W pl nq sm N (fun v => sgL.getD v 0) nms.reverse) (pl := pl) (lo := mI M0 (p + 3)) (hi := mI M0 (p + 4)) x.1.2.2 (fun j => mI M3 (g + 12) j) (fun v => sgL.getD v 0) n3
  rw [nx1] at rx
  obtain ⟨ce1, ce2⟩ := ga_ce x3 f11
  have ce0 := ce1 0 (by omega)
  rw [Nat.add_zero] at ce0
  have fl11 : flF M g p bc0 M11 := fl3.trans ⟨fun i _ _ _ => by rw [ce0], fun i _ _ => ce1 i (by omega), ⟨ce1 21 (by omega), ce1 22 (by omega)⟩, s11, ce2, fun i _ => ⟨by rw [ce1 8 (by omega)], by rw [ce1 9 (by omega)]⟩⟩
  have ge11 : gxe M11 g V cn S := ge3.cg V12 (by rw [ce0]) (ce1 1 (by omega)) (ce1 20 (by omega))
  have cn11 : mI M11 g 0 = ((cn : Nat) : Int) := ge11.1
  have bc11 : mI M11 g 13 = ((bc : Nat) : Int) := by rw [ce0]; exact bc3
  have cc11 : mI M11 g 12 = ((cc : Nat) : Int) := by rw [ce0]; exact cc3
  have sl11 : SLt M11 g cn := fun i hi => by rw [ce1 20 (by omega)]; exact sl3 i hi
  have ip11 : ipG M11 g cn bc0 bc sum9 := ⟨ip1, ip2, fun i a b => by rw [ce1 8 (by omega), ce1 9 (by omega)]; exact ip3'.2.2.1 i a b, by rw [wsm_cg (M := M3) _ (fun i _ _ => by rw [ce1 9 (by omega)])]; exact ip3'.2.2.2⟩
  have hB11 : B = brl M11 g bc0 (bc - bc0) := by
    rw [hB]
    exact (brl_cg _ (fun i _ _ => by rw [ce1 8 (by omega), ce1 9 (by omega), nb3 _ (by omega), nb3 _ (by omega)]; exact ⟨rfl, rfl⟩)).symm
  have h711 : mI M11 (g + 7) cc = ((bc0 : Nat) : Int) := by rw [ce1 7 (by omega), nb3 _ (by omega)]; exact h7
  clear ce1 ce2 ce0 f3 nb3 fl3 cn3 bc3 cc3 sl3 ip3' k2 k3 k4 k5 x3 f11 s11 e3 o3 p19 kp19 np19 nx1 n3 st3 ge3
  obtain ⟨-, l2, l3, l4, l5, -⟩ := id hx11
  obtain ⟨m0, ⟨-, -, -, -, -, -, m7, -, -, m15, -⟩, ⟨-, -, -, -, -, -, mk7, -⟩, ⟨-, -, -, -, -, -, mn7, -⟩⟩ := id l2
  refine ⟨i12, o11, fun y => ⟨m0, (x_Ga_machineFault o11 m0 m15 l3.1).mono (fun r M' q => ?_)⟩, fun y => ⟨m0, (x_Ga_enter (d := d + 2) hx11 cn11 hcn5 ge11.2.1).mono (fun x22 M21 kk => ?_)⟩⟩
  · obtain ⟨-, rx1, rx2, rx3⟩ := rx.resolve_right (fun u => by have := u.1; omega)
    obtain ⟨q1, q2, q3, q4⟩ := q
    have r0 : r ≠ 0 := by rw [q2, rx2]; exact rx1
    refine ⟨q1, q3.1, pl_fo hbc hx11 fl11 cn11 (Nat.le_refl _) hcn5 sl11 bc11 ⟨ip1, ip2⟩ q3 q1 r0, Or.inl ⟨r0, fun rest => ?_⟩⟩
    rw [flq_f hx0 (show (stpq W pl nq sm N nms V (mI M0 (p + 3)) (mI M0 (p + 4)) sgL x.1.2.2).1.1 ≠ 0 from rx1)]
    show (stq9 W (cvs W pl nq sm N (fun v => sgL.getD v 0) nms.reverse) pl (mI M0 (p + 3)) (mI M0 (p + 4)) x.1.2.2 (fun v => sgL.getD v 0)).1 = _
    rw [q2, rx2, q4, rx3]
  obtain ⟨-, rx1, rx2⟩ := rx.resolve_left (fun u => y u.1)
  have nx9 : nxm M11 g V = (stpq W pl nq sm N nms V (mI M0 (p + 3)) (mI M0 (p + 4)) sgL x.1.2.2).2 := by
    unfold nxm stpq
    refine List.map_congr_left (fun v hv => ?_)
    have hv := List.mem_range.mp hv
    rw [← nx2 v hv]
    exact rx2 v (by omega)
  have so9 := stp_ok cx.2.2.2.2.2 vo st.2.2.1 (show (stpq W pl nq sm N nms V (mI M0 (p + 3)) (mI M0 (p + 4)) sgL x.1.2.2).1.1 = 0 from rx1)
  obtain ⟨⟨hx21, f21, r21, cn', cn21, cnn, cn5', sl21, hto, i22, -⟩, ex⟩ := kk
  have off21 := ga_off hx21
  have nb : ∀ x, x ≠ g → x ≠ g + 1 → x ≠ g + 20 → mI M21 x = mI M11 x := fun x a b c => f21.2.2.2.2.2.2 x (fun y => y.elim a (fun y => y.elim b c))
  have fl21 : flF M g p bc0 M21 := fl11.trans ⟨fun i i0 _ _ => r21 i i0, fun i _ _ => nb _ (by omega) (by omega) (by omega), ⟨nb _ (by omega) (by omega) (by omega), nb _ (by omega) (by omega) (by omega)⟩, by rw [nb _ (by omega) (by omega) (by omega)], fun i hi => nb _ (off i 0 hi (by omega)) (off i 1 hi (by omega)) (off i 20 hi (by omega)), fun i _ => ⟨by rw [nb _ (by omega) (by omega) (by omega)], by rw [nb _ (by omega) (by omega) (by omega)]⟩⟩
  have bc21 : mI M21 g 13 = ((bc : Nat) : Int) := by rw [r21 13 (by decide)]; exact bc11
  have cc21 : mI M21 g 12 = ((cc : Nat) : Int) := by rw [r21 12 (by decide)]; exact cc11
  have ip21 : ipG M21 g cn' bc0 bc sum9 := ⟨ip1, ip2, fun i a b => by
    rw [nb (g + 8) (by omega) (by omega) (by omega), nb (g + 9) (by omega) (by omega) (by omega)]
    obtain ⟨c1, c2, c3⟩ := ip11.2.2.1 i a b
    exact ⟨c1, by omega, c3⟩, by rw [wsm_cg (M := M11) _ (fun i _ _ => by rw [nb (g + 9) (by omega) (by omega) (by omega)])]; exact ip11.2.2.2⟩
  have hB21 : B = brl M21 g bc0 (bc - bc0) := by
    rw [hB11]
    exact (brl_cg _ (fun i _ _ => by rw [nb (g + 8) (by omega) (by omega) (by omega), nb (g + 9) (by omega) (by omega) (by omega)]; exact ⟨rfl, rfl⟩)).symm
  obtain ⟨o21, a2, a3, a4, a5, -⟩ := id hx21
  obtain ⟨b0, ⟨-, -, -, -, -, -, b7, -⟩, ⟨-, -, -, -, -, -, bk7, -⟩, ⟨-, -, -, -, -, -, bn7, -⟩⟩ := id a2
  have p17 := a4.1.2.2.2.2.2.2.1.2.2.2.2.2.2.2.2.2.2.1
  have kp17 := a4.1.2.2.2.2.2.2.2.1.2.2.2.2.2.2.2.2.2.2.1
  have np17 := a4.1.2.2.2.2.2.2.2.2.2.2.2.2.2.2.2.2.2.2.1
  rw [a5.1, p17, np17, b7, bn7, cc21, Int.toNat_natCast, nb (g + 7) (by omega) (by omega) (by omega), h711]
  refine ⟨i22, o21, fun y => ⟨b0, a4.1.1, kp17, by omega, (x_Ga_fault ⟨by decide, by decide⟩ (o21 _ _).1 o21 b0).mono (fun r M' q => ?_)⟩, fun y => ⟨b0, bk7, by omega, ?_⟩⟩
  · rw [q.1]
    refine ⟨⟨by decide, by decide⟩, q.2.1.1, pl_fo hbc hx21 fl21 cn21 cnn cn5' sl21 bc21 ⟨ip1, ip2⟩ q.2.1 ⟨by decide, by decide⟩ (by decide), Or.inl ⟨by decide, fun rest => ?_⟩⟩
    have en : enq9 S (stpq W pl nq sm N nms V (mI M0 (p + 3)) (mI M0 (p + 4)) sgL x.1.2.2).2 = none := by
      rcases ex with ⟨k', -, -, e1, -⟩ | ⟨no, ⟨e1, -, -⟩ | ⟨-, e1, -⟩⟩
      · rw [y] at e1; omega
      · rw [← nx9, ← ge11.2.2, enqN9 no, if_pos e1]
      · rw [y] at e1; omega
    rw [flq_n hx0 rx1 en, q.2.2, gx_p hx21 13 (by omega), hpl]
  · have hto := hto.resolve_left y
    obtain ⟨tn, etn⟩ : ∃ tn : Nat, x22 = ((tn : Nat) : Int) := ⟨x22.toNat, by omega⟩
    have key : ∃ S2, enq9 S (stpq W pl nq sm N nms V (mI M0 (p + 3)) (mI M0 (p + 4)) sgL x.1.2.2).2 = some (tn, S2) ∧ SoO nms S2 ∧ gxe M21 g V cn' S2 ∧ ∀ j, j < 12 * cn → mI M21 (g + 1) j = mI M11 (g + 1) j := by
      rcases ex with ⟨k', e1, e2, e3, e4⟩ | ⟨no, ⟨-, e1, -⟩ | ⟨e1, e2, e3, e4, e5, e6⟩⟩
      · subst e4
        have cc' : cn' = cn := by rw [cn21] at cn11; omega
        refine ⟨S, ?_, so, by rw [cc']; exact ge11, fun j _ => rfl⟩
        rw [← nx9, ← ge11.2.2, enq_k ge11.2.1 e1 e2, show k' = tn by omega]
      · exact absurd e1 y
      · have cc' : cn' = cn + 1 := by rw [cn21] at e3; omega
        refine ⟨S ++ [nxm M11 g V], ?_, fun s hs => ?_, ?_, e6⟩
        · rw [← nx9, ← ge11.2.2, enqN9 no, if_neg (by omega), show cn = tn by omega]
        · rcases List.mem_append.mp hs with h | h
          · exact so s h
          · rw [List.mem_singleton.mp h, nx9]
            exact so9
        · rw [cc']
          exact ⟨e3, e4, by rw [Sm9_s e5 V12 e6, ge11.2.2]⟩
    obtain ⟨S2, y1, y2, y3, y4⟩ := key
    have st21 : gst9 M21 g V F ns W pl nq sm N nms k (fun v => sgL.getD v 0) := st11.cg (fun i _ => by rw [nb _ (by omega) (by omega) (by omega)]) (fun v hv => y4 _ (by omega)) (nb _ (by omega) (by omega) (by omega)) (nb _ (by omega) (by omega) (by omega)) (nb _ (by omega) (by omega) (by omega))
    exact x_fo69 cx st21 y2 y3 hB21 etn (fun rest => by rw [flq_e hx0 rx1 y1, ← esh]; try rfl) hbc hx21 fl21 hc cn5' bc21 ip21 hsh hsm hto cnn (bc - bc0) bc0 (by omega) (Nat.le_refl _) ip1 (fun j a b => absurd a (by omega))
end GBH
end
