section
/-! The reference's vars, exactly. -/
section VXP
variable {w pl nq : Nat → Int} {sm : Nat → Nat → Prop} {nms : List nm9} {k e rg ini N : Nat} {s : st9}
theorem rf9_fl {co tr : Int} {i j : Nat} (h : (rf9 w pl sm nms co tr i j).1 = 0) : (fl w (E9 sm nms co) pl 0 i j).1 = 0 := by
  unfold rf9 at h
  exact (fst9_z h).1
theorem vf9_b (h5 : w (k + 3) = 5) : vf9 w pl sm nms k e rg ini = fst9 (if w ini = 9 then rf9 w pl sm nms 1 1 (ini + 1) e else (0, 0)) (0, 0) := by
  unfold vf9
  rw [if_pos h5, if_pos h5, fst9_r (x := ((0 : Int), (0 : Int))) rfl]
theorem vw9_b (h5 : w (k + 3) = 5) : vw9 w pl nq sm nms k e rg ini = if w ini = 9 then wh9 (vlq w (cv9 w nq sm nms) pl 0 0 (ini + 1) e) (pl (ini + 1)) else (0, 0) := by
  unfold vw9
  simp only []
  rw [if_pos h5, fst9_r (x := ((0 : Int), (0 : Int))) rfl, if_pos h5]
theorem vf9_n (h5 : w (k + 3) ≠ 5) : vf9 w pl sm nms k e rg ini = fst9 (fst9 (fst9 (rf9 w pl sm nms 1 0 (k + 3) rg) (rf9 w pl sm nms 1 0 (rg + 1) ini)) (if w ini = 9 then rf9 w pl sm nms 1 0 (ini + 1) e else (0, 0))) (0, 0) := by
  unfold vf9
  rw [if_neg h5, if_neg h5]
theorem vw9_n (h5 : w (k + 3) ≠ 5) : vw9 w pl nq sm nms k e rg ini = fst9 (rgf (vlq w (cv9 w nq sm nms) pl 0 0 (k + 3) rg) (vlq w (cv9 w nq sm nms) pl 0 0 (rg + 1) ini) (pl (k + 3)) (pl (rg + 1))) (if w ini = 9 then bef 0 (vlq w (cv9 w nq sm nms) pl 0 0 (k + 3) rg).2.1 (vlq w (cv9 w nq sm nms) pl 0 0 (rg + 1) ini).2.1 (pl (ini + 1)) (vlq w (cv9 w nq sm nms) pl 0 0 (ini + 1) e) else (0, 0)) := by
  unfold vw9 rgf bef
  simp only []
  rw [if_neg h5, if_neg h5, if_neg (show ¬ ((0 : Int) ≠ 0) by decide)]
theorem itv_many (h : s.2.1.1 = 12) : (itv w pl nq sm N k e s).2.2 = (5, pl k) := by
  unfold itv
  rw [if_pos h]
theorem itv_known (h : s.2.1.1 ≠ 12) (h2 : fnd9 sm s.1 (k + 1) ≠ none) : (itv w pl nq sm N k e s).2.2 = (2, pl (k + 1)) := by
  unfold itv
  rw [if_neg h, if_pos h2]
theorem itv_f (h : s.2.1.1 ≠ 12) (h2 : fnd9 sm s.1 (k + 1) = none) (hr : nxq w 16 N (k + 3) = rg) (hi : (if w (k + 3) = 5 then k + 4 else nxq w 9 (e - (k + 3)) (k + 3)) = ini) (h3 : (vf9 w pl sm s.1 k e rg ini).1 ≠ 0) : (itv w pl nq sm N k e s).2.2 = vf9 w pl sm s.1 k e rg ini := by
  unfold itv
  simp only [hr, hi]
  rw [if_neg h, if_neg (fun z => z h2), if_pos h3]
theorem itv_w (h : s.2.1.1 ≠ 12) (h2 : fnd9 sm s.1 (k + 1) = none) (hr : nxq w 16 N (k + 3) = rg) (hi : (if w (k + 3) = 5 then k + 4 else nxq w 9 (e - (k + 3)) (k + 3)) = ini) (h3 : (vf9 w pl sm s.1 k e rg ini).1 = 0) (h4 : (vw9 w pl nq sm s.1 k e rg ini).1 ≠ 0) : (itv w pl nq sm N k e s).2.2 = vw9 w pl nq sm s.1 k e rg ini := by
  unfold itv
  simp only [hr, hi]
  rw [if_neg h, if_neg (fun z => z h2), if_neg (fun z => z h3), if_pos h4]
theorem itv_ok (h : s.2.1.1 ≠ 12) (h2 : fnd9 sm s.1 (k + 1) = none) (hr : nxq w 16 N (k + 3) = rg) (hi : (if w (k + 3) = 5 then k + 4 else nxq w 9 (e - (k + 3)) (k + 3)) = ini) (h3 : (vf9 w pl sm s.1 k e rg ini).1 = 0) (h4 : (vw9 w pl nq sm s.1 k e rg ini).1 = 0) : itv w pl nq sm N k e s = (s.1 ++ [(k + 1, 3, (if w (k + 3) = 5 then 1 else 0), (0, 0, 1))], (s.2.1.1 + 1, s.2.1.2), (0, 0)) := by
  unfold itv
  simp only [hr, hi]
  rw [if_neg h, if_neg (fun z => z h2), if_neg (fun z => z h3), if_neg (fun z => z h4)]
end VXP
section VXD
variable {G : mG} {d a g R W C Z T T2 N K : Nat} {M M2 : mM} {E : Eg9} {tg : Int} {s s' : st9}
theorem x_vi185 {gm : gm9} {x9 : Int × Int × Int} {k e i j lo hi : Nat} {l6 : Int} {V Vl Vh : vrs} (eγ : E.2 = txg M a N s.1 gm) (hx9 : x9 = (Vl.2.1, Vh.2.1, if l6 ≠ 0 then V.2.1 else Vl.2.1)) (h : Df M a g N T K R W C Z E tg) (hS : RSq M a g K s.1) (hW : W < 12) (hk : k + 3 < N) (hie : i ≤ e) (heN : e < N) (hj : j + 1 < N) (hki : k ≤ i) (hZ : Z ≤ k) (v2 : vI M a g N T K R W C Z 0 T2 M2) (l2 : lst3 M a M2) (hnew : fdn M a K (k + 1) = -1) (hT2 : T2 ≤ i) (c6 : l6 = 0 ∨ l6 = 1) (z16 : mI M2 a 16 = 0) (cl : Ctx M2 a g R W T2 (nrq M a (rvn M a K)) (k + 3) j lo 0) (ch : Ctx M2 a g R W T2 (nrq M a (rvn M a K)) (j + 1) i hi 0) (fl1 : (fl (wk M a) (E9 (smx M a) s.1 1) (nt M (a + 7)) 0 (k + 3) j).1 = 0) (fl2 : (fl (wk M a) (E9 (smx M a) s.1 1) (nt M (a + 7)) 0 (j + 1) i).1 = 0) (h9 : l6 ≠ 0 → Eo (wk M a) 6 (i + 1) e) (hV : V = vlq (wk M a) (cv9 (wk M a) (nuq M a) (smx M a) s.1) (nt M (a + 7)) 0 0 (i + 1) e) (hVl : Vl = vlq (wk M a) (cv9 (wk M a) (nuq M a) (smx M a) s.1) (nt M (a + 7)) 0 0 (k + 3) j) (hVh : Vh = vlq (wk M a) (cv9 (wk M a) (nuq M a) (smx M a) s.1) (nt M (a + 7)) 0 0 (j + 1) i) (gf : l6 ≠ 0 → (rf9 (wk M a) (nt M (a + 7)) (smx M a) s.1 1 0 (i + 1) e).1 ≠ 0 → s'.2.2 = (rf9 (wk M a) (nt M (a + 7)) (smx M a) s.1 1 0 (i + 1) e)) (fr : (l6 ≠ 0 → (rf9 (wk M a) (nt M (a + 7)) (smx M a) s.1 1 0 (i + 1) e).1 = 0) → (rgf Vl Vh (nt M (a + 7) (k + 3)) (nt M (a + 7) (j + 1))).1 ≠ 0 → s'.2.2 = (rgf Vl Vh (nt M (a + 7) (k + 3)) (nt M (a + 7) (j + 1)))) (flb : (l6 ≠ 0 → (rf9 (wk M a) (nt M (a + 7)) (smx M a) s.1 1 0 (i + 1) e).1 = 0) → (rgf Vl Vh (nt M (a + 7) (k + 3)) (nt M (a + 7) (j + 1))).1 = 0 → l6 ≠ 0 → (bef 0 Vl.2.1 Vh.2.1 (nt M (a + 7) (i + 1)) V).1 ≠ 0 → s'.2.2 = (bef 0 Vl.2.1 Vh.2.1 (nt M (a + 7) (i + 1)) V)) (good : (l6 ≠ 0 → (rf9 (wk M a) (nt M (a + 7)) (smx M a) s.1 1 0 (i + 1) e).1 = 0) → (rgf Vl Vh (nt M (a + 7) (k + 3)) (nt M (a + 7) (j + 1))).1 = 0 → (l6 ≠ 0 → (bef 0 Vl.2.1 Vh.2.1 (nt M (a + 7) (i + 1)) V).1 = 0) → s' = (s.1 ++ [(k + 1, 3, 0, (0, 0, 1))], (W + 1, R, C, if tg = -1 then 0 else 1), (0, 0))) : h_MM_varItem_185 G (d + 7) a k e W 0 i l6 lo j hi M2 (fun M' => mOk M' ∧ itX M a g N (e + 1) s' (gm.1 ++ [x9], gm.2) M') := by
  have hN := h.1.2.1.1.2.2
  have hg := h.1.2.2.2.2.2.1
  have hR := h.2.2.2.2.1.1
  have L2 := v2.1
  have w2 := L2.2.1.1.1
  have iz : i32 (0 : Int) := ⟨by decide, by decide⟩
  have im : i32 (-1 : Int) := ⟨by decide, by decide⟩
  have ik : i32 (k : Int) := i32s (by omega) (by omega)
  have iW : i32 (W : Int) := i32s (by omega) (by omega)
  have ii : i32 (i : Int) := i32s (by omega) (by omega)
  have ij : i32 (j : Int) := i32s (by omega) (by omega)
  have ie : i32 (e : Int) := i32s (by omega) (by omega)
  have i6 : i32 l6 := i32s (by omega) (by omega)
  have ilo : i32 (lo : Int) := by
    obtain ⟨-, f, e', t, t', -⟩ := cl
    have := t.tn.lt
    exact i32s (by omega) (by omega)
  have ihi : i32 (hi : Int) := by
    obtain ⟨-, f, e', t, t', -⟩ := ch
    have := t.tn.lt
    exact i32s (by omega) (by omega)
  have hiN : i < N := by omega
  refine k_MM_varItem_185 L2.1 ik ie iW iz ii i6 ilo ij ihi ⟨fun _ => w2.1.1, fun q => ?_, fun q => ⟨w2.1.1, ?_⟩⟩
  · have z6 : l6 = 0 := q.elim (fun z => z) (fun z => absurd z16 z)
    have n6 : l6 ≠ 0 → (rf9 (wk M a) (nt M (a + 7)) (smx M a) s.1 1 0 (i + 1) e).1 = 0 := fun z => absurd z6 z
    exact x_vi215n (e9 := e) eγ hx9 h hS hW hk hiN (fun z => absurd z6 z) hj v2 l2 hnew (by omega) (by omega) (by omega) i6 im z16 cl ch fl1 fl2 (fun z => absurd z6 z) (fun z => absurd z6 z) hV hVl hVh (fr n6) (flb n6) (good n6)
  · have n6 : l6 ≠ 0 := fun z => q (Or.inl z)
    have eo := h9 n6
    have hlt := eo.pr.1
    rw [show (i : Int) + 1 = ((i + 1 : Nat) : Int) by omega]
    refine x_vrule (d := d) h hS v2 l2 z16 (Or.inl rfl) (by omega) eo heN (fun M3 T3 L3 I3 z3 rz rf => ?_) (fun M3 T3 t1 t2 v3 l3 z3 rz ct f3 => ?_)
    · refine ⟨i32s (by omega) (by omega), L3.1, x_vi215x L3 I3 z3 ?_ ik iW iz ii i6 ilo ihi ij (i32s (by omega) (by omega))⟩
      rw [gf n6 rz]
      exact ⟨rz, rf⟩
    · obtain ⟨G3, sx3, p3⟩ := f3
      have hT := Nat.le_of_lt t1
      exact ⟨i32s (by omega) (by omega), v3.1.1, x_vi215n (e9 := e) eγ hx9 h hS hW hk hiN (fun _ => by omega) hj v3 l3 hnew (by omega) (by omega) (by omega) i6 (i32s (by omega) (by omega)) z3 ((cl.gn G3.1 hR sx3 p3).up hT) ((ch.gn G3.1 hR sx3 p3).up hT) fl1 fl2 (fun _ => ⟨T2, rfl, ct⟩) (fun _ => ⟨eo, rf9_fl rz⟩) hV hVl hVh (fr (fun _ => rz)) (flb (fun _ => rz)) (good (fun _ => rz))⟩
theorem x_vi91 {gm : gm9} {x9 : Int × Int × Int} {k e i j : Nat} {bl : Int} (eγ : E.2 = txg M a N s.1 gm) (hx9 : x9 = (if wk M a (k + 3) = 5 then 0 else (vlq (wk M a) (cv9 (wk M a) (nuq M a) (smx M a) s.1) (nt M (a + 7)) 0 0 (k + 3) j).2.1, if wk M a (k + 3) = 5 then 1 else (vlq (wk M a) (cv9 (wk M a) (nuq M a) (smx M a) s.1) (nt M (a + 7)) 0 0 (j + 1) i).2.1, if wk M a i = 9 then (vlq (wk M a) (cv9 (wk M a) (nuq M a) (smx M a) s.1) (nt M (a + 7)) 0 0 (i + 1) e).2.1 else if wk M a (k + 3) = 5 then 0 else (vlq (wk M a) (cv9 (wk M a) (nuq M a) (smx M a) s.1) (nt M (a + 7)) 0 0 (k + 3) j).2.1)) (h : Df M a g N T K R W C Z E tg) (hS : RSq M a g K s.1) (h16 : mI M a 16 = 0) (hW : W < 12) (hnew : fdn M a K (k + 1) = -1) (heN : e < N) (hT : T ≤ k) (hZ : Z ≤ k) (hb : (bl = 1 ∧ wk M a (k + 3) = 5 ∧ i = k + 4) ∨ (bl = 0 ∧ wk M a (k + 3) ≠ 5 ∧ Eo (wk M a) 6 (k + 3) j ∧ wk M a j = 16 ∧ Eo (wk M a) 6 (j + 1) i)) (hi : (wk M a i ≠ 9 ∧ i = e) ∨ (wk M a i = 9 ∧ Eo (wk M a) 6 (i + 1) e)) (e1 : (vf9 (wk M a) (nt M (a + 7)) (smx M a) s.1 k e j i).1 ≠ 0 → s'.2.2 = (vf9 (wk M a) (nt M (a + 7)) (smx M a) s.1 k e j i)) (e2 : (vf9 (wk M a) (nt M (a + 7)) (smx M a) s.1 k e j i).1 = 0 → (vw9 (wk M a) (nt M (a + 7)) (nuq M a) (smx M a) s.1 k e j i).1 ≠ 0 → s'.2.2 = (vw9 (wk M a) (nt M (a + 7)) (nuq M a) (smx M a) s.1 k e j i)) (e3 : (vf9 (wk M a) (nt M (a + 7)) (smx M a) s.1 k e j i).1 = 0 → (vw9 (wk M a) (nt M (a + 7)) (nuq M a) (smx M a) s.1 k e j i).1 = 0 → s' = (s.1 ++ [(k + 1, 3, bl, (0, 0, 1))], (W + 1, R, C, if tg = -1 then 0 else 1), (0, 0))) : h_MM_varItem_91 G (d + 7) a k e W bl i M (fun M' => mOk M' ∧ itX M a g N (e + 1) s' (gm.1 ++ [x9], gm.2) M') := by
  have hN := h.1.2.1.1.2.2
  have hg := h.1.2.2.2.2.2.1
  have hR := h.2.2.2.2.1.1
  have hL := h.1
  have w := hL.2.1.1.1
  have hie : i ≤ e := by
    rcases hi with ⟨-, z⟩ | ⟨-, z⟩
    · omega
    · have := z.pr.1; omega
  have hki : k + 4 ≤ i := by
    rcases hb with ⟨-, -, z⟩ | ⟨-, -, z1, -, z2⟩
    · omega
    · have := z1.pr.1; have := z2.pr.1; omega
  have h9 : wk M a i = 9 → Eo (wk M a) 6 (i + 1) e := fun z => by
    rcases hi with ⟨y, -⟩ | ⟨-, y⟩
    · exact absurd z y
    · exact y
  have bl01 : bl = 0 ∨ bl = 1 := by
    rcases hb with ⟨z, -⟩ | ⟨z, -⟩
    · exact Or.inr z
    · exact Or.inl z
  have iz : i32 (0 : Int) := ⟨by decide, by decide⟩
  have im : i32 (-1 : Int) := ⟨by decide, by decide⟩
  have ik : i32 (k : Int) := i32s (by omega) (by omega)
  have iW : i32 (W : Int) := i32s (by omega) (by omega)
  have ii : i32 (i : Int) := i32s (by omega) (by omega)
  have ie : i32 (e : Int) := i32s (by omega) (by omega)
  have ib : i32 bl := by rcases bl01 with z | z <;> rw [z] <;> exact ⟨by decide, by decide⟩
  have W12 : ((0 : Int) ≤ W ∧ (W : Int) < ((12 : Nat) : Int)) := by omega
  have hiN : i < N := by omega
  have hkN : k + 3 < N := by omega
  have hZe : Z ≤ e + 1 := by omega
  clear hi
  refine k_MM_varItem_91 hL.1 ik ie iW ib ii ⟨w.1.1, hL.wd (d := d + 6) hiN (fun x hx ix => ⟨ix, hL.1, fun v hv => ⟨w.1.1, ?_⟩⟩)⟩
  rw [show mR M a 10 = g from hL.2.2.2.2.1, show mR M g 13 = g + 18 from (w.gp hg).2.2.1.1, Int.toNat_natCast]
  refine ⟨(w.gp hg).1, (w.gp hg).2.2.2.2.1.1.1, by rw [(w.gp hg).2.2.2.2.1.1.2]; exact W12, bl01, fun M2 e0 => ?_⟩
  obtain ⟨v2, a2⟩ := vI.new h bl01 e0
  have l2 : lst3 M a M2 := (lst3.ui (x := 0) (i := 18) hL ib (by omega) (by decide) (by decide) e0).1
  have L2 := v2.1
  have w2 := L2.2.1.1.1
  have wkE := v2.2.1.wk hg
  have z2 : mI M2 a 16 = 0 := by rw [a2]; exact h16
  have v01 : v = 0 ∨ v = 1 := by split at hv <;> omega
  have v9 : v ≠ 0 → Eo (wk M a) 6 (i + 1) e := fun z => h9 (by
    split at hv
    · rename_i y; exact hx.symm.trans y
    · exact absurd hv z)
  have w9 : v ≠ 0 → wk M a i = 9 := fun z => by
    split at hv
    · rename_i y; exact hx.symm.trans y
    · exact absurd hv z
  have w0 : v = 0 → wk M a i ≠ 9 := fun z y => by
    rw [if_pos (hx.trans y)] at hv
    omega
  have i6 : i32 v := by rcases v01 with z | z <;> rw [z] <;> exact ⟨by decide, by decide⟩
  clear hv hx h9 e0
  rcases hb with ⟨z, h5, -⟩ | ⟨z, h5, j1, j2, j3⟩
  · subst z
    refine ⟨fun y => absurd y (by decide), fun _ => ⟨fun q => ?_, fun q => ?_⟩⟩
    · have z6 : v = 0 := q.elim (fun z => z) (fun z => absurd z2 z)
      have n9 := w0 z6
      exact x_vi215b (e9 := e) eγ (by rw [hx9, if_pos h5, if_pos h5, if_neg n9, if_neg (fun u => u z6)]) h hS hW hkN hiN (fun z => absurd z6 z) v2 l2 hnew (by omega) hZe (by omega) i6 im z2 (fun z => absurd z6 z) (fun z => absurd z6 z) rfl (fun z => absurd z6 z) (fun _ => e3 (by rw [vf9_b h5, if_neg n9]; rfl) (by rw [vw9_b h5, if_neg n9]))
    · have n6 : v ≠ 0 := fun z => q (Or.inl z)
      have y9 := w9 n6
      have eo := v9 n6
      have hlt := eo.pr.1
      have vb : (vf9 (wk M a) (nt M (a + 7)) (smx M a) s.1 k e j i) = fst9 (rf9 (wk M a) (nt M (a + 7)) (smx M a) s.1 1 1 (i + 1) e) (0, 0) := by rw [vf9_b h5, if_pos y9]
      have vc : (vw9 (wk M a) (nt M (a + 7)) (nuq M a) (smx M a) s.1 k e j i) = wh9 (vlq (wk M a) (cv9 (wk M a) (nuq M a) (smx M a) s.1) (nt M (a + 7)) 0 0 (i + 1) e) (nt M (a + 7) (i + 1)) := by rw [vw9_b h5, if_pos y9]
      rw [show (i : Int) + 1 = ((i + 1 : Nat) : Int) by omega]
      refine x_vrule (d := d) h hS v2 l2 z2 (Or.inr rfl) (by omega) eo heN (fun M3 T3 L3 I3 z3 rz rf => ?_) (fun M3 T3 t1 t2 v3 l3 z3 rz ct f3 => ?_)
      · refine ⟨i32s (by omega) (by omega), L3.1, x_vi215x L3 I3 z3 ?_ ik iW ⟨by decide, by decide⟩ ii i6 im im (i32s (by omega) (by omega)) (i32s (by omega) (by omega))⟩
        rw [e1 (by rw [vb, fst9_l rz]; exact rz), vb, fst9_l rz]
        exact ⟨rz, rf⟩
      · have vz : (vf9 (wk M a) (nt M (a + 7)) (smx M a) s.1 k e j i).1 = 0 := by rw [vb, fst9_r rz]
        rw [vc] at e2 e3
        exact ⟨i32s (by omega) (by omega), v3.1.1, x_vi215b (e9 := e) eγ (by rw [hx9, if_pos h5, if_pos h5, if_pos y9, if_pos n6]) h hS hW hkN hiN (fun _ => by omega) v3 l3 hnew (by omega) hZe (by omega) i6 (i32s (by omega) (by omega)) z3 (fun _ => ⟨T, rfl, ct⟩) (fun _ => ⟨eo, rf9_fl rz⟩) rfl (fun _ => e2 vz) (fun z => e3 vz (z n6))⟩
  · subst z
    have p1 := j1.pr.1
    have p3 := j3.pr.1
    have hjN : j < N := by omega
    rw [vf9_n h5] at e1 e2 e3
    rw [vw9_n h5] at e2 e3
    refine ⟨fun _ => ?_, fun y => absurd rfl y⟩
    rw [show (k : Int) + 3 = ((k + 3 : Nat) : Int) by omega]
    refine L2.ub (d := d + 5) (by omega) (by rw [wkE]; exact j1.pr.2.2.2.2.1) hjN (by rw [wkE]; exact j2) (Or.inl rfl) ⟨i32s (by omega) (by omega), L2.1, w2.1.1, ?_⟩
    have iT : i32 (T : Int) := i32s (by omega) (by omega)
    have ij : i32 (j : Int) := i32s (by omega) (by omega)
    refine x_vrule (d := d) h hS v2 l2 z2 (Or.inl rfl) (by omega) j1 hjN (fun M3 T3 L3 I3 z3 rz rf => ?_) (fun M3 T3 t1 t2 v3 l3 z3 rz cl f3 => ?_)
    · refine ⟨iT, L3.1, L3.2.1.1.1.1.1, fun z => absurd z z3, fun _ => x_vi185x L3 I3 z3 ?_ ik ie iW iz ii i6 iT ij im⟩
      rw [fst9_l (x := rf9 (wk M a) (nt M (a + 7)) (smx M a) s.1 1 0 (k + 3) j) rz, fst9_l rz, fst9_l rz] at e1
      rw [e1 rz]
      exact ⟨rz, rf⟩
    rw [fst9_r (x := rf9 (wk M a) (nt M (a + 7)) (smx M a) s.1 1 0 (k + 3) j) rz] at e1 e2 e3
    have L3 := v3.1
    refine ⟨iT, L3.1, L3.2.1.1.1.1.1, fun _ => ?_, fun z => absurd z3 z⟩
    rw [show (j : Int) + 1 = ((j + 1 : Nat) : Int) by omega]
    have iT3 : i32 (T3 : Int) := i32s (by omega) (by omega)
    refine x_vrule (d := d) h hS v3 l3 z3 (Or.inl rfl) (by omega) j3 hiN (fun M4 T4 L4 I4 z4 ry rf => ?_) (fun M4 T4 u1 u2 v4 l4 z4 ry ch f4 => ?_)
    · refine ⟨iT3, L4.1, x_vi185x L4 I4 z4 ?_ ik ie iW iz ii i6 iT ij iT3⟩
      rw [fst9_l (x := rf9 (wk M a) (nt M (a + 7)) (smx M a) s.1 1 0 (j + 1) i) ry, fst9_l ry] at e1
      rw [e1 ry]
      exact ⟨ry, rf⟩
    rw [fst9_r (x := rf9 (wk M a) (nt M (a + 7)) (smx M a) s.1 1 0 (j + 1) i) ry] at e1 e2 e3
    obtain ⟨G4, sx4, p4⟩ := f4
    have hx9' : x9 = ((vlq (wk M a) (cv9 (wk M a) (nuq M a) (smx M a) s.1) (nt M (a + 7)) 0 0 (k + 3) j).2.1, (vlq (wk M a) (cv9 (wk M a) (nuq M a) (smx M a) s.1) (nt M (a + 7)) 0 0 (j + 1) i).2.1, if v ≠ 0 then (vlq (wk M a) (cv9 (wk M a) (nuq M a) (smx M a) s.1) (nt M (a + 7)) 0 0 (i + 1) e).2.1 else (vlq (wk M a) (cv9 (wk M a) (nuq M a) (smx M a) s.1) (nt M (a + 7)) 0 0 (k + 3) j).2.1) := by
      rw [hx9, if_neg h5, if_neg h5]
      by_cases c : wk M a i = 9
      · rw [if_pos c, if_pos (fun y => w0 y c)]
      · rw [if_neg c, if_neg (fun y => c (w9 y))]
    refine ⟨iT3, v4.1.1, x_vi185 eγ hx9' h hS hW hkN hie heN (by omega) (by omega) hZ v4 l4 hnew (by omega) v01 z4 ((cl.gn G4.1 hR sx4 p4).up (Nat.le_of_lt u1)) ch (rf9_fl rz) (rf9_fl ry) v9 rfl rfl rfl (fun n6 fz => ?_) (fun n6 fz => ?_) (fun n6 rz bz => ?_) (fun n6 rz bz => ?_)⟩
    · rw [if_pos (w9 n6), fst9_l fz] at e1
      exact e1 fz
    · have vz : (fst9 (if wk M a i = 9 then (rf9 (wk M a) (nt M (a + 7)) (smx M a) s.1 1 0 (i + 1) e) else (0, 0)) (0, 0)).1 = 0 := by
        by_cases c : wk M a i = 9
        · have : v ≠ 0 := fun y => w0 y c
          rw [if_pos c, fst9_r (n6 this)]
        · rw [if_neg c]; rfl
      have := e2 vz
      rw [fst9_l fz] at this
      exact this fz
    · have vz : (fst9 (if wk M a i = 9 then (rf9 (wk M a) (nt M (a + 7)) (smx M a) s.1 1 0 (i + 1) e) else (0, 0)) (0, 0)).1 = 0 := by
        by_cases c : wk M a i = 9
        · have : v ≠ 0 := fun y => w0 y c
          rw [if_pos c, fst9_r (n6 this)]
        · rw [if_neg c]; rfl
      have := e2 vz
      rw [fst9_r rz, if_pos (w9 bz)] at this
      exact this
    · have vz : (fst9 (if wk M a i = 9 then (rf9 (wk M a) (nt M (a + 7)) (smx M a) s.1 1 0 (i + 1) e) else (0, 0)) (0, 0)).1 = 0 := by
        by_cases c : wk M a i = 9
        · have : v ≠ 0 := fun y => w0 y c
          rw [if_pos c, fst9_r (n6 this)]
        · rw [if_neg c]; rfl
      refine e3 vz ?_
      rw [fst9_r rz]
      by_cases c : wk M a i = 9
      · rw [if_pos c]; exact bz (fun y => w0 y c)
      · rw [if_neg c]
theorem x_MM_varItem {gm : gm9} {k e i : Nat} (eγ : E.2 = txg M a N s.1 gm) (h : Df M a g N T K R W C Z E tg) (hS : RSq M a g K s.1) (hst : s.2.1 = (W, R, C, if tg = -1 then 0 else 1)) (h16 : mI M a 16 = 0) (heN : e < N) (hT : T ≤ k) (hZ : Z ≤ k) (hv : Vs (wk M a) (k + 3) i) (hi : (wk M a i ≠ 9 ∧ i = e) ∨ (wk M a i = 9 ∧ Eo (wk M a) 6 (i + 1) e)) : Cv G y_MM_varItem (d + 8) [vr a, vi k, vi e] M (fun M' => mOk M' ∧ itX M a g N (e + 1) (itv (wk M a) (nt M (a + 7)) (nuq M a) (smx M a) N k e s) (gm.1 ++ [var9 (wk M a) (nt M (a + 7)) (nuq M a) (smx M a) N s.1 k e], gm.2) M') := by
  generalize es : itv (wk M a) (nt M (a + 7)) (nuq M a) (smx M a) N k e s = s'
  have hN := h.1.2.1.1.2.2
  have hg := h.1.2.2.2.2.2.1
  have hBd := h.2.2.2.2.1
  have hL := h.1
  have w := hL.2.1.1.1
  have g12 := h.2.1.2.1
  have hie : i ≤ e := by
    rcases hi with ⟨-, z⟩ | ⟨-, z⟩
    · omega
    · have := z.pr.1; omega
  have hki : k + 4 ≤ i := by
    rcases hv with ⟨-, z⟩ | ⟨-, j, z1, -, z2⟩
    · omega
    · have := z1.pr.1; have := z2.pr.1; omega
  have hlast : i = e ∨ wk M a i = 9 := hi.elim (fun z => Or.inl z.2) (fun z => Or.inr z.1)
  have n9 : wk M a (k + 3) ≠ 5 → ∀ m, k + 3 ≤ m → m < i → wk M a m ≠ 9 := fun z m m1 m2 => by
    rcases hv with ⟨y, -⟩ | ⟨-, j, z1, z2, z3⟩
    · exact absurd y z
    · by_cases q : m < j
      · have := rwd_all z1 m1 q; unfold rwd at this; omega
      · by_cases q2 : m = j
        · rw [q2, z2]; decide
        · have := rwd_all z3 (show j + 1 ≤ m by omega) m2; unfold rwd at this; omega
  have iW : i32 (W : Int) := i32s (by omega) (by omega)
  refine k_MM_varItem hL.1 (i32s (by omega) (by omega)) (i32s (by omega) (by omega)) ⟨w.1.1, ?_⟩
  rw [show mR M a 10 = g from hL.2.2.2.2.1, g12, show (k : Int) + 1 = ((k + 1 : Nat) : Int) by omega]
  refine ⟨(w.gp hg).1, fun q => x_st_it (d := d + 6) (c := 5) (by decide) ⟨by decide, by decide⟩ hL (by omega) (by rw [← es]; exact itv_many (by rw [hst]; show W = 12; omega)), fun q => ?_⟩
  have hW : W < 12 := by omega
  have n12 : s.2.1.1 ≠ 12 := by rw [hst]; show W ≠ 12; omega
  have hK : K ≤ 200 := hL.2.2.1.2.2.2.1
  refine hL.fdx (d := d + 4) (by omega) (fun r r0 r1 rf => ⟨i32s (by omega) (by omega), hL.1, fun q2 => ⟨w.1.1, ?_⟩, fun q2 => ⟨w.1.1, x_st_it (d := d + 6) (c := 2) (by decide) ⟨by decide, by decide⟩ hL (by omega) (by rw [← es]; exact itv_known n12 ((hS.kw rf).2 (by omega)))⟩⟩)
  have hnone := (hS.kw rf).1 (by omega)
  have hnew : fdn M a K (k + 1) = -1 := by rw [← fdn_un rf]; omega
  have hini : (if wk M a (k + 3) = 5 then k + 4 else nxq (wk M a) 9 (e - (k + 3)) (k + 3)) = i := by
    by_cases c : wk M a (k + 3) = 5
    · rw [if_pos c]
      rcases hv with ⟨-, y⟩ | ⟨y, -⟩
      · omega
      · exact absurd c y
    · rw [if_neg c]
      have n9 := n9 c
      rcases hi with ⟨y, z⟩ | ⟨y, -⟩
      · rw [nxq_no (fun m m1 m2 => n9 m m1 (by omega))]; omega
      · exact nxq_at (by omega) (by omega) y (fun m m1 m2 => n9 m m1 m2)
  have hx9 : var9 (wk M a) (nt M (a + 7)) (nuq M a) (smx M a) N s.1 k e = (if wk M a (k + 3) = 5 then 0 else (vlq (wk M a) (cv9 (wk M a) (nuq M a) (smx M a) s.1) (nt M (a + 7)) 0 0 (k + 3) (nxq (wk M a) 16 N (k + 3))).2.1, if wk M a (k + 3) = 5 then 1 else (vlq (wk M a) (cv9 (wk M a) (nuq M a) (smx M a) s.1) (nt M (a + 7)) 0 0 (nxq (wk M a) 16 N (k + 3) + 1) i).2.1, if wk M a i = 9 then (vlq (wk M a) (cv9 (wk M a) (nuq M a) (smx M a) s.1) (nt M (a + 7)) 0 0 (i + 1) e).2.1 else if wk M a (k + 3) = 5 then 0 else (vlq (wk M a) (cv9 (wk M a) (nuq M a) (smx M a) s.1) (nt M (a + 7)) 0 0 (k + 3) (nxq (wk M a) 16 N (k + 3))).2.1) := by
    unfold var9
    simp only [hini]
  have e1 := fun z => (itv_f (nq := nuq M a) n12 hnone rfl hini z).symm.trans (by rw [es])
  have e2 := fun z y => (itv_w (nq := nuq M a) n12 hnone rfl hini z y).symm.trans (by rw [es])
  have e3 := fun z y => es.symm.trans (itv_ok (nq := nuq M a) n12 hnone rfl hini z y)
  rw [hst] at e3
  rw [show mR M a 10 = g from hL.2.2.2.2.1, g12, show (k : Int) + 3 = ((k + 3 : Nat) : Int) by omega]
  refine ⟨(w.gp hg).1, hL.wd (d := d + 6) (by omega) (fun x hx ix => ⟨ix, hL.1, fun v hv' => ⟨fun z => ⟨w.1.1, ?_⟩, fun z => ?_⟩⟩)⟩
  · have x5 : wk M a (k + 3) ≠ 5 := fun y => by
      rw [if_pos (hx.trans y)] at hv'
      omega
    subst z
    refine hL.io (d := d + 5) (by omega) hie heN (n9 x5) hlast ⟨i32s (by omega) (by omega), hL.1, x_vi91 eγ hx9 h hS h16 hW hnew heN hT hZ (Or.inr ⟨rfl, x5, ?_⟩) hi (fun z => (e1 z).symm) (fun z y => (e2 z y).symm) (fun z y => by rw [e3 z y, if_neg x5])⟩
    rcases hv with ⟨y, -⟩ | ⟨-, j, z1, z2, z3⟩
    · exact absurd y x5
    · have p1 := z1.pr.1
      have p3 := z3.pr.1
      rw [nxq_at (w := wk M a) (x := 16) (f := N) (k := k + 3) (e := j) (by omega) (by omega) z2 (fun m m1 m2 => by
        have := rwd_all z1 m1 m2
        unfold rwd at this
        omega)]
      exact ⟨z1, z2, z3⟩
  · have x5 : wk M a (k + 3) = 5 := by
      split at hv'
      · rename_i y; exact hx.symm.trans y
      · exact absurd hv' z
    have i4 : i = k + 4 := by
      rcases hv with ⟨-, y⟩ | ⟨y, -⟩
      · omega
      · exact absurd x5 y
    have v1 : v = 1 := by rw [if_pos (hx.trans x5)] at hv'; exact hv'
    subst v1
    rw [show (k : Int) + 4 = (i : Int) by omega]
    exact x_vi91 eγ hx9 h hS h16 hW hnew heN hT hZ (Or.inl ⟨rfl, x5, i4⟩) hi (fun z => (e1 z).symm) (fun z y => (e2 z y).symm) (fun z y => by rw [e3 z y, if_pos x5])
end VXD
end
section
/-! The reference's sets, exactly. -/
/-- the fault of one set -/
noncomputable def stf (w pl : Nat → Int) (sm : Nat → Nat → Prop) (nms : List nm9) (p c : Nat) (seen : List Nat) : Int × Int := match fnd9 sm nms (p + 1) with
  | none => (2, pl (p + 1))
  | some e => if e.2.1 ≠ 3 then (2, pl (p + 1)) else if e.1 ∈ seen then (4, pl (p + 1)) else rf9 w pl sm nms 0 e.2.2.1 (p + 4) c
section SVX
variable {sm : Nat → Nat → Prop} {k j : Nat} {nms : List nm9} {e : nm9}
theorem twt8 {P9 : nm9 → Bool} : ∀ (l : List nm9) (j : Nat) (e : nm9), l[j]? = some e → P9 e = false → (∀ (j' : Nat) (e' : nm9), j' < j → l[j']? = some e' → P9 e' = true) → l.takeWhile P9 = l.take j
  | [], j, e, h, _, _ => absurd h (by simp)
  | a :: l, 0, e, h, h1, _ => by
    have : a = e := Option.some.inj h
    subst this
    rw [List.takeWhile_cons, h1]
    rfl
  | a :: l, j + 1, e, h, h1, h2 => by
    have ha := h2 0 a (by omega) rfl
    rw [List.takeWhile_cons, ha, List.take_succ_cons]
    show a :: l.takeWhile P9 = _
    rw [twt8 l j e h h1 (fun j' e' hj z => h2 (j' + 1) e' (by omega) z)]
theorem vix_a8 (h : nms[j]? = some e) (h1 : sm e.1 k) (h2 : ∀ (j' : Nat) (e' : nm9), j' < j → nms[j']? = some e' → ¬ sm e'.1 k) : vix9 sm nms k = vcn (nms.take j) := by
  unfold vix9
  rw [twt8 nms j e h (by simpa using h1) (fun j' e' hj z => by simpa using h2 j' e' hj z)]
end SVX
section STX
variable {G : mG} {d a g R W C T Z T2 T3 Z2 N K : Nat} {M M2 M3 : mM} {E : Eg9} {tg : Int} {nms : List nm9}
/-- which var a name is -/
theorem RSq.vix {k n : Nat} {e : nm9} (rs : RSq M2 a g K nms) (hf : fdn M2 a K k = (n : Int)) (hn : n < K) (he : nms[n]? = some e) (h3 : e.2.1 = 3) : nt M2 (a + 89) n = ((vix9 (smx M2 a) nms k : Nat) : Int) := by
  obtain ⟨e0, z1, z2, z3, z4, z5, z6, z7⟩ := rs.2.1 n hn
  have ee : e0 = e := Option.some.inj (z1.symm.trans he)
  subst ee
  rcases fdn_x (M := M2) (a := a) (K := K) k with ⟨f1, -⟩ | ⟨q, f1, f2, f3, f4⟩
  · rw [hf] at f1; omega
  · have eq : q = n := by rw [hf] at f1; omega
    subst eq
    have h1 : smx M2 a e0.1 k := by
      rw [z2, Int.toNat_natCast] at f3
      exact f3
    rw [z7, if_pos h3, vix_a8 he h1 (fun j' e' hj hj' => ?_)]
    intro y
    obtain ⟨e1, y1, y2, -⟩ := rs.2.1 j' (by omega)
    have e1e : e1 = e' := Option.some.inj (y1.symm.trans hj')
    subst e1e
    have := rs.2.2.1 j' q hj hn
    rw [y2, z2, Int.toNat_natCast, Int.toNat_natCast] at this
    exact this (y.trans h1.symm)
/-- the root of a rule and its words -/
theorem rl_rtw {i j : Nat} {t : Int} {gm : gm9} (hL : Lc M2 a g N T2 K) (g6 : mI M2 g 6 = R) (g12 : mI M2 g 12 = W) (hD : Dg M2 g R W C Z T2 E tg) (h : rlR 0 M2 a g N T2 K T3 t M3) (z : mI M3 a 16 = 0) (hp : ∀ n, n < T2 → pm M3 g n = pm M2 g n) (eγ : E.2 = txg M2 a N nms gm) (rs : RSq M2 a g K nms) (eo : Eo (wk M2 a) 6 i j) (hj : j < N) (hfl : (fl (wk M2 a) (E9 (smx M2 a) nms 0) (nt M2 (a + 7)) 0 i j).1 = 0) (tm : Tmr M2 M3 a g (rvn M2 a K) i j T2 T3) : Rtw E.2 M3 g R W T3 E.1 T2 t i j := by
  have hR := hD.1.1
  have G3 := (rlR.ge (R := R) (W := W) (C := 0) (Z := 0) hL h).2.1 z hp
  rcases h.2.2.2.2.2 with y | ⟨-, ⟨f, ty⟩, -⟩
  · exact absurd z y
  · rw [eγ]
    refine ⟨nms, [], T2, R, f, T3, nrq M2 a (rvn M2 a K), (List.append_nil _).symm, ⟨rfl, Nat.le_refl _, fun r hr q => ?_, ty.mono (fun v hv => ?_), Nat.le_refl _⟩, ⟨eo, hj, hfl⟩, rs.nvo, tm⟩
    · rw [(G3.1.2.1 r hr).1] at q
      obtain ⟨n, f', -, q2, -⟩ := hD.2.2.1 r hr q
      exact q2
    · unfold nmr at hv
      rw [g6, g12] at hv
      rcases hv with ⟨h1, h2, h3, h4⟩ | ⟨-, h1, h2, h3⟩
      · have gt := G3.1.tr (r := v.toNat) hR (by omega)
        rw [show ((v.toNat : Nat) : Int) = v by omega] at gt
        exact ⟨Or.inl ⟨h1, h2, Or.inl trivial⟩, gt⟩
      · exact ⟨Or.inr ⟨trivial, h1, h2⟩, G3.1.tv h1 h2⟩
/-- a rule inside a command -/
theorem x_crule {gm : gm9} {i j : Nat} {tr : Int} (eγ : E.2 = txg M a N nms gm) (c2 : cI M a g N K R W C E tg T2 Z2 M2) (rs : RSq M2 a g K nms) (z2 : mI M2 a 16 = 0) (w0 : Wd M a) (htr : tr = 0 ∨ tr = 1) (hT : T2 + (j - i) ≤ 30000) (eo : Eo (wk M a) 6 i j) (hj : j < N) : Ci G y_MM_rule1 (d + 7) [vr a, vi i, vi j, vi tr, vi 0] M2 (fun x M3 => x = T2 ∧ ∃ T3, T2 < T3 ∧ T3 ≤ T2 + (j - i) ∧ rlR 0 M2 a g N T2 K T3 tr M3 ∧ (mI M3 a 16 = 0 → ∀ n, n < T2 → pm M3 g n = pm M2 g n) ∧ (((rf9 (wk M a) (nt M (a + 7)) (smx M a) nms 0 tr i j).1 ≠ 0 ∧ fpw M3 a (rf9 (wk M a) (nt M (a + 7)) (smx M a) nms 0 tr i j)) ∨ ((rf9 (wk M a) (nt M (a + 7)) (smx M a) nms 0 tr i j).1 = 0 ∧ mI M3 a 16 = 0 ∧ RSq M3 a g K nms ∧ Rtw E.2 M3 g R W T3 E.1 (T2 : Int) tr i j))) := by
  obtain ⟨L2, I2, ⟨g2, g6, g12⟩, z30, D2⟩ := c2
  have hg := L2.2.2.2.2.2.1
  have sx2 := I2.sx w0 hg
  refine (x_MM_rule1 (d := d) (co := 0) (tr := tr) (ur_n (M := M2) (a := a) (g := g) (N := N) (K := K) (co := 0)) ⟨by decide, by decide⟩ htr L2 hT (by rw [sx2.1]; exact eo) hj).mono (fun x M3 q3 => ?_)
  obtain ⟨ex, T3, t1, t2, Rl, qx⟩ := q3
  have ef : rfq M2 a (Ern M2 a g K 0) tr i j = rf9 (wk M a) (nt M (a + 7)) (smx M a) nms 0 tr i j := by
    unfold rfq rf9
    rw [sx2.1, sx2.2.1, rs.en (Or.inl rfl), sx2.sm]
  rw [ef] at qx
  refine ⟨ex, T3, t1, t2, Rl, fun z => ?_, ?_⟩
  · rcases qx with q | ⟨q, -⟩ | ⟨-, -, -, q4⟩
    · exact absurd z2 q
    · exact absurd z q
    · exact q4
  rcases qx with q | ⟨q, qf⟩ | ⟨q, q1, q2, q4⟩
  · exact absurd z2 q
  · exact Or.inl ⟨by rw [← qf.1]; exact q, qf⟩
  · obtain ⟨I3, G3, -⟩ := rlR.ge (R := R) (W := W) (C := C) (Z := Z2) L2 Rl
    refine Or.inr ⟨q1, q, rs.ge L2.2.2.1 g6 g12 (D2 z2).1.1 (G3 q q4) (I3.sx L2.2.1.1.1 hg) ((lst3.rl hg Rl).q K), ?_⟩
    refine rl_rtw (gm := gm) L2 g6 g12 (D2 z2) Rl q q4 (by rw [eγ, sx2.tx9]) rs (by rw [sx2.1]; exact eo) hj ?_ q2
    rw [sx2.1, sx2.2.1, sx2.sm]
    unfold rf9 at q1
    exact (fst9_z q1).1
/-- a list of sets grows: the names stay -/
theorem RSq.add {p : Nat} {v : Int} (rs : RSq M2 a g K nms) (h : Lc M2 a g N T2 K) (g6 : mI M2 g 6 = R) (g12 : mI M2 g 12 = W) (hR : R ≤ 60) (hp : p = g + 30 ∨ p = g + 32 ∨ p = g + 34) (hZ : ((0 : Nat) : Int) ≤ ln M2 p) (t : adQ M2 p v M3) : RSq M3 a g K nms ∧ lst3 M2 a M3 := by
  have hg := h.2.2.2.2.2.1
  have w2 := h.2.1.1.1
  obtain ⟨L3, m, gI, aI, G3⟩ := gadd (R := R) (W := W) (C := 0) (Z := 0) h hp hZ t
  have l3 : lst3 M2 a M3 := lst3.of m (fun i hi z => by omega)
  have I3 : iF M2 a g M3 := iF.mk w2 m (fun q hq => by
    refine ⟨?_, by omega⟩
    rw [hq]
    rcases hp with z | z | z <;> rw [z]
    · exact n30 hg
    · exact n32 hg
    · exact n34 hg) (fun _ z => z.elim) (fun i _ _ _ => by rw [aI])
  exact ⟨rs.ge h.2.2.1 g6 g12 hR G3 (I3.sx w2 hg) (l3.q K), l3⟩
/-- a set in memory, in pure words; a set has been read, exactly -/
def RSs (γ : gW9) (M : mM) (g R W T : Nat) (Er : Nat → Nat) (z : Nat) (q : Nat × Nat × Nat × Nat) : Prop := nt M (g + 30) z = ((q.1 : Nat) : Int) ∧ nt M (g + 32) z = γ.2.1 q.2.2.2 ∧ q.1 < W ∧ Rtw γ M g R W T Er (nt M (g + 34) z) (tn M g (100 + (q.1 : Int))) q.2.1 q.2.2.1
def siX (M : mM) (a g N K R W C : Nat) (E : Eg9) (tg : Int) (p c T2 Z2 Tm : Nat) (nms : List nm9) (v : Nat) (F : Int × Int) (M2 : mM) (x : Int) (M3 : mM) : Prop := siQ M a g N K R W C E tg c T2 Z2 Tm M2 x M3 ∧ ((F.1 ≠ 0 ∧ fpw M3 a F) ∨ (F.1 = 0 ∧ mI M3 a 16 = 0 ∧ RSq M3 a g K nms ∧ ln M3 (g + 30) = (Z2 + 1 : Nat) ∧ nt M3 (g + 30) Z2 = v ∧ (∀ i : Nat, i < Z2 → nt M3 (g + 30) i = nt M2 (g + 30) i) ∧ (∀ q, q < K → nt M3 (a + 89) q = nt M2 (a + 89) q) ∧ ∀ T3, Lc M3 a g N T3 K → RSs E.2 M3 g R W T3 E.1 Z2 (v, p + 4, c, p)))
theorem x_si61 {gm : gm9} {p c v Tm Z0 : Nat} {F : Int × Int} {Q : Int → mM → Prop} (hQ : ∀ (x : Int) (M3 : mM), i32 x ∧ mOk M3 ∧ siX M a g N K R W C E tg p c T2 Z2 Tm nms v F M2 x M3 → Q x M3) (eγ : E.2 = txg M a N nms gm) (w0 : Wd M a) (hc : cI M a g N K R W C E tg T2 Z2 M2) (rs : RSq M2 a g K nms) (z2 : mI M2 a 16 = 0) (hv : v < W) (he : Eo (wk M a) 6 (p + 4) c) (hcN : c < N) (hT2 : T2 ≤ p) (hZ2 : Z2 ≤ 16384) (hTm : c - (p + 4) ≤ Tm) (hF1 : (∃ i : Nat, Z0 ≤ i ∧ i < Z2 ∧ nt M2 (g + 30) i = v) → F = (4, nt M (a + 7) (p + 1))) (hF2 : (∀ i : Nat, Z0 ≤ i → i < Z2 → nt M2 (g + 30) i ≠ v) → F = rf9 (wk M a) (nt M (a + 7)) (smx M a) nms 0 (mI M2 (g + 18) v) (p + 4) c) : ∀ (n i : Nat), i + n = Z2 → Z0 ≤ i → (∀ j : Nat, Z0 ≤ j → j < i → nt M2 (g + 30) j ≠ v) → h_MM_setItem_61 G (d + 7) a p c v i M2 Q := by
  obtain ⟨L2, I2, ⟨g2, g6, g12⟩, ⟨z30, z32, z34⟩, D2⟩ := id hc
  have hN := L2.2.1.1.2.2
  have hg := L2.2.2.2.2.2.1
  have w2 := L2.2.1.1.1
  have hD := D2 z2
  have hB := hD.1
  have hlt := he.pr.1
  have sx2 := I2.sx w0 hg
  have z30' : mI M2 (g + 30) 1 = (Z2 : Int) := z30
  have ip : i32 (p : Int) := i32s (by omega) (by omega)
  have ic : i32 (c : Int) := i32s (by omega) (by omega)
  have ic1 : i32 ((c + 1 : Nat) : Int) := i32s (by omega) (by omega)
  have iv : i32 (v : Int) := i32s (by omega) (by omega)
  have b01 := (hD.2.2.2.1 v hv).2.2.2.2.2
  have v12 : ((0 : Int) ≤ v ∧ (v : Int) < ((12 : Nat) : Int)) := by omega
  have hT3 : T2 + (c - (p + 4)) ≤ 30000 := by omega
  have hZ3 : (Z2 : Int) ≤ 32768 := by omega
  have p1N : p + 1 < N := by omega
  have pN : p < N := by omega
  have iT : i32 (T2 : Int) := i32s (by omega) (by omega)
  intro n
  induction n with
  | zero =>
    intro i hi hi0 hno
    have ei : i = Z2 := by omega
    subst ei
    have eF := hF2 hno
    refine k_MM_setItem_61 L2.1 ip ic iv (i32s (by omega) (by omega)) ?_
    rw [show mR M2 a 10 = g from L2.2.2.2.2.1, show mR M2 g 27 = g + 30 from (w2.gp hg).2.2.1.2.2.2.2.2.2.2.2.2.2.2.2.1, show mR M2 g 13 = g + 18 from (w2.gp hg).2.2.1.1, z30', Int.toNat_natCast, show (p : Int) + 4 = ((p + 4 : Nat) : Int) by omega]
    refine ⟨w2.1.1, (w2.gp hg).1, (w2.nu (n30 hg)).1, fun _ => ⟨(w2.gp hg).2.2.2.2.1.1.1, by rw [(w2.gp hg).2.2.2.2.1.1.2]; exact v12, ?_⟩, fun q => absurd (Int.le_refl _) q⟩
    refine (x_crule (d := d) eγ hc rs z2 w0 b01 hT3 he hcN).mono (fun x M3 q3 => ?_)
    obtain ⟨ex, T3, t1, t2, Rl, hp, qx⟩ := q3
    rw [← eF] at qx
    subst ex
    have L3 := Rl.2.1
    have w3 := L3.2.1.1.1
    have g3 : mI M3 g = mI M2 g := Rl.2.2.2.1
    obtain ⟨-, G3, y30, y32, y34⟩ := rlR.ge (R := R) (W := W) (C := C + 1) (Z := i) L2 Rl
    rw [show mR M3 a 10 = g from L3.2.2.2.2.1, show mR M3 g 27 = g + 30 from (w3.gp hg).2.2.1.2.2.2.2.2.2.2.2.2.2.2.2.1]
    refine ⟨iT, L3.1, w3.1.1, (w3.gp hg).1, (w3.nu (n30 hg)).1, (s_MN_add iv L3.1 (w3.nu (n30 hg)) (by rw [y30, z30]; exact hZ3)).mono (fun M4 a4 => ?_)⟩
    obtain ⟨L4, m4, g4, i4, G4⟩ := gadd (R := R) (W := W) (C := C + 1) (Z := i) L3 (Or.inl rfl) (by rw [y30, z30]; exact Int.le_refl _) a4
    have w4 := L4.2.1.1.1
    have e32 : ln M4 (g + 32) = (i : Int) := by rw [(m4.lst (n32 hg) (by omega)).1, y32, z32]
    rw [show mR M4 a 10 = g from L4.2.2.2.2.1, show mR M4 g 28 = g + 32 from (w4.gp hg).2.2.1.2.2.2.2.2.2.2.2.2.2.2.2.2.1]
    refine ⟨L4.1, w4.1.1, (w4.gp hg).1, (s_MM_place0 (d := d + 6) L4.1 L4.2.1 pN).mono (fun y M5 h5 => ?_)⟩
    obtain ⟨e5, hy⟩ := h5
    subst e5
    have hy32 : i32 y := by rw [hy]; exact (L4.1 _ _).1
    refine ⟨hy32, L4.1, (w4.nu (n32 hg)).1, (s_MN_add hy32 L4.1 (w4.nu (n32 hg)) (by rw [e32]; exact hZ3)).mono (fun M6 a6 => ?_)⟩
    obtain ⟨L6, m6, g6', i6, G6⟩ := gadd (R := R) (W := W) (C := C + 1) (Z := i) L4 (Or.inr (Or.inl rfl)) (by rw [e32]; exact Int.le_refl _) a6
    have w6 := L6.2.1.1.1
    have e34 : ln M6 (g + 34) = (i : Int) := by rw [(m6.lst (n34 hg) (by omega)).1, (m4.lst (n34 hg) (by omega)).1, y34, z34]
    rw [show mR M6 a 10 = g from L6.2.2.2.2.1, show mR M6 g 29 = g + 34 from (w6.gp hg).2.2.1.2.2.2.2.2.2.2.2.2.2.2.2.2.2]
    refine ⟨L6.1, w6.1.1, (w6.gp hg).1, (w6.nu (n34 hg)).1, (s_MN_add iT L6.1 (w6.nu (n34 hg)) (by rw [e34]; exact hZ3)).mono (fun M7 a7 => ?_)⟩
    have key := si_add (c := c) (Tm := Tm) hc z2 hv t1 (by omega) Rl hp a4 a6 a7
    obtain ⟨L7, m7, g7, i7, G7⟩ := gadd (R := R) (W := W) (C := C + 1) (Z := i) L6 (Or.inr (Or.inr rfl)) (by rw [e34]; exact Int.le_refl _) a7
    have aI : mI M7 a = mI M3 a := by rw [i7, i6, i4]
    rw [show (c : Int) + 1 = ((c + 1 : Nat) : Int) by omega]
    refine ⟨a7.1, hQ _ _ ⟨ic1, a7.1, key, ?_⟩⟩
    rcases qx with ⟨u1, u2⟩ | ⟨u1, u2, u3, u9⟩
    · refine Or.inl ⟨u1, ?_⟩
      unfold fpw
      rw [aI]
      exact u2
    · have r3 : mI M3 g 6 = R := by rw [g3]; exact g6
      have r3' : mI M3 g 12 = W := by rw [g3]; exact g12
      obtain ⟨rs4, l4⟩ := u3.add L3 r3 r3' hB.1 (Or.inl rfl) (by rw [y30, z30]; omega) a4
      obtain ⟨rs6, l6⟩ := rs4.add L4 (by rw [g4]; exact r3) (by rw [g4]; exact r3') hB.1 (Or.inr (Or.inl rfl)) (by rw [e32]; omega) a6
      obtain ⟨rs7, l7⟩ := rs6.add L6 (by rw [g6', g4]; exact r3) (by rw [g6', g4]; exact r3') hB.1 (Or.inr (Or.inr rfl)) (by rw [e34]; omega) a7
      have l37 := ((lst3.rl hg Rl).trans l4).trans (l6.trans l7)
      refine Or.inr ⟨u1, by rw [aI]; exact u2, rs7, ?_, ?_, fun j hj => ?_, fun q hq => (l37.q K q hq).2.2, fun T9 L9 => ?_⟩
      · rw [(m7.lst (n30 hg) (by omega)).1, (m6.lst (n30 hg) (by omega)).1, a4.2.2.2.1, y30, z30]; omega
      · rw [(m7.lst (n30 hg) (by omega)).2.1, (m6.lst (n30 hg) (by omega)).2.1]
        have := a4.2.2.2.2.2.1
        rw [y30, z30, Int.toNat_natCast] at this
        exact this
      · rw [(m7.lst (n30 hg) (by omega)).2.1, (m6.lst (n30 hg) (by omega)).2.1, a4.2.2.2.2.1 j (by rw [y30, z30]; omega)]
        exact ((G3 u2 (hp u2)).2.2.2.2 j hj).1
      · have eT : T9 = T3 := by
          have q1 := L9.2.2.2.1 (g + 1) (by omega)
          have q2 := L7.2.2.2.1 (g + 1) (by omega)
          omega
        subst eT
        have G37 := (G4.trans G6).trans G7
        have t30 : nt M7 (g + 30) i = (v : Int) := by
          rw [(m7.lst (n30 hg) (by omega)).2.1, (m6.lst (n30 hg) (by omega)).2.1]
          have := a4.2.2.2.2.2.1
          rw [y30, z30, Int.toNat_natCast] at this
          exact this
        have t32 : nt M7 (g + 32) i = y := by
          rw [(m7.lst (n32 hg) (by omega)).2.1]
          have := a6.2.2.2.2.2.1
          rw [e32, Int.toNat_natCast] at this
          exact this
        have t34 : nt M7 (g + 34) i = (T2 : Int) := by
          have := a7.2.2.2.2.2.1
          rw [e34, Int.toNat_natCast] at this
          exact this
        have p7 : nt M5 (a + 7) p = nt M (a + 7) p := by
          rw [(m4.lst n7 (by omega)).2.1, (((rlR.ge (R := R) (W := W) (C := C) (Z := i) L2 Rl).1).sx w2 hg).2.1, sx2.2.1]
        refine ⟨t30, ?_, hv, ?_⟩
        · rw [t32, hy, p7, eγ]
          rfl
        · have e18 : tn M7 g (100 + (v : Int)) = mI M2 (g + 18) v := by
            have k1 := ((G3 u2 (hp u2)).trans (G37.down (Nat.le_refl _) (Nat.le_refl _) (Nat.le_refl _) (Nat.le_refl _) (Nat.le_of_lt t1))).1.tv (v := 100 + (v : Int)) (by omega) (by omega)
            rw [k1]
            unfold tn
            rw [if_pos (show (100 : Int) ≤ 100 + (v : Int) by omega), show (100 + (v : Int) - 100).toNat = v by omega]
            rcases b01 with y | y <;> rw [y] <;> rfl
          show Rtw E.2 M7 g R W T9 E.1 (nt M7 (g + 34) i) (tn M7 g (100 + (v : Int))) (p + 4) c
          rw [t34, e18]
          exact u9.gn G37.1 hB.1
  | succ n ih =>
    intro i hi hi0 hno
    have nx := fun h => ih (i + 1) (by omega) (by omega) h
    refine k_MM_setItem_61 L2.1 ip ic iv (i32s (by omega) (by omega)) ?_
    rw [show mR M2 a 10 = g from L2.2.2.2.2.1, show mR M2 g 27 = g + 30 from (w2.gp hg).2.2.1.2.2.2.2.2.2.2.2.2.2.2.2.1, z30', show (p : Int) + 1 = ((p + 1 : Nat) : Int) by omega]
    refine ⟨w2.1.1, (w2.gp hg).1, (w2.nu (n30 hg)).1, fun q => absurd q (by omega), fun _ => (s_MN_at L2.1 (w2.nu (n30 hg)) (by rw [z30]; omega)).mono (fun z M4 h4 => ?_)⟩
    obtain ⟨e4, hz⟩ := h4
    subst e4
    refine ⟨by rw [hz]; exact (L2.1 _ _).1, L2.1, fun q => ⟨w2.1.1, (s_MM_place0 (d := d + 6) L2.1 L2.2.1 p1N).mono (fun y M5 h5 => ?_)⟩, fun q => ?_⟩
    · obtain ⟨e5, hy⟩ := h5
      subst e5
      have hy32 : i32 y := by rw [hy]; exact (L2.1 _ _).1
      refine ⟨hy32, L2.1, w2.1.1, (s_MM_stop ⟨by decide, by decide⟩ hy32 L2.1 w2).mono (fun M6 h6 => ⟨h6.1.1, hQ _ _ ⟨ic, h6.1.1, si_stop hc (by decide) h6, Or.inl ?_⟩⟩)⟩
      rw [hF1 ⟨i, hi0, by omega, by rw [← hz]; exact q⟩]
      exact ⟨by simp, h6.2.1, by rw [h6.2.2.1, hy, sx2.2.1]⟩
    · have nx := nx (fun j j1 j2 => by
        by_cases c : j = i
        · subst c; rw [← hz]; exact q
        · exact hno j j1 (by omega))
      rw [show ((i + 1 : Nat) : Int) = (i : Int) + 1 by omega] at nx
      exact nx
end STX
end
