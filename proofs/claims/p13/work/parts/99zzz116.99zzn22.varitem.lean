/-! The reference's vars, exactly. -/
section VXP
variable {w pl nq : Nat → Int} {sm : Nat → Nat → Prop} {nms : List nm9} {k e rg ini N : Nat} {s : st9}
theorem rf9_fl {co tr : Int} {i j : Nat} (h : (rf9 w pl sm nms co tr i j).1 = 0) : (fl w (E9 sm nms co) pl 0 i j).1 = 0 := by
  unfold rf9 at h
  exact (fst9_z h).1
theorem vf9_b (h5 : w (k + 3) = 5) : vf9 w pl sm nms k e rg ini = fst9 (if w ini = 9 then rf9 w pl sm nms 1 1 (ini + 1) e else (0, 0)) (0, 0) := by
  unfold vf9
  rw [if_pos h5, if_pos h5, fst9_r (x := ((0 : Int), (0 : Int))) rfl]
theorem vw9_b (h5 : w (k + 3) = 5) : vw9 w pl nq sm nms k e rg ini = if w ini = 9 then wh9 (vlq w (cv9 w nq sm nms) pl 0 0 (ini + 1) e) (pl (ini + 1)) else (0, 0) := by
  unfold vw9
  simp only []
  rw [if_pos h5, fst9_r (x := ((0 : Int), (0 : Int))) rfl, if_pos h5]
theorem vf9_n (h5 : w (k + 3) ≠ 5) : vf9 w pl sm nms k e rg ini = fst9 (fst9 (fst9 (rf9 w pl sm nms 1 0 (k + 3) rg) (rf9 w pl sm nms 1 0 (rg + 1) ini)) (if w ini = 9 then rf9 w pl sm nms 1 0 (ini + 1) e else (0, 0))) (0, 0) := by
  unfold vf9
  rw [if_neg h5, if_neg h5]
theorem vw9_n (h5 : w (k + 3) ≠ 5) : vw9 w pl nq sm nms k e rg ini = fst9 (rgf (vlq w (cv9 w nq sm nms) pl 0 0 (k + 3) rg) (vlq w (cv9 w nq sm nms) pl 0 0 (rg + 1) ini) (pl (k + 3)) (pl (rg + 1))) (if w ini = 9 then bef 0 (vlq w (cv9 w nq sm nms) pl 0 0 (k + 3) rg).2.1 (vlq w (cv9 w nq sm nms) pl 0 0 (rg + 1) ini).2.1 (pl (ini + 1)) (vlq w (cv9 w nq sm nms) pl 0 0 (ini + 1) e) else (0, 0)) := by
  unfold vw9 rgf bef
  simp only []
  rw [if_neg h5, if_neg h5, if_neg (show ¬ ((0 : Int) ≠ 0) by decide)]
theorem itv_many (h : s.2.1.1 = 12) : (itv w pl nq sm N k e s).2.2 = (5, pl k) := by
  unfold itv
  rw [if_pos h]
theorem itv_known (h : s.2.1.1 ≠ 12) (h2 : fnd9 sm s.1 (k + 1) ≠ none) : (itv w pl nq sm N k e s).2.2 = (2, pl (k + 1)) := by
  unfold itv
  rw [if_neg h, if_pos h2]
theorem itv_f (h : s.2.1.1 ≠ 12) (h2 : fnd9 sm s.1 (k + 1) = none) (hr : nxq w 16 N (k + 3) = rg) (hi : (if w (k + 3) = 5 then k + 4 else nxq w 9 (e - (k + 3)) (k + 3)) = ini) (h3 : (vf9 w pl sm s.1 k e rg ini).1 ≠ 0) : (itv w pl nq sm N k e s).2.2 = vf9 w pl sm s.1 k e rg ini := by
  unfold itv
  simp only [hr, hi]
  rw [if_neg h, if_neg (fun z => z h2), if_pos h3]
theorem itv_w (h : s.2.1.1 ≠ 12) (h2 : fnd9 sm s.1 (k + 1) = none) (hr : nxq w 16 N (k + 3) = rg) (hi : (if w (k + 3) = 5 then k + 4 else nxq w 9 (e - (k + 3)) (k + 3)) = ini) (h3 : (vf9 w pl sm s.1 k e rg ini).1 = 0) (h4 : (vw9 w pl nq sm s.1 k e rg ini).1 ≠ 0) : (itv w pl nq sm N k e s).2.2 = vw9 w pl nq sm s.1 k e rg ini := by
  unfold itv
  simp only [hr, hi]
  rw [if_neg h, if_neg (fun z => z h2), if_neg (fun z => z h3), if_pos h4]
theorem itv_ok (h : s.2.1.1 ≠ 12) (h2 : fnd9 sm s.1 (k + 1) = none) (hr : nxq w 16 N (k + 3) = rg) (hi : (if w (k + 3) = 5 then k + 4 else nxq w 9 (e - (k + 3)) (k + 3)) = ini) (h3 : (vf9 w pl sm s.1 k e rg ini).1 = 0) (h4 : (vw9 w pl nq sm s.1 k e rg ini).1 = 0) : itv w pl nq sm N k e s = (s.1 ++ [(k + 1, 3, (if w (k + 3) = 5 then 1 else 0), (0, 0, 1))], (s.2.1.1 + 1, s.2.1.2), (0, 0)) := by
  unfold itv
  simp only [hr, hi]
  rw [if_neg h, if_neg (fun z => z h2), if_neg (fun z => z h3), if_neg (fun z => z h4)]
end VXP
section VXD
variable {G : mG} {d a g R W C Z T T2 N K : Nat} {M M2 : mM} {E : Eg9} {tg : Int} {s s' : st9}
theorem x_vi185 {gm : gm9} {x9 : Int × Int × Int} {k e i j lo hi : Nat} {l6 : Int} {V Vl Vh : vrs} (eγ : E.2 = txg M a N s.1 gm) (hx9 : x9 = (Vl.2.1, Vh.2.1, if l6 ≠ 0 then V.2.1 else Vl.2.1)) (h : Df M a g N T K R W C Z E tg) (hS : RSq M a g K s.1) (hW : W < 12) (hk : k + 3 < N) (hie : i ≤ e) (heN : e < N) (hj : j + 1 < N) (hki : k ≤ i) (hZ : Z ≤ k) (v2 : vI M a g N T K R W C Z 0 T2 M2) (l2 : lst3 M a M2) (hnew : fdn M a K (k + 1) = -1) (hT2 : T2 ≤ i) (c6 : l6 = 0 ∨ l6 = 1) (z16 : mI M2 a 16 = 0) (cl : Ctx M2 a g R W T2 (nrq M a (rvn M a K)) (k + 3) j lo 0) (ch : Ctx M2 a g R W T2 (nrq M a (rvn M a K)) (j + 1) i hi 0) (fl1 : (fl (wk M a) (E9 (smx M a) s.1 1) (nt M (a + 7)) 0 (k + 3) j).1 = 0) (fl2 : (fl (wk M a) (E9 (smx M a) s.1 1) (nt M (a + 7)) 0 (j + 1) i).1 = 0) (h9 : l6 ≠ 0 → Eo (wk M a) 6 (i + 1) e) (hV : V = vlq (wk M a) (cv9 (wk M a) (nuq M a) (smx M a) s.1) (nt M (a + 7)) 0 0 (i + 1) e) (hVl : Vl = vlq (wk M a) (cv9 (wk M a) (nuq M a) (smx M a) s.1) (nt M (a + 7)) 0 0 (k + 3) j) (hVh : Vh = vlq (wk M a) (cv9 (wk M a) (nuq M a) (smx M a) s.1) (nt M (a + 7)) 0 0 (j + 1) i) (gf : l6 ≠ 0 → (rf9 (wk M a) (nt M (a + 7)) (smx M a) s.1 1 0 (i + 1) e).1 ≠ 0 → s'.2.2 = (rf9 (wk M a) (nt M (a + 7)) (smx M a) s.1 1 0 (i + 1) e)) (fr : (l6 ≠ 0 → (rf9 (wk M a) (nt M (a + 7)) (smx M a) s.1 1 0 (i + 1) e).1 = 0) → (rgf Vl Vh (nt M (a + 7) (k + 3)) (nt M (a + 7) (j + 1))).1 ≠ 0 → s'.2.2 = (rgf Vl Vh (nt M (a + 7) (k + 3)) (nt M (a + 7) (j + 1)))) (flb : (l6 ≠ 0 → (rf9 (wk M a) (nt M (a + 7)) (smx M a) s.1 1 0 (i + 1) e).1 = 0) → (rgf Vl Vh (nt M (a + 7) (k + 3)) (nt M (a + 7) (j + 1))).1 = 0 → l6 ≠ 0 → (bef 0 Vl.2.1 Vh.2.1 (nt M (a + 7) (i + 1)) V).1 ≠ 0 → s'.2.2 = (bef 0 Vl.2.1 Vh.2.1 (nt M (a + 7) (i + 1)) V)) (good : (l6 ≠ 0 → (rf9 (wk M a) (nt M (a + 7)) (smx M a) s.1 1 0 (i + 1) e).1 = 0) → (rgf Vl Vh (nt M (a + 7) (k + 3)) (nt M (a + 7) (j + 1))).1 = 0 → (l6 ≠ 0 → (bef 0 Vl.2.1 Vh.2.1 (nt M (a + 7) (i + 1)) V).1 = 0) → s' = (s.1 ++ [(k + 1, 3, 0, (0, 0, 1))], (W + 1, R, C, if tg = -1 then 0 else 1), (0, 0))) : h_MM_varItem_185 G (d + 7) a k e W 0 i l6 lo j hi M2 (fun M' => mOk M' ∧ itX M a g N (e + 1) s' (gm.1 ++ [x9], gm.2) M') := by
  have hN := h.1.2.1.1.2.2
  have hg := h.1.2.2.2.2.2.1
  have hR := h.2.2.2.2.1.1
  have L2 := v2.1
  have w2 := L2.2.1.1.1
  have iz : i32 (0 : Int) := ⟨by decide, by decide⟩
  have im : i32 (-1 : Int) := ⟨by decide, by decide⟩
  have ik : i32 (k : Int) := i32s (by omega) (by omega)
  have iW : i32 (W : Int) := i32s (by omega) (by omega)
  have ii : i32 (i : Int) := i32s (by omega) (by omega)
  have ij : i32 (j : Int) := i32s (by omega) (by omega)
  have ie : i32 (e : Int) := i32s (by omega) (by omega)
  have i6 : i32 l6 := i32s (by omega) (by omega)
  have ilo : i32 (lo : Int) := by
    obtain ⟨-, f, e', t, t', -⟩ := cl
    have := t.tn.lt
    exact i32s (by omega) (by omega)
  have ihi : i32 (hi : Int) := by
    obtain ⟨-, f, e', t, t', -⟩ := ch
    have := t.tn.lt
    exact i32s (by omega) (by omega)
  have hiN : i < N := by omega
  refine k_MM_varItem_185 L2.1 ik ie iW iz ii i6 ilo ij ihi ⟨fun _ => w2.1.1, fun q => ?_, fun q => ⟨w2.1.1, ?_⟩⟩
  · have z6 : l6 = 0 := q.elim (fun z => z) (fun z => absurd z16 z)
    have n6 : l6 ≠ 0 → (rf9 (wk M a) (nt M (a + 7)) (smx M a) s.1 1 0 (i + 1) e).1 = 0 := fun z => absurd z6 z
    exact x_vi215n (e9 := e) eγ hx9 h hS hW hk hiN (fun z => absurd z6 z) hj v2 l2 hnew (by omega) (by omega) (by omega) i6 im z16 cl ch fl1 fl2 (fun z => absurd z6 z) (fun z => absurd z6 z) hV hVl hVh (fr n6) (flb n6) (good n6)
  · have n6 : l6 ≠ 0 := fun z => q (Or.inl z)
    have eo := h9 n6
    have hlt := eo.pr.1
    rw [show (i : Int) + 1 = ((i + 1 : Nat) : Int) by omega]
    refine x_vrule (d := d) h hS v2 l2 z16 (Or.inl rfl) (by omega) eo heN (fun M3 T3 L3 I3 z3 rz rf => ?_) (fun M3 T3 t1 t2 v3 l3 z3 rz ct f3 => ?_)
    · refine ⟨i32s (by omega) (by omega), L3.1, x_vi215x L3 I3 z3 ?_ ik iW iz ii i6 ilo ihi ij (i32s (by omega) (by omega))⟩
      rw [gf n6 rz]
      exact ⟨rz, rf⟩
    · obtain ⟨G3, sx3, p3⟩ := f3
      have hT := Nat.le_of_lt t1
      exact ⟨i32s (by omega) (by omega), v3.1.1, x_vi215n (e9 := e) eγ hx9 h hS hW hk hiN (fun _ => by omega) hj v3 l3 hnew (by omega) (by omega) (by omega) i6 (i32s (by omega) (by omega)) z3 ((cl.gn G3.1 hR sx3 p3).up hT) ((ch.gn G3.1 hR sx3 p3).up hT) fl1 fl2 (fun _ => ⟨T2, rfl, ct⟩) (fun _ => ⟨eo, rf9_fl rz⟩) hV hVl hVh (fr (fun _ => rz)) (flb (fun _ => rz)) (good (fun _ => rz))⟩
theorem x_vi91 {gm : gm9} {x9 : Int × Int × Int} {k e i j : Nat} {bl : Int} (eγ : E.2 = txg M a N s.1 gm) (hx9 : x9 = (if wk M a (k + 3) = 5 then 0 else (vlq (wk M a) (cv9 (wk M a) (nuq M a) (smx M a) s.1) (nt M (a + 7)) 0 0 (k + 3) j).2.1, if wk M a (k + 3) = 5 then 1 else (vlq (wk M a) (cv9 (wk M a) (nuq M a) (smx M a) s.1) (nt M (a + 7)) 0 0 (j + 1) i).2.1, if wk M a i = 9 then (vlq (wk M a) (cv9 (wk M a) (nuq M a) (smx M a) s.1) (nt M (a + 7)) 0 0 (i + 1) e).2.1 else if wk M a (k + 3) = 5 then 0 else (vlq (wk M a) (cv9 (wk M a) (nuq M a) (smx M a) s.1) (nt M (a + 7)) 0 0 (k + 3) j).2.1)) (h : Df M a g N T K R W C Z E tg) (hS : RSq M a g K s.1) (h16 : mI M a 16 = 0) (hW : W < 12) (hnew : fdn M a K (k + 1) = -1) (heN : e < N) (hT : T ≤ k) (hZ : Z ≤ k) (hb : (bl = 1 ∧ wk M a (k + 3) = 5 ∧ i = k + 4) ∨ (bl = 0 ∧ wk M a (k + 3) ≠ 5 ∧ Eo (wk M a) 6 (k + 3) j ∧ wk M a j = 16 ∧ Eo (wk M a) 6 (j + 1) i)) (hi : (wk M a i ≠ 9 ∧ i = e) ∨ (wk M a i = 9 ∧ Eo (wk M a) 6 (i + 1) e)) (e1 : (vf9 (wk M a) (nt M (a + 7)) (smx M a) s.1 k e j i).1 ≠ 0 → s'.2.2 = (vf9 (wk M a) (nt M (a + 7)) (smx M a) s.1 k e j i)) (e2 : (vf9 (wk M a) (nt M (a + 7)) (smx M a) s.1 k e j i).1 = 0 → (vw9 (wk M a) (nt M (a + 7)) (nuq M a) (smx M a) s.1 k e j i).1 ≠ 0 → s'.2.2 = (vw9 (wk M a) (nt M (a + 7)) (nuq M a) (smx M a) s.1 k e j i)) (e3 : (vf9 (wk M a) (nt M (a + 7)) (smx M a) s.1 k e j i).1 = 0 → (vw9 (wk M a) (nt M (a + 7)) (nuq M a) (smx M a) s.1 k e j i).1 = 0 → s' = (s.1 ++ [(k + 1, 3, bl, (0, 0, 1))], (W + 1, R, C, if tg = -1 then 0 else 1), (0, 0))) : h_MM_varItem_91 G (d + 7) a k e W bl i M (fun M' => mOk M' ∧ itX M a g N (e + 1) s' (gm.1 ++ [x9], gm.2) M') := by
  have hN := h.1.2.1.1.2.2
  have hg := h.1.2.2.2.2.2.1
  have hR := h.2.2.2.2.1.1
  have hL := h.1
  have w := hL.2.1.1.1
  have hie : i ≤ e := by
    rcases hi with ⟨-, z⟩ | ⟨-, z⟩
    · omega
    · have := z.pr.1; omega
  have hki : k + 4 ≤ i := by
    rcases hb with ⟨-, -, z⟩ | ⟨-, -, z1, -, z2⟩
    · omega
    · have := z1.pr.1; have := z2.pr.1; omega
  have h9 : wk M a i = 9 → Eo (wk M a) 6 (i + 1) e := fun z => by
    rcases hi with ⟨y, -⟩ | ⟨-, y⟩
    · exact absurd z y
    · exact y
  have bl01 : bl = 0 ∨ bl = 1 := by
    rcases hb with ⟨z, -⟩ | ⟨z, -⟩
    · exact Or.inr z
    · exact Or.inl z
  have iz : i32 (0 : Int) := ⟨by decide, by decide⟩
  have im : i32 (-1 : Int) := ⟨by decide, by decide⟩
  have ik : i32 (k : Int) := i32s (by omega) (by omega)
  have iW : i32 (W : Int) := i32s (by omega) (by omega)
  have ii : i32 (i : Int) := i32s (by omega) (by omega)
  have ie : i32 (e : Int) := i32s (by omega) (by omega)
  have ib : i32 bl := by rcases bl01 with z | z <;> rw [z] <;> exact ⟨by decide, by decide⟩
  have W12 : ((0 : Int) ≤ W ∧ (W : Int) < ((12 : Nat) : Int)) := by omega
  have hiN : i < N := by omega
  have hkN : k + 3 < N := by omega
  have hZe : Z ≤ e + 1 := by omega
  clear hi
  refine k_MM_varItem_91 hL.1 ik ie iW ib ii ⟨w.1.1, hL.wd (d := d + 6) hiN (fun x hx ix => ⟨ix, hL.1, fun v hv => ⟨w.1.1, ?_⟩⟩)⟩
  rw [show mR M a 10 = g from hL.2.2.2.2.1, show mR M g 13 = g + 18 from (w.gp hg).2.2.1.1, Int.toNat_natCast]
  refine ⟨(w.gp hg).1, (w.gp hg).2.2.2.2.1.1.1, by rw [(w.gp hg).2.2.2.2.1.1.2]; exact W12, bl01, fun M2 e0 => ?_⟩
  obtain ⟨v2, a2⟩ := vI.new h bl01 e0
  have l2 : lst3 M a M2 := (lst3.ui (x := 0) (i := 18) hL ib (by omega) (by decide) (by decide) e0).1
  have L2 := v2.1
  have w2 := L2.2.1.1.1
  have wkE := v2.2.1.wk hg
  have z2 : mI M2 a 16 = 0 := by rw [a2]; exact h16
  have v01 : v = 0 ∨ v = 1 := by split at hv <;> omega
  have v9 : v ≠ 0 → Eo (wk M a) 6 (i + 1) e := fun z => h9 (by
    split at hv
    · rename_i y; exact hx.symm.trans y
    · exact absurd hv z)
  have w9 : v ≠ 0 → wk M a i = 9 := fun z => by
    split at hv
    · rename_i y; exact hx.symm.trans y
    · exact absurd hv z
  have w0 : v = 0 → wk M a i ≠ 9 := fun z y => by
    rw [if_pos (hx.trans y)] at hv
    omega
  have i6 : i32 v := by rcases v01 with z | z <;> rw [z] <;> exact ⟨by decide, by decide⟩
  clear hv hx h9 e0
  rcases hb with ⟨z, h5, -⟩ | ⟨z, h5, j1, j2, j3⟩
  · subst z
    refine ⟨fun y => absurd y (by decide), fun _ => ⟨fun q => ?_, fun q => ?_⟩⟩
    · have z6 : v = 0 := q.elim (fun z => z) (fun z => absurd z2 z)
      have n9 := w0 z6
      exact x_vi215b (e9 := e) eγ (by rw [hx9, if_pos h5, if_pos h5, if_neg n9, if_neg (fun u => u z6)]) h hS hW hkN hiN (fun z => absurd z6 z) v2 l2 hnew (by omega) hZe (by omega) i6 im z2 (fun z => absurd z6 z) (fun z => absurd z6 z) rfl (fun z => absurd z6 z) (fun _ => e3 (by rw [vf9_b h5, if_neg n9]; rfl) (by rw [vw9_b h5, if_neg n9]))
    · have n6 : v ≠ 0 := fun z => q (Or.inl z)
      have y9 := w9 n6
      have eo := v9 n6
      have hlt := eo.pr.1
      have vb : (vf9 (wk M a) (nt M (a + 7)) (smx M a) s.1 k e j i) = fst9 (rf9 (wk M a) (nt M (a + 7)) (smx M a) s.1 1 1 (i + 1) e) (0, 0) := by rw [vf9_b h5, if_pos y9]
      have vc : (vw9 (wk M a) (nt M (a + 7)) (nuq M a) (smx M a) s.1 k e j i) = wh9 (vlq (wk M a) (cv9 (wk M a) (nuq M a) (smx M a) s.1) (nt M (a + 7)) 0 0 (i + 1) e) (nt M (a + 7) (i + 1)) := by rw [vw9_b h5, if_pos y9]
      rw [show (i : Int) + 1 = ((i + 1 : Nat) : Int) by omega]
      refine x_vrule (d := d) h hS v2 l2 z2 (Or.inr rfl) (by omega) eo heN (fun M3 T3 L3 I3 z3 rz rf => ?_) (fun M3 T3 t1 t2 v3 l3 z3 rz ct f3 => ?_)
      · refine ⟨i32s (by omega) (by omega), L3.1, x_vi215x L3 I3 z3 ?_ ik iW ⟨by decide, by decide⟩ ii i6 im im (i32s (by omega) (by omega)) (i32s (by omega) (by omega))⟩
        rw [e1 (by rw [vb, fst9_l rz]; exact rz), vb, fst9_l rz]
        exact ⟨rz, rf⟩
      · have vz : (vf9 (wk M a) (nt M (a + 7)) (smx M a) s.1 k e j i).1 = 0 := by rw [vb, fst9_r rz]
        rw [vc] at e2 e3
        exact ⟨i32s (by omega) (by omega), v3.1.1, x_vi215b (e9 := e) eγ (by rw [hx9, if_pos h5, if_pos h5, if_pos y9, if_pos n6]) h hS hW hkN hiN (fun _ => by omega) v3 l3 hnew (by omega) hZe (by omega) i6 (i32s (by omega) (by omega)) z3 (fun _ => ⟨T, rfl, ct⟩) (fun _ => ⟨eo, rf9_fl rz⟩) rfl (fun _ => e2 vz) (fun z => e3 vz (z n6))⟩
  · subst z
    have p1 := j1.pr.1
    have p3 := j3.pr.1
    have hjN : j < N := by omega
    rw [vf9_n h5] at e1 e2 e3
    rw [vw9_n h5] at e2 e3
    refine ⟨fun _ => ?_, fun y => absurd rfl y⟩
    rw [show (k : Int) + 3 = ((k + 3 : Nat) : Int) by omega]
    refine L2.ub (d := d + 5) (by omega) (by rw [wkE]; exact j1.pr.2.2.2.2.1) hjN (by rw [wkE]; exact j2) (Or.inl rfl) ⟨i32s (by omega) (by omega), L2.1, w2.1.1, ?_⟩
    have iT : i32 (T : Int) := i32s (by omega) (by omega)
    have ij : i32 (j : Int) := i32s (by omega) (by omega)
    refine x_vrule (d := d) h hS v2 l2 z2 (Or.inl rfl) (by omega) j1 hjN (fun M3 T3 L3 I3 z3 rz rf => ?_) (fun M3 T3 t1 t2 v3 l3 z3 rz cl f3 => ?_)
    · refine ⟨iT, L3.1, L3.2.1.1.1.1.1, fun z => absurd z z3, fun _ => x_vi185x L3 I3 z3 ?_ ik ie iW iz ii i6 iT ij im⟩
      rw [fst9_l (x := rf9 (wk M a) (nt M (a + 7)) (smx M a) s.1 1 0 (k + 3) j) rz, fst9_l rz, fst9_l rz] at e1
      rw [e1 rz]
      exact ⟨rz, rf⟩
    rw [fst9_r (x := rf9 (wk M a) (nt M (a + 7)) (smx M a) s.1 1 0 (k + 3) j) rz] at e1 e2 e3
    have L3 := v3.1
    refine ⟨iT, L3.1, L3.2.1.1.1.1.1, fun _ => ?_, fun z => absurd z3 z⟩
    rw [show (j : Int) + 1 = ((j + 1 : Nat) : Int) by omega]
    have iT3 : i32 (T3 : Int) := i32s (by omega) (by omega)
    refine x_vrule (d := d) h hS v3 l3 z3 (Or.inl rfl) (by omega) j3 hiN (fun M4 T4 L4 I4 z4 ry rf => ?_) (fun M4 T4 u1 u2 v4 l4 z4 ry ch f4 => ?_)
    · refine ⟨iT3, L4.1, x_vi185x L4 I4 z4 ?_ ik ie iW iz ii i6 iT ij iT3⟩
      rw [fst9_l (x := rf9 (wk M a) (nt M (a + 7)) (smx M a) s.1 1 0 (j + 1) i) ry, fst9_l ry] at e1
      rw [e1 ry]
      exact ⟨ry, rf⟩
    rw [fst9_r (x := rf9 (wk M a) (nt M (a + 7)) (smx M a) s.1 1 0 (j + 1) i) ry] at e1 e2 e3
    obtain ⟨G4, sx4, p4⟩ := f4
    have hx9' : x9 = ((vlq (wk M a) (cv9 (wk M a) (nuq M a) (smx M a) s.1) (nt M (a + 7)) 0 0 (k + 3) j).2.1, (vlq (wk M a) (cv9 (wk M a) (nuq M a) (smx M a) s.1) (nt M (a + 7)) 0 0 (j + 1) i).2.1, if v ≠ 0 then (vlq (wk M a) (cv9 (wk M a) (nuq M a) (smx M a) s.1) (nt M (a + 7)) 0 0 (i + 1) e).2.1 else (vlq (wk M a) (cv9 (wk M a) (nuq M a) (smx M a) s.1) (nt M (a + 7)) 0 0 (k + 3) j).2.1) := by
      rw [hx9, if_neg h5, if_neg h5]
      by_cases c : wk M a i = 9
      · rw [if_pos c, if_pos (fun y => w0 y c)]
      · rw [if_neg c, if_neg (fun y => c (w9 y))]
    refine ⟨iT3, v4.1.1, x_vi185 eγ hx9' h hS hW hkN hie heN (by omega) (by omega) hZ v4 l4 hnew (by omega) v01 z4 ((cl.gn G4.1 hR sx4 p4).up (Nat.le_of_lt u1)) ch (rf9_fl rz) (rf9_fl ry) v9 rfl rfl rfl (fun n6 fz => ?_) (fun n6 fz => ?_) (fun n6 rz bz => ?_) (fun n6 rz bz => ?_)⟩
    · rw [if_pos (w9 n6), fst9_l fz] at e1
      exact e1 fz
    · have vz : (fst9 (if wk M a i = 9 then (rf9 (wk M a) (nt M (a + 7)) (smx M a) s.1 1 0 (i + 1) e) else (0, 0)) (0, 0)).1 = 0 := by
        by_cases c : wk M a i = 9
        · have : v ≠ 0 := fun y => w0 y c
          rw [if_pos c, fst9_r (n6 this)]
        · rw [if_neg c]; rfl
      have := e2 vz
      rw [fst9_l fz] at this
      exact this fz
    · have vz : (fst9 (if wk M a i = 9 then (rf9 (wk M a) (nt M (a + 7)) (smx M a) s.1 1 0 (i + 1) e) else (0, 0)) (0, 0)).1 = 0 := by
        by_cases c : wk M a i = 9
        · have : v ≠ 0 := fun y => w0 y c
          rw [if_pos c, fst9_r (n6 this)]
        · rw [if_neg c]; rfl
      have := e2 vz
      rw [fst9_r rz, if_pos (w9 bz)] at this
      exact this
    · have vz : (fst9 (if wk M a i = 9 then (rf9 (wk M a) (nt M (a + 7)) (smx M a) s.1 1 0 (i + 1) e) else (0, 0)) (0, 0)).1 = 0 := by
        by_cases c : wk M a i = 9
        · have : v ≠ 0 := fun y => w0 y c
          rw [if_pos c, fst9_r (n6 this)]
        · rw [if_neg c]; rfl
      refine e3 vz ?_
      rw [fst9_r rz]
      by_cases c : wk M a i = 9
      · rw [if_pos c]; exact bz (fun y => w0 y c)
      · rw [if_neg c]
theorem x_MM_varItem {gm : gm9} {k e i : Nat} (eγ : E.2 = txg M a N s.1 gm) (h : Df M a g N T K R W C Z E tg) (hS : RSq M a g K s.1) (hst : s.2.1 = (W, R, C, if tg = -1 then 0 else 1)) (h16 : mI M a 16 = 0) (heN : e < N) (hT : T ≤ k) (hZ : Z ≤ k) (hv : Vs (wk M a) (k + 3) i) (hi : (wk M a i ≠ 9 ∧ i = e) ∨ (wk M a i = 9 ∧ Eo (wk M a) 6 (i + 1) e)) : Cv G y_MM_varItem (d + 8) [vr a, vi k, vi e] M (fun M' => mOk M' ∧ itX M a g N (e + 1) (itv (wk M a) (nt M (a + 7)) (nuq M a) (smx M a) N k e s) (gm.1 ++ [var9 (wk M a) (nt M (a + 7)) (nuq M a) (smx M a) N s.1 k e], gm.2) M') := by
  generalize es : itv (wk M a) (nt M (a + 7)) (nuq M a) (smx M a) N k e s = s'
  have hN := h.1.2.1.1.2.2
  have hg := h.1.2.2.2.2.2.1
  have hBd := h.2.2.2.2.1
  have hL := h.1
  have w := hL.2.1.1.1
  have g12 := h.2.1.2.1
  have hie : i ≤ e := by
    rcases hi with ⟨-, z⟩ | ⟨-, z⟩
    · omega
    · have := z.pr.1; omega
  have hki : k + 4 ≤ i := by
    rcases hv with ⟨-, z⟩ | ⟨-, j, z1, -, z2⟩
    · omega
    · have := z1.pr.1; have := z2.pr.1; omega
  have hlast : i = e ∨ wk M a i = 9 := hi.elim (fun z => Or.inl z.2) (fun z => Or.inr z.1)
  have n9 : wk M a (k + 3) ≠ 5 → ∀ m, k + 3 ≤ m → m < i → wk M a m ≠ 9 := fun z m m1 m2 => by
    rcases hv with ⟨y, -⟩ | ⟨-, j, z1, z2, z3⟩
    · exact absurd y z
    · by_cases q : m < j
      · have := rwd_all z1 m1 q; unfold rwd at this; omega
      · by_cases q2 : m = j
        · rw [q2, z2]; decide
        · have := rwd_all z3 (show j + 1 ≤ m by omega) m2; unfold rwd at this; omega
  have iW : i32 (W : Int) := i32s (by omega) (by omega)
  refine k_MM_varItem hL.1 (i32s (by omega) (by omega)) (i32s (by omega) (by omega)) ⟨w.1.1, ?_⟩
  rw [show mR M a 10 = g from hL.2.2.2.2.1, g12, show (k : Int) + 1 = ((k + 1 : Nat) : Int) by omega]
  refine ⟨(w.gp hg).1, fun q => x_st_it (d := d + 6) (c := 5) (by decide) ⟨by decide, by decide⟩ hL (by omega) (by rw [← es]; exact itv_many (by rw [hst]; show W = 12; omega)), fun q => ?_⟩
  have hW : W < 12 := by omega
  have n12 : s.2.1.1 ≠ 12 := by rw [hst]; show W ≠ 12; omega
  have hK : K ≤ 200 := hL.2.2.1.2.2.2.1
  refine hL.fdx (d := d + 4) (by omega) (fun r r0 r1 rf => ⟨i32s (by omega) (by omega), hL.1, fun q2 => ⟨w.1.1, ?_⟩, fun q2 => ⟨w.1.1, x_st_it (d := d + 6) (c := 2) (by decide) ⟨by decide, by decide⟩ hL (by omega) (by rw [← es]; exact itv_known n12 ((hS.kw rf).2 (by omega)))⟩⟩)
  have hnone := (hS.kw rf).1 (by omega)
  have hnew : fdn M a K (k + 1) = -1 := by rw [← fdn_un rf]; omega
  have hini : (if wk M a (k + 3) = 5 then k + 4 else nxq (wk M a) 9 (e - (k + 3)) (k + 3)) = i := by
    by_cases c : wk M a (k + 3) = 5
    · rw [if_pos c]
      rcases hv with ⟨-, y⟩ | ⟨y, -⟩
      · omega
      · exact absurd c y
    · rw [if_neg c]
      have n9 := n9 c
      rcases hi with ⟨y, z⟩ | ⟨y, -⟩
      · rw [nxq_no (fun m m1 m2 => n9 m m1 (by omega))]; omega
      · exact nxq_at (by omega) (by omega) y (fun m m1 m2 => n9 m m1 m2)
  have hx9 : var9 (wk M a) (nt M (a + 7)) (nuq M a) (smx M a) N s.1 k e = (if wk M a (k + 3) = 5 then 0 else (vlq (wk M a) (cv9 (wk M a) (nuq M a) (smx M a) s.1) (nt M (a + 7)) 0 0 (k + 3) (nxq (wk M a) 16 N (k + 3))).2.1, if wk M a (k + 3) = 5 then 1 else (vlq (wk M a) (cv9 (wk M a) (nuq M a) (smx M a) s.1) (nt M (a + 7)) 0 0 (nxq (wk M a) 16 N (k + 3) + 1) i).2.1, if wk M a i = 9 then (vlq (wk M a) (cv9 (wk M a) (nuq M a) (smx M a) s.1) (nt M (a + 7)) 0 0 (i + 1) e).2.1 else if wk M a (k + 3) = 5 then 0 else (vlq (wk M a) (cv9 (wk M a) (nuq M a) (smx M a) s.1) (nt M (a + 7)) 0 0 (k + 3) (nxq (wk M a) 16 N (k + 3))).2.1) := by
    unfold var9
    simp only [hini]
  have e1 := fun z => (itv_f (nq := nuq M a) n12 hnone rfl hini z).symm.trans (by rw [es])
  have e2 := fun z y => (itv_w (nq := nuq M a) n12 hnone rfl hini z y).symm.trans (by rw [es])
  have e3 := fun z y => es.symm.trans (itv_ok (nq := nuq M a) n12 hnone rfl hini z y)
  rw [hst] at e3
  rw [show mR M a 10 = g from hL.2.2.2.2.1, g12, show (k : Int) + 3 = ((k + 3 : Nat) : Int) by omega]
  refine ⟨(w.gp hg).1, hL.wd (d := d + 6) (by omega) (fun x hx ix => ⟨ix, hL.1, fun v hv' => ⟨fun z => ⟨w.1.1, ?_⟩, fun z => ?_⟩⟩)⟩
  · have x5 : wk M a (k + 3) ≠ 5 := fun y => by
      rw [if_pos (hx.trans y)] at hv'
      omega
    subst z
    refine hL.io (d := d + 5) (by omega) hie heN (n9 x5) hlast ⟨i32s (by omega) (by omega), hL.1, x_vi91 eγ hx9 h hS h16 hW hnew heN hT hZ (Or.inr ⟨rfl, x5, ?_⟩) hi (fun z => (e1 z).symm) (fun z y => (e2 z y).symm) (fun z y => by rw [e3 z y, if_neg x5])⟩
    rcases hv with ⟨y, -⟩ | ⟨-, j, z1, z2, z3⟩
    · exact absurd y x5
    · have p1 := z1.pr.1
      have p3 := z3.pr.1
      rw [nxq_at (w := wk M a) (x := 16) (f := N) (k := k + 3) (e := j) (by omega) (by omega) z2 (fun m m1 m2 => by
        have := rwd_all z1 m1 m2
        unfold rwd at this
        omega)]
      exact ⟨z1, z2, z3⟩
  · have x5 : wk M a (k + 3) = 5 := by
      split at hv'
      · rename_i y; exact hx.symm.trans y
      · exact absurd hv' z
    have i4 : i = k + 4 := by
      rcases hv with ⟨-, y⟩ | ⟨y, -⟩
      · omega
      · exact absurd x5 y
    have v1 : v = 1 := by rw [if_pos (hx.trans x5)] at hv'; exact hv'
    subst v1
    rw [show (k : Int) + 4 = (i : Int) by omega]
    exact x_vi91 eγ hx9 h hS h16 hW hnew heN hT hZ (Or.inl ⟨rfl, x5, i4⟩) hi (fun z => (e1 z).symm) (fun z y => (e2 z y).symm) (fun z y => by rw [e3 z y, if_pos x5])
end VXD
