section
section
variable {G : mG} {d z q w T A B D N C n p O P K Ab Be Cm V F c s L L' cnt Bn a d0 V1 F1 nw : Nat} {M0 M M' M1 M2 : mM} {ns ns' ns1 : Nat → Int} {sf ef sf' ef' : Nat → Nat} {H : Nat → Nat} {S R : Nat → Prop} {W pl nq : Nat → Int} {sm : Nat → Nat → Prop} {nms : List nm9} {ft : Int × Int} {zz zr : List Int}
theorem x_TR_readName {l1 : Int} (i1 : i32 l1) (h : TX M z q w T A B D N C n p O P K Ab Be Cm V F ns sf ef c cnt L) (ha : mI M (q + 1) 2 = a) (han : a < n) (wt : WTq M T A B D n W pl nq sm) (hF : FT M (q + 1) ft) (hR : Rc W [50] 0 (1 :: zr) (a + 1)) : Ci G y_TR_readName (d + 2) [vr q, vi l1] M (fun x M' => rnmQ M z q w T A B D N C n p O P K Ab Be Cm V F ns sf ef c cnt L a l1 x M' ∧ rnV W pl sm M q p c a nms (fst9 ft (if l1 = 0 then (0, 0) else (5, pl a))) zr x M') := by
  have ok := h.1.1.1
  obtain ⟨t0, t1, t2, t3, t4, t5⟩ := h.1.2.1
  have k4 := h.1.1.2.1.1
  refine k_TR_readName ok i1 ⟨fun y => x_rn19 (fun z => z) h txF.refl nmF.refl (fun u => absurd y u) ha han wt (by rw [if_pos y]; exact hF.none) hR, fun y => ?_⟩
  rw [t1]
  refine ⟨t0, k4, (s_RR_here h.1.1 ha (by omega)).mono (fun x6 M5 k => ?_)⟩
  obtain ⟨e5, ex6, x0, x1⟩ := k
  subst e5
  refine ⟨i32s (by omega) (by omega), ok, k4, (x_tx_note (x := 5) (i32s (by omega) (by omega)) (by omega) (i32s (by omega) (by omega)) h).mono (fun M9 kk => ?_)⟩
  obtain ⟨o9, h9, x9, u3, u4, u5, u6⟩ := kk
  have eB : x6 = pl a := by rw [ex6]; exact (wt.1 a (by omega)).2.2
  have F9 := u6 ft hF
  rw [eB] at F9
  rw [if_neg y]
  refine ⟨o9, ?_⟩
  have key := x_rn19 (G := G) (d := d) (sm := sm) (nms := nms) (l1 := l1) (Mc := M5) (fun ct => ct.tx x9.2) h9 x9 ⟨fun i _ i3 i4 => u4 i i3 i4, fun i _ => by rw [u5 q (by omega)], fun b _ b2 => u5 b b2⟩ (fun _ => u3) (by rw [u4 2 (by decide) (by decide)]; exact ha) han (wt.fi h.1 x9.1) F9 hR
  exact key
end
end
