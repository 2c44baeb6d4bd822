section
section
variable {G : mG} {d z q w T A B D N C n p O P K Ab Be Cm V F c s L L' cnt Bn a d0 V1 F1 nw : Nat} {M0 M M' M1 M2 Mc : mM} {ns ns' ns1 : Nat → Int} {sf ef sf' ef' : Nat → Nat} {H : Nat → Nat} {S R : Nat → Prop} {W pl nq : Nat → Int} {sm : Nat → Nat → Prop} {nms : List nm9} {ft : Int × Int} {zz zr : List Int}
theorem x_TR_readTarget (h : TX M z q w T A B D N C n p O P K Ab Be Cm V F ns sf ef c cnt L) (ha : mI M (q + 1) 2 = a) (han : a < n) (hs : mI M p 2 = L) (hsa : L ≤ a) (hd : mI M (q + 1) 5 = 0) (wt : WTq M T A B D n W pl nq sm) (hF : FT M (q + 1) ft) (hW : W a = 11) (hR : Rc W [50] 0 [50] a) : Ci G y_TR_readTarget (d + 6) [vr q] M (fun x M' => tgQ M z q w T A B D N C n p O P K Ab Be Cm V F ns sf ef c cnt L x M' ∧ tgV W pl nq sm M q p O P n c L a nms (fst9 ft (if mI M p 11 = -1 then (0, 0) else (4, pl a))) x M') := by
  have ap := h.1.apart
  have ok := h.1.1.1
  have hN : n ≤ 16384 := by have := h.1.1.2.2.2.1.2.2.1; have := h.1.1.2.2.2.1.1.2.2.2.2.2.2.1; omega
  obtain ⟨t0, t1, t2, t3, t4, t5⟩ := h.1.2.1
  refine k_TR_readTarget ok ?_
  rw [t1, t3, ha]
  refine ⟨t0, h.1.1.2.2.2.2.1.1, fun yt => ⟨h.1.1.2.1.1, ⟨by omega, by omega⟩, fun M8 e8 => ?_⟩, fun yt => ⟨h.1.1.2.1.1, (s_RR_here h.1.1 ha (by omega)).mono (fun x31 M30 k => ?_)⟩⟩
  · obtain ⟨h8, x8, g8⟩ := tx_ui h ⟨by omega, by omega⟩ e8 (Or.inr (Or.inr (Or.inr (Or.inl ⟨rfl, Or.inl rfl⟩))))
    have k4 := (s_rt8 h han e8).1
    have kr := (s_rt8 h han e8).2
    refine ⟨k4, fun M11 e11 => ?_⟩
    rw [kr] at e11
    obtain ⟨h11, x11, g11⟩ := tx_ui h8 (i32s (by omega) (by omega)) e11 (Or.inr (Or.inr (Or.inr (Or.inl ⟨rfl, Or.inr (Or.inr rfl)⟩))))
    rw [if_pos yt]
    exact (x_rt8 (Mc := M) (nms := nms) FI.refl h ha han hs hsa hd e8 e11 (fun k => (k.to x11.2).to x8.2) ((tgK.tx x8.2).trans (tgK.tx x11.2)) (x8.trans x11) wt hF.none hW hR).2.2.2
  · obtain ⟨e30, ex31, x0, x1⟩ := k
    subst e30
    refine ⟨i32s (by omega) (by omega), ok, h.1.1.2.1.1, (x_tx_note (x := 4) (i32s (by omega) (by omega)) (by omega) (i32s (by omega) (by omega)) h).mono (fun M34 kk => ?_)⟩
    obtain ⟨o34, h34, x34, u3, u4, u5, u6⟩ := kk
    have eB : x31 = pl a := by rw [ex31]; exact (wt.1 a (by omega)).2.2
    have F34 := u6 ft hF
    rw [eB] at F34
    rw [if_neg yt]
    have a34 : mI M34 (q + 1) 2 = a := by rw [u4 2 (by decide) (by decide)]; exact ha
    have p34 : mI M34 p 2 = L := by rw [u5 p (by have := h.1.2.2.2.2.2.1.2.1; omega)]; exact hs
    have d34 : mI M34 (q + 1) 5 = 0 := by rw [u4 5 (by decide) (by decide)]; exact hd
    rw [h34.1.2.1.2.1, a34]
    refine ⟨o34, h34.1.2.1.1, h34.1.1.2.1.1, ⟨by omega, by omega⟩, fun M8 e8 => ?_⟩
    have k4 := (s_rt8 h34 han e8).1
    have kr := (s_rt8 h34 han e8).2
    refine ⟨k4, fun M11 e11 => ?_⟩
    rw [kr] at e11
    obtain ⟨h8, x8, g8⟩ := tx_ui h34 ⟨by omega, by omega⟩ e8 (Or.inr (Or.inr (Or.inr (Or.inl ⟨rfl, Or.inl rfl⟩))))
    obtain ⟨h11, x11, g11⟩ := tx_ui h8 (i32s (by omega) (by omega)) e11 (Or.inr (Or.inr (Or.inr (Or.inl ⟨rfl, Or.inr (Or.inr rfl)⟩))))
    exact (x_rt8 (Mc := M30) (nms := nms) x34.1 h34 a34 han p34 hsa d34 e8 e11 (fun k => ((k.to x11.2).to x8.2).to x34.2) (((tgK.tx x34.2).trans (tgK.tx x8.2)).trans (tgK.tx x11.2)) ((x34.trans x8).trans x11) (wt.fi h.1 x34.1) F34 hW hR).2.2.2
end
end
