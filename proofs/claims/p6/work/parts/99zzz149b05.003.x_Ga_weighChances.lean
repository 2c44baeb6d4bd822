section
variable {G : mG} {d z g p O P K V F L cnt Ab Be C Ab0 Be0 C0 n N c cc u v k : Nat} {M0 M M' M1 : mM} {ns : Nat → Int} {sf ef : Nat → Nat} {F1 : Nat} {ns1 : Nat → Int} {sf1 ef1 : Nat → Nat} {W pl nq : Nat → Int} {sm : Nat → Nat → Prop} {nms : List nm9} {sgL : List Int} {brs : List br9}
theorem x_Ga_weighChances (hF : FMx G) (cx : gcx M0 g p O P L V F Ab0 Be0 ns sf ef W pl nq sm N n nms) (hx : GX M0 z g p O P K V F1 ns1 sf1 ef1 L cnt Ab0 Be0 C0 M Ab Be C) (st : gst9 M g V F ns W pl nq sm N nms k (fun v => sgL.getD v 0)) (hc : c < cnt) (hcc2 : cc ≤ 4096) (hcc : mI M g 12 = ((cc : Nat) : Int)) (hu : mI M0 (p + 12) c = ((u : Nat) : Int)) (hv : mI M0 (p + 12) (c + 1) = ((v : Nat) : Int)) (huv : u ≤ v ∧ v ≤ u + 8 ∧ v ≤ 480) (hlen : brs.length = v - u) (hbr : ∀ (b : Nat) (x : br9), brs[b]? = some x → mI M0 (p + 13) (u + b) = x.1 ∧ ∃ s : Nat, mI M0 (p + 14) (u + b) = ((s : Nat) : Int) ∧ RuC M0 O P L W pl nq sm n ns ef nms x.2.1.1 x.2.1.2 s) : Ci G y_Ga_weighChances (d + 5) [vr g, vi c] M (fun r M' => weQ M0 z g p O P K V F1 ns1 sf1 ef1 L cnt Ab0 Be0 C0 M (v - u) cc r M' ∧ weY (chq9 (evq W pl nq sm N nms) sgL brs) (mI M0 (p + 10) c) g V F ns W pl nq sm N nms k sgL cc (v - u) r M') := by
  obtain ⟨h1, h2, h3, h4, h5, -⟩ := id hx
  have c60 := h4.2.2.2.2.1.2
  have p16 := h4.1.2.2.2.2.2.2.1.2.2.2.2.2.2.2.2.2.1
  have kp16 := h4.1.2.2.2.2.2.2.2.1.2.2.2.2.2.2.2.2.2.1
  have np16 := h4.1.2.2.2.2.2.2.2.2.2.2.2.2.2.2.2.2.2.1
  refine k_Ga_weighChances h1 (i32s (by omega) (by omega)) ?_
  rw [h5.1, p16, np16, Int.toNat_natCast, show Int.toNat ((c : Int) + 1) = c + 1 by omega, gx_p hx 12 (by omega), hu, hv, show ((v : Nat) : Int) - ((u : Nat) : Int) = ((v - u : Nat) : Int) by omega]
  exact ⟨h2.1, h4.1.1, kp16, by omega, by omega, x_we27 hF cx hc hcc2 hcc huv hlen hbr (v - u) 0 M Ab Be C (by omega) (by omega) hx wgF.refl st (fun b hb => absurd hb (by omega)) rfl⟩
end
