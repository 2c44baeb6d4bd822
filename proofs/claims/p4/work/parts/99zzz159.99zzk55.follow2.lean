/-! The class's game: follow, the whole; tryCommand. -/
section GAG
variable {G : mG} {d z g p O P K V F L cnt U Ab Be C Ab0 Be0 C0 s h t c cn k u v cc n bc bc0 x a0 br : Nat} {M0 M M' M1 M2 : mM} {ns : Nat → Int} {sf ef : Nat → Nat} {H : Nat → Nat} {S R : Nat → Prop} {sm sh : Int}
theorem pl_fo {r : Int} (hb1 : mI M1 g 13 = ((bc : Nat) : Int)) (hx : GX M0 z g p O P K V F ns sf ef L cnt Ab0 Be0 C0 M Ab Be C) (hf : flF M1 g p bc0 M) (hcn : mI M g 0 = ((cn : Nat) : Int)) (hk : k ≤ cn) (hcn5 : cn ≤ 512) (hsl : SLt M g cn) (hbc : mI M g 13 = ((bc : Nat) : Int)) (hb : bc0 ≤ bc ∧ bc ≤ 4096) (q : plQ M g M') (ir : i32 r) (hr : r ≠ 0) : foQ M0 z g p O P K V F ns sf ef L cnt Ab0 Be0 C0 M1 bc0 k sm r M' := by
  obtain ⟨q1, q2, q3⟩ := q
  have off := ga_off hx
  have nb : ∀ x, x ≠ g → mI M' x = mI M x := fun x hx => q2.2.2.2.2.2.2 x hx
  exact ⟨ir, hf.trans ⟨fun i _ i10 _ => q3 i i10, fun i i2 _ => nb _ (by omega), ⟨nb _ (by omega), nb _ (by omega)⟩, by rw [nb _ (by omega)], fun i hi => nb _ (off i 0 hi (by omega)), fun i _ => ⟨by rw [nb _ (by omega)], by rw [nb _ (by omega)]⟩⟩, ⟨Ab, Be, C, hx.fi q1 (q2.mono (fun x y => Or.inl (by have y' : x = g := y; omega)))⟩, cn, bc, ⟨by rw [q3 0 (by decide)]; exact hcn, hk, hcn5, fun i hi => by rw [nb _ (by omega)]; exact hsl i hi⟩, by rw [q3 13 (by decide)]; exact hbc, hb.1, ⟨hb.2, by omega⟩, fun u => absurd u hr⟩
theorem s_Ga_follow (hF : FMs G) (hx : GX M0 z g p O P K V F ns sf ef L cnt Ab0 Be0 C0 M Ab Be C) (hc : c < cnt) (hcn : mI M g 0 = ((cn : Nat) : Int)) (hcn5 : cn ≤ 512) (hsl : SLt M g cn) (hbc : mI M g 13 = ((bc : Nat) : Int)) (hip : ipG M g cn bc0 bc sm) (hsh : 1 ≤ sh) (hsm : sm + sh < 1000000000) (hcc : mI M g 12 = ((cc : Nat) : Int)) (hcc2 : cc ≤ 4096) (h7 : mI M (g + 7) cc = ((bc0 : Nat) : Int)) (hbr : br < 480) (hs : ∃ s2 : Nat, mI M (p + 15) br = ((s2 : Nat) : Int) ∧ PC M O P V F ns ef L s2 0) : Ci G y_Ga_follow (d + 5) [vr g, vi c, vi br, vi sh] M (foQ M0 z g p O P K V F ns sf ef L cnt Ab0 Be0 C0 M bc0 cn (sm + sh)) := by
  obtain ⟨h1, h2, h3, h4, h5, -⟩ := id hx
  obtain ⟨g0, ⟨-, -, -, -, -, -, -, -, -, g15, -⟩, -, -⟩ := id h2
  have c60 := h4.2.2.2.2.1.2
  have off := ga_off hx
  obtain ⟨ip1, ip2, ip3, ip4⟩ := id hip
  have smb := wsm_ge (M := M) (g := g) (x := bc0) (n := bc - bc0) (fun i a b => (ip3 i a (by omega)).2.2) (bc - bc0) (Nat.le_refl _)
  rw [ip4] at smb
  refine k_Ga_follow h1 (i32s (by omega) (by omega)) (i32s (by omega) (by omega)) ⟨by omega, by omega⟩ ?_
  rw [g15]
  refine ⟨g0, h3.1, ?_⟩
  refine k_Ma_beginSets h1 ?_
  rw [h3.2.1.1, h3.2.1.2.1]
  have hbs := h3.2.2.2.2.1
  have nm := h3.2.2.2.1.1
  refine ⟨h3.1, h3.2.2.1.1, h3.2.2.1.2.1, ⟨hbs.1, by omega, by omega, hbs.2, by rw [nm]; omega⟩, fun M3 e3 => ?_⟩
  have f3 : FI (fun x => x = g + 12) M M3 := by
    rw [e3]
    refine ⟨rfl, rfl, rfl, rfl, rfl, rfl, fun x hx => ?_⟩
    funext j
    exact if_neg (fun t => hx t.1)
  have o3 : mOk M3 := by rw [e3]; exact mOk_Cpy h1
  have x3 := hx.fi o3 (f3.mono (fun x y => Or.inr (Or.inl y)))
  have nb3 : ∀ x, x ≠ g + 12 → mI M3 x = mI M x := fun x hx => f3.2.2.2.2.2.2 x hx
  have fl3 : flF M g p bc0 M3 := ⟨fun i _ _ _ => by rw [nb3 g (by omega)], fun i _ _ => nb3 _ (by omega), ⟨nb3 _ (by omega), nb3 _ (by omega)⟩, by rw [nb3 _ (by omega)], fun i hi => nb3 _ (off i 12 hi (by omega)), fun i _ => ⟨by rw [nb3 _ (by omega)], by rw [nb3 _ (by omega)]⟩⟩
  obtain ⟨s2, sb1, sb2⟩ := hs
  have hOP : O ≠ g + 12 ∧ P ≠ g + 12 := by
    have ne := hx.ne
    exact ⟨fun t => ne.2.1 (Or.inl ⟨by rw [t]; omega, by rw [t]; omega⟩), fun t => ne.2.2.1 (Or.inl ⟨by rw [t]; omega, by rw [t]; omega⟩)⟩
  have sb2' : PC M3 O P V F ns ef L s2 0 := sb2.cg (fun i _ => by rw [nb3 O hOP.1]) (fun i _ => by rw [nb3 P hOP.2])
  have cn3 : mI M3 g 0 = ((cn : Nat) : Int) := by rw [nb3 g (by omega)]; exact hcn
  have bc3 : mI M3 g 13 = ((bc : Nat) : Int) := by rw [nb3 g (by omega)]; exact hbc
  have cc3 : mI M3 g 12 = ((cc : Nat) : Int) := by rw [nb3 g (by omega)]; exact hcc
  have sl3 : SLt M3 g cn := fun i hi => by rw [nb3 _ (by omega)]; exact hsl i hi
  have ip3' : ipG M3 g cn bc0 bc sm := ⟨ip1, ip2, fun i a b => by rw [nb3 _ (by omega), nb3 _ (by omega)]; exact ip3 i a b, by rw [wsm_cg (M := M) _ (fun i _ _ => by rw [nb3 _ (by omega)])]; exact ip4⟩
  obtain ⟨-, k2, k3, k4, k5, -⟩ := id x3
  obtain ⟨j0, ⟨-, -, -, -, -, -, -, -, -, j15, -⟩, -, -⟩ := id k2
  have p19 := k4.1.2.2.2.2.2.2.1.2.2.2.2.2.2.2.2.2.2.2.2
  have kp19 := k4.1.2.2.2.2.2.2.2.1.2.2.2.2.2.2.2.2.2.2.2.2
  have np19 := k4.1.2.2.2.2.2.2.2.2.2.2.2.2.2.2.2.2.2.2.2.2
  rw [k5.1, p19, np19, j15, Int.toNat_natCast, nb3 (p + 15) (off 15 12 (by omega) (by omega)), sb1]
  refine ⟨o3, j0, k4.1.1, kp19, by omega, k3.1, (s_Ga_run hF x3 sb2').mono (fun x12 M11 k => ?_)⟩
  obtain ⟨i12, o11, hx12, Ab', Be', C', hx11, f11, s11, z11, -⟩ := k
  obtain ⟨ce1, ce2⟩ := ga_ce x3 f11
  have ce0 := ce1 0 (by omega)
  rw [Nat.add_zero] at ce0
  have fl11 : flF M g p bc0 M11 := fl3.trans ⟨fun i _ _ _ => by rw [ce0], fun i _ _ => ce1 i (by omega), ⟨ce1 21 (by omega), ce1 22 (by omega)⟩, s11, ce2, fun i _ => ⟨by rw [ce1 8 (by omega)], by rw [ce1 9 (by omega)]⟩⟩
  have cn11 : mI M11 g 0 = ((cn : Nat) : Int) := by rw [ce0]; exact cn3
  have bc11 : mI M11 g 13 = ((bc : Nat) : Int) := by rw [ce0]; exact bc3
  have cc11 : mI M11 g 12 = ((cc : Nat) : Int) := by rw [ce0]; exact cc3
  have sl11 : SLt M11 g cn := fun i hi => by rw [ce1 20 (by omega)]; exact sl3 i hi
  have ip11 : ipG M11 g cn bc0 bc sm := ⟨ip1, ip2, fun i a b => by rw [ce1 8 (by omega), ce1 9 (by omega)]; exact ip3'.2.2.1 i a b, by rw [wsm_cg (M := M3) _ (fun i _ _ => by rw [ce1 9 (by omega)])]; exact ip3'.2.2.2⟩
  have h711 : mI M11 (g + 7) cc = ((bc0 : Nat) : Int) := by rw [ce1 7 (by omega), nb3 _ (by omega)]; exact h7
  clear ce1 ce2 ce0 f3 nb3 fl3 sb2 sb2' cn3 bc3 cc3 sl3 ip3' k2 k3 k4 k5 x3 f11 s11 e3 o3 p19 kp19 np19
  obtain ⟨-, l2, l3, l4, l5, -⟩ := id hx11
  obtain ⟨m0, ⟨-, -, -, -, -, -, m7, -, -, m15, -⟩, ⟨-, -, -, -, -, -, mk7, -⟩, ⟨-, -, -, -, -, -, mn7, -⟩⟩ := id l2
  refine ⟨i12, o11, fun y => ⟨m0, (s_Ga_machineFault o11 m0 m15 l3.1).mono (fun r M' q => ?_)⟩, fun y => ⟨m0, (s_Ga_enter (d := d + 2) hx11 cn11 hcn5 sl11).mono (fun x22 M21 k => ?_)⟩⟩
  · exact ⟨q.1, q.2.2.1, pl_fo hbc hx11 fl11 cn11 (Nat.le_refl _) hcn5 sl11 bc11 ⟨ip1, ip2⟩ q.2.2 q.1 (by rw [q.2.1]; exact z11 y)⟩
  obtain ⟨hx21, f21, r21, cn', cn21, cnn, cn5', sl21, hto, i22, -⟩ := k
  have off21 := ga_off hx21
  have nb : ∀ x, x ≠ g → x ≠ g + 1 → x ≠ g + 20 → mI M21 x = mI M11 x := fun x a b c => f21.2.2.2.2.2.2 x (fun y => y.elim a (fun y => y.elim b c))
  have fl21 : flF M g p bc0 M21 := fl11.trans ⟨fun i i0 _ _ => r21 i i0, fun i _ _ => nb _ (by omega) (by omega) (by omega), ⟨nb _ (by omega) (by omega) (by omega), nb _ (by omega) (by omega) (by omega)⟩, by rw [nb _ (by omega) (by omega) (by omega)], fun i hi => nb _ (off i 0 hi (by omega)) (off i 1 hi (by omega)) (off i 20 hi (by omega)), fun i _ => ⟨by rw [nb _ (by omega) (by omega) (by omega)], by rw [nb _ (by omega) (by omega) (by omega)]⟩⟩
  have bc21 : mI M21 g 13 = ((bc : Nat) : Int) := by rw [r21 13 (by decide)]; exact bc11
  have cc21 : mI M21 g 12 = ((cc : Nat) : Int) := by rw [r21 12 (by decide)]; exact cc11
  have ip21 : ipG M21 g cn' bc0 bc sm := ⟨ip1, ip2, fun i a b => by
    rw [nb (g + 8) (by omega) (by omega) (by omega), nb (g + 9) (by omega) (by omega) (by omega)]
    obtain ⟨c1, c2, c3⟩ := ip11.2.2.1 i a b
    exact ⟨c1, by omega, c3⟩, by rw [wsm_cg (M := M11) _ (fun i _ _ => by rw [nb (g + 9) (by omega) (by omega) (by omega)])]; exact ip11.2.2.2⟩
  obtain ⟨o21, a2, a3, a4, a5, -⟩ := id hx21
  obtain ⟨b0, ⟨-, -, -, -, -, -, b7, -⟩, ⟨-, -, -, -, -, -, bk7, -⟩, ⟨-, -, -, -, -, -, bn7, -⟩⟩ := id a2
  have p17 := a4.1.2.2.2.2.2.2.1.2.2.2.2.2.2.2.2.2.2.1
  have kp17 := a4.1.2.2.2.2.2.2.2.1.2.2.2.2.2.2.2.2.2.2.1
  have np17 := a4.1.2.2.2.2.2.2.2.2.2.2.2.2.2.2.2.2.2.2.1
  rw [a5.1, p17, np17, b7, bn7, cc21, Int.toNat_natCast, nb (g + 7) (by omega) (by omega) (by omega), h711]
  refine ⟨i22, o21, fun y => ⟨b0, a4.1.1, kp17, by omega, (s_Ga_fault ⟨by decide, by decide⟩ (o21 _ _).1 o21 b0).mono (fun r M' q => ?_)⟩, fun y => ⟨b0, bk7, by omega, ?_⟩⟩
  · rw [q.1]
    exact ⟨⟨by decide, by decide⟩, q.2.1, pl_fo hbc hx21 fl21 cn21 cnn cn5' sl21 bc21 ⟨ip1, ip2⟩ q.2 ⟨by decide, by decide⟩ (by decide)⟩
  · exact s_fo69 hbc hx21 fl21 hc cn21 cn5' sl21 bc21 ip21 hsh hsm (hto.resolve_left y) cnn (bc - bc0) bc0 (by omega) (Nat.le_refl _) ip1
end GAG
