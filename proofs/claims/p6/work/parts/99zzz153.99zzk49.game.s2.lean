section
/-! The class's game: follow, the whole; tryCommand. -/
section GAG
variable {G : mG} {d z g p O P K V F L cnt U Ab Be C Ab0 Be0 C0 s h t c cn k u v cc n bc bc0 x a0 br : Nat} {M0 M M' M1 M2 : mM} {ns : Nat → Int} {sf ef : Nat → Nat} {H : Nat → Nat} {S R : Nat → Prop} {sm sh : Int}
theorem pl_fo {r : Int} (hb1 : mI M1 g 13 = ((bc : Nat) : Int)) (hx : GX M0 z g p O P K V F ns sf ef L cnt Ab0 Be0 C0 M Ab Be C) (hf : flF M1 g p bc0 M) (hcn : mI M g 0 = ((cn : Nat) : Int)) (hk : k ≤ cn) (hcn5 : cn ≤ 512) (hsl : SLt M g cn) (hbc : mI M g 13 = ((bc : Nat) : Int)) (hb : bc0 ≤ bc ∧ bc ≤ 4096) (q : plQ M g M') (ir : i32 r) (hr : r ≠ 0) : foQ M0 z g p O P K V F ns sf ef L cnt Ab0 Be0 C0 M1 bc0 k sm r M' := by
  obtain ⟨q1, q2, q3⟩ := q
  have off := ga_off hx
  have nb : ∀ x, x ≠ g → mI M' x = mI M x := fun x hx => q2.2.2.2.2.2.2 x hx
  exact ⟨ir, hf.trans ⟨fun i _ i10 _ => q3 i i10, fun i i2 _ => nb _ (by omega), ⟨nb _ (by omega), nb _ (by omega)⟩, by rw [nb _ (by omega)], fun i hi => nb _ (off i 0 hi (by omega)), fun i _ => ⟨by rw [nb _ (by omega)], by rw [nb _ (by omega)]⟩⟩, ⟨Ab, Be, C, hx.fi q1 (q2.mono (fun x y => Or.inl (by have y' : x = g := y; omega)))⟩, cn, bc, ⟨by rw [q3 0 (by decide)]; exact hcn, hk, hcn5, fun i hi => by rw [nb _ (by omega)]; exact hsl i hi⟩, by rw [q3 13 (by decide)]; exact hbc, hb.1, ⟨hb.2, by omega⟩, fun u => absurd u hr⟩
theorem s_Ga_follow (hF : FMs G) (hx : GX M0 z g p O P K V F ns sf ef L cnt Ab0 Be0 C0 M Ab Be C) (hc : c < cnt) (hcn : mI M g 0 = ((cn : Nat) : Int)) (hcn5 : cn ≤ 512) (hsl : SLt M g cn) (hbc : mI M g 13 = ((bc : Nat) : Int)) (hip : ipG M g cn bc0 bc sm) (hsh : 1 ≤ sh) (hsm : sm + sh < 1000000000) (hcc : mI M g 12 = ((cc : Nat) : Int)) (hcc2 : cc ≤ 4096) (h7 : mI M (g + 7) cc = ((bc0 : Nat) : Int)) (hbr : br < 480) (hs : ∃ s2 : Nat, mI M (p + 15) br = ((s2 : Nat) : Int) ∧ PC M O P V F ns ef L s2 0) : Ci G y_Ga_follow (d + 5) [vr g, vi c, vi br, vi sh] M (foQ M0 z g p O P K V F ns sf ef L cnt Ab0 Be0 C0 M bc0 cn (sm + sh)) := by
  obtain ⟨h1, h2, h3, h4, h5, -⟩ := id hx
  obtain ⟨g0, ⟨-, -, -, -, -, -, -, -, -, g15, -⟩, -, -⟩ := id h2
  have c60 := h4.2.2.2.2.1.2
  have off := ga_off hx
  obtain ⟨ip1, ip2, ip3, ip4⟩ := id hip
  have smb := wsm_ge (M := M) (g := g) (x := bc0) (n := bc - bc0) (fun i a b => (ip3 i a (by omega)).2.2) (bc - bc0) (Nat.le_refl _)
  rw [ip4] at smb
  refine k_Ga_follow h1 (i32s (by omega) (by omega)) (i32s (by omega) (by omega)) ⟨by omega, by omega⟩ ?_
  rw [g15]
  refine ⟨g0, h3.1, ?_⟩
  refine k_Ma_beginSets h1 ?_
  rw [h3.2.1.1, h3.2.1.2.1]
  have hbs := h3.2.2.2.2.1
  have nm := h3.2.2.2.1.1
  refine ⟨h3.1, h3.2.2.1.1, h3.2.2.1.2.1, ⟨hbs.1, by omega, by omega, hbs.2, by rw [nm]; omega⟩, fun M3 e3 => ?_⟩
  have f3 : FI (fun x => x = g + 12) M M3 := by
    rw [e3]
    refine ⟨rfl, rfl, rfl, rfl, rfl, rfl, fun x hx => ?_⟩
    funext j
    exact if_neg (fun t => hx t.1)
  have o3 : mOk M3 := by rw [e3]; exact mOk_Cpy h1
  have x3 := hx.fi o3 (f3.mono (fun x y => Or.inr (Or.inl y)))
  have nb3 : ∀ x, x ≠ g + 12 → mI M3 x = mI M x := fun x hx => f3.2.2.2.2.2.2 x hx
  have fl3 : flF M g p bc0 M3 := ⟨fun i _ _ _ => by rw [nb3 g (by omega)], fun i _ _ => nb3 _ (by omega), ⟨nb3 _ (by omega), nb3 _ (by omega)⟩, by rw [nb3 _ (by omega)], fun i hi => nb3 _ (off i 12 hi (by omega)), fun i _ => ⟨by rw [nb3 _ (by omega)], by rw [nb3 _ (by omega)]⟩⟩
  obtain ⟨s2, sb1, sb2⟩ := hs
  have hOP : O ≠ g + 12 ∧ P ≠ g + 12 := by
    have ne := hx.ne
    exact ⟨fun t => ne.2.1 (Or.inl ⟨by rw [t]; omega, by rw [t]; omega⟩), fun t => ne.2.2.1 (Or.inl ⟨by rw [t]; omega, by rw [t]; omega⟩)⟩
  have sb2' : PC M3 O P V F ns ef L s2 0 := sb2.cg (fun i _ => by rw [nb3 O hOP.1]) (fun i _ => by rw [nb3 P hOP.2])
  have cn3 : mI M3 g 0 = ((cn : Nat) : Int) := by rw [nb3 g (by omega)]; exact hcn
  have bc3 : mI M3 g 13 = ((bc : Nat) : Int) := by rw [nb3 g (by omega)]; exact hbc
  have cc3 : mI M3 g 12 = ((cc : Nat) : Int) := by rw [nb3 g (by omega)]; exact hcc
  have sl3 : SLt M3 g cn := fun i hi => by rw [nb3 _ (by omega)]; exact hsl i hi
  have ip3' : ipG M3 g cn bc0 bc sm := ⟨ip1, ip2, fun i a b => by rw [nb3 _ (by omega), nb3 _ (by omega)]; exact ip3 i a b, by rw [wsm_cg (M := M) _ (fun i _ _ => by rw [nb3 _ (by omega)])]; exact ip4⟩
  obtain ⟨-, k2, k3, k4, k5, -⟩ := id x3
  obtain ⟨j0, ⟨-, -, -, -, -, -, -, -, -, j15, -⟩, -, -⟩ := id k2
  have p19 := k4.1.2.2.2.2.2.2.1.2.2.2.2.2.2.2.2.2.2.2.2
  have kp19 := k4.1.2.2.2.2.2.2.2.1.2.2.2.2.2.2.2.2.2.2.2.2
  have np19 := k4.1.2.2.2.2.2.2.2.2.2.2.2.2.2.2.2.2.2.2.2.2
  rw [k5.1, p19, np19, j15, Int.toNat_natCast, nb3 (p + 15) (off 15 12 (by omega) (by omega)), sb1]
  refine ⟨o3, j0, k4.1.1, kp19, by omega, k3.1, (s_Ga_run hF x3 sb2').mono (fun x12 M11 k => ?_)⟩
  obtain ⟨i12, o11, hx12, Ab', Be', C', hx11, f11, s11, z11, -⟩ := k
  obtain ⟨ce1, ce2⟩ := ga_ce x3 f11
  have ce0 := ce1 0 (by omega)
  rw [Nat.add_zero] at ce0
  have fl11 : flF M g p bc0 M11 := fl3.trans ⟨fun i _ _ _ => by rw [ce0], fun i _ _ => ce1 i (by omega), ⟨ce1 21 (by omega), ce1 22 (by omega)⟩, s11, ce2, fun i _ => ⟨by rw [ce1 8 (by omega)], by rw [ce1 9 (by omega)]⟩⟩
  have cn11 : mI M11 g 0 = ((cn : Nat) : Int) := by rw [ce0]; exact cn3
  have bc11 : mI M11 g 13 = ((bc : Nat) : Int) := by rw [ce0]; exact bc3
  have cc11 : mI M11 g 12 = ((cc : Nat) : Int) := by rw [ce0]; exact cc3
  have sl11 : SLt M11 g cn := fun i hi => by rw [ce1 20 (by omega)]; exact sl3 i hi
  have ip11 : ipG M11 g cn bc0 bc sm := ⟨ip1, ip2, fun i a b => by rw [ce1 8 (by omega), ce1 9 (by omega)]; exact ip3'.2.2.1 i a b, by rw [wsm_cg (M := M3) _ (fun i _ _ => by rw [ce1 9 (by omega)])]; exact ip3'.2.2.2⟩
  have h711 : mI M11 (g + 7) cc = ((bc0 : Nat) : Int) := by rw [ce1 7 (by omega), nb3 _ (by omega)]; exact h7
  clear ce1 ce2 ce0 f3 nb3 fl3 sb2 sb2' cn3 bc3 cc3 sl3 ip3' k2 k3 k4 k5 x3 f11 s11 e3 o3 p19 kp19 np19
  obtain ⟨-, l2, l3, l4, l5, -⟩ := id hx11
  obtain ⟨m0, ⟨-, -, -, -, -, -, m7, -, -, m15, -⟩, ⟨-, -, -, -, -, -, mk7, -⟩, ⟨-, -, -, -, -, -, mn7, -⟩⟩ := id l2
  refine ⟨i12, o11, fun y => ⟨m0, (s_Ga_machineFault o11 m0 m15 l3.1).mono (fun r M' q => ?_)⟩, fun y => ⟨m0, (s_Ga_enter (d := d + 2) hx11 cn11 hcn5 sl11).mono (fun x22 M21 k => ?_)⟩⟩
  · exact ⟨q.1, q.2.2.1, pl_fo hbc hx11 fl11 cn11 (Nat.le_refl _) hcn5 sl11 bc11 ⟨ip1, ip2⟩ q.2.2 q.1 (by rw [q.2.1]; exact z11 y)⟩
  obtain ⟨hx21, f21, r21, cn', cn21, cnn, cn5', sl21, hto, i22, -⟩ := k
  have off21 := ga_off hx21
  have nb : ∀ x, x ≠ g → x ≠ g + 1 → x ≠ g + 20 → mI M21 x = mI M11 x := fun x a b c => f21.2.2.2.2.2.2 x (fun y => y.elim a (fun y => y.elim b c))
  have fl21 : flF M g p bc0 M21 := fl11.trans ⟨fun i i0 _ _ => r21 i i0, fun i _ _ => nb _ (by omega) (by omega) (by omega), ⟨nb _ (by omega) (by omega) (by omega), nb _ (by omega) (by omega) (by omega)⟩, by rw [nb _ (by omega) (by omega) (by omega)], fun i hi => nb _ (off i 0 hi (by omega)) (off i 1 hi (by omega)) (off i 20 hi (by omega)), fun i _ => ⟨by rw [nb _ (by omega) (by omega) (by omega)], by rw [nb _ (by omega) (by omega) (by omega)]⟩⟩
  have bc21 : mI M21 g 13 = ((bc : Nat) : Int) := by rw [r21 13 (by decide)]; exact bc11
  have cc21 : mI M21 g 12 = ((cc : Nat) : Int) := by rw [r21 12 (by decide)]; exact cc11
  have ip21 : ipG M21 g cn' bc0 bc sm := ⟨ip1, ip2, fun i a b => by
    rw [nb (g + 8) (by omega) (by omega) (by omega), nb (g + 9) (by omega) (by omega) (by omega)]
    obtain ⟨c1, c2, c3⟩ := ip11.2.2.1 i a b
    exact ⟨c1, by omega, c3⟩, by rw [wsm_cg (M := M11) _ (fun i _ _ => by rw [nb (g + 9) (by omega) (by omega) (by omega)])]; exact ip11.2.2.2⟩
  obtain ⟨o21, a2, a3, a4, a5, -⟩ := id hx21
  obtain ⟨b0, ⟨-, -, -, -, -, -, b7, -⟩, ⟨-, -, -, -, -, -, bk7, -⟩, ⟨-, -, -, -, -, -, bn7, -⟩⟩ := id a2
  have p17 := a4.1.2.2.2.2.2.2.1.2.2.2.2.2.2.2.2.2.2.1
  have kp17 := a4.1.2.2.2.2.2.2.2.1.2.2.2.2.2.2.2.2.2.2.1
  have np17 := a4.1.2.2.2.2.2.2.2.2.2.2.2.2.2.2.2.2.2.2.1
  rw [a5.1, p17, np17, b7, bn7, cc21, Int.toNat_natCast, nb (g + 7) (by omega) (by omega) (by omega), h711]
  refine ⟨i22, o21, fun y => ⟨b0, a4.1.1, kp17, by omega, (s_Ga_fault ⟨by decide, by decide⟩ (o21 _ _).1 o21 b0).mono (fun r M' q => ?_)⟩, fun y => ⟨b0, bk7, by omega, ?_⟩⟩
  · rw [q.1]
    exact ⟨⟨by decide, by decide⟩, q.2.1, pl_fo hbc hx21 fl21 cn21 cnn cn5' sl21 bc21 ⟨ip1, ip2⟩ q.2 ⟨by decide, by decide⟩ (by decide)⟩
  · exact s_fo69 hbc hx21 fl21 hc cn21 cn5' sl21 bc21 ip21 hsh hsm (hto.resolve_left y) cnn (bc - bc0) bc0 (by omega) (Nat.le_refl _) ip1
end GAG
end
section
/-! The class's game: tryCommand. -/
section GAH
variable {G : mG} {d z g p O P K V F L cnt U Ab Be C Ab0 Be0 C0 s h t c cn k u v cc n bc bc0 x a0 br mu cn0 : Nat} {M0 M M' M1 M2 MB : mM} {ns : Nat → Int} {sf ef : Nat → Nat} {H : Nat → Nat} {S R : Nat → Prop} {sm sh : Int}
/-- a command of the game -/
def cmdG (M : mM) (g cn bc c : Nat) : Prop := ∃ x y mu : Nat, mI M (g + 7) c = ((x : Nat) : Int) ∧ mI M (g + 7) (c + 1) = ((y : Nat) : Int) ∧ (x < y ∧ y ≤ x + 8) ∧ y ≤ bc ∧ (∀ i, x ≤ i → i < y → 0 ≤ mI M (g + 8) i ∧ mI M (g + 8) i < cn ∧ 1 ≤ mI M (g + 9) i) ∧ mI M (g + 6) c = ((mu : Nat) : Int) ∧ 1 ≤ mu ∧ mu < 1000000000 ∧ wsm M g x (y - x) = ((mu : Nat) : Int) ∧ 0 ≤ mI M (g + 5) c ∧ mI M (g + 5) c < 60
theorem cmdG.cg {cn' bc' : Nat} (hh : cmdG M g cn bc c) (e7 : mI M' (g + 7) c = mI M (g + 7) c ∧ mI M' (g + 7) (c + 1) = mI M (g + 7) (c + 1)) (e6 : mI M' (g + 6) c = mI M (g + 6) c) (e5 : mI M' (g + 5) c = mI M (g + 5) c) (e8 : ∀ i, i < bc → mI M' (g + 8) i = mI M (g + 8) i ∧ mI M' (g + 9) i = mI M (g + 9) i) (hcn : cn ≤ cn') (hbc : bc ≤ bc') : cmdG M' g cn' bc' c := by
  obtain ⟨x, y, mu, h1, h2, h3, h4, h5, h6, h7, h8, h9, h10⟩ := hh
  refine ⟨x, y, mu, by rw [e7.1]; exact h1, by rw [e7.2]; exact h2, h3, by omega, fun i a b => ?_, by rw [e6]; exact h6, h7, h8, ?_, by rw [e5]; exact h10⟩
  · rw [(e8 i (by omega)).1, (e8 i (by omega)).2]
    obtain ⟨a1, a2, a3⟩ := h5 i a b
    exact ⟨a1, by omega, a3⟩
  · rw [wsm_cg (M := M) _ (fun i a b => (e8 i (by omega)).2)]
    exact h9
/-- the game's tables, up to state k -/
def GT (M : mM) (g cn k cc bc : Nat) : Prop := cc ≤ bc ∧ bc ≤ 4096 ∧ (∀ c, c < cc → cmdG M g cn bc c) ∧ (0 < cc → mI M (g + 7) 0 = 0 ∧ mI M (g + 7) cc = ((bc : Nat) : Int)) ∧ (cc = 0 → bc = 0) ∧ (∀ j, j ≤ k → ∃ x y : Nat, mI M (g + 4) j = ((x : Nat) : Int) ∧ mI M (g + 4) (j + 1) = ((y : Nat) : Int) ∧ x ≤ y ∧ y ≤ cc) ∧ mI M (g + 4) 0 = 0 ∧ mI M (g + 4) (k + 1) = ((cc : Nat) : Int)
/-- what a state was told is one of its commands, or 0; a player's state has a command -/
def GS1 (M : mM) (g j : Nat) : Prop := ∀ x y : Nat, mI M (g + 4) j = ((x : Nat) : Int) → mI M (g + 4) (j + 1) = ((y : Nat) : Int) → (0 ≤ mI M (g + 3) j ∧ (mI M (g + 3) j < ((y : Nat) : Int) - ((x : Nat) : Int) ∨ mI M (g + 3) j = 0)) ∧ ((mI M (g + 2) j = 1 ∨ mI M (g + 2) j = 2) → x < y)
def GS (M : mM) (g k : Nat) : Prop := ∀ j, j ≤ k → GS1 M g j
theorem GS1.cg {j : Nat} (h : GS1 M g j) (e2 : mI M' (g + 2) j = mI M (g + 2) j) (e3 : mI M' (g + 3) j = mI M (g + 3) j) (e4 : mI M' (g + 4) j = mI M (g + 4) j) (e5 : mI M' (g + 4) (j + 1) = mI M (g + 4) (j + 1)) : GS1 M' g j := by
  unfold GS1 at h ⊢
  rw [e2, e3, e4, e5]
  exact h
theorem GS.eq (h : GS M g k) (e : ∀ i, i ≤ 9 ∨ (20 ≤ i ∧ i ≤ 22) → mI M' (g + i) = mI M (g + i)) : GS M' g k := fun j hj => (h j hj).cg (by rw [e 2 (by omega)]) (by rw [e 3 (by omega)]) (by rw [e 4 (by omega)]) (by rw [e 4 (by omega)])
/-- what trying a command comes to -/
def tcQ (M0 : mM) (z g p O P K V F : Nat) (ns : Nat → Int) (sf ef : Nat → Nat) (L cnt Ab0 Be0 C0 : Nat) (MB : mM) (k cn : Nat) (r : Int) (M' : mM) : Prop := i32 r ∧ (∃ Ab Be C, GX M0 z g p O P K V F ns sf ef L cnt Ab0 Be0 C0 M' Ab Be C) ∧ mI M' (g + 10) 9 = mI MB (g + 10) 9 ∧ (r = 0 → ∃ cn' cc' bc' : Nat, (mI M' g 0 = ((cn' : Nat) : Int) ∧ cn ≤ cn' ∧ cn' ≤ 512 ∧ SLt M' g cn') ∧ mI M' g 12 = ((cc' : Nat) : Int) ∧ mI M' g 13 = ((bc' : Nat) : Int) ∧ GT M' g cn' k cc' bc' ∧ GS M' g k)
/-- shares -/
theorem share_ok (hch : chz M g n) (hd : ∀ b, b < n → (mI M (g + 22) b) ∣ ((mu : Nat) : Int)) (hmu : 1 ≤ mu) {b : Nat} (hb : b < n) : 0 ≤ Int.tdiv mu (mI M (g + 22) b) * mI M (g + 21) b ∧ (mI M (g + 21) b ≠ 0 → 1 ≤ Int.tdiv mu (mI M (g + 22) b) * mI M (g + 21) b) := by
  obtain ⟨b1, b2, b3, b4⟩ := hch b hb
  obtain ⟨q, eq⟩ := hd b hb
  have et : Int.tdiv mu (mI M (g + 22) b) = q := by
    rw [eq, Int.tdiv_eq_ediv_of_nonneg (by rw [← eq]; omega)]
    exact Int.mul_ediv_cancel_left _ (by omega)
  have q1 : 1 ≤ q := by
    by_cases y : 1 ≤ q
    · exact y
    · have := Int.mul_le_mul_of_nonneg_left (show q ≤ 0 by omega) (show 0 ≤ mI M (g + 22) b by omega)
      rw [← eq] at this
      omega
  rw [et]
  refine ⟨Int.mul_nonneg (by omega) b1, fun y => ?_⟩
  exact Int.mul_pos (by omega) (by omega)
theorem shS_mono (hch : chz M g n) (hd : ∀ b, b < n → (mI M (g + 22) b) ∣ ((mu : Nat) : Int)) (hmu : 1 ≤ mu) : ∀ (t b : Nat), b + t = n → 0 ≤ shS M g mu b → shS M g mu b ≤ shS M g mu n
  | 0, b, e, _ => by rw [show b = n by omega]; exact Int.le_refl _
  | t + 1, b, e, h0 => by
    have s1 := (share_ok hch hd hmu (b := b) (by omega)).1
    have e1 : shS M g mu (b + 1) = shS M g mu b + Int.tdiv mu (mI M (g + 22) b) * mI M (g + 21) b := rfl
    have := shS_mono hch hd hmu t (b + 1) (by omega) (by rw [e1]; omega)
    rw [e1] at this
    omega
theorem s_tc146 (hF : FMs G) (hc : c < cnt) (hcc2 : cc ≤ 4096) (hk : k < 512) (huv : u ≤ v ∧ v ≤ u + 8 ∧ v ≤ 480) (hmu : 1 ≤ mu ∧ mu < 1000000000) (hch : chz MB g (v - u)) (hd : ∀ b, b < v - u → (mI MB (g + 22) b) ∣ ((mu : Nat) : Int)) (hsum : shS MB g mu (v - u) = ((mu : Nat) : Int)) (h6 : mI MB (g + 6) cc = ((mu : Nat) : Int)) (h7 : mI MB (g + 7) cc = ((bc0 : Nat) : Int)) (hcc : mI MB g 12 = ((cc : Nat) : Int)) (h5t : 0 ≤ mI MB (g + 5) cc ∧ mI MB (g + 5) cc < 60) (hu : mI MB (p + 12) c = ((u : Nat) : Int)) (hv : mI MB (p + 12) (c + 1) = ((v : Nat) : Int)) (hccb : cc ≤ bc0) (hcm : ∀ j, j < cc → cmdG MB g cn0 bc0 j) (h70 : 0 < cc → mI MB (g + 7) 0 = 0) (h700 : cc = 0 → bc0 = 0) (hfc : ∀ j, j ≤ k → ∃ x y : Nat, mI MB (g + 4) j = ((x : Nat) : Int) ∧ mI MB (g + 4) (j + 1) = ((y : Nat) : Int) ∧ x ≤ y ∧ y ≤ cc) (hf0 : mI MB (g + 4) 0 = 0) (hgs : ∀ j, j < k → GS1 MB g j) (hgk : ∀ x y : Nat, mI MB (g + 4) k = ((x : Nat) : Int) → mI MB (g + 4) (k + 1) = ((y : Nat) : Int) → 0 ≤ mI MB (g + 3) k ∧ (mI MB (g + 3) k < ((y : Nat) : Int) - ((x : Nat) : Int) ∨ mI MB (g + 3) k = 0)) : ∀ (t b : Nat) (M : mM) (Ab Be C cn bc : Nat) (r : Int), v - u ≤ b + t → b ≤ v - u → i32 r → GX M0 z g p O P K V F ns sf ef L cnt Ab0 Be0 C0 M Ab Be C → flF MB g p bc0 M → (mI M g 0 = ((cn : Nat) : Int) ∧ cn0 ≤ cn ∧ cn ≤ 512 ∧ SLt M g cn) → mI M g 13 = ((bc : Nat) : Int) → bc0 ≤ bc → (bc ≤ 4096 ∧ bc ≤ bc0 + b) → (r = 0 → ipG M g cn bc0 bc (shS MB g mu b)) → 0 ≤ shS MB g mu b → h_Ga_tryCommand_146 G (d + 5) g k c r ((v - u : Nat) : Int) b M (tcQ M0 z g p O P K V F ns sf ef L cnt Ab0 Be0 C0 MB k cn0) := by
  intro t
  have fin : ∀ {b : Nat} {M : mM} {Ab Be C cn bc : Nat} {r : Int}, (r = 0 → b = v - u) → i32 r → GX M0 z g p O P K V F ns sf ef L cnt Ab0 Be0 C0 M Ab Be C → flF MB g p bc0 M → (mI M g 0 = ((cn : Nat) : Int) ∧ cn0 ≤ cn ∧ cn ≤ 512 ∧ SLt M g cn) → mI M g 13 = ((bc : Nat) : Int) → bc0 ≤ bc → (bc ≤ 4096 ∧ bc ≤ bc0 + b) → (r = 0 → ipG M g cn bc0 bc (shS MB g mu b)) → mK M g = 7 ∧ i32 ((mI M g 12) + 1) ∧ ∀ M84, M84 = mUI M g 12 ((mI M g 12) + 1) → mK M84 (mR M84 g 7) = 30 ∧ ((0 : Int) ≤ mI M84 g 12 ∧ mI M84 g 12 < (mN M84 (mR M84 g 7) : Int)) ∧ ∀ M88, M88 = mUI M84 (mR M84 g 7) (Int.toNat (mI M84 g 12)) (mI M84 g 13) → mK M88 (mR M88 g 4) = 30 ∧ ((0 : Int) ≤ (k : Int) + 1 ∧ (k : Int) + 1 < (mN M88 (mR M88 g 4) : Int)) ∧ ∀ M92, M92 = mUI M88 (mR M88 g 4) (Int.toNat ((k : Int) + 1)) (mI M88 g 12) → tcQ M0 z g p O P K V F ns sf ef L cnt Ab0 Be0 C0 MB k cn0 r M92 := fun {b M Ab Be C cn bc r} hb ir hx fl hcn hbc hb0 hb4 hip => by
    obtain ⟨h1, h2, h3, h4, h5, -⟩ := id hx
    obtain ⟨g0, ⟨-, -, -, g4, -, -, g7, -⟩, ⟨-, -, -, k4, -, -, k7, -⟩, ⟨-, -, -, n4, -, -, n7, -⟩⟩ := id h2
    obtain ⟨fl1, fl2, fl3, fl4, fl5, fl6⟩ := fl
    have ccM : mI M g 12 = ((cc : Nat) : Int) := by rw [fl1 12 (by decide) (by decide) (by decide)]; exact hcc
    rw [ccM]
    refine ⟨g0, ⟨by omega, by omega⟩, fun M84 e84 => ?_⟩
    have f84 : FI (fun x => x = g) M M84 := by rw [e84]; exact FI.ui rfl
    have c84 : mI M84 g 12 = ((cc + 1 : Nat) : Int) := by rw [mI_ui g 12 e84, if_pos ⟨rfl, rfl⟩]; omega
    have b84 : mI M84 g 13 = ((bc : Nat) : Int) := by rw [mI_ui g 13 e84, if_neg (fun t => absurd t.2 (by decide))]; exact hbc
    rw [f84.1, f84.2.1, f84.2.2.1, g7, n7, c84, b84, Int.toNat_natCast]
    refine ⟨k7, by omega, fun M88 e88 => ?_⟩
    have f88 : FI (fun x => x = g + 7) M84 M88 := by rw [e88]; exact FI.ui rfl
    rw [f88.1, f88.2.1, f88.2.2.1, f84.1, f84.2.1, f84.2.2.1, g4, n4, f88.2.2.2.2.2.2 g (show ¬ g = g + 7 by omega), c84, show Int.toNat ((k : Int) + 1) = k + 1 by omega]
    refine ⟨k4, by omega, fun M92 e92 => ?_⟩
    have f92 : FI (fun x => x = g + 4) M88 M92 := by rw [e92]; exact FI.ui rfl
    have ff : FI (fun x => x = g ∨ x = g + 7 ∨ x = g + 4) M M92 := ((f84.mono (fun _ y => Or.inl y)).trans (f88.mono (fun _ y => Or.inr (Or.inl y)))).trans (f92.mono (fun _ y => Or.inr (Or.inr y)))
    have o92 : mOk M92 := by rw [e92]; exact mOk_UI (by rw [e88]; exact mOk_UI (by rw [e84]; exact mOk_UI h1 ⟨by omega, by omega⟩) ⟨by omega, by omega⟩) ⟨by omega, by omega⟩
    have nb : ∀ x, x ≠ g → x ≠ g + 7 → x ≠ g + 4 → mI M92 x = mI M x := fun x a b c => ff.2.2.2.2.2.2 x (fun y => y.elim a (fun y => y.elim b c))
    have i92 : ∀ i, mI M92 g i = if i = 12 then ((cc + 1 : Nat) : Int) else mI M g i := fun i => by
      rw [f92.2.2.2.2.2.2 g (show ¬ g = g + 4 by omega), f88.2.2.2.2.2.2 g (show ¬ g = g + 7 by omega)]
      by_cases y : i = 12
      · rw [if_pos y, y]; exact c84
      · rw [if_neg y, mI_ui g i e84, if_neg (fun t => y t.2)]
    have t7 : ∀ i, mI M92 (g + 7) i = if i = cc + 1 then ((bc : Nat) : Int) else mI MB (g + 7) i := fun i => by
      rw [f92.2.2.2.2.2.2 _ (show ¬ g + 7 = g + 4 by omega), mI_ui _ i e88]
      by_cases y : i = cc + 1
      · rw [if_pos ⟨rfl, y⟩, if_pos y]
      · rw [if_neg (fun t => y t.2), if_neg y, f84.2.2.2.2.2.2 _ (show ¬ g + 7 = g by omega), fl2 7 (by omega) (by omega)]
    have t4 : ∀ i, mI M92 (g + 4) i = if i = k + 1 then ((cc + 1 : Nat) : Int) else mI MB (g + 4) i := fun i => by
      rw [mI_ui _ i e92]
      by_cases y : i = k + 1
      · rw [if_pos ⟨rfl, y⟩, if_pos y]
      · rw [if_neg (fun t => y t.2), if_neg y, f88.2.2.2.2.2.2 _ (show ¬ g + 4 = g + 7 by omega), f84.2.2.2.2.2.2 _ (show ¬ g + 4 = g by omega), fl2 4 (by omega) (by omega)]
    refine ⟨ir, ⟨Ab, Be, C, hx.fi o92 (ff.mono (fun x y => Or.inl (by have y' : x = g ∨ x = g + 7 ∨ x = g + 4 := y; omega)))⟩, by rw [nb _ (by omega) (by omega) (by omega)]; exact fl4, fun r0 => ?_⟩
    obtain ⟨ip1, ip2, ip3, ip4⟩ := hip r0
    rw [hb r0, hsum] at ip4
    have bcb : bc0 < bc := by
      by_cases y : bc0 < bc
      · exact y
      · rw [show bc - bc0 = 0 by omega] at ip4
        have : (0 : Int) = ((mu : Nat) : Int) := ip4
        omega
    have b8 : bc ≤ bc0 + 8 := by
      have t1 := hb r0
      have t2 := hb4.2
      omega
    have e8 := nb (g + 8) (by omega) (by omega) (by omega)
    have e9 := nb (g + 9) (by omega) (by omega) (by omega)
    have e6 : mI M92 (g + 6) = mI MB (g + 6) := by rw [nb (g + 6) (by omega) (by omega) (by omega), fl2 6 (by omega) (by omega)]
    have e5 : mI M92 (g + 5) = mI MB (g + 5) := by rw [nb (g + 5) (by omega) (by omega) (by omega), fl2 5 (by omega) (by omega)]
    have e2 : mI M92 (g + 2) = mI MB (g + 2) := by rw [nb (g + 2) (by omega) (by omega) (by omega), fl2 2 (by omega) (by omega)]
    have e3 : mI M92 (g + 3) = mI MB (g + 3) := by rw [nb (g + 3) (by omega) (by omega) (by omega), fl2 3 (by omega) (by omega)]
    refine ⟨cn, cc + 1, bc, ⟨by rw [i92, if_neg (by decide)]; exact hcn.1, hcn.2.1, hcn.2.2.1, fun i hi => by rw [nb _ (by omega) (by omega) (by omega)]; exact hcn.2.2.2 i hi⟩, by rw [i92, if_pos rfl], by rw [i92, if_neg (by decide)]; exact hbc, ⟨by omega, hb4.1, fun j hj => ?_, fun _ => ⟨?_, by rw [t7, if_pos rfl]⟩, fun y => absurd y (by omega), fun j hj => ?_, by rw [t4, if_neg (by omega)]; exact hf0, by rw [t4, if_pos rfl]⟩, fun j hj => ?_⟩
    · by_cases y : j = cc
      · subst y
        refine ⟨bc0, bc, mu, by rw [t7, if_neg (by omega)]; exact h7, by rw [t7, if_pos rfl], ⟨bcb, b8⟩, Nat.le_refl _, fun i a b => by rw [e8, e9]; exact ip3 i a b, by rw [e6]; exact h6, hmu.1, hmu.2, by rw [wsm_cg (M := M) _ (fun i _ _ => by rw [e9])]; exact ip4, by rw [e5]; exact h5t⟩
      · exact (hcm j (by omega)).cg ⟨by rw [t7, if_neg (by omega)], by rw [t7, if_neg (by omega)]⟩ (by rw [e6]) (by rw [e5]) (fun i hi => ⟨by rw [e8]; exact (fl6 i hi).1, by rw [e9]; exact (fl6 i hi).2⟩) hcn.2.1 hb0
    · rw [t7, if_neg (by omega)]
      by_cases y : 0 < cc
      · exact h70 y
      · have c0 : cc = 0 := by omega
        rw [c0] at h7
        rw [h7, h700 c0]
        rfl
    · by_cases y : j = k
      · subst y
        obtain ⟨x, y', f1, f2, f3, f4⟩ := hfc j (Nat.le_refl _)
        exact ⟨x, cc + 1, by rw [t4, if_neg (by omega)]; exact f1, by rw [t4, if_pos rfl], by omega, Nat.le_refl _⟩
      · obtain ⟨x, y', f1, f2, f3, f4⟩ := hfc j hj
        exact ⟨x, y', by rw [t4, if_neg (by omega)]; exact f1, by rw [t4, if_neg (by omega)]; exact f2, f3, by omega⟩
    · by_cases y : j = k
      · subst y
        intro x1 y1 q1 q2
        rw [t4, if_neg (by omega)] at q1
        rw [t4, if_pos rfl] at q2
        obtain ⟨x0, y0, f1, f2, f3, f4⟩ := hfc j (Nat.le_refl _)
        have g1 := hgk x0 y0 f1 f2
        rw [f1] at q1
        rw [e3]
        clear hip hgs hgk hfc hcm hch hd
        exact ⟨⟨g1.1, Or.inl (by omega)⟩, fun _ => by omega⟩
      · exact (hgs j (by omega)).cg (by rw [e2]) (by rw [e3]) (by rw [t4, if_neg (by omega)]) (by rw [t4, if_neg (by omega)])
  induction t with
  | zero =>
    intro b M Ab Be C cn bc r ht hb ir hx fl hcn hbc hb0 hb4 hip hs0
    have c60 := hx.2.2.2.1.2.2.2.2.1.2
    exact k_Ga_tryCommand_146 hx.1 (i32s (by omega) (by omega)) (i32s (by omega) (by omega)) ir (i32s (by omega) (by omega)) (i32s (by omega) (by omega)) ⟨fun _ => fin (fun _ => by omega) ir hx fl hcn hbc hb0 hb4 hip, fun y => absurd (Or.inl (by omega)) y⟩
  | succ t ih =>
    intro b M Ab Be C cn bc r ht hb ir hx fl hcn hbc hb0 hb4 hip hs0
    have c60 := hx.2.2.2.1.2.2.2.2.1.2
    refine k_Ga_tryCommand_146 hx.1 (i32s (by omega) (by omega)) (i32s (by omega) (by omega)) ir (i32s (by omega) (by omega)) (i32s (by omega) (by omega)) ⟨fun y => fin (fun r0 => ?_) ir hx fl hcn hbc hb0 hb4 hip, fun y => ?_⟩
    · rcases y with y | y
      · omega
      · exact absurd r0 y
    have r0 : r = 0 := Classical.byContradiction (fun t => y (Or.inr t))
    have bn : b < v - u := by
      by_cases t : ((v - u : Nat) : Int) ≤ b
      · exact absurd (Or.inl t) y
      · omega
    subst r0
    obtain ⟨h1, h2, h3, h4, h5, -⟩ := id hx
    obtain ⟨g0, ⟨-, -, -, -, -, g6, -, -, -, -, -, g17, g18⟩, ⟨-, -, -, -, -, k6, -, -, -, -, k21, k22⟩, ⟨-, -, -, -, -, n6, -, -, -, -, n21, n22⟩⟩ := id h2
    have p16 := h4.1.2.2.2.2.2.2.1.2.2.2.2.2.2.2.2.2.1
    have kp16 := h4.1.2.2.2.2.2.2.2.1.2.2.2.2.2.2.2.2.2.1
    have np16 := h4.1.2.2.2.2.2.2.2.2.2.2.2.2.2.2.2.2.2.1
    have fl0 := fl
    obtain ⟨fl1, fl2, ⟨fl3, fl3'⟩, fl4, fl5, fl6⟩ := fl
    have ccM : mI M g 12 = ((cc : Nat) : Int) := by rw [fl1 12 (by decide) (by decide) (by decide)]; exact hcc
    have e1 : shS MB g mu (b + 1) = shS MB g mu b + Int.tdiv mu (mI MB (g + 22) b) * mI MB (g + 21) b := rfl
    obtain ⟨sh1, sh2⟩ := share_ok hch hd hmu.1 bn
    have shm := shS_mono hch hd hmu.1 (v - u - (b + 1)) (b + 1) (by omega) (by rw [e1]; omega)
    rw [hsum, e1] at shm
    obtain ⟨bb1, bb2, bb3, bb4⟩ := hch b bn
    rw [g17, n21, Int.toNat_natCast, fl3, h5.1, p16, np16, g6, n6, g18, n22, ccM, Int.toNat_natCast, Int.toNat_natCast, fl2 6 (by omega) (by omega), h6, fl3', fl5 12 (by omega), hu]
    refine ⟨g0, k21, by omega, fun y0 => ?_, fun y0 => ⟨h4.1.1, kp16, by omega, k6, by omega, k22, by omega, by omega, by omega, ?_⟩⟩
    · refine k_Ga_tryCommand_212 h1 (i32s (by omega) (by omega)) (i32s (by omega) (by omega)) ir (i32s (by omega) (by omega)) (i32s (by omega) (by omega)) ?_
      rw [show ((b : Int) + 1) = ((b + 1 : Nat) : Int) by omega]
      have e2 : shS MB g mu (b + 1) = shS MB g mu b := by rw [e1, y0]; omega
      exact ih (b + 1) M Ab Be C cn bc 0 (by omega) (by omega) ir hx fl0 hcn hbc hb0 ⟨hb4.1, by omega⟩ (fun t => by rw [e2]; exact hip t) (by rw [e2]; exact hs0)
    · obtain ⟨u', v', q1, q2, -, -, -, hbr, -⟩ := h4.cmd hc
      have vv : v' = v := by rw [fl5 12 (by omega), hv] at q2; omega
      subst vv
      obtain ⟨s1, s2, -, -, b3, b4⟩ := hbr (u + b) (by omega)
      have h7M : mI M (g + 7) cc = ((bc0 : Nat) : Int) := by rw [fl2 7 (by omega) (by omega)]; exact h7
      rw [show ((u : Nat) : Int) + (b : Int) = ((u + b : Nat) : Int) by omega]
      refine (s_Ga_follow hF hx hc hcn.1 hcn.2.2.1 hcn.2.2.2 hbc (hip rfl) (sh2 y0) (by omega) ccM hcc2 h7M (by omega) ⟨s2, b3, b4⟩).mono (fun r' M' q => ?_)
      obtain ⟨w1, w2, ⟨A', B', C', w3⟩, cn', bc', w4, w5, w6, w7, w8⟩ := q
      refine ⟨w1, w3.1, k_Ga_tryCommand_212 w3.1 (i32s (by omega) (by omega)) (i32s (by omega) (by omega)) w1 (i32s (by omega) (by omega)) (i32s (by omega) (by omega)) ?_⟩
      rw [show ((b : Int) + 1) = ((b + 1 : Nat) : Int) by omega]
      exact ih (b + 1) M' A' B' C' cn' bc' r' (by omega) (by omega) w1 w3 (fl0.trans w2) ⟨w4.1, by omega, w4.2.2.1, w4.2.2.2⟩ w5 w6 ⟨w7.1, by omega⟩ (fun t => by rw [e1]; exact w8 t) (by rw [e1]; omega)
end GAH
end
