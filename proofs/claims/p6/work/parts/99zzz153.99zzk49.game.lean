section
/-! The class's game: places, the program it explores, runs of its machine. -/
section GAA
variable {G : mG} {d z g p O P K V F L cnt U w9 Ab Be C Ab0 Be0 C0 s h t c : Nat} {M0 M M' M1 M2 : mM} {ns : Nat → Int} {sf ef : Nat → Nat} {H : Nat → Nat} {S R : Nat → Prop}
/-- the game's places -/
def GK (M : mM) (g : Nat) : Prop := mK M g = 7 ∧ (mR M g 1 = g + 1 ∧ mR M g 2 = g + 2 ∧ mR M g 3 = g + 3 ∧ mR M g 4 = g + 4 ∧ mR M g 5 = g + 5 ∧ mR M g 6 = g + 6 ∧ mR M g 7 = g + 7 ∧ mR M g 8 = g + 8 ∧ mR M g 9 = g + 9 ∧ mR M g 15 = g + 10 ∧ mR M g 16 = g + 20 ∧ mR M g 17 = g + 21 ∧ mR M g 18 = g + 22) ∧ (mK M (g + 1) = 30 ∧ mK M (g + 2) = 30 ∧ mK M (g + 3) = 30 ∧ mK M (g + 4) = 30 ∧ mK M (g + 5) = 30 ∧ mK M (g + 6) = 30 ∧ mK M (g + 7) = 30 ∧ mK M (g + 8) = 30 ∧ mK M (g + 9) = 30 ∧ mK M (g + 20) = 30 ∧ mK M (g + 21) = 30 ∧ mK M (g + 22) = 30) ∧ (mN M (g + 1) = 6144 ∧ mN M (g + 2) = 512 ∧ mN M (g + 3) = 512 ∧ mN M (g + 4) = 513 ∧ mN M (g + 5) = 4097 ∧ mN M (g + 6) = 4097 ∧ mN M (g + 7) = 4098 ∧ mN M (g + 8) = 4096 ∧ mN M (g + 9) = 4096 ∧ mN M (g + 20) = 1024 ∧ mN M (g + 21) = 8 ∧ mN M (g + 22) = 8)
theorem GK.eq2 (hk : GK M g) (v : ∀ i, i ≤ 22 → mK M' (g + i) = mK M (g + i) ∧ mN M' (g + i) = mN M (g + i)) (hr : ∀ i, i ≠ 14 → mR M' g i = mR M g i) : GK M' g := by
  unfold GK at hk ⊢
  have v0 := v 0 (by omega)
  rw [Nat.add_zero] at v0
  rw [v0.1, hr 1 (by omega), hr 2 (by omega), hr 3 (by omega), hr 4 (by omega), hr 5 (by omega), hr 6 (by omega), hr 7 (by omega), hr 8 (by omega), hr 9 (by omega), hr 15 (by omega), hr 16 (by omega), hr 17 (by omega), hr 18 (by omega), (v 1 (by omega)).1, (v 2 (by omega)).1, (v 3 (by omega)).1, (v 4 (by omega)).1, (v 5 (by omega)).1, (v 6 (by omega)).1, (v 7 (by omega)).1, (v 8 (by omega)).1, (v 9 (by omega)).1, (v 20 (by omega)).1, (v 21 (by omega)).1, (v 22 (by omega)).1, (v 1 (by omega)).2, (v 2 (by omega)).2, (v 3 (by omega)).2, (v 4 (by omega)).2, (v 5 (by omega)).2, (v 6 (by omega)).2, (v 7 (by omega)).2, (v 8 (by omega)).2, (v 9 (by omega)).2, (v 20 (by omega)).2, (v 21 (by omega)).2, (v 22 (by omega)).2]
  exact hk
/-- a program that may be explored -/
def PW (M : mM) (z p O P K V F : Nat) (ns : Nat → Int) (sf ef : Nat → Nat) (L cnt : Nat) : Prop := PK M z p O P K ∧ (mI M p 2 = ((L : Nat) : Int) ∧ L ≤ K ∧ L ≤ 16384) ∧ (mI M p 3 = ((V : Nat) : Int) ∧ V ≤ 12) ∧ F ≤ 60 ∧ (mI M p 12 = ((cnt : Nat) : Int) ∧ cnt ≤ 60) ∧ mI M p 11 ≠ -1 ∧ ∃ u : Nat, mI M (p + 12) cnt = ((u : Nat) : Int) ∧ PG M p O P V F ns sf ef L cnt u
theorem PW.fa (h : PW M z p O P K V F ns sf ef L cnt) (f : FA S R M M') (hp : ¬ R p) (hs : ∀ i, i ≤ 15 → ¬ S (p + i)) (hO : ¬ S O) (hP : ¬ S P) : PW M' z p O P K V F ns sf ef L cnt := by
  obtain ⟨h1, h2, h3, h4, h5, h6, u, h7, h8⟩ := h
  obtain ⟨-, -, -, ⟨o1, o2, o3, o4⟩, ⟨pz0, pz1, pz2⟩, -⟩ := id h1
  have e : ∀ i, i ≤ 15 → mI M' (p + i) = mI M (p + i) := fun i hi => (f.2 (p + i) (by omega)).2.2.2.2 (hs i hi)
  have eO : mI M' O = mI M O := (f.2 O pz1).2.2.2.2 hO
  have eP : mI M' P = mI M P := (f.2 P pz2).2.2.2.2 hP
  have e0 := e 0 (by omega)
  rw [Nat.add_zero] at e0
  exact ⟨h1.fa f hp, by rw [e0]; exact h2, by rw [e0]; exact h3, h4, by rw [e0]; exact h5, by rw [e0]; exact h6, u, by rw [e 12 (by omega)]; exact h7, h8.cg (by rw [e0]) (fun i _ _ => e i (by omega)) (fun b _ => ⟨by rw [e 14 (by omega)], by rw [e 15 (by omega)]⟩) (fun i _ => ⟨by rw [eO], by rw [eP]⟩)⟩
/-- what exploring may change -/
def gaS (g Ab Be : Nat) : Nat → Prop := fun x => (g ≤ x ∧ x ≤ g + 22) ∨ x = Ab ∨ x = Be
def gaR (g : Nat) : Nat → Prop := fun x => x = g ∨ x = g + 10
def gaF (M0 : mM) (g Ab0 Be0 C0 : Nat) (M : mM) (Ab Be C : Nat) : Prop := FA (gaS g Ab0 Be0) (gaR g) M0 M ∧ ((Ab = Ab0 ∨ mZ M0 ≤ Ab) ∧ (Be = Be0 ∨ mZ M0 ≤ Be)) ∧ (mS M + 4 * C0 = mS M0 + 4 * C ∧ 32 * mZ M + C0 ≤ 32 * mZ M0 + C)
theorem gaF.refl : gaF M g Ab Be C M Ab Be C := ⟨FA.refl, ⟨Or.inl rfl, Or.inl rfl⟩, rfl, Nat.le_refl _⟩
theorem gaF.trans {Ab1 Be1 C1 : Nat} (f : gaF M0 g Ab0 Be0 C0 M Ab Be C) (k : gaF M g Ab Be C M1 Ab1 Be1 C1) : gaF M0 g Ab0 Be0 C0 M1 Ab1 Be1 C1 := by
  obtain ⟨f1, ⟨f2, f3⟩, f4, f5⟩ := f
  obtain ⟨g1, ⟨g2, g3⟩, g4, g5⟩ := k
  have zz := f1.1.1
  refine ⟨f1.trans2 g1 (fun x hx y => ?_) (fun _ _ y => y), ⟨by omega, by omega⟩, by omega, by omega⟩
  have y' : (g ≤ x ∧ x ≤ g + 22) ∨ x = Ab ∨ x = Be := y
  show (g ≤ x ∧ x ≤ g + 22) ∨ x = Ab0 ∨ x = Be0
  omega
/-- the game while it explores: all but the counts -/
def GY (U w9 : Nat) (M0 : mM) (z g p O P K V F : Nat) (ns : Nat → Int) (sf ef : Nat → Nat) (L cnt Ab0 Be0 C0 : Nat) (M : mM) (Ab Be C : Nat) : Prop := mOk M ∧ GK M g ∧ MK M z (g + 10) U Ab Be C ∧ PW M z p O P K V F ns sf ef L cnt ∧ (mR M g 14 = p ∧ mR M (g + 10) 0 = p) ∧ (g + 23 ≤ z ∧ (g + 22 < p ∨ p + 15 < g) ∧ (O ≠ Ab ∧ O ≠ Be ∧ P ≠ Ab ∧ P ≠ Be)) ∧ MT M (g + 10) (fun x => x < 60 ∧ w9 = 1) ∧ gaF M0 g Ab0 Be0 C0 M Ab Be C ∧ (∀ x, x < 60 → mI M (g + 15) x ≤ mI M (g + 10) 9) ∧ (∀ i, i ≤ 15 → mI M (p + i) = mI M0 (p + i))
/-- exploring, after the first state has been entered -/
abbrev GX (M0 : mM) (z g p O P K V F : Nat) (ns : Nat → Int) (sf ef : Nat → Nat) (L cnt Ab0 Be0 C0 : Nat) (M : mM) (Ab Be C : Nat) : Prop := GY (g + 1) 1 M0 z g p O P K V F ns sf ef L cnt Ab0 Be0 C0 M Ab Be C
theorem ga_ne {g p O P Ab Be z : Nat} (h1 : g + 23 ≤ z) (h2 : g + 22 < p ∨ p + 15 < g) (h3 : O ≠ Ab ∧ O ≠ Be ∧ P ≠ Ab ∧ P ≠ Be) (o1 : O = p + 1 ∨ z ≤ O) (o2 : P = p + 2 ∨ z ≤ P) (o4 : p + 16 ≤ z) (a1 : Ab = g + 10 + 3 ∨ z ≤ Ab) (a2 : Be = g + 10 + 4 ∨ z ≤ Be) : (∀ i, i ≤ 15 → ¬ gaS g Ab Be (p + i)) ∧ ¬ gaS g Ab Be O ∧ ¬ gaS g Ab Be P ∧ ¬ gaR g p := by
  refine ⟨fun i hi y => ?_, fun y => ?_, fun y => ?_, fun y => ?_⟩
  · have y' : (g ≤ p + i ∧ p + i ≤ g + 22) ∨ p + i = Ab ∨ p + i = Be := y
    omega
  · have y' : (g ≤ O ∧ O ≤ g + 22) ∨ O = Ab ∨ O = Be := y
    omega
  · have y' : (g ≤ P ∧ P ≤ g + 22) ∨ P = Ab ∨ P = Be := y
    omega
  · have y' : p = g ∨ p = g + 10 := y
    omega
theorem GY.ne (h : GY U w9 M0 z g p O P K V F ns sf ef L cnt Ab0 Be0 C0 M Ab Be C) : (∀ i, i ≤ 15 → ¬ gaS g Ab Be (p + i)) ∧ ¬ gaS g Ab Be O ∧ ¬ gaS g Ab Be P ∧ ¬ gaR g p := by
  obtain ⟨-, -, hk, hp, -, ⟨h1, h2, h3⟩, -⟩ := h
  obtain ⟨o1, o2, -, o4⟩ := hp.1.2.2.2.1
  obtain ⟨a1, a2, -, -⟩ := hk.2.2.2.2.2.1
  exact ga_ne h1 h2 h3 o1 o2 o4 a1 a2
/-- ints of the game's own tables change (not the machine's) -/
theorem GY.fi (h : GY U w9 M0 z g p O P K V F ns sf ef L cnt Ab0 Be0 C0 M Ab Be C) (ok : mOk M') (f : FI (fun x => (g ≤ x ∧ x ≤ g + 9) ∨ x = g + 12 ∨ (g + 20 ≤ x ∧ x ≤ g + 22)) M M') : GY U w9 M0 z g p O P K V F ns sf ef L cnt Ab0 Be0 C0 M' Ab Be C := by
  have ne := h.ne
  obtain ⟨-, h2, h3, h4, h5, h6, h7, h8, h9, h10⟩ := h
  have f9 : FI (gaS g Ab Be) M M' := f.mono (fun x y => Or.inl (by
    have y' : (g ≤ x ∧ x ≤ g + 9) ∨ x = g + 12 ∨ (g + 20 ≤ x ∧ x ≤ g + 22) := y
    omega))
  have em : ∀ i, i = 0 ∨ (3 ≤ i ∧ i ≤ 9) → mI M' (g + 10 + i) = mI M (g + 10 + i) := fun i hi => f.2.2.2.2.2.2 _ (fun y => by
    have y' : (g ≤ g + 10 + i ∧ g + 10 + i ≤ g + 9) ∨ g + 10 + i = g + 12 ∨ (g + 20 ≤ g + 10 + i ∧ g + 10 + i ≤ g + 22) := y
    omega)
  have e0 := em 0 (Or.inl rfl)
  rw [Nat.add_zero] at e0
  refine ⟨ok, h2.eq2 (fun i _ => ⟨by rw [f.1], by rw [f.2.1]⟩) (fun i _ => by rw [f.2.2.1]), h3.fi f (by rw [e0]), h4.fa (FI.fa (R := fun _ => False) f9) (fun y => y) ne.1 ne.2.1 ne.2.2.1, by rw [f.2.2.1]; exact h5, h6, fun x hx => ?_, h8.trans ⟨(FI.fa f9).mono (fun _ _ y => y) (fun _ _ y => y), ⟨Or.inl rfl, Or.inl rfl⟩, by rw [f.2.2.2.2.2.1], by rw [f.2.2.2.2.1]; exact Nat.le_refl _⟩, fun x hx => by
    rw [show g + 15 = g + 10 + 5 by omega, em 5 (by omega), e0]
    exact h9 x hx, fun i hi => by rw [f9.2.2.2.2.2.2 _ (ne.1 i hi)]; exact h10 i hi⟩
  rw [em 5 (by omega), em 7 (by omega), e0]
  exact h7 x hx
/-- a run of the machine -/
theorem s_Ga_run (hF : FMs G) (hx : GX M0 z g p O P K V F ns sf ef L cnt Ab0 Be0 C0 M Ab Be C) (hc : PC M O P V F ns ef L s h) : Ci G y_Ma_run (d + 4) [vr (g + 10), vi s] M (fun r M' => i32 r ∧ mOk M' ∧ (r = 0 ∨ r = 1) ∧ ∃ Ab' Be' C', GX M0 z g p O P K V F ns sf ef L cnt Ab0 Be0 C0 M' Ab' Be' C' ∧ FA (mcS (g + 10) Ab Be) (fun x => x = g + 10) M M' ∧ mI M' (g + 10) 9 = mI M (g + 10) 9 ∧ (r = 0 → mI M' (g + 10) 1 ≠ 0) ∧ (r ≠ 0 → h = 1 → 1 ≤ mI M' Be' 0 ∧ mI M' Be' 0 < 1000000000)) := by
  have ne := hx.ne
  obtain ⟨h1, h2, h3, h4, h5, ⟨h61, h62, h63⟩, h7, h8, h9, h10⟩ := hx
  obtain ⟨p1, ⟨p2, p3, p4⟩, ⟨p5, p6⟩, p7, ⟨p8, p9⟩, p10, u, p11, p12⟩ := id h4
  obtain ⟨e, H, Ft, c1, c2, c3, c4⟩ := hc
  obtain ⟨o1, o2, -, o4⟩ := p1.2.2.2.1
  obtain ⟨a1, a2, a3, a4⟩ := h3.2.2.2.2.2.1
  have ha : Mpr M z (g + 10) p O P Ab Be := ⟨by omega, h63, by omega, o4, a1, a2⟩
  have fo : FO M p O P V ns sf ef L Ft := fun x hx => p12.1 x (by omega)
  refine (s_Ma_run hF h1 h3 h7 p1 h5.2 ha p2 p3 p4 fo (fun x hx _ => ⟨by omega, rfl⟩) (by omega) p6 c1 c2 c4).mono (fun r M' k => ?_)
  obtain ⟨k1, k2⟩ := k
  have hr : r = 0 ∨ r = 1 := k2.imp (fun u => u.1) (fun u => u.1)
  have fin : ∀ {t c : Nat}, MS M z (g + 10) (g + 1) Ab Be C M' t c → (r = 0 → mI M' (g + 10) 1 ≠ 0) → (r ≠ 0 → h = 1 → t = 1) → i32 r ∧ mOk M' ∧ (r = 0 ∨ r = 1) ∧ ∃ Ab' Be' C', GX M0 z g p O P K V F ns sf ef L cnt Ab0 Be0 C0 M' Ab' Be' C' ∧ FA (mcS (g + 10) Ab Be) (fun x => x = g + 10) M M' ∧ mI M' (g + 10) 9 = mI M (g + 10) 9 ∧ (r = 0 → mI M' (g + 10) 1 ≠ 0) ∧ (r ≠ 0 → h = 1 → 1 ≤ mI M' Be' 0 ∧ mI M' Be' 0 < 1000000000) := fun {t c} hM hf0 ht => by
    obtain ⟨Ab', Be', C', ok, hk, hf, hab, hr', ⟨m8, mt, mb⟩, -, hm⟩ := hM
    have hf9 : FA (gaS g Ab Be) (gaR g) M M' := hf.mono (fun x _ y => by
      have y' : x = g + 10 ∨ x = g + 10 + 2 ∨ (g + 10 + 5 ≤ x ∧ x ≤ g + 10 + 9) ∨ x = Ab ∨ x = Be := y
      show (g ≤ x ∧ x ≤ g + 22) ∨ x = Ab ∨ x = Be
      omega) (fun x _ y => Or.inr y)
    obtain ⟨z1, zA, zB, zU⟩ := h3.2.2.2.2.2.2.1
    obtain ⟨pz0, pz1, pz2⟩ := p1.2.2.2.2.1
    have cl : ∀ i, i ≤ 22 → mK M' (g + i) = mK M (g + i) ∧ mN M' (g + i) = mN M (g + i) := fun i hi => ⟨(hf.2 (g + i) (by omega)).1, (hf.2 (g + i) (by omega)).2.1⟩
    have rg : mR M' g = mR M g := (hf.2 g (by omega)).2.2.2.1 (show ¬ g = g + 10 by omega)
    refine ⟨m_b32 hr, ok, hr, Ab', Be', C', ⟨ok, h2.eq2 cl (fun i _ => by rw [rg]), hk, h4.fa hf9 ne.2.2.2 ne.1 ne.2.1 ne.2.2.1, ⟨by rw [rg]; exact h5.1, by rw [hm.2.2]; exact h5.2⟩, ⟨h61, h62, ?_⟩, k1, h8.trans ⟨hf9, hab, hr'⟩, fun x hx => (k1 x ⟨hx, rfl⟩).1, fun i hi => by rw [(hf9.2 (p + i) (by omega)).2.2.2.2 (ne.1 i hi)]; exact h10 i hi⟩, hf, hm.1, hf0, fun r0 hh => mb 0 (by rw [ht r0 hh]; exact Nat.one_pos)⟩
    clear h1 h2 h3 h4 h5 h7 h8 h9 h10 k1 k2 p12 c1 c4 fo ha hk hf hf9 cl rg mb hr' hm hr ht ne
    omega
  rcases k2 with ⟨e1, f0, t, c, hM⟩ | ⟨e1, hM⟩
  · exact fin hM (fun _ => f0) (fun r0 => absurd e1 r0)
  · exact fin hM (fun r0 => by rw [e1] at r0; exact absurd r0 (by decide)) (fun _ hh => hh)
end GAA
end
section
/-! The class's game: small steps, and a state that is entered. -/
section GAB
variable {G : mG} {d z g p O P K V F L cnt U w9 Ab Be C Ab0 Be0 C0 s h t c cn k : Nat} {M0 M M' M1 M2 : mM} {ns : Nat → Int} {sf ef : Nat → Nat} {H : Nat → Nat} {S R : Nat → Prop}
theorem s_JA_fill {a : Nat} {v : Int} (hO : mOk M) (hK : mK M a = 30) (hN : mN M a ≤ 100000) (hv : i32 v) : Cv G y_JA_fill d [vr a, vi v] M (fun M' => mOk M' ∧ FI (fun x => x = a) M M' ∧ ∀ i, i < mN M a → mI M' a i = v) := by
  refine k_JA_fill hO hv ⟨hK, ?_⟩
  suffices HH : ∀ (t i : Nat) (M1 : mM), mN M a ≤ i + t → i ≤ mN M a → mOk M1 → FI (fun x => x = a) M M1 → (∀ j, j < i → mI M1 a j = v) → h_JA_fill_5 G d a v i (mN M a : Int) M1 (fun M' => mOk M' ∧ FI (fun x => x = a) M M' ∧ ∀ i, i < mN M a → mI M' a i = v) from HH (mN M a) 0 M (by omega) (by omega) hO FI.refl (fun j hj => absurd hj (by omega))
  intro t
  induction t with
  | zero =>
    intro i M1 h1 h2 o f hj
    exact k_JA_fill_5 o hv ⟨by omega, by omega⟩ ⟨by omega, by omega⟩ ⟨fun _ => ⟨o, f, fun j hj' => hj j (by omega)⟩, fun y => absurd y (by omega)⟩
  | succ t ih =>
    intro i M1 h1 h2 o f hj
    refine k_JA_fill_5 o hv ⟨by omega, by omega⟩ ⟨by omega, by omega⟩ ⟨fun y => ⟨o, f, fun j hj' => hj j (by omega)⟩, fun y => ?_⟩
    rw [f.1, f.2.1, Int.toNat_natCast]
    refine ⟨hK, by omega, fun M8 e8 => ?_⟩
    rw [show ((i : Int) + 1) = ((i + 1 : Nat) : Int) by omega]
    refine ih (i + 1) M8 (by omega) (by omega) (by rw [e8]; exact mOk_UI o hv) (f.trans (by rw [e8]; exact FI.ui rfl)) (fun j hj' => ?_)
    rw [mI_ui a j e8]
    by_cases y : j = i
    · rw [if_pos ⟨rfl, y⟩]
    · rw [if_neg (fun u => y u.2)]
      exact hj j (by omega)
theorem s_Ga_clear (hO : mOk M) (hk : mK M g = 7) : Cv G y_Ga_clear d [vr g] M (fun M' => mOk M' ∧ FI (fun x => x = g) M M' ∧ (∀ i, mI M' g i = if i = 13 then 0 else if i = 12 then 0 else if i = 0 then 0 else mI M g i)) := by
  refine k_Ga_clear hO ⟨hk, fun M2 e2 M4 e4 M6 e6 => ?_⟩
  have f2 : FI (fun x => x = g) M M2 := by rw [e2]; exact FI.ui rfl
  have f4 : FI (fun x => x = g) M2 M4 := by rw [e4]; exact FI.ui rfl
  have f6 : FI (fun x => x = g) M4 M6 := by rw [e6]; exact FI.ui rfl
  refine ⟨by rw [e6]; exact mOk_UI (by rw [e4]; exact mOk_UI (by rw [e2]; exact mOk_UI hO ⟨by decide, by decide⟩) ⟨by decide, by decide⟩) ⟨by decide, by decide⟩, (f2.trans f4).trans f6, fun i => ?_⟩
  rw [mI_ui g i e6, mI_ui g i e4, mI_ui g i e2]
  by_cases y13 : i = 13
  · rw [if_pos ⟨rfl, y13⟩, if_pos y13]
  · rw [if_neg (fun u => y13 u.2), if_neg y13]
    by_cases y12 : i = 12
    · rw [if_pos ⟨rfl, y12⟩, if_pos y12]
    · rw [if_neg (fun u => y12 u.2), if_neg y12]
      by_cases y0 : i = 0
      · rw [if_pos ⟨rfl, y0⟩, if_pos y0]
      · rw [if_neg (fun u => y0 u.2), if_neg y0]
/-- a place is told: nothing else of the game changes -/
def plQ (M : mM) (g : Nat) (M' : mM) : Prop := mOk M' ∧ FI (fun x => x = g) M M' ∧ ∀ i, i ≠ 10 → mI M' g i = mI M g i
theorem s_Ga_fault {x y : Int} (hx : i32 x) (hy : i32 y) (hO : mOk M) (hk : mK M g = 7) : Ci G y_Ga_fault d [vr g, vi x, vi y] M (fun r M' => r = x ∧ plQ M g M') := by
  refine k_Ga_fault hO hx hy ⟨hk, fun M2 e2 => ⟨rfl, by rw [e2]; exact mOk_UI hO hy, by rw [e2]; exact FI.ui rfl, fun i hi => ?_⟩⟩
  rw [mI_ui g i e2, if_neg (fun u => hi u.2)]
theorem s_Ga_machineFault (hO : mOk M) (hk : mK M g = 7) (hr : mR M g 15 = g + 10) (hm : mK M (g + 10) = 5) : Ci G y_Ga_machineFault d [vr g] M (fun r M' => i32 r ∧ r = mI M (g + 10) 1 ∧ plQ M g M') := by
  refine k_Ga_machineFault hO ⟨hk, by rw [hr]; exact hm, fun M3 e3 => ?_⟩
  have f3 : FI (fun x => x = g) M M3 := by rw [e3]; exact FI.ui rfl
  have o3 : mOk M3 := by rw [e3]; exact mOk_UI hO (hO _ _).1
  rw [f3.1, f3.2.2.1, hr]
  refine ⟨hm, (o3 _ _).1, by rw [f3.2.2.2.2.2.2 (g + 10) (show ¬ g + 10 = g by omega)], o3, f3, fun i hi => ?_⟩
  rw [mI_ui g i e3, if_neg (fun u => hi u.2)]
theorem s_Ga_isNext (hx : GY U w9 M0 z g p O P K V F ns sf ef L cnt Ab0 Be0 C0 M Ab Be C) (hk : k < 512) : Ci G y_Ga_isNext d [vr g, vi k] M (fun r M' => M' = M ∧ (r = 0 ∨ r = 1)) := by
  obtain ⟨h1, h2, h3, h4, h5, -⟩ := hx
  obtain ⟨g0, ⟨g1, -, -, -, -, -, -, -, -, g15, -⟩, ⟨k1, -⟩, ⟨n1, -⟩⟩ := h2
  obtain ⟨p5, p6⟩ := h4.2.2.1
  have m0 := h3.1
  have m5 := h3.2.1.2.1
  have km := h3.2.2.1.2.1
  have nm := h3.2.2.2.1.1
  refine k_Ga_isNext h1 (i32s (by omega) (by omega)) ?_
  suffices HH : ∀ (t i : Nat), V ≤ i + t → i ≤ V → h_Ga_isNext_2 G d g k i M (fun r M' => M' = M ∧ (r = 0 ∨ r = 1)) from HH V 0 (by omega) (by omega)
  intro t
  induction t with
  | zero =>
    intro i hi hi2
    refine k_Ga_isNext_2 h1 (i32s (by omega) (by omega)) (i32s (by omega) (by omega)) ?_
    rw [h5.1, p5]
    exact ⟨g0, h4.1.1, fun _ => ⟨rfl, Or.inr rfl⟩, fun y => absurd y (by omega)⟩
  | succ t ih =>
    intro i hi hi2
    refine k_Ga_isNext_2 h1 (i32s (by omega) (by omega)) (i32s (by omega) (by omega)) ?_
    rw [h5.1, p5, g1, n1, g15, m5, nm]
    refine ⟨g0, h4.1.1, fun _ => ⟨rfl, Or.inr rfl⟩, fun y => ⟨k1, by omega, m0, km, by omega, fun _ => ?_, fun _ => ⟨rfl, Or.inl rfl⟩⟩⟩
    rw [show ((i : Int) + 1) = ((i + 1 : Nat) : Int) by omega]
    exact ih (i + 1) (by omega) (by omega)
/-- slots tell states -/
def SLt (M : mM) (g cn : Nat) : Prop := ∀ i, i < 1024 → mI M (g + 20) i = -1 ∨ (0 ≤ mI M (g + 20) i ∧ mI M (g + 20) i < cn)
/-- what enter comes to -/
def enG (U w9 : Nat) (M0 : mM) (z g p O P K V F : Nat) (ns : Nat → Int) (sf ef : Nat → Nat) (L cnt Ab0 Be0 C0 : Nat) (M : mM) (Ab Be C cn : Nat) (r : Int) (M' : mM)   : Prop := GY U w9 M0 z g p O P K V F ns sf ef L cnt Ab0 Be0 C0 M' Ab Be C ∧ FI (fun x => x = g ∨ x = g + 1 ∨ x = g + 20) M M' ∧ (∀ i, i ≠ 0 → mI M' g i = mI M g i) ∧ ∃ cn' : Nat, mI M' g 0 = ((cn' : Nat) : Int) ∧ cn ≤ cn' ∧ cn' ≤ 512 ∧ SLt M' g cn' ∧ (r = -1 ∨ (0 ≤ r ∧ r < cn')) ∧ i32 r ∧ (r = -1 → cn = 512)
theorem s_en51 (hx : GY U w9 M0 z g p O P K V F ns sf ef L cnt Ab0 Be0 C0 M Ab Be C) (hc : mI M g 0 = ((cn : Nat) : Int)) (hcn : cn ≤ 512) (hs : SLt M g cn) : ∀ (t i sl : Nat), 1024 ≤ i + t → i ≤ 1024 → sl < 1024 → h_Ga_enter_51 G (d + 1) g sl i M (enG U w9 M0 z g p O P K V F ns sf ef L cnt Ab0 Be0 C0 M Ab Be C cn) := by
  obtain ⟨h1, h2, h3, h4, h5, -⟩ := id hx
  obtain ⟨g0, ⟨g1, -, -, -, -, -, -, -, -, g15, g16, -⟩, ⟨k1, -, -, -, -, -, -, -, -, k20, -⟩, ⟨n1, -, -, -, -, -, -, -, -, n20, -⟩⟩ := h2
  have m0 := h3.1
  have m5 := h3.2.1.2.1
  have km := h3.2.2.1.2.1
  have nm := h3.2.2.2.1.1
  -- a new state
  have new : ∀ {sl : Nat}, sl < 1024 → mK M g = 7 ∧ ((mI M g 0 = 512) → (enG U w9 M0 z g p O P K V F ns sf ef L cnt Ab0 Be0 C0 M Ab Be C cn (-1) M)) ∧ (¬ (mI M g 0 = 512) → (mK M (mR M g 16) = 30 ∧ ((0 : Int) ≤ sl ∧ (sl : Int) < (mN M (mR M g 16) : Int)) ∧ ∀ M23, M23 = mUI M (mR M g 16) (Int.toNat sl) (mI M g 0) → mK M23 (mR M23 g 15) = 5 ∧ mK M23 (mR M23 (mR M23 g 15) 5) = 30 ∧ mK M23 (mR M23 g 1) = 30 ∧ ((0 : Int) ≤ 0 ∧ (0 : Int) ≤ (mI M23 g 0) * 12 ∧ (0 : Int) ≤ 12 ∧ 0 + 12 ≤ (mN M23 (mR M23 (mR M23 g 15) 5) : Int) ∧ ((mI M23 g 0) * 12) + 12 ≤ (mN M23 (mR M23 g 1) : Int)) ∧ ∀ M29, M29 = mCpy M23 (mR M23 (mR M23 g 15) 5) (mR M23 g 1) 0 (Int.toNat ((mI M23 g 0) * 12)) 12 → i32 ((mI M29 g 0) + 1) ∧ ∀ M32, M32 = mUI M29 g 0 ((mI M29 g 0) + 1) → enG U w9 M0 z g p O P K V F ns sf ef L cnt Ab0 Be0 C0 M Ab Be C cn ((mI M32 g 0) - 1) M32)) := fun {sl} hsl => by
    refine ⟨g0, fun y => ⟨hx, FI.refl, fun _ _ => rfl, cn, hc, Nat.le_refl _, hcn, hs, Or.inl rfl, ⟨by decide, by decide⟩, fun _ => by omega⟩, fun y => ?_⟩
    rw [g16, n20, Int.toNat_natCast, hc]
    refine ⟨k20, by omega, fun M23 e23 => ?_⟩
    have f23 : FI (fun x => x = g + 20) M M23 := by rw [e23]; exact FI.ui rfl
    have c23 : mI M23 g 0 = ((cn : Nat) : Int) := by rw [f23.2.2.2.2.2.2 g (show ¬ g = g + 20 by omega)]; exact hc
    rw [f23.1, f23.2.1, f23.2.2.1, g15, m5, g1, n1, nm, c23]
    refine ⟨m0, km, k1, ⟨by omega, by omega, by omega, by omega, by omega⟩, fun M29 e29 => ?_⟩
    have f29 : FI (fun x => x = g + 1) M23 M29 := by
      rw [e29]
      refine ⟨rfl, rfl, rfl, rfl, rfl, rfl, fun x hx => ?_⟩
      funext j
      exact if_neg (fun u => hx u.1)
    have c29 : mI M29 g 0 = ((cn : Nat) : Int) := by rw [f29.2.2.2.2.2.2 g (show ¬ g = g + 1 by omega)]; exact c23
    rw [c29]
    refine ⟨⟨by omega, by omega⟩, fun M32 e32 => ?_⟩
    have f32 : FI (fun x => x = g) M29 M32 := by rw [e32]; exact FI.ui rfl
    have c32 : mI M32 g 0 = ((cn + 1 : Nat) : Int) := by rw [mI_ui g 0 e32, if_pos ⟨rfl, rfl⟩]; omega
    have ff : FI (fun x => x = g ∨ x = g + 1 ∨ x = g + 20) M M32 := ((f23.mono (fun _ y => Or.inr (Or.inr y))).trans (f29.mono (fun _ y => Or.inr (Or.inl y)))).trans (f32.mono (fun _ y => Or.inl y))
    have o32 : mOk M32 := by rw [e32]; exact mOk_UI (by rw [e29]; exact mOk_Cpy (by rw [e23]; exact mOk_UI h1 ⟨by omega, by omega⟩)) ⟨by omega, by omega⟩
    rw [c32]
    refine ⟨hx.fi o32 (ff.mono (fun x y => by
      have y' : x = g ∨ x = g + 1 ∨ x = g + 20 := y
      show (g ≤ x ∧ x ≤ g + 9) ∨ x = g + 12 ∨ (g + 20 ≤ x ∧ x ≤ g + 22)
      omega)), ff, fun i hi => ?_, cn + 1, c32, by omega, by omega, fun i hi => ?_, Or.inr ⟨by omega, by omega⟩, ⟨by omega, by omega⟩, fun t => absurd t (by omega)⟩
    · rw [mI_ui g i e32, if_neg (fun u => hi u.2), f29.2.2.2.2.2.2 g (show ¬ g = g + 1 by omega), f23.2.2.2.2.2.2 g (show ¬ g = g + 20 by omega)]
    · rw [f32.2.2.2.2.2.2 _ (show ¬ g + 20 = g by omega), f29.2.2.2.2.2.2 _ (show ¬ g + 20 = g + 1 by omega), mI_ui _ i e23]
      by_cases y0 : i = sl
      · rw [if_pos ⟨rfl, y0⟩]
        exact Or.inr ⟨by omega, by omega⟩
      · rw [if_neg (fun u => y0 u.2)]
        rcases hs i hi with u | u
        · exact Or.inl u
        · exact Or.inr ⟨u.1, by omega⟩
  intro t
  induction t with
  | zero =>
    intro i sl hi hi2 hsl
    exact k_Ga_enter_51 h1 (i32s (by omega) (by omega)) (i32s (by omega) (by omega)) ⟨fun y => absurd y (by omega), fun _ => new hsl, fun y => absurd (Or.inl (by omega)) y⟩
  | succ t ih =>
    intro i sl hi hi2 hsl
    refine k_Ga_enter_51 h1 (i32s (by omega) (by omega)) (i32s (by omega) (by omega)) ⟨fun _ => ⟨g0, by rw [g16]; exact k20, by rw [g16, n20]; omega⟩, fun _ => new hsl, fun y => ?_⟩
    have i10 : i < 1024 := by
      by_cases u : (1024 : Int) ≤ i
      · exact absurd (Or.inl u) y
      · omega
    rw [g16, Int.toNat_natCast] at y
    have y1 : mI M (g + 20) sl ≠ -1 := fun u => y (Or.inr u)
    obtain ⟨k, ek⟩ : ∃ k : Nat, mI M (g + 20) sl = ((k : Nat) : Int) := by
      have := (hs sl hsl).resolve_left y1
      exact ⟨(mI M (g + 20) sl).toNat, by omega⟩
    have kc : k < cn := by
      have := (hs sl hsl).resolve_left y1
      omega
    rw [g16, n20, Int.toNat_natCast, ek]
    refine ⟨g0, k20, by omega, (s_Ga_isNext hx (by omega)).mono (fun r M' q => ?_)⟩
    obtain ⟨e, hr⟩ := q
    subst e
    rw [g16, n20, ek]
    have ia := i_and (x := (sl : Int) + 1) 10 (by decide) 1023 (by decide) ⟨by decide, by decide⟩
    have p10 : (2 : Int) ^ 10 = 1024 := by decide
    rw [p10] at ia
    obtain ⟨s2, es2⟩ : ∃ s2 : Nat, andI ((sl : Int) + 1) 1023 = ((s2 : Nat) : Int) := ⟨(((sl : Int) + 1) % 1024).toNat, by rw [ia]; omega⟩
    refine ⟨m_b32 hr, h1, fun _ => ?_, fun _ => ⟨g0, k20, by omega, hx, FI.refl, fun _ _ => rfl, cn, hc, Nat.le_refl _, hcn, hs, Or.inr ⟨by omega, by omega⟩, ⟨by omega, by omega⟩, fun t => absurd t (by omega)⟩⟩
    rw [es2, show ((i : Int) + 1) = ((i + 1 : Nat) : Int) by omega]
    exact ih (i + 1) s2 (by omega) (by omega) (by omega)
theorem s_Ga_enter (hx : GY U w9 M0 z g p O P K V F ns sf ef L cnt Ab0 Be0 C0 M Ab Be C) (hc : mI M g 0 = ((cn : Nat) : Int)) (hcn : cn ≤ 512) (hs : SLt M g cn) : Ci G y_Ga_enter (d + 2) [vr g] M (enG U w9 M0 z g p O P K V F ns sf ef L cnt Ab0 Be0 C0 M Ab Be C cn) := by
  obtain ⟨h1, h2, h3, h4, h5, -⟩ := id hx
  obtain ⟨g0, ⟨g1, -, -, -, -, -, -, -, -, g15, g16, -⟩, -, -⟩ := h2
  obtain ⟨p5, p6⟩ := h4.2.2.1
  have m0 := h3.1
  have m5 := h3.2.1.2.1
  have km := h3.2.2.1.2.1
  have nm := h3.2.2.2.1.1
  refine k_Ga_enter h1 ?_
  suffices HH : ∀ (t i : Nat) (x : Int), V ≤ i + t → i ≤ V → i32 x → h_Ga_enter_4 G (d + 1) g x i M (enG U w9 M0 z g p O P K V F ns sf ef L cnt Ab0 Be0 C0 M Ab Be C cn) from HH V 0 0 (by omega) (by omega) ⟨by decide, by decide⟩
  have fin : ∀ {x : Int}, h_Ga_enter_51 G (d + 1) g (andI x 1023) 0 M (enG U w9 M0 z g p O P K V F ns sf ef L cnt Ab0 Be0 C0 M Ab Be C cn) := fun {x} => by
    have ia := i_and (x := x) 10 (by decide) 1023 (by decide) ⟨by decide, by decide⟩
    have p10 : (2 : Int) ^ 10 = 1024 := by decide
    rw [p10] at ia
    obtain ⟨s2, es2⟩ : ∃ s2 : Nat, andI x 1023 = ((s2 : Nat) : Int) := ⟨(x % 1024).toNat, by rw [ia]; omega⟩
    rw [es2]
    exact s_en51 hx hc hcn hs 1024 0 s2 (by omega) (by omega) (by omega)
  intro t
  induction t with
  | zero =>
    intro i x hi hi2 ix
    refine k_Ga_enter_4w h1 ix (i32s (by omega) (by omega)) ?_
    rw [h5.1, p5]
    exact ⟨g0, h4.1.1, fun _ => fin, fun y => absurd y (by omega)⟩
  | succ t ih =>
    intro i x hi hi2 ix
    refine k_Ga_enter_4w h1 ix (i32s (by omega) (by omega)) ?_
    rw [h5.1, p5, g15, m5, nm]
    refine ⟨g0, h4.1.1, fun _ => fin, fun y => ⟨m0, km, by omega, ?_⟩⟩
    rw [show ((i : Int) + 1) = ((i + 1 : Nat) : Int) by omega]
    exact ih (i + 1) _ (by omega) (by omega) i32_w32
end GAB
end
section
/-! The class's game: a command's chances are weighed. -/
section GAC
variable {G : mG} {d z g p O P K V F L cnt U Ab Be C Ab0 Be0 C0 s h t c cn k u v cc : Nat} {M0 M M' M1 M2 : mM} {ns : Nat → Int} {sf ef : Nat → Nat} {H : Nat → Nat} {S R : Nat → Prop}
theorem mod_half {a b k : Nat} (hb : 0 < b) (hba : b < a) (ha : a < 2 ^ (k + 1)) : a % b < 2 ^ k := by
  have h1 := Nat.mod_lt a hb
  have e : 2 ^ (k + 1) = 2 * 2 ^ k := by rw [Nat.pow_succ]; omega
  by_cases y : 2 * b ≤ a
  · omega
  · have h2 : a % b = a - b := by
      rw [Nat.mod_eq_sub_mod (by omega), Nat.mod_eq_of_lt (by omega)]
    omega
/-- the greatest common divisor, where few steps are enough -/
theorem s_Ma_gcd {x y : Nat} (hx : 1 ≤ x ∧ x < 1000000000) (hy : 1 ≤ y ∧ y < 1000000000) (hO : mOk M) : Cj G y_Ma_commonDivisor d [vl x, vl y] M (fun r M' => M' = M ∧ ∃ w : Nat, r = ((w : Nat) : Int) ∧ 1 ≤ w ∧ w ∣ x ∧ w ∣ y) := by
  refine k_Ma_commonDivisor hO ⟨by omega, by omega⟩ ⟨by omega, by omega⟩ (fun v2 e2 => ?_)
  have v0 : v2 = x := by
    have := (cmpz x 0).1
    rw [e2, if_pos (by rw [this]; omega)]
  subst v0
  have p30 : (2 : Nat) ^ 30 = 1073741824 := by decide
  suffices HH : ∀ (s i a b : Nat), 100 ≤ i + s → i ≤ 100 → a < 1000000000 → b < 1000000000 → (∀ w, w ∣ a → w ∣ b → w ∣ x ∧ w ∣ y) → (1 ≤ a ∨ 1 ≤ b) → ((∃ k, b < 2 ^ k ∧ 2 * k + i ≤ 100) ∨ (∃ k, a < 2 ^ (k + 1) ∧ b < a ∧ 2 * k + 1 + i ≤ 100)) → h_Ma_commonDivisor_20 G d a b i M (fun r M' => M' = M ∧ ∃ w : Nat, r = ((w : Nat) : Int) ∧ 1 ≤ w ∧ w ∣ x ∧ w ∣ y) from HH 100 0 x y (by omega) (by omega) (by omega) (by omega) (fun w h1 h2 => ⟨h1, h2⟩) (Or.inl hx.1) (Or.inl ⟨30, by rw [p30]; omega, by omega⟩)
  intro s
  induction s with
  | zero =>
    intro i a b hs hi ha hb hd h1 hk
    have b0 : b = 0 := by
      rcases hk with ⟨k, k1, k2⟩ | ⟨k, -, -, k3⟩
      · have : k = 0 := by omega
        rw [this] at k1
        omega
      · omega
    have ca := (cmpz (a : Int) 0).2.2.2.1
    refine k_Ma_commonDivisor_20 hO ⟨by omega, by omega⟩ ⟨by omega, by omega⟩ (i32s (by omega) (by omega)) ⟨fun _ v12 e12 => ?_, fun q => absurd (Or.inl (by omega)) q⟩
    clear hk
    rw [if_neg (by rw [ca]; omega)] at e12
    rw [e12]
    have := hd a (Nat.dvd_refl _) (by rw [b0]; exact Nat.dvd_zero _)
    exact ⟨rfl, a, rfl, by omega, this.1, this.2⟩
  | succ s ih =>
    intro i a b hs hi ha hb hd h1 hk
    have ca := (cmpz (a : Int) 0).2.2.2.1
    have cb := (cmpz (b : Int) 0).2.2.2.1
    refine k_Ma_commonDivisor_20 hO ⟨by omega, by omega⟩ ⟨by omega, by omega⟩ (i32s (by omega) (by omega)) ⟨fun q v12 e12 => ?_, fun q => ?_⟩
    · have b0 : b = 0 := by
        rcases q with q | q
        · rcases hk with ⟨k, k1, k2⟩ | ⟨k, -, -, k3⟩
          · have : k = 0 := by omega
            rw [this] at k1
            omega
          · omega
        · rw [cb] at q
          omega
      clear hk
      rw [if_neg (by rw [ca]; omega)] at e12
      rw [e12]
      have := hd a (Nat.dvd_refl _) (by rw [b0]; exact Nat.dvd_zero _)
      exact ⟨rfl, a, rfl, by omega, this.1, this.2⟩
    · have i100 : i < 100 := by
        by_cases t : (100 : Int) ≤ i
        · exact absurd (Or.inl t) q
        · omega
      have b0 : 0 < b := by
        by_cases t : b = 0
        · exact absurd (Or.inr (by rw [cb]; omega)) q
        · omega
      have em : Int.tmod (a : Int) (b : Int) = ((a % b : Nat) : Int) := by rw [Int.tmod_eq_emod_of_nonneg (by omega)]; rfl
      have ml := Nat.mod_lt a b0
      rw [em, show ((i : Int) + 1) = ((i + 1 : Nat) : Int) by omega]
      refine ⟨by omega, ih (i + 1) b (a % b) (by omega) (by omega) hb (by omega) (fun w w1 w2 => ?_) (Or.inl b0) ?_⟩
      · have wa : w ∣ a := by
          have := Nat.div_add_mod a b
          rw [← this]
          exact Nat.dvd_add (Nat.dvd_trans w1 (Nat.dvd_mul_right _ _)) w2
        exact hd w wa w1
      · rcases hk with ⟨k, k1, k2⟩ | ⟨k, k1, k2, k3⟩
        · have k0 : k ≠ 0 := fun t => by rw [t] at k1; omega
          exact Or.inr ⟨k - 1, by rw [show k - 1 + 1 = k by omega]; exact k1, ml, by omega⟩
        · exact Or.inl ⟨k, mod_half b0 k2 k1, by omega⟩
/-- what chances sum up to, times mu -/
def shS (M : mM) (g : Nat) (mu : Int) : Nat → Int
  | 0 => 0
  | b + 1 => shS M g mu b + Int.tdiv mu (mI M (g + 22) b) * mI M (g + 21) b
theorem shS_cg {mu : Int} : ∀ n, (∀ b, b < n → mI M' (g + 21) b = mI M (g + 21) b ∧ mI M' (g + 22) b = mI M (g + 22) b) → shS M' g mu n = shS M g mu n
  | 0, _ => rfl
  | n + 1, hh => by
    show shS M' g mu n + Int.tdiv mu (mI M' (g + 22) n) * mI M' (g + 21) n = shS M g mu n + Int.tdiv mu (mI M (g + 22) n) * mI M (g + 21) n
    rw [shS_cg n (fun b hb => hh b (by omega)), (hh n (by omega)).1, (hh n (by omega)).2]
/-- chances of n branches -/
def chz (M : mM) (g n : Nat) : Prop := ∀ b, b < n → 0 ≤ mI M (g + 21) b ∧ mI M (g + 21) b ≤ mI M (g + 22) b ∧ 1 ≤ mI M (g + 22) b ∧ mI M (g + 22) b < 1000000000
/-- what stays when chances are weighed -/
def wgF (M : mM) (g : Nat) (M' : mM) : Prop := (∀ i, i ≠ 10 → mI M' g i = mI M g i) ∧ (∀ i, 1 ≤ i → i ≤ 9 → i ≠ 6 → mI M' (g + i) = mI M (g + i)) ∧ mI M' (g + 20) = mI M (g + 20) ∧ (∀ i, i ≠ (mI M g 12).toNat → mI M' (g + 6) i = mI M (g + 6) i) ∧ mI M' (g + 10) 9 = mI M (g + 10) 9
theorem wgF.refl : wgF M g M := ⟨fun _ _ => rfl, fun _ _ _ _ => rfl, rfl, fun _ _ => rfl, rfl⟩
theorem wgF.trans (f : wgF M g M1) (k : wgF M1 g M2) : wgF M g M2 := by
  obtain ⟨f1, f2, f3, f4, f5⟩ := f
  obtain ⟨g1, g2, g3, g4, g5⟩ := k
  exact ⟨fun i hi => by rw [g1 i hi, f1 i hi], fun i a b c => by rw [g2 i a b c, f2 i a b c], by rw [g3, f3], fun i hi => by rw [g4 i (by rw [f1 12 (by decide)]; exact hi), f4 i hi], by rw [g5, f5]⟩
theorem PG.fbm {Bn : Nat} (hg : PG M p O P V F ns sf ef L cnt Bn) : ∀ (t j : Nat), j + t = cnt → ∃ x y : Nat, mI M (p + 12) j = ((x : Nat) : Int) ∧ mI M (p + 12) cnt = ((y : Nat) : Int) ∧ x ≤ y ∧ y ≤ Bn ∧ y ≤ 8 * cnt
  | 0, j, hj => by
    obtain ⟨y, e1, e2, e3⟩ := hg.2.2.2.2.2.1
    have : j = cnt := by omega
    subst this
    exact ⟨y, y, e1, e1, Nat.le_refl _, e2, e3⟩
  | t + 1, j, hj => by
    obtain ⟨x, y, e1, e2, e3, e4, e5⟩ := PG.fbm hg t (j + 1) (by omega)
    obtain ⟨a, b, f1, f2, f3, f4⟩ := hg.2.2.2.2.1 j (by omega)
    rw [e1] at f2
    exact ⟨a, y, f1, e2, by omega, e4, e5⟩
/-- a command of the program -/
theorem PW.cmd (hp : PW M z p O P K V F ns sf ef L cnt) (hc : c < cnt) : ∃ u v : Nat, mI M (p + 12) c = ((u : Nat) : Int) ∧ mI M (p + 12) (c + 1) = ((v : Nat) : Int) ∧ u ≤ v ∧ v ≤ u + 8 ∧ v ≤ 480 ∧ (∀ b, b < v → ∃ s1 s2 : Nat, mI M (p + 14) b = ((s1 : Nat) : Int) ∧ PC M O P V F ns ef L s1 1 ∧ mI M (p + 15) b = ((s2 : Nat) : Int) ∧ PC M O P V F ns ef L s2 0) ∧ ∃ sg : Nat, mI M (p + 11) c = ((sg : Nat) : Int) ∧ PC M O P V F ns ef L sg 1 := by
  obtain ⟨p1, -, -, -, ⟨-, p9⟩, -, u0, p11, p12⟩ := hp
  obtain ⟨u, v, e1, e2, e3, e4⟩ := p12.2.2.2.2.1 c hc
  obtain ⟨x, y, f1, f2, f3, f4, f5⟩ := p12.fbm (cnt - (c + 1)) (c + 1) (by omega)
  rw [e2] at f1
  obtain ⟨sg, g1, g2⟩ := p12.2.2.1 c hc
  exact ⟨u, v, e1, e2, e3, e4, by omega, fun b hb => p12.2.2.2.2.2.2 b (by omega), sg, g1, g2⟩
end GAC
end
