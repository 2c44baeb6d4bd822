section
/-! The class's game: places, the program it explores, runs of its machine. -/
section GAA
variable {G : mG} {d z g p O P K V F L cnt U w9 Ab Be C Ab0 Be0 C0 s h t c : Nat} {M0 M M' M1 M2 : mM} {ns : Nat → Int} {sf ef : Nat → Nat} {H : Nat → Nat} {S R : Nat → Prop}
/-- the game's places -/
def GK (M : mM) (g : Nat) : Prop := mK M g = 7 ∧ (mR M g 1 = g + 1 ∧ mR M g 2 = g + 2 ∧ mR M g 3 = g + 3 ∧ mR M g 4 = g + 4 ∧ mR M g 5 = g + 5 ∧ mR M g 6 = g + 6 ∧ mR M g 7 = g + 7 ∧ mR M g 8 = g + 8 ∧ mR M g 9 = g + 9 ∧ mR M g 15 = g + 10 ∧ mR M g 16 = g + 20 ∧ mR M g 17 = g + 21 ∧ mR M g 18 = g + 22) ∧ (mK M (g + 1) = 30 ∧ mK M (g + 2) = 30 ∧ mK M (g + 3) = 30 ∧ mK M (g + 4) = 30 ∧ mK M (g + 5) = 30 ∧ mK M (g + 6) = 30 ∧ mK M (g + 7) = 30 ∧ mK M (g + 8) = 30 ∧ mK M (g + 9) = 30 ∧ mK M (g + 20) = 30 ∧ mK M (g + 21) = 30 ∧ mK M (g + 22) = 30) ∧ (mN M (g + 1) = 6144 ∧ mN M (g + 2) = 512 ∧ mN M (g + 3) = 512 ∧ mN M (g + 4) = 513 ∧ mN M (g + 5) = 4097 ∧ mN M (g + 6) = 4097 ∧ mN M (g + 7) = 4098 ∧ mN M (g + 8) = 4096 ∧ mN M (g + 9) = 4096 ∧ mN M (g + 20) = 1024 ∧ mN M (g + 21) = 8 ∧ mN M (g + 22) = 8)
theorem GK.eq2 (hk : GK M g) (v : ∀ i, i ≤ 22 → mK M' (g + i) = mK M (g + i) ∧ mN M' (g + i) = mN M (g + i)) (hr : ∀ i, i ≠ 14 → mR M' g i = mR M g i) : GK M' g := by
  unfold GK at hk ⊢
  have v0 := v 0 (by omega)
  rw [Nat.add_zero] at v0
  rw [v0.1, hr 1 (by omega), hr 2 (by omega), hr 3 (by omega), hr 4 (by omega), hr 5 (by omega), hr 6 (by omega), hr 7 (by omega), hr 8 (by omega), hr 9 (by omega), hr 15 (by omega), hr 16 (by omega), hr 17 (by omega), hr 18 (by omega), (v 1 (by omega)).1, (v 2 (by omega)).1, (v 3 (by omega)).1, (v 4 (by omega)).1, (v 5 (by omega)).1, (v 6 (by omega)).1, (v 7 (by omega)).1, (v 8 (by omega)).1, (v 9 (by omega)).1, (v 20 (by omega)).1, (v 21 (by omega)).1, (v 22 (by omega)).1, (v 1 (by omega)).2, (v 2 (by omega)).2, (v 3 (by omega)).2, (v 4 (by omega)).2, (v 5 (by omega)).2, (v 6 (by omega)).2, (v 7 (by omega)).2, (v 8 (by omega)).2, (v 9 (by omega)).2, (v 20 (by omega)).2, (v 21 (by omega)).2, (v 22 (by omega)).2]
  exact hk
/-- a program that may be explored -/
def PW (M : mM) (z p O P K V F : Nat) (ns : Nat → Int) (sf ef : Nat → Nat) (L cnt : Nat) : Prop := PK M z p O P K ∧ (mI M p 2 = ((L : Nat) : Int) ∧ L ≤ K ∧ L ≤ 16384) ∧ (mI M p 3 = ((V : Nat) : Int) ∧ V ≤ 12) ∧ F ≤ 60 ∧ (mI M p 12 = ((cnt : Nat) : Int) ∧ cnt ≤ 60) ∧ mI M p 11 ≠ -1 ∧ ∃ u : Nat, mI M (p + 12) cnt = ((u : Nat) : Int) ∧ PG M p O P V F ns sf ef L cnt u
theorem PW.fa (h : PW M z p O P K V F ns sf ef L cnt) (f : FA S R M M') (hp : ¬ R p) (hs : ∀ i, i ≤ 15 → ¬ S (p + i)) (hO : ¬ S O) (hP : ¬ S P) : PW M' z p O P K V F ns sf ef L cnt := by
  obtain ⟨h1, h2, h3, h4, h5, h6, u, h7, h8⟩ := h
  obtain ⟨-, -, -, ⟨o1, o2, o3, o4⟩, ⟨pz0, pz1, pz2⟩, -⟩ := id h1
  have e : ∀ i, i ≤ 15 → mI M' (p + i) = mI M (p + i) := fun i hi => (f.2 (p + i) (by omega)).2.2.2.2 (hs i hi)
  have eO : mI M' O = mI M O := (f.2 O pz1).2.2.2.2 hO
  have eP : mI M' P = mI M P := (f.2 P pz2).2.2.2.2 hP
  have e0 := e 0 (by omega)
  rw [Nat.add_zero] at e0
  exact ⟨h1.fa f hp, by rw [e0]; exact h2, by rw [e0]; exact h3, h4, by rw [e0]; exact h5, by rw [e0]; exact h6, u, by rw [e 12 (by omega)]; exact h7, h8.cg (by rw [e0]) (fun i _ _ => e i (by omega)) (fun b _ => ⟨by rw [e 14 (by omega)], by rw [e 15 (by omega)]⟩) (fun i _ => ⟨by rw [eO], by rw [eP]⟩)⟩
/-- what exploring may change -/
def gaS (g Ab Be : Nat) : Nat → Prop := fun x => (g ≤ x ∧ x ≤ g + 22) ∨ x = Ab ∨ x = Be
def gaR (g : Nat) : Nat → Prop := fun x => x = g ∨ x = g + 10
def gaF (M0 : mM) (g Ab0 Be0 C0 : Nat) (M : mM) (Ab Be C : Nat) : Prop := FA (gaS g Ab0 Be0) (gaR g) M0 M ∧ ((Ab = Ab0 ∨ mZ M0 ≤ Ab) ∧ (Be = Be0 ∨ mZ M0 ≤ Be)) ∧ (mS M + 4 * C0 = mS M0 + 4 * C ∧ 32 * mZ M + C0 ≤ 32 * mZ M0 + C)
theorem gaF.refl : gaF M g Ab Be C M Ab Be C := ⟨FA.refl, ⟨Or.inl rfl, Or.inl rfl⟩, rfl, Nat.le_refl _⟩
theorem gaF.trans {Ab1 Be1 C1 : Nat} (f : gaF M0 g Ab0 Be0 C0 M Ab Be C) (k : gaF M g Ab Be C M1 Ab1 Be1 C1) : gaF M0 g Ab0 Be0 C0 M1 Ab1 Be1 C1 := by
  obtain ⟨f1, ⟨f2, f3⟩, f4, f5⟩ := f
  obtain ⟨g1, ⟨g2, g3⟩, g4, g5⟩ := k
  have zz := f1.1.1
  refine ⟨f1.trans2 g1 (fun x hx y => ?_) (fun _ _ y => y), ⟨by omega, by omega⟩, by omega, by omega⟩
  have y' : (g ≤ x ∧ x ≤ g + 22) ∨ x = Ab ∨ x = Be := y
  show (g ≤ x ∧ x ≤ g + 22) ∨ x = Ab0 ∨ x = Be0
  omega
/-- the game while it explores: all but the counts -/
def GY (U w9 : Nat) (M0 : mM) (z g p O P K V F : Nat) (ns : Nat → Int) (sf ef : Nat → Nat) (L cnt Ab0 Be0 C0 : Nat) (M : mM) (Ab Be C : Nat) : Prop := mOk M ∧ GK M g ∧ MK M z (g + 10) U Ab Be C ∧ PW M z p O P K V F ns sf ef L cnt ∧ (mR M g 14 = p ∧ mR M (g + 10) 0 = p) ∧ (g + 23 ≤ z ∧ (g + 22 < p ∨ p + 15 < g) ∧ (O ≠ Ab ∧ O ≠ Be ∧ P ≠ Ab ∧ P ≠ Be)) ∧ MT M (g + 10) (fun x => x < 60 ∧ w9 = 1) ∧ gaF M0 g Ab0 Be0 C0 M Ab Be C ∧ (∀ x, x < 60 → mI M (g + 15) x ≤ mI M (g + 10) 9) ∧ (∀ i, i ≤ 15 → mI M (p + i) = mI M0 (p + i))
/-- exploring, after the first state has been entered -/
abbrev GX (M0 : mM) (z g p O P K V F : Nat) (ns : Nat → Int) (sf ef : Nat → Nat) (L cnt Ab0 Be0 C0 : Nat) (M : mM) (Ab Be C : Nat) : Prop := GY (g + 1) 1 M0 z g p O P K V F ns sf ef L cnt Ab0 Be0 C0 M Ab Be C
theorem ga_ne {g p O P Ab Be z : Nat} (h1 : g + 23 ≤ z) (h2 : g + 22 < p ∨ p + 15 < g) (h3 : O ≠ Ab ∧ O ≠ Be ∧ P ≠ Ab ∧ P ≠ Be) (o1 : O = p + 1 ∨ z ≤ O) (o2 : P = p + 2 ∨ z ≤ P) (o4 : p + 16 ≤ z) (a1 : Ab = g + 10 + 3 ∨ z ≤ Ab) (a2 : Be = g + 10 + 4 ∨ z ≤ Be) : (∀ i, i ≤ 15 → ¬ gaS g Ab Be (p + i)) ∧ ¬ gaS g Ab Be O ∧ ¬ gaS g Ab Be P ∧ ¬ gaR g p := by
  refine ⟨fun i hi y => ?_, fun y => ?_, fun y => ?_, fun y => ?_⟩
  · have y' : (g ≤ p + i ∧ p + i ≤ g + 22) ∨ p + i = Ab ∨ p + i = Be := y
    omega
  · have y' : (g ≤ O ∧ O ≤ g + 22) ∨ O = Ab ∨ O = Be := y
    omega
  · have y' : (g ≤ P ∧ P ≤ g + 22) ∨ P = Ab ∨ P = Be := y
    omega
  · have y' : p = g ∨ p = g + 10 := y
    omega
theorem GY.ne (h : GY U w9 M0 z g p O P K V F ns sf ef L cnt Ab0 Be0 C0 M Ab Be C) : (∀ i, i ≤ 15 → ¬ gaS g Ab Be (p + i)) ∧ ¬ gaS g Ab Be O ∧ ¬ gaS g Ab Be P ∧ ¬ gaR g p := by
  obtain ⟨-, -, hk, hp, -, ⟨h1, h2, h3⟩, -⟩ := h
  obtain ⟨o1, o2, -, o4⟩ := hp.1.2.2.2.1
  obtain ⟨a1, a2, -, -⟩ := hk.2.2.2.2.2.1
  exact ga_ne h1 h2 h3 o1 o2 o4 a1 a2
/-- ints of the game's own tables change (not the machine's) -/
theorem GY.fi (h : GY U w9 M0 z g p O P K V F ns sf ef L cnt Ab0 Be0 C0 M Ab Be C) (ok : mOk M') (f : FI (fun x => (g ≤ x ∧ x ≤ g + 9) ∨ x = g + 12 ∨ (g + 20 ≤ x ∧ x ≤ g + 22)) M M') : GY U w9 M0 z g p O P K V F ns sf ef L cnt Ab0 Be0 C0 M' Ab Be C := by
  have ne := h.ne
  obtain ⟨-, h2, h3, h4, h5, h6, h7, h8, h9, h10⟩ := h
  have f9 : FI (gaS g Ab Be) M M' := f.mono (fun x y => Or.inl (by
    have y' : (g ≤ x ∧ x ≤ g + 9) ∨ x = g + 12 ∨ (g + 20 ≤ x ∧ x ≤ g + 22) := y
    omega))
  have em : ∀ i, i = 0 ∨ (3 ≤ i ∧ i ≤ 9) → mI M' (g + 10 + i) = mI M (g + 10 + i) := fun i hi => f.2.2.2.2.2.2 _ (fun y => by
    have y' : (g ≤ g + 10 + i ∧ g + 10 + i ≤ g + 9) ∨ g + 10 + i = g + 12 ∨ (g + 20 ≤ g + 10 + i ∧ g + 10 + i ≤ g + 22) := y
    omega)
  have e0 := em 0 (Or.inl rfl)
  rw [Nat.add_zero] at e0
  refine ⟨ok, h2.eq2 (fun i _ => ⟨by rw [f.1], by rw [f.2.1]⟩) (fun i _ => by rw [f.2.2.1]), h3.fi f (by rw [e0]), h4.fa (FI.fa (R := fun _ => False) f9) (fun y => y) ne.1 ne.2.1 ne.2.2.1, by rw [f.2.2.1]; exact h5, h6, fun x hx => ?_, h8.trans ⟨(FI.fa f9).mono (fun _ _ y => y) (fun _ _ y => y), ⟨Or.inl rfl, Or.inl rfl⟩, by rw [f.2.2.2.2.2.1], by rw [f.2.2.2.2.1]; exact Nat.le_refl _⟩, fun x hx => by
    rw [show g + 15 = g + 10 + 5 by omega, em 5 (by omega), e0]
    exact h9 x hx, fun i hi => by rw [f9.2.2.2.2.2.2 _ (ne.1 i hi)]; exact h10 i hi⟩
  rw [em 5 (by omega), em 7 (by omega), e0]
  exact h7 x hx
/-- a run of the machine -/
theorem s_Ga_run (hF : FMs G) (hx : GX M0 z g p O P K V F ns sf ef L cnt Ab0 Be0 C0 M Ab Be C) (hc : PC M O P V F ns ef L s h) : Ci G y_Ma_run (d + 4) [vr (g + 10), vi s] M (fun r M' => i32 r ∧ mOk M' ∧ (r = 0 ∨ r = 1) ∧ ∃ Ab' Be' C', GX M0 z g p O P K V F ns sf ef L cnt Ab0 Be0 C0 M' Ab' Be' C' ∧ FA (mcS (g + 10) Ab Be) (fun x => x = g + 10) M M' ∧ mI M' (g + 10) 9 = mI M (g + 10) 9 ∧ (r = 0 → mI M' (g + 10) 1 ≠ 0) ∧ (r ≠ 0 → h = 1 → 1 ≤ mI M' Be' 0 ∧ mI M' Be' 0 < 1000000000)) := by
  have ne := hx.ne
  obtain ⟨h1, h2, h3, h4, h5, ⟨h61, h62, h63⟩, h7, h8, h9, h10⟩ := hx
  obtain ⟨p1, ⟨p2, p3, p4⟩, ⟨p5, p6⟩, p7, ⟨p8, p9⟩, p10, u, p11, p12⟩ := id h4
  obtain ⟨e, H, Ft, c1, c2, c3, c4⟩ := hc
  obtain ⟨o1, o2, -, o4⟩ := p1.2.2.2.1
  obtain ⟨a1, a2, a3, a4⟩ := h3.2.2.2.2.2.1
  have ha : Mpr M z (g + 10) p O P Ab Be := ⟨by omega, h63, by omega, o4, a1, a2⟩
  have fo : FO M p O P V ns sf ef L Ft := fun x hx => p12.1 x (by omega)
  refine (s_Ma_run hF h1 h3 h7 p1 h5.2 ha p2 p3 p4 fo (fun x hx _ => ⟨by omega, rfl⟩) (by omega) p6 c1 c2 c4).mono (fun r M' k => ?_)
  obtain ⟨k1, k2⟩ := k
  have hr : r = 0 ∨ r = 1 := k2.imp (fun u => u.1) (fun u => u.1)
  have fin : ∀ {t c : Nat}, MS M z (g + 10) (g + 1) Ab Be C M' t c → (r = 0 → mI M' (g + 10) 1 ≠ 0) → (r ≠ 0 → h = 1 → t = 1) → i32 r ∧ mOk M' ∧ (r = 0 ∨ r = 1) ∧ ∃ Ab' Be' C', GX M0 z g p O P K V F ns sf ef L cnt Ab0 Be0 C0 M' Ab' Be' C' ∧ FA (mcS (g + 10) Ab Be) (fun x => x = g + 10) M M' ∧ mI M' (g + 10) 9 = mI M (g + 10) 9 ∧ (r = 0 → mI M' (g + 10) 1 ≠ 0) ∧ (r ≠ 0 → h = 1 → 1 ≤ mI M' Be' 0 ∧ mI M' Be' 0 < 1000000000) := fun {t c} hM hf0 ht => by
    obtain ⟨Ab', Be', C', ok, hk, hf, hab, hr', ⟨m8, mt, mb⟩, -, hm⟩ := hM
    have hf9 : FA (gaS g Ab Be) (gaR g) M M' := hf.mono (fun x _ y => by
      have y' : x = g + 10 ∨ x = g + 10 + 2 ∨ (g + 10 + 5 ≤ x ∧ x ≤ g + 10 + 9) ∨ x = Ab ∨ x = Be := y
      show (g ≤ x ∧ x ≤ g + 22) ∨ x = Ab ∨ x = Be
      omega) (fun x _ y => Or.inr y)
    obtain ⟨z1, zA, zB, zU⟩ := h3.2.2.2.2.2.2.1
    obtain ⟨pz0, pz1, pz2⟩ := p1.2.2.2.2.1
    have cl : ∀ i, i ≤ 22 → mK M' (g + i) = mK M (g + i) ∧ mN M' (g + i) = mN M (g + i) := fun i hi => ⟨(hf.2 (g + i) (by omega)).1, (hf.2 (g + i) (by omega)).2.1⟩
    have rg : mR M' g = mR M g := (hf.2 g (by omega)).2.2.2.1 (show ¬ g = g + 10 by omega)
    refine ⟨m_b32 hr, ok, hr, Ab', Be', C', ⟨ok, h2.eq2 cl (fun i _ => by rw [rg]), hk, h4.fa hf9 ne.2.2.2 ne.1 ne.2.1 ne.2.2.1, ⟨by rw [rg]; exact h5.1, by rw [hm.2.2]; exact h5.2⟩, ⟨h61, h62, ?_⟩, k1, h8.trans ⟨hf9, hab, hr'⟩, fun x hx => (k1 x ⟨hx, rfl⟩).1, fun i hi => by rw [(hf9.2 (p + i) (by omega)).2.2.2.2 (ne.1 i hi)]; exact h10 i hi⟩, hf, hm.1, hf0, fun r0 hh => mb 0 (by rw [ht r0 hh]; exact Nat.one_pos)⟩
    clear h1 h2 h3 h4 h5 h7 h8 h9 h10 k1 k2 p12 c1 c4 fo ha hk hf hf9 cl rg mb hr' hm hr ht ne
    omega
  rcases k2 with ⟨e1, f0, t, c, hM⟩ | ⟨e1, hM⟩
  · exact fin hM (fun _ => f0) (fun r0 => absurd e1 r0)
  · exact fin hM (fun r0 => by rw [e1] at r0; exact absurd r0 (by decide)) (fun _ hh => hh)
end GAA
end
section
/-! The class's game: small steps, and a state that is entered. -/
section GAB
variable {G : mG} {d z g p O P K V F L cnt U w9 Ab Be C Ab0 Be0 C0 s h t c cn k : Nat} {M0 M M' M1 M2 : mM} {ns : Nat → Int} {sf ef : Nat → Nat} {H : Nat → Nat} {S R : Nat → Prop}
theorem s_JA_fill {a : Nat} {v : Int} (hO : mOk M) (hK : mK M a = 30) (hN : mN M a ≤ 100000) (hv : i32 v) : Cv G y_JA_fill d [vr a, vi v] M (fun M' => mOk M' ∧ FI (fun x => x = a) M M' ∧ ∀ i, i < mN M a → mI M' a i = v) := by
  refine k_JA_fill hO hv ⟨hK, ?_⟩
  suffices HH : ∀ (t i : Nat) (M1 : mM), mN M a ≤ i + t → i ≤ mN M a → mOk M1 → FI (fun x => x = a) M M1 → (∀ j, j < i → mI M1 a j = v) → h_JA_fill_5 G d a v i (mN M a : Int) M1 (fun M' => mOk M' ∧ FI (fun x => x = a) M M' ∧ ∀ i, i < mN M a → mI M' a i = v) from HH (mN M a) 0 M (by omega) (by omega) hO FI.refl (fun j hj => absurd hj (by omega))
  intro t
  induction t with
  | zero =>
    intro i M1 h1 h2 o f hj
    exact k_JA_fill_5 o hv ⟨by omega, by omega⟩ ⟨by omega, by omega⟩ ⟨fun _ => ⟨o, f, fun j hj' => hj j (by omega)⟩, fun y => absurd y (by omega)⟩
  | succ t ih =>
    intro i M1 h1 h2 o f hj
    refine k_JA_fill_5 o hv ⟨by omega, by omega⟩ ⟨by omega, by omega⟩ ⟨fun y => ⟨o, f, fun j hj' => hj j (by omega)⟩, fun y => ?_⟩
    rw [f.1, f.2.1, Int.toNat_natCast]
    refine ⟨hK, by omega, fun M8 e8 => ?_⟩
    rw [show ((i : Int) + 1) = ((i + 1 : Nat) : Int) by omega]
    refine ih (i + 1) M8 (by omega) (by omega) (by rw [e8]; exact mOk_UI o hv) (f.trans (by rw [e8]; exact FI.ui rfl)) (fun j hj' => ?_)
    rw [mI_ui a j e8]
    by_cases y : j = i
    · rw [if_pos ⟨rfl, y⟩]
    · rw [if_neg (fun u => y u.2)]
      exact hj j (by omega)
theorem s_Ga_clear (hO : mOk M) (hk : mK M g = 7) : Cv G y_Ga_clear d [vr g] M (fun M' => mOk M' ∧ FI (fun x => x = g) M M' ∧ (∀ i, mI M' g i = if i = 13 then 0 else if i = 12 then 0 else if i = 0 then 0 else mI M g i)) := by
  refine k_Ga_clear hO ⟨hk, fun M2 e2 M4 e4 M6 e6 => ?_⟩
  have f2 : FI (fun x => x = g) M M2 := by rw [e2]; exact FI.ui rfl
  have f4 : FI (fun x => x = g) M2 M4 := by rw [e4]; exact FI.ui rfl
  have f6 : FI (fun x => x = g) M4 M6 := by rw [e6]; exact FI.ui rfl
  refine ⟨by rw [e6]; exact mOk_UI (by rw [e4]; exact mOk_UI (by rw [e2]; exact mOk_UI hO ⟨by decide, by decide⟩) ⟨by decide, by decide⟩) ⟨by decide, by decide⟩, (f2.trans f4).trans f6, fun i => ?_⟩
  rw [mI_ui g i e6, mI_ui g i e4, mI_ui g i e2]
  by_cases y13 : i = 13
  · rw [if_pos ⟨rfl, y13⟩, if_pos y13]
  · rw [if_neg (fun u => y13 u.2), if_neg y13]
    by_cases y12 : i = 12
    · rw [if_pos ⟨rfl, y12⟩, if_pos y12]
    · rw [if_neg (fun u => y12 u.2), if_neg y12]
      by_cases y0 : i = 0
      · rw [if_pos ⟨rfl, y0⟩, if_pos y0]
      · rw [if_neg (fun u => y0 u.2), if_neg y0]
/-- a place is told: nothing else of the game changes -/
def plQ (M : mM) (g : Nat) (M' : mM) : Prop := mOk M' ∧ FI (fun x => x = g) M M' ∧ ∀ i, i ≠ 10 → mI M' g i = mI M g i
theorem s_Ga_fault {x y : Int} (hx : i32 x) (hy : i32 y) (hO : mOk M) (hk : mK M g = 7) : Ci G y_Ga_fault d [vr g, vi x, vi y] M (fun r M' => r = x ∧ plQ M g M') := by
  refine k_Ga_fault hO hx hy ⟨hk, fun M2 e2 => ⟨rfl, by rw [e2]; exact mOk_UI hO hy, by rw [e2]; exact FI.ui rfl, fun i hi => ?_⟩⟩
  rw [mI_ui g i e2, if_neg (fun u => hi u.2)]
theorem s_Ga_machineFault (hO : mOk M) (hk : mK M g = 7) (hr : mR M g 15 = g + 10) (hm : mK M (g + 10) = 5) : Ci G y_Ga_machineFault d [vr g] M (fun r M' => i32 r ∧ r = mI M (g + 10) 1 ∧ plQ M g M') := by
  refine k_Ga_machineFault hO ⟨hk, by rw [hr]; exact hm, fun M3 e3 => ?_⟩
  have f3 : FI (fun x => x = g) M M3 := by rw [e3]; exact FI.ui rfl
  have o3 : mOk M3 := by rw [e3]; exact mOk_UI hO (hO _ _).1
  rw [f3.1, f3.2.2.1, hr]
  refine ⟨hm, (o3 _ _).1, by rw [f3.2.2.2.2.2.2 (g + 10) (show ¬ g + 10 = g by omega)], o3, f3, fun i hi => ?_⟩
  rw [mI_ui g i e3, if_neg (fun u => hi u.2)]
theorem s_Ga_isNext (hx : GY U w9 M0 z g p O P K V F ns sf ef L cnt Ab0 Be0 C0 M Ab Be C) (hk : k < 512) : Ci G y_Ga_isNext d [vr g, vi k] M (fun r M' => M' = M ∧ (r = 0 ∨ r = 1)) := by
  obtain ⟨h1, h2, h3, h4, h5, -⟩ := hx
  obtain ⟨g0, ⟨g1, -, -, -, -, -, -, -, -, g15, -⟩, ⟨k1, -⟩, ⟨n1, -⟩⟩ := h2
  obtain ⟨p5, p6⟩ := h4.2.2.1
  have m0 := h3.1
  have m5 := h3.2.1.2.1
  have km := h3.2.2.1.2.1
  have nm := h3.2.2.2.1.1
  refine k_Ga_isNext h1 (i32s (by omega) (by omega)) ?_
  suffices HH : ∀ (t i : Nat), V ≤ i + t → i ≤ V → h_Ga_isNext_2 G d g k i M (fun r M' => M' = M ∧ (r = 0 ∨ r = 1)) from HH V 0 (by omega) (by omega)
  intro t
  induction t with
  | zero =>
    intro i hi hi2
    refine k_Ga_isNext_2 h1 (i32s (by omega) (by omega)) (i32s (by omega) (by omega)) ?_
    rw [h5.1, p5]
    exact ⟨g0, h4.1.1, fun _ => ⟨rfl, Or.inr rfl⟩, fun y => absurd y (by omega)⟩
  | succ t ih =>
    intro i hi hi2
    refine k_Ga_isNext_2 h1 (i32s (by omega) (by omega)) (i32s (by omega) (by omega)) ?_
    rw [h5.1, p5, g1, n1, g15, m5, nm]
    refine ⟨g0, h4.1.1, fun _ => ⟨rfl, Or.inr rfl⟩, fun y => ⟨k1, by omega, m0, km, by omega, fun _ => ?_, fun _ => ⟨rfl, Or.inl rfl⟩⟩⟩
    rw [show ((i : Int) + 1) = ((i + 1 : Nat) : Int) by omega]
    exact ih (i + 1) (by omega) (by omega)
/-- slots tell states -/
def SLt (M : mM) (g cn : Nat) : Prop := ∀ i, i < 1024 → mI M (g + 20) i = -1 ∨ (0 ≤ mI M (g + 20) i ∧ mI M (g + 20) i < cn)
/-- what enter comes to -/
def enG (U w9 : Nat) (M0 : mM) (z g p O P K V F : Nat) (ns : Nat → Int) (sf ef : Nat → Nat) (L cnt Ab0 Be0 C0 : Nat) (M : mM) (Ab Be C cn : Nat) (r : Int) (M' : mM)   : Prop := GY U w9 M0 z g p O P K V F ns sf ef L cnt Ab0 Be0 C0 M' Ab Be C ∧ FI (fun x => x = g ∨ x = g + 1 ∨ x = g + 20) M M' ∧ (∀ i, i ≠ 0 → mI M' g i = mI M g i) ∧ ∃ cn' : Nat, mI M' g 0 = ((cn' : Nat) : Int) ∧ cn ≤ cn' ∧ cn' ≤ 512 ∧ SLt M' g cn' ∧ (r = -1 ∨ (0 ≤ r ∧ r < cn')) ∧ i32 r ∧ (r = -1 → cn = 512)
theorem s_en51 (hx : GY U w9 M0 z g p O P K V F ns sf ef L cnt Ab0 Be0 C0 M Ab Be C) (hc : mI M g 0 = ((cn : Nat) : Int)) (hcn : cn ≤ 512) (hs : SLt M g cn) : ∀ (t i sl : Nat), 1024 ≤ i + t → i ≤ 1024 → sl < 1024 → h_Ga_enter_51 G (d + 1) g sl i M (enG U w9 M0 z g p O P K V F ns sf ef L cnt Ab0 Be0 C0 M Ab Be C cn) := by
  obtain ⟨h1, h2, h3, h4, h5, -⟩ := id hx
  obtain ⟨g0, ⟨g1, -, -, -, -, -, -, -, -, g15, g16, -⟩, ⟨k1, -, -, -, -, -, -, -, -, k20, -⟩, ⟨n1, -, -, -, -, -, -, -, -, n20, -⟩⟩ := h2
  have m0 := h3.1
  have m5 := h3.2.1.2.1
  have km := h3.2.2.1.2.1
  have nm := h3.2.2.2.1.1
  -- a new state
  have new : ∀ {sl : Nat}, sl < 1024 → mK M g = 7 ∧ ((mI M g 0 = 512) → (enG U w9 M0 z g p O P K V F ns sf ef L cnt Ab0 Be0 C0 M Ab Be C cn (-1) M)) ∧ (¬ (mI M g 0 = 512) → (mK M (mR M g 16) = 30 ∧ ((0 : Int) ≤ sl ∧ (sl : Int) < (mN M (mR M g 16) : Int)) ∧ ∀ M23, M23 = mUI M (mR M g 16) (Int.toNat sl) (mI M g 0) → mK M23 (mR M23 g 15) = 5 ∧ mK M23 (mR M23 (mR M23 g 15) 5) = 30 ∧ mK M23 (mR M23 g 1) = 30 ∧ ((0 : Int) ≤ 0 ∧ (0 : Int) ≤ (mI M23 g 0) * 12 ∧ (0 : Int) ≤ 12 ∧ 0 + 12 ≤ (mN M23 (mR M23 (mR M23 g 15) 5) : Int) ∧ ((mI M23 g 0) * 12) + 12 ≤ (mN M23 (mR M23 g 1) : Int)) ∧ ∀ M29, M29 = mCpy M23 (mR M23 (mR M23 g 15) 5) (mR M23 g 1) 0 (Int.toNat ((mI M23 g 0) * 12)) 12 → i32 ((mI M29 g 0) + 1) ∧ ∀ M32, M32 = mUI M29 g 0 ((mI M29 g 0) + 1) → enG U w9 M0 z g p O P K V F ns sf ef L cnt Ab0 Be0 C0 M Ab Be C cn ((mI M32 g 0) - 1) M32)) := fun {sl} hsl => by
    refine ⟨g0, fun y => ⟨hx, FI.refl, fun _ _ => rfl, cn, hc, Nat.le_refl _, hcn, hs, Or.inl rfl, ⟨by decide, by decide⟩, fun _ => by omega⟩, fun y => ?_⟩
    rw [g16, n20, Int.toNat_natCast, hc]
    refine ⟨k20, by omega, fun M23 e23 => ?_⟩
    have f23 : FI (fun x => x = g + 20) M M23 := by rw [e23]; exact FI.ui rfl
    have c23 : mI M23 g 0 = ((cn : Nat) : Int) := by rw [f23.2.2.2.2.2.2 g (show ¬ g = g + 20 by omega)]; exact hc
    rw [f23.1, f23.2.1, f23.2.2.1, g15, m5, g1, n1, nm, c23]
    refine ⟨m0, km, k1, ⟨by omega, by omega, by omega, by omega, by omega⟩, fun M29 e29 => ?_⟩
    have f29 : FI (fun x => x = g + 1) M23 M29 := by
      rw [e29]
      refine ⟨rfl, rfl, rfl, rfl, rfl, rfl, fun x hx => ?_⟩
      funext j
      exact if_neg (fun u => hx u.1)
    have c29 : mI M29 g 0 = ((cn : Nat) : Int) := by rw [f29.2.2.2.2.2.2 g (show ¬ g = g + 1 by omega)]; exact c23
    rw [c29]
    refine ⟨⟨by omega, by omega⟩, fun M32 e32 => ?_⟩
    have f32 : FI (fun x => x = g) M29 M32 := by rw [e32]; exact FI.ui rfl
    have c32 : mI M32 g 0 = ((cn + 1 : Nat) : Int) := by rw [mI_ui g 0 e32, if_pos ⟨rfl, rfl⟩]; omega
    have ff : FI (fun x => x = g ∨ x = g + 1 ∨ x = g + 20) M M32 := ((f23.mono (fun _ y => Or.inr (Or.inr y))).trans (f29.mono (fun _ y => Or.inr (Or.inl y)))).trans (f32.mono (fun _ y => Or.inl y))
    have o32 : mOk M32 := by rw [e32]; exact mOk_UI (by rw [e29]; exact mOk_Cpy (by rw [e23]; exact mOk_UI h1 ⟨by omega, by omega⟩)) ⟨by omega, by omega⟩
    rw [c32]
    refine ⟨hx.fi o32 (ff.mono (fun x y => by
      have y' : x = g ∨ x = g + 1 ∨ x = g + 20 := y
      show (g ≤ x ∧ x ≤ g + 9) ∨ x = g + 12 ∨ (g + 20 ≤ x ∧ x ≤ g + 22)
      omega)), ff, fun i hi => ?_, cn + 1, c32, by omega, by omega, fun i hi => ?_, Or.inr ⟨by omega, by omega⟩, ⟨by omega, by omega⟩, fun t => absurd t (by omega)⟩
    · rw [mI_ui g i e32, if_neg (fun u => hi u.2), f29.2.2.2.2.2.2 g (show ¬ g = g + 1 by omega), f23.2.2.2.2.2.2 g (show ¬ g = g + 20 by omega)]
    · rw [f32.2.2.2.2.2.2 _ (show ¬ g + 20 = g by omega), f29.2.2.2.2.2.2 _ (show ¬ g + 20 = g + 1 by omega), mI_ui _ i e23]
      by_cases y0 : i = sl
      · rw [if_pos ⟨rfl, y0⟩]
        exact Or.inr ⟨by omega, by omega⟩
      · rw [if_neg (fun u => y0 u.2)]
        rcases hs i hi with u | u
        · exact Or.inl u
        · exact Or.inr ⟨u.1, by omega⟩
  intro t
  induction t with
  | zero =>
    intro i sl hi hi2 hsl
    exact k_Ga_enter_51 h1 (i32s (by omega) (by omega)) (i32s (by omega) (by omega)) ⟨fun y => absurd y (by omega), fun _ => new hsl, fun y => absurd (Or.inl (by omega)) y⟩
  | succ t ih =>
    intro i sl hi hi2 hsl
    refine k_Ga_enter_51 h1 (i32s (by omega) (by omega)) (i32s (by omega) (by omega)) ⟨fun _ => ⟨g0, by rw [g16]; exact k20, by rw [g16, n20]; omega⟩, fun _ => new hsl, fun y => ?_⟩
    have i10 : i < 1024 := by
      by_cases u : (1024 : Int) ≤ i
      · exact absurd (Or.inl u) y
      · omega
    rw [g16, Int.toNat_natCast] at y
    have y1 : mI M (g + 20) sl ≠ -1 := fun u => y (Or.inr u)
    obtain ⟨k, ek⟩ : ∃ k : Nat, mI M (g + 20) sl = ((k : Nat) : Int) := by
      have := (hs sl hsl).resolve_left y1
      exact ⟨(mI M (g + 20) sl).toNat, by omega⟩
    have kc : k < cn := by
      have := (hs sl hsl).resolve_left y1
      omega
    rw [g16, n20, Int.toNat_natCast, ek]
    refine ⟨g0, k20, by omega, (s_Ga_isNext hx (by omega)).mono (fun r M' q => ?_)⟩
    obtain ⟨e, hr⟩ := q
    subst e
    rw [g16, n20, ek]
    have ia := i_and (x := (sl : Int) + 1) 10 (by decide) 1023 (by decide) ⟨by decide, by decide⟩
    have p10 : (2 : Int) ^ 10 = 1024 := by decide
    rw [p10] at ia
    obtain ⟨s2, es2⟩ : ∃ s2 : Nat, andI ((sl : Int) + 1) 1023 = ((s2 : Nat) : Int) := ⟨(((sl : Int) + 1) % 1024).toNat, by rw [ia]; omega⟩
    refine ⟨m_b32 hr, h1, fun _ => ?_, fun _ => ⟨g0, k20, by omega, hx, FI.refl, fun _ _ => rfl, cn, hc, Nat.le_refl _, hcn, hs, Or.inr ⟨by omega, by omega⟩, ⟨by omega, by omega⟩, fun t => absurd t (by omega)⟩⟩
    rw [es2, show ((i : Int) + 1) = ((i + 1 : Nat) : Int) by omega]
    exact ih (i + 1) s2 (by omega) (by omega) (by omega)
theorem s_Ga_enter (hx : GY U w9 M0 z g p O P K V F ns sf ef L cnt Ab0 Be0 C0 M Ab Be C) (hc : mI M g 0 = ((cn : Nat) : Int)) (hcn : cn ≤ 512) (hs : SLt M g cn) : Ci G y_Ga_enter (d + 2) [vr g] M (enG U w9 M0 z g p O P K V F ns sf ef L cnt Ab0 Be0 C0 M Ab Be C cn) := by
  obtain ⟨h1, h2, h3, h4, h5, -⟩ := id hx
  obtain ⟨g0, ⟨g1, -, -, -, -, -, -, -, -, g15, g16, -⟩, -, -⟩ := h2
  obtain ⟨p5, p6⟩ := h4.2.2.1
  have m0 := h3.1
  have m5 := h3.2.1.2.1
  have km := h3.2.2.1.2.1
  have nm := h3.2.2.2.1.1
  refine k_Ga_enter h1 ?_
  suffices HH : ∀ (t i : Nat) (x : Int), V ≤ i + t → i ≤ V → i32 x → h_Ga_enter_4 G (d + 1) g x i M (enG U w9 M0 z g p O P K V F ns sf ef L cnt Ab0 Be0 C0 M Ab Be C cn) from HH V 0 0 (by omega) (by omega) ⟨by decide, by decide⟩
  have fin : ∀ {x : Int}, h_Ga_enter_51 G (d + 1) g (andI x 1023) 0 M (enG U w9 M0 z g p O P K V F ns sf ef L cnt Ab0 Be0 C0 M Ab Be C cn) := fun {x} => by
    have ia := i_and (x := x) 10 (by decide) 1023 (by decide) ⟨by decide, by decide⟩
    have p10 : (2 : Int) ^ 10 = 1024 := by decide
    rw [p10] at ia
    obtain ⟨s2, es2⟩ : ∃ s2 : Nat, andI x 1023 = ((s2 : Nat) : Int) := ⟨(x % 1024).toNat, by rw [ia]; omega⟩
    rw [es2]
    exact s_en51 hx hc hcn hs 1024 0 s2 (by omega) (by omega) (by omega)
  intro t
  induction t with
  | zero =>
    intro i x hi hi2 ix
    refine k_Ga_enter_4w h1 ix (i32s (by omega) (by omega)) ?_
    rw [h5.1, p5]
    exact ⟨g0, h4.1.1, fun _ => fin, fun y => absurd y (by omega)⟩
  | succ t ih =>
    intro i x hi hi2 ix
    refine k_Ga_enter_4w h1 ix (i32s (by omega) (by omega)) ?_
    rw [h5.1, p5, g15, m5, nm]
    refine ⟨g0, h4.1.1, fun _ => fin, fun y => ⟨m0, km, by omega, ?_⟩⟩
    rw [show ((i : Int) + 1) = ((i + 1 : Nat) : Int) by omega]
    exact ih (i + 1) _ (by omega) (by omega) i32_w32
end GAB
end
section
/-! The class's game: a command's chances are weighed. -/
section GAC
variable {G : mG} {d z g p O P K V F L cnt U Ab Be C Ab0 Be0 C0 s h t c cn k u v cc : Nat} {M0 M M' M1 M2 : mM} {ns : Nat → Int} {sf ef : Nat → Nat} {H : Nat → Nat} {S R : Nat → Prop}
theorem mod_half {a b k : Nat} (hb : 0 < b) (hba : b < a) (ha : a < 2 ^ (k + 1)) : a % b < 2 ^ k := by
  have h1 := Nat.mod_lt a hb
  have e : 2 ^ (k + 1) = 2 * 2 ^ k := by rw [Nat.pow_succ]; omega
  by_cases y : 2 * b ≤ a
  · omega
  · have h2 : a % b = a - b := by
      rw [Nat.mod_eq_sub_mod (by omega), Nat.mod_eq_of_lt (by omega)]
    omega
/-- the greatest common divisor, where few steps are enough -/
theorem s_Ma_gcd {x y : Nat} (hx : 1 ≤ x ∧ x < 1000000000) (hy : 1 ≤ y ∧ y < 1000000000) (hO : mOk M) : Cj G y_Ma_commonDivisor d [vl x, vl y] M (fun r M' => M' = M ∧ ∃ w : Nat, r = ((w : Nat) : Int) ∧ 1 ≤ w ∧ w ∣ x ∧ w ∣ y) := by
  refine k_Ma_commonDivisor hO ⟨by omega, by omega⟩ ⟨by omega, by omega⟩ (fun v2 e2 => ?_)
  have v0 : v2 = x := by
    have := (cmpz x 0).1
    rw [e2, if_pos (by rw [this]; omega)]
  subst v0
  have p30 : (2 : Nat) ^ 30 = 1073741824 := by decide
  suffices HH : ∀ (s i a b : Nat), 100 ≤ i + s → i ≤ 100 → a < 1000000000 → b < 1000000000 → (∀ w, w ∣ a → w ∣ b → w ∣ x ∧ w ∣ y) → (1 ≤ a ∨ 1 ≤ b) → ((∃ k, b < 2 ^ k ∧ 2 * k + i ≤ 100) ∨ (∃ k, a < 2 ^ (k + 1) ∧ b < a ∧ 2 * k + 1 + i ≤ 100)) → h_Ma_commonDivisor_20 G d a b i M (fun r M' => M' = M ∧ ∃ w : Nat, r = ((w : Nat) : Int) ∧ 1 ≤ w ∧ w ∣ x ∧ w ∣ y) from HH 100 0 x y (by omega) (by omega) (by omega) (by omega) (fun w h1 h2 => ⟨h1, h2⟩) (Or.inl hx.1) (Or.inl ⟨30, by rw [p30]; omega, by omega⟩)
  intro s
  induction s with
  | zero =>
    intro i a b hs hi ha hb hd h1 hk
    have b0 : b = 0 := by
      rcases hk with ⟨k, k1, k2⟩ | ⟨k, -, -, k3⟩
      · have : k = 0 := by omega
        rw [this] at k1
        omega
      · omega
    have ca := (cmpz (a : Int) 0).2.2.2.1
    refine k_Ma_commonDivisor_20 hO ⟨by omega, by omega⟩ ⟨by omega, by omega⟩ (i32s (by omega) (by omega)) ⟨fun _ v12 e12 => ?_, fun q => absurd (Or.inl (by omega)) q⟩
    clear hk
    rw [if_neg (by rw [ca]; omega)] at e12
    rw [e12]
    have := hd a (Nat.dvd_refl _) (by rw [b0]; exact Nat.dvd_zero _)
    exact ⟨rfl, a, rfl, by omega, this.1, this.2⟩
  | succ s ih =>
    intro i a b hs hi ha hb hd h1 hk
    have ca := (cmpz (a : Int) 0).2.2.2.1
    have cb := (cmpz (b : Int) 0).2.2.2.1
    refine k_Ma_commonDivisor_20 hO ⟨by omega, by omega⟩ ⟨by omega, by omega⟩ (i32s (by omega) (by omega)) ⟨fun q v12 e12 => ?_, fun q => ?_⟩
    · have b0 : b = 0 := by
        rcases q with q | q
        · rcases hk with ⟨k, k1, k2⟩ | ⟨k, -, -, k3⟩
          · have : k = 0 := by omega
            rw [this] at k1
            omega
          · omega
        · rw [cb] at q
          omega
      clear hk
      rw [if_neg (by rw [ca]; omega)] at e12
      rw [e12]
      have := hd a (Nat.dvd_refl _) (by rw [b0]; exact Nat.dvd_zero _)
      exact ⟨rfl, a, rfl, by omega, this.1, this.2⟩
    · have i100 : i < 100 := by
        by_cases t : (100 : Int) ≤ i
        · exact absurd (Or.inl t) q
        · omega
      have b0 : 0 < b := by
        by_cases t : b = 0
        · exact absurd (Or.inr (by rw [cb]; omega)) q
        · omega
      have em : Int.tmod (a : Int) (b : Int) = ((a % b : Nat) : Int) := by rw [Int.tmod_eq_emod_of_nonneg (by omega)]; rfl
      have ml := Nat.mod_lt a b0
      rw [em, show ((i : Int) + 1) = ((i + 1 : Nat) : Int) by omega]
      refine ⟨by omega, ih (i + 1) b (a % b) (by omega) (by omega) hb (by omega) (fun w w1 w2 => ?_) (Or.inl b0) ?_⟩
      · have wa : w ∣ a := by
          have := Nat.div_add_mod a b
          rw [← this]
          exact Nat.dvd_add (Nat.dvd_trans w1 (Nat.dvd_mul_right _ _)) w2
        exact hd w wa w1
      · rcases hk with ⟨k, k1, k2⟩ | ⟨k, k1, k2, k3⟩
        · have k0 : k ≠ 0 := fun t => by rw [t] at k1; omega
          exact Or.inr ⟨k - 1, by rw [show k - 1 + 1 = k by omega]; exact k1, ml, by omega⟩
        · exact Or.inl ⟨k, mod_half b0 k2 k1, by omega⟩
/-- what chances sum up to, times mu -/
def shS (M : mM) (g : Nat) (mu : Int) : Nat → Int
  | 0 => 0
  | b + 1 => shS M g mu b + Int.tdiv mu (mI M (g + 22) b) * mI M (g + 21) b
theorem shS_cg {mu : Int} : ∀ n, (∀ b, b < n → mI M' (g + 21) b = mI M (g + 21) b ∧ mI M' (g + 22) b = mI M (g + 22) b) → shS M' g mu n = shS M g mu n
  | 0, _ => rfl
  | n + 1, hh => by
    show shS M' g mu n + Int.tdiv mu (mI M' (g + 22) n) * mI M' (g + 21) n = shS M g mu n + Int.tdiv mu (mI M (g + 22) n) * mI M (g + 21) n
    rw [shS_cg n (fun b hb => hh b (by omega)), (hh n (by omega)).1, (hh n (by omega)).2]
/-- chances of n branches -/
def chz (M : mM) (g n : Nat) : Prop := ∀ b, b < n → 0 ≤ mI M (g + 21) b ∧ mI M (g + 21) b ≤ mI M (g + 22) b ∧ 1 ≤ mI M (g + 22) b ∧ mI M (g + 22) b < 1000000000
/-- what stays when chances are weighed -/
def wgF (M : mM) (g : Nat) (M' : mM) : Prop := (∀ i, i ≠ 10 → mI M' g i = mI M g i) ∧ (∀ i, 1 ≤ i → i ≤ 9 → i ≠ 6 → mI M' (g + i) = mI M (g + i)) ∧ mI M' (g + 20) = mI M (g + 20) ∧ (∀ i, i ≠ (mI M g 12).toNat → mI M' (g + 6) i = mI M (g + 6) i) ∧ mI M' (g + 10) 9 = mI M (g + 10) 9
theorem wgF.refl : wgF M g M := ⟨fun _ _ => rfl, fun _ _ _ _ => rfl, rfl, fun _ _ => rfl, rfl⟩
theorem wgF.trans (f : wgF M g M1) (k : wgF M1 g M2) : wgF M g M2 := by
  obtain ⟨f1, f2, f3, f4, f5⟩ := f
  obtain ⟨g1, g2, g3, g4, g5⟩ := k
  exact ⟨fun i hi => by rw [g1 i hi, f1 i hi], fun i a b c => by rw [g2 i a b c, f2 i a b c], by rw [g3, f3], fun i hi => by rw [g4 i (by rw [f1 12 (by decide)]; exact hi), f4 i hi], by rw [g5, f5]⟩
theorem PG.fbm {Bn : Nat} (hg : PG M p O P V F ns sf ef L cnt Bn) : ∀ (t j : Nat), j + t = cnt → ∃ x y : Nat, mI M (p + 12) j = ((x : Nat) : Int) ∧ mI M (p + 12) cnt = ((y : Nat) : Int) ∧ x ≤ y ∧ y ≤ Bn ∧ y ≤ 8 * cnt
  | 0, j, hj => by
    obtain ⟨y, e1, e2, e3⟩ := hg.2.2.2.2.2.1
    have : j = cnt := by omega
    subst this
    exact ⟨y, y, e1, e1, Nat.le_refl _, e2, e3⟩
  | t + 1, j, hj => by
    obtain ⟨x, y, e1, e2, e3, e4, e5⟩ := PG.fbm hg t (j + 1) (by omega)
    obtain ⟨a, b, f1, f2, f3, f4⟩ := hg.2.2.2.2.1 j (by omega)
    rw [e1] at f2
    exact ⟨a, y, f1, e2, by omega, e4, e5⟩
/-- a command of the program -/
theorem PW.cmd (hp : PW M z p O P K V F ns sf ef L cnt) (hc : c < cnt) : ∃ u v : Nat, mI M (p + 12) c = ((u : Nat) : Int) ∧ mI M (p + 12) (c + 1) = ((v : Nat) : Int) ∧ u ≤ v ∧ v ≤ u + 8 ∧ v ≤ 480 ∧ (∀ b, b < v → ∃ s1 s2 : Nat, mI M (p + 14) b = ((s1 : Nat) : Int) ∧ PC M O P V F ns ef L s1 1 ∧ mI M (p + 15) b = ((s2 : Nat) : Int) ∧ PC M O P V F ns ef L s2 0) ∧ ∃ sg : Nat, mI M (p + 11) c = ((sg : Nat) : Int) ∧ PC M O P V F ns ef L sg 1 := by
  obtain ⟨p1, -, -, -, ⟨-, p9⟩, -, u0, p11, p12⟩ := hp
  obtain ⟨u, v, e1, e2, e3, e4⟩ := p12.2.2.2.2.1 c hc
  obtain ⟨x, y, f1, f2, f3, f4, f5⟩ := p12.fbm (cnt - (c + 1)) (c + 1) (by omega)
  rw [e2] at f1
  obtain ⟨sg, g1, g2⟩ := p12.2.2.1 c hc
  exact ⟨u, v, e1, e2, e3, e4, by omega, fun b hb => p12.2.2.2.2.2.2 b (by omega), sg, g1, g2⟩
end GAC
end
section
/-! The class's game: weighChances. -/
section GAD
variable {G : mG} {d z g p O P K V F L cnt U Ab Be C Ab0 Be0 C0 s h t c cn k u v cc n : Nat} {M0 M M' M1 M2 : mM} {ns : Nat → Int} {sf ef : Nat → Nat} {H : Nat → Nat} {S R : Nat → Prop}
/-- what weighing comes to -/
def weQ (M0 : mM) (z g p O P K V F : Nat) (ns : Nat → Int) (sf ef : Nat → Nat) (L cnt Ab0 Be0 C0 : Nat) (MB : mM) (n cc : Nat) (r : Int) (M' : mM) : Prop := i32 r ∧ wgF MB g M' ∧ (∃ Ab Be C, GX M0 z g p O P K V F ns sf ef L cnt Ab0 Be0 C0 M' Ab Be C) ∧ (r = 0 → chz M' g n ∧ ∃ mu : Nat, mI M' (g + 6) cc = ((mu : Nat) : Int) ∧ 1 ≤ mu ∧ mu < 1000000000 ∧ shS M' g mu n = ((mu : Nat) : Int) ∧ ∀ b, b < n → (mI M' (g + 22) b) ∣ ((mu : Nat) : Int))
theorem pl_we (hx : GX M0 z g p O P K V F ns sf ef L cnt Ab0 Be0 C0 M Ab Be C) (hw : wgF M1 g M) (q : plQ M g M') {r : Int} (ir : i32 r) (hr : r ≠ 0) : weQ M0 z g p O P K V F ns sf ef L cnt Ab0 Be0 C0 M1 n cc r M' := by
  obtain ⟨q1, q2, q3⟩ := q
  have nb : ∀ x, x ≠ g → mI M' x = mI M x := fun x hx => q2.2.2.2.2.2.2 x hx
  refine ⟨ir, hw.trans ⟨q3, fun i i1 _ _ => nb _ (by omega), nb _ (by omega), fun i _ => by rw [nb _ (by omega)], by rw [nb _ (by omega)]⟩, ⟨Ab, Be, C, hx.fi q1 (q2.mono (fun x y => Or.inl (by have y' : x = g := y; omega)))⟩, fun u => absurd u hr⟩
theorem s_we232 {mu : Nat} (hx : GX M0 z g p O P K V F ns sf ef L cnt Ab0 Be0 C0 M Ab Be C) (hw : wgF M1 g M) (hc : c < cnt) (hn : n ≤ 8) (hch : chz M g n) (hmu : 1 ≤ mu ∧ mu < 1000000000) (h6 : mI M (g + 6) cc = ((mu : Nat) : Int)) (hdv : ∀ b, b < n → (mI M (g + 22) b) ∣ ((mu : Nat) : Int)) : ∀ (t i : Nat), n ≤ i + t → i ≤ n → 0 ≤ shS M g mu i → shS M g mu i ≤ i * 1000000000 → h_Ga_weighChances_232 G d g c n mu (shS M g mu i) i M (weQ M0 z g p O P K V F ns sf ef L cnt Ab0 Be0 C0 M1 n cc) := by
  obtain ⟨h1, h2, h3, h4, h5, -⟩ := id hx
  obtain ⟨g0, ⟨-, -, -, -, -, -, -, -, -, -, -, g17, g18⟩, ⟨-, -, -, -, -, -, -, -, -, -, k21, k22⟩, ⟨-, -, -, -, -, -, -, -, -, -, n21, n22⟩⟩ := h2
  have p14 := h4.1.2.2.2.2.2.2.1.2.2.2.2.2.2.2.1
  have kp14 := h4.1.2.2.2.2.2.2.2.1.2.2.2.2.2.2.2.1
  have np14 := h4.1.2.2.2.2.2.2.2.2.2.2.2.2.2.2.2.1
  have c60 := h4.2.2.2.2.1.2
  intro t
  induction t with
  | zero =>
    intro i hi hi2 s0 s1
    have cm := (cmpz (shS M g mu i) mu).2.2.2.1
    have en : i = n := by omega
    refine k_Ga_weighChances_232 h1 (i32s (by omega) (by omega)) (i32s (by omega) (by omega)) ⟨by omega, by omega⟩ ⟨by omega, by omega⟩ (i32s (by omega) (by omega)) ⟨fun _ => ⟨fun y => ?_, fun y => ?_⟩, fun y => absurd y (by omega)⟩
    · rw [cm] at y
      rw [en] at y
      exact k_Ga_weighChances_296 h1 ⟨by decide, by decide⟩ ⟨⟨by decide, by decide⟩, hw, ⟨Ab, Be, C, hx⟩, fun _ => ⟨hch, mu, h6, hmu.1, hmu.2, y, hdv⟩⟩
    · rw [h5.1, p14, np14]
      refine ⟨g0, h4.1.1, kp14, by omega, (s_Ga_fault ⟨by decide, by decide⟩ (h1 _ _).1 h1 g0).mono (fun r M' q => ?_)⟩
      rw [q.1]
      exact ⟨⟨by decide, by decide⟩, q.2.1, k_Ga_weighChances_296 q.2.1 ⟨by decide, by decide⟩ (pl_we hx hw q.2 ⟨by decide, by decide⟩ (by decide))⟩
  | succ t ih =>
    intro i hi hi2 s0 s1
    have cm := (cmpz (shS M g mu i) mu).2.2.2.1
    refine k_Ga_weighChances_232 h1 (i32s (by omega) (by omega)) (i32s (by omega) (by omega)) ⟨by omega, by omega⟩ ⟨by omega, by omega⟩ (i32s (by omega) (by omega)) ⟨fun yy => ⟨fun y => ?_, fun y => ?_⟩, fun y => ?_⟩
    · have en : i = n := by omega
      rw [cm] at y
      rw [en] at y
      exact k_Ga_weighChances_296 h1 ⟨by decide, by decide⟩ ⟨⟨by decide, by decide⟩, hw, ⟨Ab, Be, C, hx⟩, fun _ => ⟨hch, mu, h6, hmu.1, hmu.2, y, hdv⟩⟩
    · rw [h5.1, p14, np14]
      refine ⟨g0, h4.1.1, kp14, by omega, (s_Ga_fault ⟨by decide, by decide⟩ (h1 _ _).1 h1 g0).mono (fun r M' q => ?_)⟩
      rw [q.1]
      exact ⟨⟨by decide, by decide⟩, q.2.1, k_Ga_weighChances_296 q.2.1 ⟨by decide, by decide⟩ (pl_we hx hw q.2 ⟨by decide, by decide⟩ (by decide))⟩
    · have inn : i < n := by omega
      obtain ⟨b1, b2, b3, b4⟩ := hch i inn
      rw [g18, g17, n22, n21, Int.toNat_natCast]
      have e : shS M g mu (i + 1) = shS M g mu i + Int.tdiv mu (mI M (g + 22) i) * mI M (g + 21) i := rfl
      have tb : 0 ≤ Int.tdiv mu (mI M (g + 22) i) * mI M (g + 21) i ∧ Int.tdiv mu (mI M (g + 22) i) * mI M (g + 21) i ≤ 1000000000 := by
        have q0 := Int.tdiv_nonneg (show (0 : Int) ≤ mu by omega) (show (0 : Int) ≤ mI M (g + 22) i by omega)
        refine ⟨Int.mul_nonneg q0 b1, ?_⟩
        have q1 := Int.mul_le_mul_of_nonneg_left b2 q0
        have q2 : Int.tdiv mu (mI M (g + 22) i) * mI M (g + 22) i ≤ mu := by
          rw [Int.tdiv_eq_ediv_of_nonneg (by omega)]
          exact Int.ediv_mul_le _ (by omega)
        omega
      refine ⟨g0, k22, by omega, by omega, k21, by omega, ?_⟩
      rw [← e, show ((i : Int) + 1) = ((i + 1 : Nat) : Int) by omega]
      exact ih (i + 1) (by omega) (by omega) (by rw [e]; omega) (by rw [e]; omega)
theorem s_we150 (hx : GX M0 z g p O P K V F ns sf ef L cnt Ab0 Be0 C0 M Ab Be C) (hw : wgF M1 g M) (hc : c < cnt) (hn : n ≤ 8) (hch : chz M g n) (hcc : mI M g 12 = ((cc : Nat) : Int)) (hcc2 : cc ≤ 4096) (hcc1 : mI M1 g 12 = ((cc : Nat) : Int)) : ∀ (t i mu : Nat), n ≤ i + t → i ≤ n → (1 ≤ mu ∧ mu < 1000000000) → (∀ b, b < i → (mI M (g + 22) b) ∣ ((mu : Nat) : Int)) → h_Ga_weighChances_150 G (d + 1) g c n mu i M (weQ M0 z g p O P K V F ns sf ef L cnt Ab0 Be0 C0 M1 n cc) := by
  obtain ⟨h1, h2, h3, h4, h5, -⟩ := id hx
  obtain ⟨g0, ⟨-, -, -, -, -, g6, -, -, -, -, -, g17, g18⟩, ⟨-, -, -, -, -, k6, -, -, -, -, k21, k22⟩, ⟨-, -, -, -, -, n6, -, -, -, -, n21, n22⟩⟩ := h2
  have p14 := h4.1.2.2.2.2.2.2.1.2.2.2.2.2.2.2.1
  have kp14 := h4.1.2.2.2.2.2.2.2.1.2.2.2.2.2.2.2.1
  have np14 := h4.1.2.2.2.2.2.2.2.2.2.2.2.2.2.2.2.1
  have c60 := h4.2.2.2.2.1.2
  have fin : ∀ {mu : Nat}, (1 ≤ mu ∧ mu < 1000000000) → (∀ b, b < n → (mI M (g + 22) b) ∣ ((mu : Nat) : Int)) → mK M g = 7 ∧ mK M (mR M g 6) = 30 ∧ ((0 : Int) ≤ mI M g 12 ∧ mI M g 12 < (mN M (mR M g 6) : Int)) ∧ i32 ((mu : Nat) : Int) ∧ ∀ M66, M66 = mUI M (mR M g 6) (Int.toNat (mI M g 12)) mu → h_Ga_weighChances_232 G (d + 1) g c n mu 0 0 M66 (weQ M0 z g p O P K V F ns sf ef L cnt Ab0 Be0 C0 M1 n cc) := fun {mu} hmu hd => by
    rw [g6, n6, hcc, Int.toNat_natCast]
    refine ⟨g0, k6, by omega, ⟨by omega, by omega⟩, fun M66 e66 => ?_⟩
    have f66 : FI (fun x => x = g + 6) M M66 := by rw [e66]; exact FI.ui rfl
    have nb : ∀ x, x ≠ g + 6 → mI M66 x = mI M x := fun x hx => f66.2.2.2.2.2.2 x hx
    have o66 : mOk M66 := by rw [e66]; exact mOk_UI h1 ⟨by omega, by omega⟩
    have x66 := hx.fi o66 (f66.mono (fun x y => Or.inl (by have y' : x = g + 6 := y; omega)))
    have w66 : wgF M g M66 := ⟨fun i _ => by rw [nb g (by omega)], fun i i1 i9 i6 => nb _ (by omega), nb _ (by omega), fun i hi => by rw [mI_ui _ i e66, if_neg (fun t => hi (by rw [hcc, Int.toNat_natCast]; exact t.2))], by rw [nb _ (by omega)]⟩
    have e21 := nb (g + 21) (by omega)
    have e22 := nb (g + 22) (by omega)
    exact s_we232 (cc := cc) x66 (hw.trans w66) hc hn (fun b hb => by rw [e21, e22]; exact hch b hb) hmu (by rw [mI_ui _ _ e66, if_pos ⟨rfl, rfl⟩]) (fun b hb => by rw [e22]; exact hd b hb) n 0 (by omega) (by omega) (Int.le_refl _) (by show (0 : Int) ≤ _; omega)
  intro t
  induction t with
  | zero =>
    intro i mu hi hi2 hmu hd
    exact k_Ga_weighChances_150 h1 (i32s (by omega) (by omega)) (i32s (by omega) (by omega)) ⟨by omega, by omega⟩ (i32s (by omega) (by omega)) ⟨fun _ => fin hmu (fun b hb => hd b (by omega)), fun y => absurd y (by omega)⟩
  | succ t ih =>
    intro i mu hi hi2 hmu hd
    refine k_Ga_weighChances_150 h1 (i32s (by omega) (by omega)) (i32s (by omega) (by omega)) ⟨by omega, by omega⟩ (i32s (by omega) (by omega)) ⟨fun y => fin hmu (fun b hb => hd b (by omega)), fun y => ?_⟩
    have inn : i < n := by omega
    obtain ⟨b1, b2, b3, b4⟩ := hch i inn
    rw [g18, n22, Int.toNat_natCast]
    obtain ⟨bl, ebl⟩ : ∃ bl : Nat, mI M (g + 22) i = ((bl : Nat) : Int) := ⟨(mI M (g + 22) i).toNat, by omega⟩
    rw [ebl]
    refine ⟨g0, k22, by omega, (s_Ma_gcd hmu ⟨by omega, by omega⟩ h1).mono (fun r M' q => ?_)⟩
    obtain ⟨e', w, ew, w1, ⟨q1, wd1⟩, ⟨q2, wd2⟩⟩ := q
    subst e'
    have ed : Int.tdiv (mu : Int) r = ((q1 : Nat) : Int) := by
      rw [ew, Int.tdiv_eq_ediv_of_nonneg (by omega), wd1]
      rw [Int.natCast_mul]
      exact Int.mul_ediv_cancel_left _ (by omega)
    have q10 : 1 ≤ q1 := by
      by_cases u : q1 = 0
      · rw [u] at wd1; omega
      · omega
    have wm : w ≤ mu := by rw [wd1]; exact Nat.le_mul_of_pos_right _ (by omega)
    have q1m : q1 ≤ mu := by rw [wd1]; exact Nat.le_mul_of_pos_left _ (by omega)
    rw [ed, g18, n22, ebl, ← Int.natCast_mul]
    have pb : q1 * bl ≤ 1000000000 * 1000000000 := Nat.mul_le_mul (by omega) (by omega)
    have p1 : 1 ≤ q1 * bl := Nat.mul_pos (by omega) (by omega)
    have cm := (cmpz ((q1 * bl : Nat) : Int) 1000000000).2.2.1
    refine ⟨by rw [ew]; exact ⟨by omega, by omega⟩, h1, by omega, g0, k22, by omega, ⟨by omega, by omega⟩, fun y1 => ?_, fun y1 => ?_⟩
    · rw [cm] at y1
      rw [show ((i : Int) + 1) = ((i + 1 : Nat) : Int) by omega]
      refine ih (i + 1) (q1 * bl) (by omega) (by omega) ⟨p1, by omega⟩ (fun b hb => ?_)
      by_cases yb : b = i
      · rw [yb, ebl, Int.natCast_mul]
        exact Int.dvd_mul_left _ _
      · have e2 : ((q1 * bl : Nat) : Int) = (mu : Int) * (q2 : Int) := by
          rw [wd1, wd2, ← Int.natCast_mul]
          congr 1
          rw [Nat.mul_left_comm, Nat.mul_assoc]
        rw [e2]
        exact Int.dvd_trans (hd b (by omega)) (Int.dvd_mul_right _ _)
    · rw [h5.1, p14, np14]
      refine ⟨h4.1.1, kp14, by omega, (s_Ga_fault ⟨by decide, by decide⟩ (h1 _ _).1 h1 g0).mono (fun r2 M2 q => ?_)⟩
      rw [q.1]
      exact ⟨⟨by decide, by decide⟩, q.2.1, pl_we hx hw q.2 ⟨by decide, by decide⟩ (by decide)⟩
end GAD
end
section
/-! The class's game: weighChances, the whole. -/
section GAE
variable {G : mG} {d z g p O P K V F L cnt U Ab Be C Ab0 Be0 C0 s h t c cn k u v cc n : Nat} {M0 M M' M1 M2 : mM} {ns : Nat → Int} {sf ef : Nat → Nat} {H : Nat → Nat} {S R : Nat → Prop}
/-- cells that a run leaves alone -/
theorem ga_ce (hx : GX M0 z g p O P K V F ns sf ef L cnt Ab0 Be0 C0 M Ab Be C) (f : FA (mcS (g + 10) Ab Be) (fun x => x = g + 10) M M') : (∀ i, i ≤ 9 ∨ (20 ≤ i ∧ i ≤ 22) → mI M' (g + i) = mI M (g + i)) ∧ (∀ i, i ≤ 15 → mI M' (p + i) = mI M (p + i)) := by
  have ne := hx.ne
  obtain ⟨-, -, h3, h4, -, ⟨h61, h62, h63⟩, -⟩ := hx
  obtain ⟨a1, a2, -, -⟩ := h3.2.2.2.2.2.1
  have z1 := h3.2.2.2.2.2.2.1.1
  have o4 := h4.1.2.2.2.1.2.2.2
  clear h3 h4
  refine ⟨fun i hi => (f.2 (g + i) (by omega)).2.2.2.2 (fun y => ?_), fun i hi => (f.2 (p + i) (by omega)).2.2.2.2 (fun y => ne.1 i hi ?_)⟩
  · have y' : g + i = g + 10 ∨ g + i = g + 10 + 2 ∨ (g + 10 + 5 ≤ g + i ∧ g + i ≤ g + 10 + 9) ∨ g + i = Ab ∨ g + i = Be := y
    omega
  · have y' : p + i = g + 10 ∨ p + i = g + 10 + 2 ∨ (g + 10 + 5 ≤ p + i ∧ p + i ≤ g + 10 + 9) ∨ p + i = Ab ∨ p + i = Be := y
    show (g ≤ p + i ∧ p + i ≤ g + 22) ∨ p + i = Ab ∨ p + i = Be
    omega
theorem ga_wg (hx : GX M0 z g p O P K V F ns sf ef L cnt Ab0 Be0 C0 M Ab Be C) (f : FA (mcS (g + 10) Ab Be) (fun x => x = g + 10) M M') (h9 : mI M' (g + 10) 9 = mI M (g + 10) 9) : wgF M g M' := by
  obtain ⟨e1, -⟩ := ga_ce hx f
  have e0 := e1 0 (by omega)
  rw [Nat.add_zero] at e0
  exact ⟨fun i _ => by rw [e0], fun i _ i9 _ => e1 i (by omega), e1 20 (by omega), fun i _ => by rw [e1 6 (by omega)], h9⟩
theorem s_we27 (hF : FMs G) (hc : c < cnt) (hcc2 : cc ≤ 4096) (hcc1 : mI M1 g 12 = ((cc : Nat) : Int)) (huv : u ≤ v ∧ v ≤ u + 8 ∧ v ≤ 480) : ∀ (t i : Nat) (M : mM) (Ab Be C : Nat), v - u ≤ i + t → i ≤ v - u → GX M0 z g p O P K V F ns sf ef L cnt Ab0 Be0 C0 M Ab Be C → wgF M1 g M → mI M (p + 12) c = ((u : Nat) : Int) → mI M (p + 12) (c + 1) = ((v : Nat) : Int) → chz M g i → h_Ga_weighChances_27 G (d + 4) g c u ((v - u : Nat) : Int) i M (weQ M0 z g p O P K V F ns sf ef L cnt Ab0 Be0 C0 M1 (v - u) cc) := by
  intro t
  induction t with
  | zero =>
    intro i M Ab Be C hi hi2 hx hw hu hv hch
    have c60 := hx.2.2.2.1.2.2.2.2.1.2
    refine k_Ga_weighChances_27 hx.1 (i32s (by omega) (by omega)) (i32s (by omega) (by omega)) (i32s (by omega) (by omega)) (i32s (by omega) (by omega)) ⟨fun _ => ?_, fun y => absurd y (by omega)⟩
    have en : i = v - u := by omega
    rw [en] at hch
    exact s_we150 (d := d + 3) hx hw hc (by omega) hch (by rw [hw.1 12 (by decide)]; exact hcc1) hcc2 hcc1 (v - u) 0 1 (by omega) (by omega) ⟨by omega, by omega⟩ (fun b hb => absurd hb (by omega))
  | succ t ih =>
    intro i M Ab Be C hi hi2 hx hw hu hv hch
    have c60 := hx.2.2.2.1.2.2.2.2.1.2
    refine k_Ga_weighChances_27 hx.1 (i32s (by omega) (by omega)) (i32s (by omega) (by omega)) (i32s (by omega) (by omega)) (i32s (by omega) (by omega)) ⟨fun y => ?_, fun y => ?_⟩
    · have en : i = v - u := by omega
      rw [en] at hch
      exact s_we150 (d := d + 3) hx hw hc (by omega) hch (by rw [hw.1 12 (by decide)]; exact hcc1) hcc2 hcc1 (v - u) 0 1 (by omega) (by omega) ⟨by omega, by omega⟩ (fun b hb => absurd hb (by omega))
    have inn : i < v - u := by omega
    obtain ⟨h1, h2, h3, h4, h5, -⟩ := id hx
    obtain ⟨g0, ⟨-, -, -, -, -, -, -, -, -, g15, -, g17, g18⟩, -, -⟩ := id h2
    obtain ⟨u', v', e1, e2, -, -, -, hbr, -⟩ := h4.cmd hc
    have vv : v' = v := by rw [hv] at e2; omega
    subst vv
    obtain ⟨s1, s2, b1, b2, -, -⟩ := hbr (u + i) (by omega)
    have p18 := h4.1.2.2.2.2.2.2.1.2.2.2.2.2.2.2.2.2.2.2.1
    have kp18 := h4.1.2.2.2.2.2.2.2.1.2.2.2.2.2.2.2.2.2.2.2.1
    have np18 := h4.1.2.2.2.2.2.2.2.2.2.2.2.2.2.2.2.2.2.2.2.1
    rw [h5.1, p18, np18, g15, show Int.toNat ((u : Int) + (i : Int)) = u + i by omega, b1]
    refine ⟨g0, h4.1.1, kp18, by omega, h3.1, (s_Ga_run hF hx b2).mono (fun x14 M13 k => ?_)⟩
    obtain ⟨i14, o13, hx14, Ab', Be', C', hx13, f13, s13, z13, v13⟩ := k
    have w13 := hw.trans (ga_wg hx f13 s13)
    obtain ⟨ce1, ce2⟩ := ga_ce hx f13
    obtain ⟨-, k2, k3, k4, k5, -⟩ := id hx13
    obtain ⟨j0, ⟨-, -, -, -, -, -, -, -, -, j15, -, j17, j18⟩, ⟨-, -, -, -, -, -, -, -, -, -, jk21, jk22⟩, ⟨-, -, -, -, -, -, -, -, -, -, jn21, jn22⟩⟩ := id k2
    have mA := k3.2.1.2.2.1
    have mB := k3.2.1.2.2.2.1
    have kA := k3.2.2.1.2.2.1
    have kB := k3.2.2.1.2.2.2.1
    have nA := k3.2.2.2.1.2.1
    have nB := k3.2.2.2.1.2.2.1
    have c64 := k3.2.2.2.2.2.2.2.1
    obtain ⟨sA, sB, sne, sz⟩ := k3.2.2.2.2.2.1
    have h61 := hx13.2.2.2.2.2.1.1
    refine ⟨i14, o13, fun y14 => ⟨j0, (s_Ga_machineFault o13 j0 j15 k3.1).mono (fun r M' q => ?_)⟩, fun y14 => ?_⟩
    · exact ⟨q.1, q.2.2.1, pl_we hx13 w13 q.2.2 q.1 (by rw [q.2.1]; exact z13 y14)⟩
    · obtain ⟨vb1, vb2⟩ := v13 y14 rfl
      have p17 := k4.1.2.2.2.2.2.2.1.2.2.2.2.2.2.2.2.2.2.1
      have kp17 := k4.1.2.2.2.2.2.2.2.1.2.2.2.2.2.2.2.2.2.2.1
      have np17 := k4.1.2.2.2.2.2.2.2.2.2.2.2.2.2.2.2.2.2.2.1
      have B21 : Be' ≠ g + 21 ∧ Be' ≠ g + 22 := by
        clear hx hx13 k2 k3 k4 h2 h3 h4 ih hbr hch f13 w13 hw ce1 ce2 v13
        omega
      rw [j15, mA, j17, nA, jn21, Int.toNat_natCast]
      refine ⟨j0, k3.1, kA, ⟨by omega, by omega⟩, jk21, by omega, fun M28 e28 => ?_⟩
      have f28 : FI (fun x => x = g + 21) M13 M28 := by rw [e28]; exact FI.ui rfl
      have iB : mI M28 Be' 0 = mI M13 Be' 0 := by rw [f28.2.2.2.2.2.2 Be' B21.1]
      rw [f28.1, f28.2.1, f28.2.2.1, j15, mB, j18, nB, jn22, iB]
      refine ⟨k3.1, kB, ⟨by omega, by omega⟩, jk22, by omega, fun M35 e35 => ?_⟩
      have f35 : FI (fun x => x = g + 22) M28 M35 := by rw [e35]; exact FI.ui rfl
      have ff : FI (fun x => x = g + 21 ∨ x = g + 22) M13 M35 := (f28.mono (fun _ y => Or.inl y)).trans (f35.mono (fun _ y => Or.inr y))
      have o35 : mOk M35 := by rw [e35]; exact mOk_UI (by rw [e28]; exact mOk_UI o13 (o13 _ _).1) (o13 _ _).1
      have nb : ∀ x, x ≠ g + 21 → x ≠ g + 22 → mI M35 x = mI M13 x := fun x a b => ff.2.2.2.2.2.2 x (fun y => y.elim a b)
      have e21 : ∀ j, mI M35 (g + 21) j = if j = i then mI M13 Ab' 0 else mI M13 (g + 21) j := fun j => by
        rw [f35.2.2.2.2.2.2 _ (show ¬ g + 21 = g + 22 by omega), mI_ui _ j e28]
        by_cases yj : j = i
        · rw [if_pos ⟨rfl, yj⟩, if_pos yj]
        · rw [if_neg (fun t => yj t.2), if_neg yj]
      have e22 : ∀ j, mI M35 (g + 22) j = if j = i then mI M13 Be' 0 else mI M13 (g + 22) j := fun j => by
        rw [mI_ui _ j e35]
        by_cases yj : j = i
        · rw [if_pos ⟨rfl, yj⟩, if_pos yj]
        · rw [if_neg (fun t => yj t.2), if_neg yj, f28.2.2.2.2.2.2 _ (show ¬ g + 22 = g + 21 by omega)]
      have x35 := hx13.fi o35 (ff.mono (fun x y => Or.inr (Or.inr (by have y' : x = g + 21 ∨ x = g + 22 := y; omega))))
      have w35 : wgF M1 g M35 := w13.trans ⟨fun j _ => by rw [nb g (by omega) (by omega)], fun j j1 j9 _ => nb _ (by omega) (by omega), nb _ (by omega) (by omega), fun j _ => by rw [nb _ (by omega) (by omega)], by rw [nb _ (by omega) (by omega)]⟩
      have pq : ∀ i, i ≤ 15 → mI M35 (p + i) = mI M (p + i) := fun i hi => by
        have := hx13.2.2.2.2.2.1.2.1
        rw [nb (p + i) (by omega) (by omega), ce2 i hi]
      rw [ff.1, ff.2.1, ff.2.2.1, j17, j18, jn21, jn22, k5.1, p17, np17]
      refine ⟨jk21, by omega, fun _ => ⟨by omega, jk22, by omega⟩, fun y => ⟨k4.1.1, kp17, by omega, ?_⟩, fun y => ?_⟩
      · refine (s_Ga_fault ⟨by decide, by decide⟩ (o35 _ _).1 o35 (by rw [ff.1]; exact j0)).mono (fun r M' q => ?_)
        rw [q.1]
        exact ⟨⟨by decide, by decide⟩, q.2.1, pl_we x35 w35 q.2 ⟨by decide, by decide⟩ (by decide)⟩
      · have yy : 0 ≤ mI M35 (g + 21) i ∧ mI M35 (g + 21) i ≤ mI M35 (g + 22) i := by
          by_cases y1 : mI M35 (g + 21) i < 0
          · exact absurd (Or.inl y1) y
          · by_cases y2 : mI M35 (g + 21) i ≤ mI M35 (g + 22) i
            · exact ⟨by omega, y2⟩
            · exact absurd (Or.inr y2) y
        rw [show ((i : Int) + 1) = ((i + 1 : Nat) : Int) by omega]
        refine ih (i + 1) M35 Ab' Be' C' (by omega) (by omega) x35 w35 (by rw [pq 12 (by omega)]; exact hu) (by rw [pq 12 (by omega)]; exact hv) (fun b hb => ?_)
        by_cases yb : b = i
        · subst yb
          refine ⟨yy.1, yy.2, ?_⟩
          rw [e22, if_pos rfl]
          exact ⟨vb1, vb2⟩
        · rw [e21, e22, if_neg yb, if_neg yb, ce1 21 (by omega), ce1 22 (by omega)]
          exact hch b (by omega)
theorem s_Ga_weighChances (hF : FMs G) (hx : GX M0 z g p O P K V F ns sf ef L cnt Ab0 Be0 C0 M Ab Be C) (hc : c < cnt) (hcc2 : cc ≤ 4096) (hcc : mI M g 12 = ((cc : Nat) : Int)) (hu : mI M (p + 12) c = ((u : Nat) : Int)) (hv : mI M (p + 12) (c + 1) = ((v : Nat) : Int)) (huv : u ≤ v ∧ v ≤ u + 8 ∧ v ≤ 480) : Ci G y_Ga_weighChances (d + 5) [vr g, vi c] M (weQ M0 z g p O P K V F ns sf ef L cnt Ab0 Be0 C0 M (v - u) cc) := by
  obtain ⟨h1, h2, h3, h4, h5, -⟩ := id hx
  have c60 := h4.2.2.2.2.1.2
  have p16 := h4.1.2.2.2.2.2.2.1.2.2.2.2.2.2.2.2.2.1
  have kp16 := h4.1.2.2.2.2.2.2.2.1.2.2.2.2.2.2.2.2.2.1
  have np16 := h4.1.2.2.2.2.2.2.2.2.2.2.2.2.2.2.2.2.2.1
  refine k_Ga_weighChances h1 (i32s (by omega) (by omega)) ?_
  rw [h5.1, p16, np16, Int.toNat_natCast, show Int.toNat ((c : Int) + 1) = c + 1 by omega, hu, hv, show ((v : Nat) : Int) - ((u : Nat) : Int) = ((v - u : Nat) : Int) by omega]
  exact ⟨h2.1, h4.1.1, kp16, by omega, by omega, s_we27 hF hc hcc2 hcc huv (v - u) 0 M Ab Be C (by omega) (by omega) hx wgF.refl hu hv (fun b hb => absurd hb (by omega))⟩
end GAE
end
section
/-! The class's game: a branch is followed. -/
section GAF
variable {G : mG} {d z g p O P K V F L cnt U Ab Be C Ab0 Be0 C0 s h t c cn k u v cc n bc bc0 x a0 : Nat} {M0 M M' M1 M2 : mM} {ns : Nat → Int} {sf ef : Nat → Nat} {H : Nat → Nat} {S R : Nat → Prop} {sm sh : Int}
/-- the sum of the weights from x on -/
def wsm (M : mM) (g x : Nat) : Nat → Int
  | 0 => 0
  | i + 1 => wsm M g x i + mI M (g + 9) (x + i)
theorem wsm_cg : ∀ n, (∀ i, x ≤ i → i < x + n → mI M' (g + 9) i = mI M (g + 9) i) → wsm M' g x n = wsm M g x n
  | 0, _ => rfl
  | n + 1, hh => by
    show wsm M' g x n + mI M' (g + 9) (x + n) = wsm M g x n + mI M (g + 9) (x + n)
    rw [wsm_cg n (fun i h1 h2 => hh i h1 (by omega)), hh (x + n) (by omega) (by omega)]
theorem wsm_add (he : ∀ i, mI M' (g + 9) i = if i = a0 then mI M (g + 9) a0 + sh else mI M (g + 9) i) (hx : x ≤ a0) : ∀ n, wsm M' g x n = if a0 < x + n then wsm M g x n + sh else wsm M g x n
  | 0 => by
    rw [if_neg (by omega)]
    rfl
  | n + 1 => by
    show wsm M' g x n + mI M' (g + 9) (x + n) = _
    rw [wsm_add he hx n, he]
    have e : wsm M g x (n + 1) = wsm M g x n + mI M (g + 9) (x + n) := rfl
    by_cases y : a0 = x + n
    · rw [if_neg (by omega), if_pos y.symm, if_pos (by omega), e, ← y]
      omega
    · have y3 : ¬ x + n = a0 := fun t => y t.symm
      by_cases y2 : a0 < x + n
      · rw [if_pos y2, if_neg y3, if_pos (by omega), e]
        omega
      · rw [if_neg y2, if_neg y3, if_neg (by omega), e]
theorem wsm_ge (hw : ∀ i, x ≤ i → i < x + n → 1 ≤ mI M (g + 9) i) : ∀ m, m ≤ n → (m : Int) ≤ wsm M g x m
  | 0, _ => Int.le_refl _
  | m + 1, hm => by
    have e : wsm M g x (m + 1) = wsm M g x m + mI M (g + 9) (x + m) := rfl
    have := wsm_ge hw m (by omega)
    have := hw (x + m) (by omega) (by omega)
    rw [e]
    omega
theorem wsm_le (hw : ∀ i, x ≤ i → i < x + n → 1 ≤ mI M (g + 9) i) : ∀ m, m ≤ n → ∀ i, x ≤ i → i < x + m → mI M (g + 9) i ≤ wsm M g x m
  | 0, _, i, h1, h2 => absurd h2 (by omega)
  | m + 1, hm, i, h1, h2 => by
    have e : wsm M g x (m + 1) = wsm M g x m + mI M (g + 9) (x + m) := rfl
    have := wsm_ge hw m (by omega)
    have := hw (x + m) (by omega) (by omega)
    rw [e]
    by_cases y : i = x + m
    · rw [y]; omega
    · have := wsm_le hw m (by omega) i h1 (by omega)
      omega
/-- a command in progress: branches from bc0 to bc, of sum sm -/
def ipG (M : mM) (g cn bc0 bc : Nat) (sm : Int) : Prop := bc0 ≤ bc ∧ bc ≤ 4096 ∧ (∀ i, bc0 ≤ i → i < bc → 0 ≤ mI M (g + 8) i ∧ mI M (g + 8) i < cn ∧ 1 ≤ mI M (g + 9) i) ∧ wsm M g bc0 (bc - bc0) = sm
/-- what following may change -/
def flF (M : mM) (g p : Nat) (bc0 : Nat) (M' : mM) : Prop := (∀ i, i ≠ 0 → i ≠ 10 → i ≠ 13 → mI M' g i = mI M g i) ∧ (∀ i, 2 ≤ i → i ≤ 7 → mI M' (g + i) = mI M (g + i)) ∧ (mI M' (g + 21) = mI M (g + 21) ∧ mI M' (g + 22) = mI M (g + 22)) ∧ mI M' (g + 10) 9 = mI M (g + 10) 9 ∧ (∀ i, i ≤ 15 → mI M' (p + i) = mI M (p + i)) ∧ (∀ i, i < bc0 → mI M' (g + 8) i = mI M (g + 8) i ∧ mI M' (g + 9) i = mI M (g + 9) i)
theorem flF.refl : flF M g p bc0 M := ⟨fun _ _ _ _ => rfl, fun _ _ _ => rfl, ⟨rfl, rfl⟩, rfl, fun _ _ => rfl, fun _ _ => ⟨rfl, rfl⟩⟩
theorem flF.trans (f : flF M g p bc0 M1) (k : flF M1 g p bc0 M2) : flF M g p bc0 M2 := by
  obtain ⟨f1, f2, ⟨f3, f4⟩, f5, f6, f7⟩ := f
  obtain ⟨g1, g2, ⟨g3, g4⟩, g5, g6, g7⟩ := k
  exact ⟨fun i a b c => by rw [g1 i a b c, f1 i a b c], fun i a b => by rw [g2 i a b, f2 i a b], ⟨by rw [g3, f3], by rw [g4, f4]⟩, by rw [g5, f5], fun i hi => by rw [g6 i hi, f6 i hi], fun i hi => ⟨by rw [(g7 i hi).1, (f7 i hi).1], by rw [(g7 i hi).2, (f7 i hi).2]⟩⟩
/-- what following a branch comes to -/
def foQ (M0 : mM) (z g p O P K V F : Nat) (ns : Nat → Int) (sf ef : Nat → Nat) (L cnt Ab0 Be0 C0 : Nat) (MB : mM) (bc0 : Nat) (cn : Nat) (sm : Int) (r : Int) (M' : mM) : Prop := i32 r ∧ flF MB g p bc0 M' ∧ (∃ Ab Be C, GX M0 z g p O P K V F ns sf ef L cnt Ab0 Be0 C0 M' Ab Be C) ∧ ∃ cn' bc' : Nat, (mI M' g 0 = ((cn' : Nat) : Int) ∧ cn ≤ cn' ∧ cn' ≤ 512 ∧ SLt M' g cn') ∧ mI M' g 13 = ((bc' : Nat) : Int) ∧ bc0 ≤ bc' ∧ (bc' ≤ 4096 ∧ ((bc' : Nat) : Int) ≤ mI MB g 13 + 1) ∧ (r = 0 → ipG M' g cn' bc0 bc' sm)
theorem ga_off (hx : GX M0 z g p O P K V F ns sf ef L cnt Ab0 Be0 C0 M Ab Be C) : ∀ i j, i ≤ 15 → j ≤ 22 → p + i ≠ g + j := fun i j hi hj => by
  have := hx.2.2.2.2.2.1.2.1
  omega
theorem s_fo69 {sh to : Int} (hb1 : mI M1 g 13 = ((bc : Nat) : Int)) (hx : GX M0 z g p O P K V F ns sf ef L cnt Ab0 Be0 C0 M Ab Be C) (hf : flF M1 g p bc0 M) (hc : c < cnt) (hcn : mI M g 0 = ((cn : Nat) : Int)) (hcn5 : cn ≤ 512) (hsl : SLt M g cn) (hbc : mI M g 13 = ((bc : Nat) : Int)) (hip : ipG M g cn bc0 bc sm) (hsh : 1 ≤ sh) (hsm : sm + sh < 1000000000) (hto : 0 ≤ to ∧ to < cn) (hcc : k ≤ cn) : ∀ (t i : Nat), bc ≤ i + t → bc0 ≤ i → i ≤ bc → h_Ga_follow_69 G d g c sh to i M (foQ M0 z g p O P K V F ns sf ef L cnt Ab0 Be0 C0 M1 bc0 k (sm + sh)) := by
  obtain ⟨h1, h2, h3, h4, h5, -⟩ := id hx
  obtain ⟨g0, ⟨-, -, -, -, -, -, -, g8, g9, -⟩, ⟨-, -, -, -, -, -, -, k8, k9, -⟩, ⟨-, -, -, -, -, -, -, n8, n9, -⟩⟩ := h2
  have p14 := h4.1.2.2.2.2.2.2.1.2.2.2.2.2.2.2.1
  have kp14 := h4.1.2.2.2.2.2.2.2.1.2.2.2.2.2.2.2.1
  have np14 := h4.1.2.2.2.2.2.2.2.2.2.2.2.2.2.2.2.1
  have c60 := h4.2.2.2.2.1.2
  obtain ⟨ip1, ip2, ip3, ip4⟩ := hip
  have off := ga_off hx
  have wpos : ∀ i, bc0 ≤ i → i < bc0 + (bc - bc0) → 1 ≤ mI M (g + 9) i := fun i a b => (ip3 i a (by omega)).2.2
  have smb := wsm_ge wpos (bc - bc0) (Nat.le_refl _)
  rw [ip4] at smb
  -- no branch has that goal yet
  have new : mK M g = 7 ∧ (((mI M g 13 = 4096) → (mK M (mR M g 14) = 6 ∧ mK M (mR M (mR M g 14) 14) = 30 ∧ ((0 : Int) ≤ c ∧ (c : Int) < (mN M (mR M (mR M g 14) 14) : Int)) ∧ Ci G y_Ga_fault d [vr g, vi 5, vi (mI M (mR M (mR M g 14) 14) (Int.toNat c))] M (fun x62 M61 => i32 x62 ∧ mOk M61 ∧ (foQ M0 z g p O P K V F ns sf ef L cnt Ab0 Be0 C0 M1 bc0 k (sm + sh) x62 M61)))) ∧ (¬ (mI M g 13 = 4096) → (mK M (mR M g 8) = 30 ∧ ((0 : Int) ≤ mI M g 13 ∧ mI M g 13 < (mN M (mR M g 8) : Int)) ∧ ∀ M66, M66 = mUI M (mR M g 8) (Int.toNat (mI M g 13)) to → mK M66 (mR M66 g 9) = 30 ∧ ((0 : Int) ≤ mI M66 g 13 ∧ mI M66 g 13 < (mN M66 (mR M66 g 9) : Int)) ∧ ∀ M70, M70 = mUI M66 (mR M66 g 9) (Int.toNat (mI M66 g 13)) sh → i32 ((mI M70 g 13) + 1) ∧ ∀ M73, M73 = mUI M70 g 13 ((mI M70 g 13) + 1) → foQ M0 z g p O P K V F ns sf ef L cnt Ab0 Be0 C0 M1 bc0 k (sm + sh) 0 M73))) := by
    refine ⟨g0, fun y => ?_, fun y => ?_⟩
    · rw [h5.1, p14, np14, Int.toNat_natCast]
      refine ⟨h4.1.1, kp14, by omega, (s_Ga_fault ⟨by decide, by decide⟩ (h1 _ _).1 h1 g0).mono (fun r M' q => ?_)⟩
      obtain ⟨e, q1, q2, q3⟩ := q
      rw [e]
      have nb : ∀ x, x ≠ g → mI M' x = mI M x := fun x hx => q2.2.2.2.2.2.2 x hx
      refine ⟨⟨by decide, by decide⟩, q1, ⟨by decide, by decide⟩, hf.trans ⟨fun i _ i10 _ => q3 i i10, fun i i2 _ => nb _ (by omega), ⟨nb _ (by omega), nb _ (by omega)⟩, by rw [nb _ (by omega)], fun i hi => nb _ (by have := off i 0 hi (by omega); omega), fun i _ => ⟨by rw [nb _ (by omega)], by rw [nb _ (by omega)]⟩⟩, ⟨Ab, Be, C, hx.fi q1 (q2.mono (fun x y => Or.inl (by have y' : x = g := y; omega)))⟩, cn, bc, ⟨by rw [q3 0 (by decide)]; exact hcn, hcc, hcn5, fun i hi => by rw [nb _ (by omega)]; exact hsl i hi⟩, by rw [q3 13 (by decide)]; exact hbc, ip1, ⟨ip2, by omega⟩, fun u => absurd u (by decide)⟩
    · rw [g8, n8, hbc, Int.toNat_natCast]
      refine ⟨k8, by omega, fun M66 e66 => ?_⟩
      have f66 : FI (fun x => x = g + 8) M M66 := by rw [e66]; exact FI.ui rfl
      rw [f66.1, f66.2.1, f66.2.2.1, g9, n9, f66.2.2.2.2.2.2 g (show ¬ g = g + 8 by omega), hbc, Int.toNat_natCast]
      refine ⟨k9, by omega, fun M70 e70 => ?_⟩
      have f70 : FI (fun x => x = g + 9) M66 M70 := by rw [e70]; exact FI.ui rfl
      rw [f70.2.2.2.2.2.2 g (show ¬ g = g + 9 by omega), f66.2.2.2.2.2.2 g (show ¬ g = g + 8 by omega), hbc]
      refine ⟨⟨by omega, by omega⟩, fun M73 e73 => ?_⟩
      have f73 : FI (fun x => x = g) M70 M73 := by rw [e73]; exact FI.ui rfl
      have ff : FI (fun x => x = g ∨ x = g + 8 ∨ x = g + 9) M M73 := ((f66.mono (fun _ y => Or.inr (Or.inl y))).trans (f70.mono (fun _ y => Or.inr (Or.inr y)))).trans (f73.mono (fun _ y => Or.inl y))
      have o73 : mOk M73 := by rw [e73]; exact mOk_UI (by rw [e70]; exact mOk_UI (by rw [e66]; exact mOk_UI h1 ⟨by omega, by omega⟩) ⟨by omega, by omega⟩) ⟨by omega, by omega⟩
      have nb : ∀ x, x ≠ g → x ≠ g + 8 → x ≠ g + 9 → mI M73 x = mI M x := fun x a b c => ff.2.2.2.2.2.2 x (fun y => y.elim a (fun y => y.elim b c))
      have i73 : ∀ i, mI M73 g i = if i = 13 then (bc : Int) + 1 else mI M g i := fun i => by
        rw [mI_ui g i e73]
        by_cases y : i = 13
        · rw [if_pos ⟨rfl, y⟩, if_pos y]
        · rw [if_neg (fun t => y t.2), if_neg y, f70.2.2.2.2.2.2 g (show ¬ g = g + 9 by omega), f66.2.2.2.2.2.2 g (show ¬ g = g + 8 by omega)]
      have w73 : ∀ i, mI M73 (g + 9) i = if i = bc then sh else mI M (g + 9) i := fun i => by
        rw [f73.2.2.2.2.2.2 _ (show ¬ g + 9 = g by omega), mI_ui _ i e70]
        by_cases y : i = bc
        · rw [if_pos ⟨rfl, y⟩, if_pos y]
        · rw [if_neg (fun t => y t.2), if_neg y, f66.2.2.2.2.2.2 _ (show ¬ g + 9 = g + 8 by omega)]
      have v73 : ∀ i, mI M73 (g + 8) i = if i = bc then to else mI M (g + 8) i := fun i => by
        rw [f73.2.2.2.2.2.2 _ (show ¬ g + 8 = g by omega), f70.2.2.2.2.2.2 _ (show ¬ g + 8 = g + 9 by omega), mI_ui _ i e66]
        by_cases y : i = bc
        · rw [if_pos ⟨rfl, y⟩, if_pos y]
        · rw [if_neg (fun t => y t.2), if_neg y]
      refine ⟨⟨by decide, by decide⟩, hf.trans ⟨fun i _ _ i13 => by rw [i73, if_neg i13], fun i i2 i7 => nb _ (by omega) (by omega) (by omega), ⟨nb _ (by omega) (by omega) (by omega), nb _ (by omega) (by omega) (by omega)⟩, by rw [nb _ (by omega) (by omega) (by omega)], fun i hi => nb _ (off i 0 hi (by omega)) (off i 8 hi (by omega)) (off i 9 hi (by omega)), fun i hi => ⟨by rw [v73, if_neg (by omega)], by rw [w73, if_neg (by omega)]⟩⟩, ⟨Ab, Be, C, hx.fi o73 (ff.mono (fun x y => Or.inl (by have y' : x = g ∨ x = g + 8 ∨ x = g + 9 := y; omega)))⟩, cn, bc + 1, ⟨by rw [i73, if_neg (by decide)]; exact hcn, hcc, hcn5, fun i hi => by rw [nb _ (by omega) (by omega) (by omega)]; exact hsl i hi⟩, by rw [i73, if_pos rfl]; omega, by omega, ⟨by omega, by omega⟩, fun _ => ⟨by omega, by omega, fun i a b => ?_, ?_⟩⟩
      · rw [v73, w73]
        by_cases y : i = bc
        · rw [if_pos y, if_pos y]
          exact ⟨hto.1, hto.2, hsh⟩
        · rw [if_neg y, if_neg y]
          exact ip3 i a (by omega)
      · rw [show bc + 1 - bc0 = (bc - bc0) + 1 by omega]
        show wsm M73 g bc0 (bc - bc0) + mI M73 (g + 9) (bc0 + (bc - bc0)) = sm + sh
        rw [wsm_cg (M := M) (bc - bc0) (fun i a b => by rw [w73, if_neg (by omega)]), ip4, w73, if_pos (by omega)]
  intro t
  induction t with
  | zero =>
    intro i hi hi0 hi2
    refine k_Ga_follow_69 h1 (i32s (by omega) (by omega)) ⟨by omega, by omega⟩ ⟨by omega, by omega⟩ (i32s (by omega) (by omega)) ⟨g0, fun _ => new.2, fun y => absurd y (by omega)⟩
  | succ t ih =>
    intro i hi hi0 hi2
    refine k_Ga_follow_69 h1 (i32s (by omega) (by omega)) ⟨by omega, by omega⟩ ⟨by omega, by omega⟩ (i32s (by omega) (by omega)) ⟨g0, fun _ => new.2, fun y => ?_⟩
    have ib : i < bc := by omega
    rw [g8, n8, g9, n9, Int.toNat_natCast]
    have wl := wsm_le wpos (bc - bc0) (Nat.le_refl _) i hi0 (by omega)
    have w1 := (ip3 i hi0 ib).2.2
    rw [ip4] at wl
    refine ⟨k8, by omega, fun y1 => ⟨k9, by omega, by omega, ⟨by omega, by omega⟩, fun M87 e87 => ?_⟩, fun y1 => ?_⟩
    · have f87 : FI (fun x => x = g + 9) M M87 := by rw [e87]; exact FI.ui rfl
      have nb : ∀ x, x ≠ g + 9 → mI M87 x = mI M x := fun x hx => f87.2.2.2.2.2.2 x hx
      have o87 : mOk M87 := by rw [e87]; exact mOk_UI h1 ⟨by omega, by omega⟩
      have w87 : ∀ j, mI M87 (g + 9) j = if j = i then mI M (g + 9) i + sh else mI M (g + 9) j := fun j => by
        rw [mI_ui _ j e87]
        by_cases y : j = i
        · rw [if_pos ⟨rfl, y⟩, if_pos y]
        · rw [if_neg (fun t => y t.2), if_neg y]
      refine ⟨⟨by decide, by decide⟩, hf.trans ⟨fun i _ _ _ => by rw [nb g (by omega)], fun i i2 i7 => nb _ (by omega), ⟨nb _ (by omega), nb _ (by omega)⟩, by rw [nb _ (by omega)], fun i hi => nb _ (off i 9 hi (by omega)), fun j hj => ⟨by rw [nb _ (by omega)], by rw [w87, if_neg (by omega)]⟩⟩, ⟨Ab, Be, C, hx.fi o87 (f87.mono (fun x y => Or.inl (by have y' : x = g + 9 := y; omega)))⟩, cn, bc, ⟨by rw [nb g (by omega)]; exact hcn, hcc, hcn5, fun j hj => by rw [nb _ (by omega)]; exact hsl j hj⟩, by rw [nb g (by omega)]; exact hbc, ip1, ⟨ip2, by omega⟩, fun _ => ⟨ip1, ip2, fun j a b => ?_, ?_⟩⟩
      · rw [nb (g + 8) (by omega), w87]
        obtain ⟨c1, c2, c3⟩ := ip3 j a b
        refine ⟨c1, c2, ?_⟩
        by_cases y : j = i
        · rw [if_pos y]; omega
        · rw [if_neg y]; exact c3
      · rw [wsm_add w87 hi0, if_pos (by omega), ip4]
    · rw [show ((i : Int) + 1) = ((i + 1 : Nat) : Int) by omega]
      exact ih (i + 1) (by omega) (by omega) (by omega)
end GAF
end
section
/-! The class's game: follow, the whole; tryCommand. -/
section GAG
variable {G : mG} {d z g p O P K V F L cnt U Ab Be C Ab0 Be0 C0 s h t c cn k u v cc n bc bc0 x a0 br : Nat} {M0 M M' M1 M2 : mM} {ns : Nat → Int} {sf ef : Nat → Nat} {H : Nat → Nat} {S R : Nat → Prop} {sm sh : Int}
theorem pl_fo {r : Int} (hb1 : mI M1 g 13 = ((bc : Nat) : Int)) (hx : GX M0 z g p O P K V F ns sf ef L cnt Ab0 Be0 C0 M Ab Be C) (hf : flF M1 g p bc0 M) (hcn : mI M g 0 = ((cn : Nat) : Int)) (hk : k ≤ cn) (hcn5 : cn ≤ 512) (hsl : SLt M g cn) (hbc : mI M g 13 = ((bc : Nat) : Int)) (hb : bc0 ≤ bc ∧ bc ≤ 4096) (q : plQ M g M') (ir : i32 r) (hr : r ≠ 0) : foQ M0 z g p O P K V F ns sf ef L cnt Ab0 Be0 C0 M1 bc0 k sm r M' := by
  obtain ⟨q1, q2, q3⟩ := q
  have off := ga_off hx
  have nb : ∀ x, x ≠ g → mI M' x = mI M x := fun x hx => q2.2.2.2.2.2.2 x hx
  exact ⟨ir, hf.trans ⟨fun i _ i10 _ => q3 i i10, fun i i2 _ => nb _ (by omega), ⟨nb _ (by omega), nb _ (by omega)⟩, by rw [nb _ (by omega)], fun i hi => nb _ (off i 0 hi (by omega)), fun i _ => ⟨by rw [nb _ (by omega)], by rw [nb _ (by omega)]⟩⟩, ⟨Ab, Be, C, hx.fi q1 (q2.mono (fun x y => Or.inl (by have y' : x = g := y; omega)))⟩, cn, bc, ⟨by rw [q3 0 (by decide)]; exact hcn, hk, hcn5, fun i hi => by rw [nb _ (by omega)]; exact hsl i hi⟩, by rw [q3 13 (by decide)]; exact hbc, hb.1, ⟨hb.2, by omega⟩, fun u => absurd u hr⟩
theorem s_Ga_follow (hF : FMs G) (hx : GX M0 z g p O P K V F ns sf ef L cnt Ab0 Be0 C0 M Ab Be C) (hc : c < cnt) (hcn : mI M g 0 = ((cn : Nat) : Int)) (hcn5 : cn ≤ 512) (hsl : SLt M g cn) (hbc : mI M g 13 = ((bc : Nat) : Int)) (hip : ipG M g cn bc0 bc sm) (hsh : 1 ≤ sh) (hsm : sm + sh < 1000000000) (hcc : mI M g 12 = ((cc : Nat) : Int)) (hcc2 : cc ≤ 4096) (h7 : mI M (g + 7) cc = ((bc0 : Nat) : Int)) (hbr : br < 480) (hs : ∃ s2 : Nat, mI M (p + 15) br = ((s2 : Nat) : Int) ∧ PC M O P V F ns ef L s2 0) : Ci G y_Ga_follow (d + 5) [vr g, vi c, vi br, vi sh] M (foQ M0 z g p O P K V F ns sf ef L cnt Ab0 Be0 C0 M bc0 cn (sm + sh)) := by
  obtain ⟨h1, h2, h3, h4, h5, -⟩ := id hx
  obtain ⟨g0, ⟨-, -, -, -, -, -, -, -, -, g15, -⟩, -, -⟩ := id h2
  have c60 := h4.2.2.2.2.1.2
  have off := ga_off hx
  obtain ⟨ip1, ip2, ip3, ip4⟩ := id hip
  have smb := wsm_ge (M := M) (g := g) (x := bc0) (n := bc - bc0) (fun i a b => (ip3 i a (by omega)).2.2) (bc - bc0) (Nat.le_refl _)
  rw [ip4] at smb
  refine k_Ga_follow h1 (i32s (by omega) (by omega)) (i32s (by omega) (by omega)) ⟨by omega, by omega⟩ ?_
  rw [g15]
  refine ⟨g0, h3.1, ?_⟩
  refine k_Ma_beginSets h1 ?_
  rw [h3.2.1.1, h3.2.1.2.1]
  have hbs := h3.2.2.2.2.1
  have nm := h3.2.2.2.1.1
  refine ⟨h3.1, h3.2.2.1.1, h3.2.2.1.2.1, ⟨hbs.1, by omega, by omega, hbs.2, by rw [nm]; omega⟩, fun M3 e3 => ?_⟩
  have f3 : FI (fun x => x = g + 12) M M3 := by
    rw [e3]
    refine ⟨rfl, rfl, rfl, rfl, rfl, rfl, fun x hx => ?_⟩
    funext j
    exact if_neg (fun t => hx t.1)
  have o3 : mOk M3 := by rw [e3]; exact mOk_Cpy h1
  have x3 := hx.fi o3 (f3.mono (fun x y => Or.inr (Or.inl y)))
  have nb3 : ∀ x, x ≠ g + 12 → mI M3 x = mI M x := fun x hx => f3.2.2.2.2.2.2 x hx
  have fl3 : flF M g p bc0 M3 := ⟨fun i _ _ _ => by rw [nb3 g (by omega)], fun i _ _ => nb3 _ (by omega), ⟨nb3 _ (by omega), nb3 _ (by omega)⟩, by rw [nb3 _ (by omega)], fun i hi => nb3 _ (off i 12 hi (by omega)), fun i _ => ⟨by rw [nb3 _ (by omega)], by rw [nb3 _ (by omega)]⟩⟩
  obtain ⟨s2, sb1, sb2⟩ := hs
  have hOP : O ≠ g + 12 ∧ P ≠ g + 12 := by
    have ne := hx.ne
    exact ⟨fun t => ne.2.1 (Or.inl ⟨by rw [t]; omega, by rw [t]; omega⟩), fun t => ne.2.2.1 (Or.inl ⟨by rw [t]; omega, by rw [t]; omega⟩)⟩
  have sb2' : PC M3 O P V F ns ef L s2 0 := sb2.cg (fun i _ => by rw [nb3 O hOP.1]) (fun i _ => by rw [nb3 P hOP.2])
  have cn3 : mI M3 g 0 = ((cn : Nat) : Int) := by rw [nb3 g (by omega)]; exact hcn
  have bc3 : mI M3 g 13 = ((bc : Nat) : Int) := by rw [nb3 g (by omega)]; exact hbc
  have cc3 : mI M3 g 12 = ((cc : Nat) : Int) := by rw [nb3 g (by omega)]; exact hcc
  have sl3 : SLt M3 g cn := fun i hi => by rw [nb3 _ (by omega)]; exact hsl i hi
  have ip3' : ipG M3 g cn bc0 bc sm := ⟨ip1, ip2, fun i a b => by rw [nb3 _ (by omega), nb3 _ (by omega)]; exact ip3 i a b, by rw [wsm_cg (M := M) _ (fun i _ _ => by rw [nb3 _ (by omega)])]; exact ip4⟩
  obtain ⟨-, k2, k3, k4, k5, -⟩ := id x3
  obtain ⟨j0, ⟨-, -, -, -, -, -, -, -, -, j15, -⟩, -, -⟩ := id k2
  have p19 := k4.1.2.2.2.2.2.2.1.2.2.2.2.2.2.2.2.2.2.2.2
  have kp19 := k4.1.2.2.2.2.2.2.2.1.2.2.2.2.2.2.2.2.2.2.2.2
  have np19 := k4.1.2.2.2.2.2.2.2.2.2.2.2.2.2.2.2.2.2.2.2.2
  rw [k5.1, p19, np19, j15, Int.toNat_natCast, nb3 (p + 15) (off 15 12 (by omega) (by omega)), sb1]
  refine ⟨o3, j0, k4.1.1, kp19, by omega, k3.1, (s_Ga_run hF x3 sb2').mono (fun x12 M11 k => ?_)⟩
  obtain ⟨i12, o11, hx12, Ab', Be', C', hx11, f11, s11, z11, -⟩ := k
  obtain ⟨ce1, ce2⟩ := ga_ce x3 f11
  have ce0 := ce1 0 (by omega)
  rw [Nat.add_zero] at ce0
  have fl11 : flF M g p bc0 M11 := fl3.trans ⟨fun i _ _ _ => by rw [ce0], fun i _ _ => ce1 i (by omega), ⟨ce1 21 (by omega), ce1 22 (by omega)⟩, s11, ce2, fun i _ => ⟨by rw [ce1 8 (by omega)], by rw [ce1 9 (by omega)]⟩⟩
  have cn11 : mI M11 g 0 = ((cn : Nat) : Int) := by rw [ce0]; exact cn3
  have bc11 : mI M11 g 13 = ((bc : Nat) : Int) := by rw [ce0]; exact bc3
  have cc11 : mI M11 g 12 = ((cc : Nat) : Int) := by rw [ce0]; exact cc3
  have sl11 : SLt M11 g cn := fun i hi => by rw [ce1 20 (by omega)]; exact sl3 i hi
  have ip11 : ipG M11 g cn bc0 bc sm := ⟨ip1, ip2, fun i a b => by rw [ce1 8 (by omega), ce1 9 (by omega)]; exact ip3'.2.2.1 i a b, by rw [wsm_cg (M := M3) _ (fun i _ _ => by rw [ce1 9 (by omega)])]; exact ip3'.2.2.2⟩
  have h711 : mI M11 (g + 7) cc = ((bc0 : Nat) : Int) := by rw [ce1 7 (by omega), nb3 _ (by omega)]; exact h7
  clear ce1 ce2 ce0 f3 nb3 fl3 sb2 sb2' cn3 bc3 cc3 sl3 ip3' k2 k3 k4 k5 x3 f11 s11 e3 o3 p19 kp19 np19
  obtain ⟨-, l2, l3, l4, l5, -⟩ := id hx11
  obtain ⟨m0, ⟨-, -, -, -, -, -, m7, -, -, m15, -⟩, ⟨-, -, -, -, -, -, mk7, -⟩, ⟨-, -, -, -, -, -, mn7, -⟩⟩ := id l2
  refine ⟨i12, o11, fun y => ⟨m0, (s_Ga_machineFault o11 m0 m15 l3.1).mono (fun r M' q => ?_)⟩, fun y => ⟨m0, (s_Ga_enter (d := d + 2) hx11 cn11 hcn5 sl11).mono (fun x22 M21 k => ?_)⟩⟩
  · exact ⟨q.1, q.2.2.1, pl_fo hbc hx11 fl11 cn11 (Nat.le_refl _) hcn5 sl11 bc11 ⟨ip1, ip2⟩ q.2.2 q.1 (by rw [q.2.1]; exact z11 y)⟩
  obtain ⟨hx21, f21, r21, cn', cn21, cnn, cn5', sl21, hto, i22, -⟩ := k
  have off21 := ga_off hx21
  have nb : ∀ x, x ≠ g → x ≠ g + 1 → x ≠ g + 20 → mI M21 x = mI M11 x := fun x a b c => f21.2.2.2.2.2.2 x (fun y => y.elim a (fun y => y.elim b c))
  have fl21 : flF M g p bc0 M21 := fl11.trans ⟨fun i i0 _ _ => r21 i i0, fun i _ _ => nb _ (by omega) (by omega) (by omega), ⟨nb _ (by omega) (by omega) (by omega), nb _ (by omega) (by omega) (by omega)⟩, by rw [nb _ (by omega) (by omega) (by omega)], fun i hi => nb _ (off i 0 hi (by omega)) (off i 1 hi (by omega)) (off i 20 hi (by omega)), fun i _ => ⟨by rw [nb _ (by omega) (by omega) (by omega)], by rw [nb _ (by omega) (by omega) (by omega)]⟩⟩
  have bc21 : mI M21 g 13 = ((bc : Nat) : Int) := by rw [r21 13 (by decide)]; exact bc11
  have cc21 : mI M21 g 12 = ((cc : Nat) : Int) := by rw [r21 12 (by decide)]; exact cc11
  have ip21 : ipG M21 g cn' bc0 bc sm := ⟨ip1, ip2, fun i a b => by
    rw [nb (g + 8) (by omega) (by omega) (by omega), nb (g + 9) (by omega) (by omega) (by omega)]
    obtain ⟨c1, c2, c3⟩ := ip11.2.2.1 i a b
    exact ⟨c1, by omega, c3⟩, by rw [wsm_cg (M := M11) _ (fun i _ _ => by rw [nb (g + 9) (by omega) (by omega) (by omega)])]; exact ip11.2.2.2⟩
  obtain ⟨o21, a2, a3, a4, a5, -⟩ := id hx21
  obtain ⟨b0, ⟨-, -, -, -, -, -, b7, -⟩, ⟨-, -, -, -, -, -, bk7, -⟩, ⟨-, -, -, -, -, -, bn7, -⟩⟩ := id a2
  have p17 := a4.1.2.2.2.2.2.2.1.2.2.2.2.2.2.2.2.2.2.1
  have kp17 := a4.1.2.2.2.2.2.2.2.1.2.2.2.2.2.2.2.2.2.2.1
  have np17 := a4.1.2.2.2.2.2.2.2.2.2.2.2.2.2.2.2.2.2.2.1
  rw [a5.1, p17, np17, b7, bn7, cc21, Int.toNat_natCast, nb (g + 7) (by omega) (by omega) (by omega), h711]
  refine ⟨i22, o21, fun y => ⟨b0, a4.1.1, kp17, by omega, (s_Ga_fault ⟨by decide, by decide⟩ (o21 _ _).1 o21 b0).mono (fun r M' q => ?_)⟩, fun y => ⟨b0, bk7, by omega, ?_⟩⟩
  · rw [q.1]
    exact ⟨⟨by decide, by decide⟩, q.2.1, pl_fo hbc hx21 fl21 cn21 cnn cn5' sl21 bc21 ⟨ip1, ip2⟩ q.2 ⟨by decide, by decide⟩ (by decide)⟩
  · exact s_fo69 hbc hx21 fl21 hc cn21 cn5' sl21 bc21 ip21 hsh hsm (hto.resolve_left y) cnn (bc - bc0) bc0 (by omega) (Nat.le_refl _) ip1
end GAG
end
section
/-! The class's game: tryCommand. -/
section GAH
variable {G : mG} {d z g p O P K V F L cnt U Ab Be C Ab0 Be0 C0 s h t c cn k u v cc n bc bc0 x a0 br mu cn0 : Nat} {M0 M M' M1 M2 MB : mM} {ns : Nat → Int} {sf ef : Nat → Nat} {H : Nat → Nat} {S R : Nat → Prop} {sm sh : Int}
/-- a command of the game -/
def cmdG (M : mM) (g cn bc c : Nat) : Prop := ∃ x y mu : Nat, mI M (g + 7) c = ((x : Nat) : Int) ∧ mI M (g + 7) (c + 1) = ((y : Nat) : Int) ∧ (x < y ∧ y ≤ x + 8) ∧ y ≤ bc ∧ (∀ i, x ≤ i → i < y → 0 ≤ mI M (g + 8) i ∧ mI M (g + 8) i < cn ∧ 1 ≤ mI M (g + 9) i) ∧ mI M (g + 6) c = ((mu : Nat) : Int) ∧ 1 ≤ mu ∧ mu < 1000000000 ∧ wsm M g x (y - x) = ((mu : Nat) : Int) ∧ 0 ≤ mI M (g + 5) c ∧ mI M (g + 5) c < 60
theorem cmdG.cg {cn' bc' : Nat} (hh : cmdG M g cn bc c) (e7 : mI M' (g + 7) c = mI M (g + 7) c ∧ mI M' (g + 7) (c + 1) = mI M (g + 7) (c + 1)) (e6 : mI M' (g + 6) c = mI M (g + 6) c) (e5 : mI M' (g + 5) c = mI M (g + 5) c) (e8 : ∀ i, i < bc → mI M' (g + 8) i = mI M (g + 8) i ∧ mI M' (g + 9) i = mI M (g + 9) i) (hcn : cn ≤ cn') (hbc : bc ≤ bc') : cmdG M' g cn' bc' c := by
  obtain ⟨x, y, mu, h1, h2, h3, h4, h5, h6, h7, h8, h9, h10⟩ := hh
  refine ⟨x, y, mu, by rw [e7.1]; exact h1, by rw [e7.2]; exact h2, h3, by omega, fun i a b => ?_, by rw [e6]; exact h6, h7, h8, ?_, by rw [e5]; exact h10⟩
  · rw [(e8 i (by omega)).1, (e8 i (by omega)).2]
    obtain ⟨a1, a2, a3⟩ := h5 i a b
    exact ⟨a1, by omega, a3⟩
  · rw [wsm_cg (M := M) _ (fun i a b => (e8 i (by omega)).2)]
    exact h9
/-- the game's tables, up to state k -/
def GT (M : mM) (g cn k cc bc : Nat) : Prop := cc ≤ bc ∧ bc ≤ 4096 ∧ (∀ c, c < cc → cmdG M g cn bc c) ∧ (0 < cc → mI M (g + 7) 0 = 0 ∧ mI M (g + 7) cc = ((bc : Nat) : Int)) ∧ (cc = 0 → bc = 0) ∧ (∀ j, j ≤ k → ∃ x y : Nat, mI M (g + 4) j = ((x : Nat) : Int) ∧ mI M (g + 4) (j + 1) = ((y : Nat) : Int) ∧ x ≤ y ∧ y ≤ cc) ∧ mI M (g + 4) 0 = 0 ∧ mI M (g + 4) (k + 1) = ((cc : Nat) : Int)
/-- what a state was told is one of its commands, or 0; a player's state has a command -/
def GS1 (M : mM) (g j : Nat) : Prop := ∀ x y : Nat, mI M (g + 4) j = ((x : Nat) : Int) → mI M (g + 4) (j + 1) = ((y : Nat) : Int) → (0 ≤ mI M (g + 3) j ∧ (mI M (g + 3) j < ((y : Nat) : Int) - ((x : Nat) : Int) ∨ mI M (g + 3) j = 0)) ∧ ((mI M (g + 2) j = 1 ∨ mI M (g + 2) j = 2) → x < y)
def GS (M : mM) (g k : Nat) : Prop := ∀ j, j ≤ k → GS1 M g j
theorem GS1.cg {j : Nat} (h : GS1 M g j) (e2 : mI M' (g + 2) j = mI M (g + 2) j) (e3 : mI M' (g + 3) j = mI M (g + 3) j) (e4 : mI M' (g + 4) j = mI M (g + 4) j) (e5 : mI M' (g + 4) (j + 1) = mI M (g + 4) (j + 1)) : GS1 M' g j := by
  unfold GS1 at h ⊢
  rw [e2, e3, e4, e5]
  exact h
theorem GS.eq (h : GS M g k) (e : ∀ i, i ≤ 9 ∨ (20 ≤ i ∧ i ≤ 22) → mI M' (g + i) = mI M (g + i)) : GS M' g k := fun j hj => (h j hj).cg (by rw [e 2 (by omega)]) (by rw [e 3 (by omega)]) (by rw [e 4 (by omega)]) (by rw [e 4 (by omega)])
/-- what trying a command comes to -/
def tcQ (M0 : mM) (z g p O P K V F : Nat) (ns : Nat → Int) (sf ef : Nat → Nat) (L cnt Ab0 Be0 C0 : Nat) (MB : mM) (k cn : Nat) (r : Int) (M' : mM) : Prop := i32 r ∧ (∃ Ab Be C, GX M0 z g p O P K V F ns sf ef L cnt Ab0 Be0 C0 M' Ab Be C) ∧ mI M' (g + 10) 9 = mI MB (g + 10) 9 ∧ (r = 0 → ∃ cn' cc' bc' : Nat, (mI M' g 0 = ((cn' : Nat) : Int) ∧ cn ≤ cn' ∧ cn' ≤ 512 ∧ SLt M' g cn') ∧ mI M' g 12 = ((cc' : Nat) : Int) ∧ mI M' g 13 = ((bc' : Nat) : Int) ∧ GT M' g cn' k cc' bc' ∧ GS M' g k)
/-- shares -/
theorem share_ok (hch : chz M g n) (hd : ∀ b, b < n → (mI M (g + 22) b) ∣ ((mu : Nat) : Int)) (hmu : 1 ≤ mu) {b : Nat} (hb : b < n) : 0 ≤ Int.tdiv mu (mI M (g + 22) b) * mI M (g + 21) b ∧ (mI M (g + 21) b ≠ 0 → 1 ≤ Int.tdiv mu (mI M (g + 22) b) * mI M (g + 21) b) := by
  obtain ⟨b1, b2, b3, b4⟩ := hch b hb
  obtain ⟨q, eq⟩ := hd b hb
  have et : Int.tdiv mu (mI M (g + 22) b) = q := by
    rw [eq, Int.tdiv_eq_ediv_of_nonneg (by rw [← eq]; omega)]
    exact Int.mul_ediv_cancel_left _ (by omega)
  have q1 : 1 ≤ q := by
    by_cases y : 1 ≤ q
    · exact y
    · have := Int.mul_le_mul_of_nonneg_left (show q ≤ 0 by omega) (show 0 ≤ mI M (g + 22) b by omega)
      rw [← eq] at this
      omega
  rw [et]
  refine ⟨Int.mul_nonneg (by omega) b1, fun y => ?_⟩
  exact Int.mul_pos (by omega) (by omega)
theorem shS_mono (hch : chz M g n) (hd : ∀ b, b < n → (mI M (g + 22) b) ∣ ((mu : Nat) : Int)) (hmu : 1 ≤ mu) : ∀ (t b : Nat), b + t = n → 0 ≤ shS M g mu b → shS M g mu b ≤ shS M g mu n
  | 0, b, e, _ => by rw [show b = n by omega]; exact Int.le_refl _
  | t + 1, b, e, h0 => by
    have s1 := (share_ok hch hd hmu (b := b) (by omega)).1
    have e1 : shS M g mu (b + 1) = shS M g mu b + Int.tdiv mu (mI M (g + 22) b) * mI M (g + 21) b := rfl
    have := shS_mono hch hd hmu t (b + 1) (by omega) (by rw [e1]; omega)
    rw [e1] at this
    omega
theorem s_tc146 (hF : FMs G) (hc : c < cnt) (hcc2 : cc ≤ 4096) (hk : k < 512) (huv : u ≤ v ∧ v ≤ u + 8 ∧ v ≤ 480) (hmu : 1 ≤ mu ∧ mu < 1000000000) (hch : chz MB g (v - u)) (hd : ∀ b, b < v - u → (mI MB (g + 22) b) ∣ ((mu : Nat) : Int)) (hsum : shS MB g mu (v - u) = ((mu : Nat) : Int)) (h6 : mI MB (g + 6) cc = ((mu : Nat) : Int)) (h7 : mI MB (g + 7) cc = ((bc0 : Nat) : Int)) (hcc : mI MB g 12 = ((cc : Nat) : Int)) (h5t : 0 ≤ mI MB (g + 5) cc ∧ mI MB (g + 5) cc < 60) (hu : mI MB (p + 12) c = ((u : Nat) : Int)) (hv : mI MB (p + 12) (c + 1) = ((v : Nat) : Int)) (hccb : cc ≤ bc0) (hcm : ∀ j, j < cc → cmdG MB g cn0 bc0 j) (h70 : 0 < cc → mI MB (g + 7) 0 = 0) (h700 : cc = 0 → bc0 = 0) (hfc : ∀ j, j ≤ k → ∃ x y : Nat, mI MB (g + 4) j = ((x : Nat) : Int) ∧ mI MB (g + 4) (j + 1) = ((y : Nat) : Int) ∧ x ≤ y ∧ y ≤ cc) (hf0 : mI MB (g + 4) 0 = 0) (hgs : ∀ j, j < k → GS1 MB g j) (hgk : ∀ x y : Nat, mI MB (g + 4) k = ((x : Nat) : Int) → mI MB (g + 4) (k + 1) = ((y : Nat) : Int) → 0 ≤ mI MB (g + 3) k ∧ (mI MB (g + 3) k < ((y : Nat) : Int) - ((x : Nat) : Int) ∨ mI MB (g + 3) k = 0)) : ∀ (t b : Nat) (M : mM) (Ab Be C cn bc : Nat) (r : Int), v - u ≤ b + t → b ≤ v - u → i32 r → GX M0 z g p O P K V F ns sf ef L cnt Ab0 Be0 C0 M Ab Be C → flF MB g p bc0 M → (mI M g 0 = ((cn : Nat) : Int) ∧ cn0 ≤ cn ∧ cn ≤ 512 ∧ SLt M g cn) → mI M g 13 = ((bc : Nat) : Int) → bc0 ≤ bc → (bc ≤ 4096 ∧ bc ≤ bc0 + b) → (r = 0 → ipG M g cn bc0 bc (shS MB g mu b)) → 0 ≤ shS MB g mu b → h_Ga_tryCommand_146 G (d + 5) g k c r ((v - u : Nat) : Int) b M (tcQ M0 z g p O P K V F ns sf ef L cnt Ab0 Be0 C0 MB k cn0) := by
  intro t
  have fin : ∀ {b : Nat} {M : mM} {Ab Be C cn bc : Nat} {r : Int}, (r = 0 → b = v - u) → i32 r → GX M0 z g p O P K V F ns sf ef L cnt Ab0 Be0 C0 M Ab Be C → flF MB g p bc0 M → (mI M g 0 = ((cn : Nat) : Int) ∧ cn0 ≤ cn ∧ cn ≤ 512 ∧ SLt M g cn) → mI M g 13 = ((bc : Nat) : Int) → bc0 ≤ bc → (bc ≤ 4096 ∧ bc ≤ bc0 + b) → (r = 0 → ipG M g cn bc0 bc (shS MB g mu b)) → mK M g = 7 ∧ i32 ((mI M g 12) + 1) ∧ ∀ M84, M84 = mUI M g 12 ((mI M g 12) + 1) → mK M84 (mR M84 g 7) = 30 ∧ ((0 : Int) ≤ mI M84 g 12 ∧ mI M84 g 12 < (mN M84 (mR M84 g 7) : Int)) ∧ ∀ M88, M88 = mUI M84 (mR M84 g 7) (Int.toNat (mI M84 g 12)) (mI M84 g 13) → mK M88 (mR M88 g 4) = 30 ∧ ((0 : Int) ≤ (k : Int) + 1 ∧ (k : Int) + 1 < (mN M88 (mR M88 g 4) : Int)) ∧ ∀ M92, M92 = mUI M88 (mR M88 g 4) (Int.toNat ((k : Int) + 1)) (mI M88 g 12) → tcQ M0 z g p O P K V F ns sf ef L cnt Ab0 Be0 C0 MB k cn0 r M92 := fun {b M Ab Be C cn bc r} hb ir hx fl hcn hbc hb0 hb4 hip => by
    obtain ⟨h1, h2, h3, h4, h5, -⟩ := id hx
    obtain ⟨g0, ⟨-, -, -, g4, -, -, g7, -⟩, ⟨-, -, -, k4, -, -, k7, -⟩, ⟨-, -, -, n4, -, -, n7, -⟩⟩ := id h2
    obtain ⟨fl1, fl2, fl3, fl4, fl5, fl6⟩ := fl
    have ccM : mI M g 12 = ((cc : Nat) : Int) := by rw [fl1 12 (by decide) (by decide) (by decide)]; exact hcc
    rw [ccM]
    refine ⟨g0, ⟨by omega, by omega⟩, fun M84 e84 => ?_⟩
    have f84 : FI (fun x => x = g) M M84 := by rw [e84]; exact FI.ui rfl
    have c84 : mI M84 g 12 = ((cc + 1 : Nat) : Int) := by rw [mI_ui g 12 e84, if_pos ⟨rfl, rfl⟩]; omega
    have b84 : mI M84 g 13 = ((bc : Nat) : Int) := by rw [mI_ui g 13 e84, if_neg (fun t => absurd t.2 (by decide))]; exact hbc
    rw [f84.1, f84.2.1, f84.2.2.1, g7, n7, c84, b84, Int.toNat_natCast]
    refine ⟨k7, by omega, fun M88 e88 => ?_⟩
    have f88 : FI (fun x => x = g + 7) M84 M88 := by rw [e88]; exact FI.ui rfl
    rw [f88.1, f88.2.1, f88.2.2.1, f84.1, f84.2.1, f84.2.2.1, g4, n4, f88.2.2.2.2.2.2 g (show ¬ g = g + 7 by omega), c84, show Int.toNat ((k : Int) + 1) = k + 1 by omega]
    refine ⟨k4, by omega, fun M92 e92 => ?_⟩
    have f92 : FI (fun x => x = g + 4) M88 M92 := by rw [e92]; exact FI.ui rfl
    have ff : FI (fun x => x = g ∨ x = g + 7 ∨ x = g + 4) M M92 := ((f84.mono (fun _ y => Or.inl y)).trans (f88.mono (fun _ y => Or.inr (Or.inl y)))).trans (f92.mono (fun _ y => Or.inr (Or.inr y)))
    have o92 : mOk M92 := by rw [e92]; exact mOk_UI (by rw [e88]; exact mOk_UI (by rw [e84]; exact mOk_UI h1 ⟨by omega, by omega⟩) ⟨by omega, by omega⟩) ⟨by omega, by omega⟩
    have nb : ∀ x, x ≠ g → x ≠ g + 7 → x ≠ g + 4 → mI M92 x = mI M x := fun x a b c => ff.2.2.2.2.2.2 x (fun y => y.elim a (fun y => y.elim b c))
    have i92 : ∀ i, mI M92 g i = if i = 12 then ((cc + 1 : Nat) : Int) else mI M g i := fun i => by
      rw [f92.2.2.2.2.2.2 g (show ¬ g = g + 4 by omega), f88.2.2.2.2.2.2 g (show ¬ g = g + 7 by omega)]
      by_cases y : i = 12
      · rw [if_pos y, y]; exact c84
      · rw [if_neg y, mI_ui g i e84, if_neg (fun t => y t.2)]
    have t7 : ∀ i, mI M92 (g + 7) i = if i = cc + 1 then ((bc : Nat) : Int) else mI MB (g + 7) i := fun i => by
      rw [f92.2.2.2.2.2.2 _ (show ¬ g + 7 = g + 4 by omega), mI_ui _ i e88]
      by_cases y : i = cc + 1
      · rw [if_pos ⟨rfl, y⟩, if_pos y]
      · rw [if_neg (fun t => y t.2), if_neg y, f84.2.2.2.2.2.2 _ (show ¬ g + 7 = g by omega), fl2 7 (by omega) (by omega)]
    have t4 : ∀ i, mI M92 (g + 4) i = if i = k + 1 then ((cc + 1 : Nat) : Int) else mI MB (g + 4) i := fun i => by
      rw [mI_ui _ i e92]
      by_cases y : i = k + 1
      · rw [if_pos ⟨rfl, y⟩, if_pos y]
      · rw [if_neg (fun t => y t.2), if_neg y, f88.2.2.2.2.2.2 _ (show ¬ g + 4 = g + 7 by omega), f84.2.2.2.2.2.2 _ (show ¬ g + 4 = g by omega), fl2 4 (by omega) (by omega)]
    refine ⟨ir, ⟨Ab, Be, C, hx.fi o92 (ff.mono (fun x y => Or.inl (by have y' : x = g ∨ x = g + 7 ∨ x = g + 4 := y; omega)))⟩, by rw [nb _ (by omega) (by omega) (by omega)]; exact fl4, fun r0 => ?_⟩
    obtain ⟨ip1, ip2, ip3, ip4⟩ := hip r0
    rw [hb r0, hsum] at ip4
    have bcb : bc0 < bc := by
      by_cases y : bc0 < bc
      · exact y
      · rw [show bc - bc0 = 0 by omega] at ip4
        have : (0 : Int) = ((mu : Nat) : Int) := ip4
        omega
    have b8 : bc ≤ bc0 + 8 := by
      have t1 := hb r0
      have t2 := hb4.2
      omega
    have e8 := nb (g + 8) (by omega) (by omega) (by omega)
    have e9 := nb (g + 9) (by omega) (by omega) (by omega)
    have e6 : mI M92 (g + 6) = mI MB (g + 6) := by rw [nb (g + 6) (by omega) (by omega) (by omega), fl2 6 (by omega) (by omega)]
    have e5 : mI M92 (g + 5) = mI MB (g + 5) := by rw [nb (g + 5) (by omega) (by omega) (by omega), fl2 5 (by omega) (by omega)]
    have e2 : mI M92 (g + 2) = mI MB (g + 2) := by rw [nb (g + 2) (by omega) (by omega) (by omega), fl2 2 (by omega) (by omega)]
    have e3 : mI M92 (g + 3) = mI MB (g + 3) := by rw [nb (g + 3) (by omega) (by omega) (by omega), fl2 3 (by omega) (by omega)]
    refine ⟨cn, cc + 1, bc, ⟨by rw [i92, if_neg (by decide)]; exact hcn.1, hcn.2.1, hcn.2.2.1, fun i hi => by rw [nb _ (by omega) (by omega) (by omega)]; exact hcn.2.2.2 i hi⟩, by rw [i92, if_pos rfl], by rw [i92, if_neg (by decide)]; exact hbc, ⟨by omega, hb4.1, fun j hj => ?_, fun _ => ⟨?_, by rw [t7, if_pos rfl]⟩, fun y => absurd y (by omega), fun j hj => ?_, by rw [t4, if_neg (by omega)]; exact hf0, by rw [t4, if_pos rfl]⟩, fun j hj => ?_⟩
    · by_cases y : j = cc
      · subst y
        refine ⟨bc0, bc, mu, by rw [t7, if_neg (by omega)]; exact h7, by rw [t7, if_pos rfl], ⟨bcb, b8⟩, Nat.le_refl _, fun i a b => by rw [e8, e9]; exact ip3 i a b, by rw [e6]; exact h6, hmu.1, hmu.2, by rw [wsm_cg (M := M) _ (fun i _ _ => by rw [e9])]; exact ip4, by rw [e5]; exact h5t⟩
      · exact (hcm j (by omega)).cg ⟨by rw [t7, if_neg (by omega)], by rw [t7, if_neg (by omega)]⟩ (by rw [e6]) (by rw [e5]) (fun i hi => ⟨by rw [e8]; exact (fl6 i hi).1, by rw [e9]; exact (fl6 i hi).2⟩) hcn.2.1 hb0
    · rw [t7, if_neg (by omega)]
      by_cases y : 0 < cc
      · exact h70 y
      · have c0 : cc = 0 := by omega
        rw [c0] at h7
        rw [h7, h700 c0]
        rfl
    · by_cases y : j = k
      · subst y
        obtain ⟨x, y', f1, f2, f3, f4⟩ := hfc j (Nat.le_refl _)
        exact ⟨x, cc + 1, by rw [t4, if_neg (by omega)]; exact f1, by rw [t4, if_pos rfl], by omega, Nat.le_refl _⟩
      · obtain ⟨x, y', f1, f2, f3, f4⟩ := hfc j hj
        exact ⟨x, y', by rw [t4, if_neg (by omega)]; exact f1, by rw [t4, if_neg (by omega)]; exact f2, f3, by omega⟩
    · by_cases y : j = k
      · subst y
        intro x1 y1 q1 q2
        rw [t4, if_neg (by omega)] at q1
        rw [t4, if_pos rfl] at q2
        obtain ⟨x0, y0, f1, f2, f3, f4⟩ := hfc j (Nat.le_refl _)
        have g1 := hgk x0 y0 f1 f2
        rw [f1] at q1
        rw [e3]
        clear hip hgs hgk hfc hcm hch hd
        exact ⟨⟨g1.1, Or.inl (by omega)⟩, fun _ => by omega⟩
      · exact (hgs j (by omega)).cg (by rw [e2]) (by rw [e3]) (by rw [t4, if_neg (by omega)]) (by rw [t4, if_neg (by omega)])
  induction t with
  | zero =>
    intro b M Ab Be C cn bc r ht hb ir hx fl hcn hbc hb0 hb4 hip hs0
    have c60 := hx.2.2.2.1.2.2.2.2.1.2
    exact k_Ga_tryCommand_146 hx.1 (i32s (by omega) (by omega)) (i32s (by omega) (by omega)) ir (i32s (by omega) (by omega)) (i32s (by omega) (by omega)) ⟨fun _ => fin (fun _ => by omega) ir hx fl hcn hbc hb0 hb4 hip, fun y => absurd (Or.inl (by omega)) y⟩
  | succ t ih =>
    intro b M Ab Be C cn bc r ht hb ir hx fl hcn hbc hb0 hb4 hip hs0
    have c60 := hx.2.2.2.1.2.2.2.2.1.2
    refine k_Ga_tryCommand_146 hx.1 (i32s (by omega) (by omega)) (i32s (by omega) (by omega)) ir (i32s (by omega) (by omega)) (i32s (by omega) (by omega)) ⟨fun y => fin (fun r0 => ?_) ir hx fl hcn hbc hb0 hb4 hip, fun y => ?_⟩
    · rcases y with y | y
      · omega
      · exact absurd r0 y
    have r0 : r = 0 := Classical.byContradiction (fun t => y (Or.inr t))
    have bn : b < v - u := by
      by_cases t : ((v - u : Nat) : Int) ≤ b
      · exact absurd (Or.inl t) y
      · omega
    subst r0
    obtain ⟨h1, h2, h3, h4, h5, -⟩ := id hx
    obtain ⟨g0, ⟨-, -, -, -, -, g6, -, -, -, -, -, g17, g18⟩, ⟨-, -, -, -, -, k6, -, -, -, -, k21, k22⟩, ⟨-, -, -, -, -, n6, -, -, -, -, n21, n22⟩⟩ := id h2
    have p16 := h4.1.2.2.2.2.2.2.1.2.2.2.2.2.2.2.2.2.1
    have kp16 := h4.1.2.2.2.2.2.2.2.1.2.2.2.2.2.2.2.2.2.1
    have np16 := h4.1.2.2.2.2.2.2.2.2.2.2.2.2.2.2.2.2.2.1
    have fl0 := fl
    obtain ⟨fl1, fl2, ⟨fl3, fl3'⟩, fl4, fl5, fl6⟩ := fl
    have ccM : mI M g 12 = ((cc : Nat) : Int) := by rw [fl1 12 (by decide) (by decide) (by decide)]; exact hcc
    have e1 : shS MB g mu (b + 1) = shS MB g mu b + Int.tdiv mu (mI MB (g + 22) b) * mI MB (g + 21) b := rfl
    obtain ⟨sh1, sh2⟩ := share_ok hch hd hmu.1 bn
    have shm := shS_mono hch hd hmu.1 (v - u - (b + 1)) (b + 1) (by omega) (by rw [e1]; omega)
    rw [hsum, e1] at shm
    obtain ⟨bb1, bb2, bb3, bb4⟩ := hch b bn
    rw [g17, n21, Int.toNat_natCast, fl3, h5.1, p16, np16, g6, n6, g18, n22, ccM, Int.toNat_natCast, Int.toNat_natCast, fl2 6 (by omega) (by omega), h6, fl3', fl5 12 (by omega), hu]
    refine ⟨g0, k21, by omega, fun y0 => ?_, fun y0 => ⟨h4.1.1, kp16, by omega, k6, by omega, k22, by omega, by omega, by omega, ?_⟩⟩
    · refine k_Ga_tryCommand_212 h1 (i32s (by omega) (by omega)) (i32s (by omega) (by omega)) ir (i32s (by omega) (by omega)) (i32s (by omega) (by omega)) ?_
      rw [show ((b : Int) + 1) = ((b + 1 : Nat) : Int) by omega]
      have e2 : shS MB g mu (b + 1) = shS MB g mu b := by rw [e1, y0]; omega
      exact ih (b + 1) M Ab Be C cn bc 0 (by omega) (by omega) ir hx fl0 hcn hbc hb0 ⟨hb4.1, by omega⟩ (fun t => by rw [e2]; exact hip t) (by rw [e2]; exact hs0)
    · obtain ⟨u', v', q1, q2, -, -, -, hbr, -⟩ := h4.cmd hc
      have vv : v' = v := by rw [fl5 12 (by omega), hv] at q2; omega
      subst vv
      obtain ⟨s1, s2, -, -, b3, b4⟩ := hbr (u + b) (by omega)
      have h7M : mI M (g + 7) cc = ((bc0 : Nat) : Int) := by rw [fl2 7 (by omega) (by omega)]; exact h7
      rw [show ((u : Nat) : Int) + (b : Int) = ((u + b : Nat) : Int) by omega]
      refine (s_Ga_follow hF hx hc hcn.1 hcn.2.2.1 hcn.2.2.2 hbc (hip rfl) (sh2 y0) (by omega) ccM hcc2 h7M (by omega) ⟨s2, b3, b4⟩).mono (fun r' M' q => ?_)
      obtain ⟨w1, w2, ⟨A', B', C', w3⟩, cn', bc', w4, w5, w6, w7, w8⟩ := q
      refine ⟨w1, w3.1, k_Ga_tryCommand_212 w3.1 (i32s (by omega) (by omega)) (i32s (by omega) (by omega)) w1 (i32s (by omega) (by omega)) (i32s (by omega) (by omega)) ?_⟩
      rw [show ((b : Int) + 1) = ((b + 1 : Nat) : Int) by omega]
      exact ih (b + 1) M' A' B' C' cn' bc' r' (by omega) (by omega) w1 w3 (fl0.trans w2) ⟨w4.1, by omega, w4.2.2.1, w4.2.2.2⟩ w5 w6 ⟨w7.1, by omega⟩ (fun t => by rw [e1]; exact w8 t) (by rw [e1]; omega)
end GAH
end
