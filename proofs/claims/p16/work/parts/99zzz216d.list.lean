/-! The class's Solver: the list of the commands that are not chosen. -/
section NBYD
variable {G : mG} {d s g a R cn cc bc i k n c un x y B O oc mo : Nat} {M M0 M' M1 M2 M3 : mM} {L : List Nat} {W : Nat → Nat} {S : Nat → Prop} {p : Int}
theorem SoT.fo (h : SoT M s g) (f : Fxo S s M M') : SoT M' s g := by
  unfold SoT at h ⊢
  rw [f.1, f.2.1, f.2.2.1]
  exact h
theorem GK9.fo (h : GK9 M g) (f : Fxo S s M M') : GK9 M' g := by
  unfold GK9 at h ⊢
  rw [f.1, f.2.1, f.2.2.1]
  exact h
theorem SG.fo (h : SG M s g cn cc bc) (f : Fxo S s M M') (o : mOk M') (hS : ∀ i, i ≤ 9 → ¬ S (g + i)) : SG M' s g cn cc bc := by
  obtain ⟨-, h2, h3, h4, h5⟩ := h
  exact ⟨o, h2.fo f, h3.fo f, by rw [f.2.1, f.2.2.1]; exact h4, h5.same (fun i hi => f.2.2.2.2.2.2 _ (hS i hi))⟩
theorem s_So_addToDraw (h : SG M s g cn cc bc) (hc : c < cc) : Cv G y_So_addToDraw d [vr s, vi c] M (fun M' => mOk M' ∧ Fxo (fun _ => False) s M M') := by
  obtain ⟨o, ⟨⟨s0, gs⟩, ⟨-, -, -, r3, -⟩, -⟩, ⟨g0, ⟨-, -, -, q7, q8, q9⟩, gk, ⟨-, -, -, m7, m8, m9⟩⟩, -, hT⟩ := id h
  obtain ⟨hc1, hc2, hc3⟩ := hT.1
  obtain ⟨x, y, mu, e1, e2, ⟨xy, -⟩, yb, -⟩ := hT.2.1 c hc
  have g7 := gk 7 (by decide) (by decide)
  refine k_So_addToDraw o ⟨by omega, by omega⟩ ?_
  rw [r3, q7, m7, Int.toNat_natCast, e1]
  refine ⟨s0, g0, g7, ⟨by omega, by omega⟩, ?_⟩
  suffices H : ∀ (t l : Nat) (M1 : mM), y ≤ l + t → l ≤ y → mOk M1 ∧ Fxo (fun _ => False) s M M1 → h_So_addToDraw_10 G d s c l M1 (fun M' => mOk M' ∧ Fxo (fun _ => False) s M M') from H y x M (by omega) (by omega) ⟨o, Fxo.refl⟩
  intro t
  induction t with
  | zero =>
    intro l M1 h1 h2 hI
    obtain ⟨o1, f1⟩ := hI
    refine k_So_addToDraw_10 o1 ⟨by omega, by omega⟩ ⟨by omega, by omega⟩ ?_
    rw [f1.2.2.1, f1.1, f1.2.1, r3, q7, m7, show Int.toNat (((c : Nat) : Int) + 1) = c + 1 by omega, f1.2.2.2.2.2.2 (g + 7) (fun u => u), e2]
    exact ⟨s0, g0, g7, ⟨by omega, by omega⟩, fun _ => ⟨o1, f1⟩, fun u => absurd (by omega) u⟩
  | succ t ih =>
    intro l M1 h1 h2 hI
    obtain ⟨o1, f1⟩ := hI
    refine k_So_addToDraw_10 o1 ⟨by omega, by omega⟩ ⟨by omega, by omega⟩ ?_
    rw [f1.2.2.1, f1.1, f1.2.1, r3, q7, m7, show Int.toNat (((c : Nat) : Int) + 1) = c + 1 by omega, f1.2.2.2.2.2.2 (g + 7) (fun u => u), e2, q9, m9]
    refine ⟨s0, g0, g7, ⟨by omega, by omega⟩, fun _ => ⟨o1, f1⟩, fun u => ⟨gk 9 (by decide) (by decide), ⟨by omega, by omega⟩, fun M13 e13 => ?_⟩⟩
    have f13 : Fxo (fun _ => False) s M1 M13 := Fxo.ul e13
    have o13 : mOk M13 := by rw [e13]; exact mOk_UL o1 i64_w64
    have g13 := f1.trans f13
    rw [g13.2.2.1, g13.1, g13.2.1, r3, q8, m8]
    refine ⟨g0, gk 8 (by decide) (by decide), ⟨by omega, by omega⟩, fun M18 e18 => ?_⟩
    rw [show (((l : Nat) : Int) + 1) = ((l + 1 : Nat) : Int) by omega]
    exact ih (l + 1) M18 (by omega) (by omega) ⟨by rw [e18]; exact mOk_UL o13 i64_w64, g13.trans (Fxo.ul e18)⟩
/-- how many of the first n unknown states are a player's -/
def ctp (M : mM) (s g : Nat) (p : Int) : Nat → Nat
  | 0 => 0
  | n + 1 => ctp M s g p n + (if mI M (g + 2) (mI M (s + 125) n).toNat = p then 1 else 0)
theorem ctp_two : ∀ n, ctp M s g 2 n + ctp M s g 1 n ≤ n
  | 0 => Nat.le_refl _
  | n + 1 => by
    have ih := ctp_two n
    show ctp M s g 2 n + (if mI M (g + 2) (mI M (s + 125) n).toNat = 2 then 1 else 0) + (ctp M s g 1 n + (if mI M (g + 2) (mI M (s + 125) n).toNat = 1 then 1 else 0)) ≤ n + 1
    generalize mI M (g + 2) (mI M (s + 125) n).toNat = z
    by_cases z2 : z = 2
    · rw [if_pos z2, if_neg (by omega)]; omega
    · rw [if_neg z2]; split <;> omega
theorem ctp_mono : ∀ (t i : Nat), ctp M s g p i ≤ ctp M s g p (i + t)
  | 0, _ => Nat.le_refl _
  | t + 1, i => by
    have ih := ctp_mono t i
    show _ ≤ ctp M s g p (i + t) + (if mI M (g + 2) (mI M (s + 125) (i + t)).toNat = p then 1 else 0)
    omega
theorem ctp_cg (e5 : mI M' (s + 125) = mI M (s + 125)) (e2 : mI M' (g + 2) = mI M (g + 2)) : ∀ n, ctp M' s g p n = ctp M s g p n
  | 0 => rfl
  | n + 1 => by
    show ctp M' s g p n + (if mI M' (g + 2) (mI M' (s + 125) n).toNat = p then 1 else 0) = ctp M s g p n + (if mI M (g + 2) (mI M (s + 125) n).toNat = p then 1 else 0)
    rw [ctp_cg e5 e2 n, e5, e2]
/-- while commands are listed -/
def adI (s un O : Nat) (M0 M : mM) (oc : Nat) : Prop := mOk M ∧ Fxo (fun x => x = s ∨ x = O) s M0 M ∧ mI M s 12 = ((oc : Nat) : Int) ∧ (∀ j, j ≠ 12 → mI M s j = mI M0 s j) ∧ ∀ j, j < oc → ot1 M0 s un (mI M O j)
theorem s_So_addOthers (hp : i32 p) (h : SG M0 s g cn cc bc) (hL : LHs M0 s cn cc) (hU : Unk M0 s cn un) (hr : mR M0 s 11 = O) (hK : mK M0 O = 30) (hn : mN M0 O = 2400) (hO : s + 134 < O) (e12 : mI M0 s 12 = ((oc : Nat) : Int)) (ho : ∀ j, j < oc → ot1 M0 s un (mI M0 O j)) (hb : oc + 60 * ctp M0 s g p un ≤ 2400) : Cv G y_So_addOthers (d + 1) [vr s, vi p] M0 (fun M' => ∃ oc' : Nat, oc ≤ oc' ∧ oc' ≤ oc + 60 * ctp M0 s g p un ∧ adI s un O M0 M' oc') := by
  refine k_So_addOthers h.1 hp ?_
  obtain ⟨o, ⟨⟨s0, gs⟩, ⟨-, -, -, r3, -, r5, r6, -, r8, r9, -⟩, ⟨-, -, k5, k6, -, k8, k9, -⟩, ⟨-, -, n5, n6, -, n8, n9, -⟩⟩, ⟨g0, ⟨q2, -⟩, gk, ⟨m2, -⟩⟩, -, hT⟩ := id h
  obtain ⟨hc1, hc2, hc3⟩ := hT.1
  have u40 := hU.2.1
  have sO : ¬ s = O := by omega
  have nS : ∀ i, i ≤ 9 → ¬ (g + i = s ∨ g + i = O) := fun i hi u => by omega
  suffices H : ∀ (t i b : Nat) (M : mM), un ≤ i + t → i ≤ un → oc ≤ b → b ≤ oc + 60 * ctp M0 s g p i → adI s un O M0 M b → h_So_addOthers_2 G d s p i M (fun M' => ∃ oc' : Nat, oc ≤ oc' ∧ oc' ≤ oc + 60 * ctp M0 s g p un ∧ adI s un O M0 M' oc') from H un 0 oc M0 (by omega) (by omega) (Nat.le_refl _) (by omega) ⟨h.1, Fxo.refl, e12, fun _ _ => rfl, ho⟩
  intro t
  induction t with
  | zero =>
    intro i b M h1 h2 hb1 hb2 hI
    have ei : i = un := by omega
    subst ei
    obtain ⟨o1, f1, q12, qj, qo⟩ := id hI
    refine k_So_addOthers_2 o1 hp ⟨by omega, by omega⟩ ?_
    rw [f1.1, qj 10 (by decide), hU.1]
    exact ⟨s0, fun _ => ⟨b, hb1, hb2, hI⟩, fun u => absurd (Int.le_refl _) u⟩
  | succ t ih =>
    intro i b M h1 h2 hb1 hb2 hI
    by_cases ei : i = un
    · exact ih i b M (by omega) h2 hb1 hb2 hI
    obtain ⟨o1, f1, q12, qj, qo⟩ := id hI
    obtain ⟨kst, c, lo, hi', e1, hkc, e4, e2, e3, l1, l2⟩ := hU.2.2.2 i (by omega)
    have hl : hi' ≤ cc ∧ hi' ≤ lo + 60 := by
      obtain ⟨lo', hi2, y1, y2, y3, y4, y5⟩ := hL kst hkc
      rw [e2] at y1
      rw [e3] at y2
      omega
    have ec : ctp M0 s g p (i + 1) = ctp M0 s g p i + (if mI M0 (g + 2) kst = p then 1 else 0) := by
      show ctp M0 s g p i + (if mI M0 (g + 2) (mI M0 (s + 125) i).toNat = p then 1 else 0) = _
      rw [e1, Int.toNat_natCast]
    have cm : ctp M0 s g p (i + 1) ≤ ctp M0 s g p un := by
      have := ctp_mono (M := M0) (s := s) (g := g) (p := p) (un - (i + 1)) (i + 1)
      rw [show i + 1 + (un - (i + 1)) = un by omega] at this
      exact this
    have b60 : mI M0 (g + 2) kst = p → b + 60 ≤ 2400 := fun u => by
      rw [if_pos u] at ec
      omega
    have nxt : ∀ (b' : Nat) (M1 : mM), oc ≤ b' → ((mI M0 (g + 2) kst = p ∧ b' ≤ b + 60) ∨ b' = b) → adI s un O M0 M1 b' → h_So_addOthers_2 G d s p (((i : Nat) : Int) + 1) M1 (fun M' => ∃ oc' : Nat, oc ≤ oc' ∧ oc' ≤ oc + 60 * ctp M0 s g p un ∧ adI s un O M0 M' oc') := fun b' M1 a1 a2 a3 => by
      rw [show (((i : Nat) : Int) + 1) = ((i + 1 : Nat) : Int) by omega]
      refine ih (i + 1) b' M1 (by omega) (by omega) a1 ?_ a3
      rcases a2 with ⟨u, w⟩ | u
      · rw [ec, if_pos u]; omega
      · have := ctp_mono (M := M0) (s := s) (g := g) (p := p) 1 i
        omega
    have i125 : mI M (s + 125) = mI M0 (s + 125) := f1.2.2.2.2.2.2 _ (fun u => by omega)
    have i122 : mI M (s + 122) = mI M0 (s + 122) := f1.2.2.2.2.2.2 _ (fun u => by omega)
    refine k_So_addOthers_2 o1 hp ⟨by omega, by omega⟩ ?_
    rw [f1.1, f1.2.1, f1.2.2.1, qj 10 (by decide), hU.1, r8, r5, n8, n5, i125, i122, Int.toNat_natCast, e1, Int.toNat_natCast, e2]
    refine ⟨s0, fun u => absurd u (by omega), fun _ => ⟨k8, ⟨by omega, by omega⟩, k5, ⟨by omega, by omega⟩, ?_⟩⟩
    clear ih
    suffices K : ∀ (t' c' b' : Nat) (M1 : mM), hi' ≤ c' + t' → lo ≤ c' → c' ≤ hi' → oc ≤ b' → ((mI M0 (g + 2) kst = p ∧ b' ≤ b + (c' - lo)) ∨ b' = b) → adI s un O M0 M1 b' → h_So_addOthers_25 G d s p i kst c' M1 (fun M' => ∃ oc' : Nat, oc ≤ oc' ∧ oc' ≤ oc + 60 * ctp M0 s g p un ∧ adI s un O M0 M' oc') from K (hi' - lo) lo b M (by omega) (Nat.le_refl _) (by omega) hb1 (Or.inr rfl) hI
    clear hI f1 q12 qj qo o1 i125 i122
    intro t'
    induction t' with
    | zero =>
      intro c' b' M1 h1' h2' h3' a1 a2 hI
      obtain ⟨o1, f1, q12, qj, qo⟩ := id hI
      have i123 : mI M1 (s + 123) = mI M0 (s + 123) := f1.2.2.2.2.2.2 _ (fun u => by omega)
      refine k_So_addOthers_25 o1 hp ⟨by omega, by omega⟩ ⟨by omega, by omega⟩ ⟨by omega, by omega⟩ ?_
      rw [f1.1, f1.2.1, f1.2.2.1, r6, n6, r3, q2, m2, i123, Int.toNat_natCast, e3]
      refine ⟨s0, k6, ⟨by omega, by omega⟩, fun _ => ⟨g0, gk 2 (by decide) (by decide), ⟨by omega, by omega⟩⟩, fun _ => nxt b' M1 a1 (a2.imp (fun u => ⟨u.1, by have := u.2; omega⟩) id) hI, fun u => absurd (Or.inl (by omega)) u⟩
    | succ t' ih =>
      intro c' b' M1 h1' h2' h3' a1 a2 hI
      obtain ⟨o1, f1, q12, qj, qo⟩ := id hI
      have i123 : mI M1 (s + 123) = mI M0 (s + 123) := f1.2.2.2.2.2.2 _ (fun u => by omega)
      have i126 : mI M1 (s + 126) = mI M0 (s + 126) := f1.2.2.2.2.2.2 _ (fun u => by omega)
      have ig2 : mI M1 (g + 2) = mI M0 (g + 2) := f1.2.2.2.2.2.2 _ (fun u => nS 2 (by decide) u)
      refine k_So_addOthers_25 o1 hp ⟨by omega, by omega⟩ ⟨by omega, by omega⟩ ⟨by omega, by omega⟩ ?_
      rw [f1.1, f1.2.1, f1.2.2.1, r6, n6, r3, q2, m2, r9, n9, hr, q12, i123, i126, ig2, Int.toNat_natCast, Int.toNat_natCast, Int.toNat_natCast, e3, e4]
      refine ⟨s0, k6, ⟨by omega, by omega⟩, fun _ => ⟨g0, gk 2 (by decide) (by decide), ⟨by omega, by omega⟩⟩, fun _ => nxt b' M1 a1 (a2.imp (fun u => ⟨u.1, by have := u.2; omega⟩) id) hI, fun u => ?_⟩
      have cl : c' < hi' := by
        by_cases z : ((hi' : Nat) : Int) ≤ ((c' : Nat) : Int)
        · exact absurd (Or.inl z) u
        · omega
      have sp : mI M0 (g + 2) kst = p := Classical.byContradiction (fun z => u (Or.inr z))
      have bb : b' ≤ b + (c' - lo) := by
        rcases a2 with a | a
        · exact a.2
        · omega
      have b24 := b60 sp
      clear a2 u
      have dr : ∀ (b2 : Nat) (M2 : mM), oc ≤ b2 → b2 ≤ b + (c' + 1 - lo) → adI s un O M0 M2 b2 → Cv G y_So_addToDraw d [vr s, vi ((c' : Nat) : Int)] M2 (fun M35 => mOk M35 ∧ h_So_addOthers_25 G d s p i kst (((c' : Nat) : Int) + 1) M35 (fun M' => ∃ oc' : Nat, oc ≤ oc' ∧ oc' ≤ oc + 60 * ctp M0 s g p un ∧ adI s un O M0 M' oc')) := fun b2 M2 x1 x2 x3 => by
        obtain ⟨o3, f3, v12, vj, vo⟩ := id x3
        refine (s_So_addToDraw (d := d) (h.fo f3 o3 nS) (show c' < cc by omega)).mono (fun M35 q => ?_)
        obtain ⟨o5, f5⟩ := q
        rw [show (((c' : Nat) : Int) + 1) = ((c' + 1 : Nat) : Int) by omega]
        refine ⟨o5, ih (c' + 1) b2 M35 (by omega) (by omega) (by omega) x1 (Or.inl ⟨sp, x2⟩) ⟨o5, f3.trans (f5.mono (fun _ u => u.elim)), ?_, fun j hj => ?_, fun j hj => ?_⟩⟩
        · rw [f5.2.2.2.2.2.2 s (fun u => u)]; exact v12
        · rw [f5.2.2.2.2.2.2 s (fun u => u)]; exact vj j hj
        · rw [f5.2.2.2.2.2.2 O (fun u => u)]; exact vo j hj
      refine ⟨k9, ⟨by omega, by omega⟩, fun _ => dr b' M1 a1 (by omega) hI, fun _ => ⟨⟨by omega, by omega⟩, fun M39 e39 => ?_⟩⟩
      have f39 : FI (fun z => z = s) M1 M39 := by rw [e39]; exact FI.ui rfl
      have o39 : mOk M39 := by rw [e39]; exact mOk_UI o1 ⟨by omega, by omega⟩
      rw [f39.1, f39.2.1, f1.1, f1.2.1, hn]
      refine ⟨hK, ⟨by omega, by omega⟩, ⟨by omega, by omega⟩, fun M44 e44 => dr (b' + 1) M44 (by omega) (by omega) ?_⟩
      have f44 : FI (fun z => z = O) M39 M44 := by rw [e44]; exact FI.ui rfl
      have o44 : mOk M44 := by rw [e44]; exact mOk_UI o39 ⟨by omega, by omega⟩
      refine ⟨o44, f1.trans ((f39.fo.mono (fun _ u => Or.inl u)).trans (f44.fo.mono (fun _ u => Or.inr u))), ?_, fun j hj => ?_, fun j hj => ?_⟩
      · rw [mI_ui s 12 e44, if_neg (fun u => sO u.1), mI_ui s 12 e39, if_pos ⟨rfl, rfl⟩]; omega
      · rw [mI_ui s j e44, if_neg (fun u => sO u.1), mI_ui s j e39, if_neg (fun u => hj u.2)]; exact qj j hj
      · rw [mI_ui O j e44]
        by_cases cj : j = b'
        · rw [if_pos ⟨rfl, cj⟩]
          exact ⟨c', i, kst, lo, hi', by omega, by omega, e1, e2, e3, h2', cl⟩
        · rw [if_neg (fun u => cj u.2), mI_ui O j e39, if_neg (fun u => sO u.1.symm)]
          exact qo j (by omega)
/-- the list is made -/
def loP (s un O : Nat) (M0 M : mM) : Prop := mOk M ∧ Fxo (fun x => x = s ∨ x = O) s M0 M ∧ (∀ j, j ≠ 12 → j ≠ 13 → mI M s j = mI M0 s j) ∧ ∃ oc mo : Nat, Oth M s un O oc mo
theorem s_lo16 {Q : mM → Prop} (h : SG M0 s g cn cc bc) (hL : LHs M0 s cn cc) (hU : Unk M0 s cn un) (hr : mR M0 s 11 = O) (hK : mK M0 O = 30) (hn : mN M0 O = 2400) (hO : s + 134 < O) (e12 : mI M0 s 12 = 0) (hQ : ∀ M, loP s un O M0 M → Q M) : Cv G y_So_addOthers (d + 1) [vr s, vi 2] M0 (fun M18 => mOk M18 ∧ (mK M18 s = 8 ∧ ∀ M22, M22 = mUI M18 s 13 (mI M18 s 12) → Cv G y_So_addOthers (d + 1) [vr s, vi 1] M22 (fun M24 => mOk M24 ∧ (mK M24 s = 8 ∧ Cv G y_So_mix (d + 1) [vr s, vi 0, vi (mI M24 s 13)] M24 (fun M28 => mOk M28 ∧ (mK M28 s = 8 ∧ Cv G y_So_mix (d + 1) [vr s, vi (mI M28 s 13), vi (mI M28 s 12)] M28 (fun M32 => mOk M32 ∧ (Q M32)))))))) := by
  have two := ctp_two (M := M0) (s := s) (g := g) un
  have u40 := hU.2.1
  have s0 := h.2.1.1.1
  have gs := h.2.1.1.2
  have sO : ¬ s = O := by omega
  have nS : ∀ i, i ≤ 9 → ¬ (g + i = s ∨ g + i = O) := fun i hi u => by omega
  refine (s_So_addOthers (G := G) (d := d) (p := 2) (oc := 0) ⟨by decide, by decide⟩ h hL hU hr hK hn hO e12 (fun j hj => absurd hj (by omega)) (by omega)).mono (fun M18 q => ?_)
  obtain ⟨m, -, m2, o18, f18, i12, ij, io⟩ := q
  refine ⟨o18, by rw [f18.1]; exact s0, fun M22 e22 => ?_⟩
  rw [i12] at e22
  have f22 : FI (fun z => z = s) M18 M22 := by rw [e22]; exact FI.ui rfl
  have o22 : mOk M22 := by rw [e22]; exact mOk_UI o18 ⟨by omega, by omega⟩
  have g22 : Fxo (fun x => x = s ∨ x = O) s M0 M22 := f18.trans (f22.fo.mono (fun _ u => Or.inl u))
  have kp : ∀ x, x ≠ s → x ≠ O → mI M22 x = mI M0 x := fun x a1 a2 => g22.2.2.2.2.2.2 x (fun u => u.elim a1 a2)
  have z2 := kp (s + 122) (by omega) (by omega)
  have z3 := kp (s + 123) (by omega) (by omega)
  have z4 := kp (s + 124) (by omega) (by omega)
  have z5 := kp (s + 125) (by omega) (by omega)
  have z6 := kp (s + 126) (by omega) (by omega)
  have zj : ∀ j, j ≠ 13 → mI M22 s j = mI M18 s j := fun j hj => by rw [mI_ui s j e22, if_neg (fun u => hj u.2)]
  have i13 : mI M22 s 13 = ((m : Nat) : Int) := by rw [mI_ui s 13 e22, if_pos ⟨rfl, rfl⟩]
  have U22 : Unk M22 s cn un := unk_cg hU (by rw [zj 10 (by decide), ij 10 (by decide)]) z2 z3 z4 z5 z6
  have L22 : LHs M22 s cn cc := by
    unfold LHs at hL ⊢
    rw [z2, z3]
    exact hL
  have r22 : mR M22 s 11 = O := by rw [g22.2.2.1]; exact hr
  have K22 : mK M22 O = 30 := by rw [g22.1]; exact hK
  have n22 : mN M22 O = 2400 := by rw [g22.2.1]; exact hn
  have ct : ctp M22 s g 1 un = ctp M0 s g 1 un := ctp_cg z5 (g22.2.2.2.2.2.2 _ (nS 2 (by decide))) un
  refine (s_So_addOthers (G := G) (d := d) (p := 1) (oc := m) ⟨by decide, by decide⟩ (h.fo g22 o22 nS) L22 U22 r22 K22 n22 hO (by rw [zj 12 (by decide)]; exact i12) (fun j hj => by rw [f22.2.2.2.2.2.2 O (fun u => sO u.symm)]; exact (io j hj).cg z2 z3 z5) (by rw [ct]; omega)).mono (fun M24 q => ?_)
  obtain ⟨m', a1, a2, o24, f24, j12, jj, jo⟩ := q
  rw [ct] at a2
  have j13 : mI M24 s 13 = ((m : Nat) : Int) := by rw [jj 13 (by decide)]; exact i13
  have s24 : mK M24 s = 8 := by rw [f24.1, g22.1]; exact s0
  have r24 : mR M24 s 11 = O := by rw [f24.2.2.1]; exact r22
  have K24 : mK M24 O = 30 := by rw [f24.1]; exact K22
  have n24 : mN M24 O = 2400 := by rw [f24.2.1]; exact n22
  rw [j13]
  refine ⟨o24, s24, (s_So_mix (G := G) (d := d + 1) (O := O) (l1 := 0) (l2 := m) (n := m') o24 s24 r24 K24 n24 a1 (by omega) (by omega)).mono (fun M28 q => ?_)⟩
  obtain ⟨o28, f28, p28⟩ := q
  have e28 : mI M28 s = mI M24 s := f28.2.2.2.2.2.2 s sO
  have s28 : mK M28 s = 8 := by rw [f28.1]; exact s24
  rw [e28, j13, j12]
  refine ⟨o28, s28, (s_So_mix (G := G) (d := d + 1) (O := O) (l1 := m) (l2 := m') (n := m') o28 s28 (by rw [f28.2.2.1]; exact r24) (by rw [f28.1]; exact K24) (by rw [f28.2.1]; exact n24) (Nat.le_refl _) (by omega) (by omega)).mono (fun M32 q => ?_)⟩
  obtain ⟨o32, f32, p32⟩ := q
  have ff : Fxo (fun x => x = s ∨ x = O) s M22 M32 := f24.trans ((f28.trans f32).mono (fun _ u => Or.inr u))
  have e32 : mI M32 s = mI M24 s := by rw [f32.2.2.2.2.2.2 s sO]; exact e28
  have kq : ∀ x, x ≠ s → x ≠ O → mI M32 x = mI M22 x := fun x b1 b2 => ff.2.2.2.2.2.2 x (fun u => u.elim b1 b2)
  refine ⟨o32, hQ M32 ⟨o32, g22.trans ff, fun j b1 b2 => ?_, m', m, ⟨⟨by rw [ff.2.2.1]; exact r22, by rw [ff.1]; exact K22, by rw [ff.2.1]; exact n22⟩, ⟨by rw [e32]; exact j12, by rw [e32]; exact j13, a1, by omega⟩, fun j hj => ?_⟩⟩⟩
  · rw [e32, jj j b1, zj j b2, ij j b1]
  · exact (p32 _ (p28 _ jo) j hj).cg (kq (s + 122) (by omega) (by omega)) (kq (s + 123) (by omega) (by omega)) (kq (s + 125) (by omega) (by omega))
/-- from the list's place on -/
theorem s_lo12 {Q : mM → Prop} {M14 M16 : mM} (h : SG M0 s g cn cc bc) (hL : LHs M0 s cn cc) (hU : Unk M0 s cn un) (ht : Ot L M0 s O 2400) (e14 : M14 = mUI M0 s 12 0) (e16 : M16 = mUL M14 s 14 (w64 0)) (hQ : ∀ M, loP s un O M0 M → Q M) : Cv G y_So_addOthers (d + 1) [vr s, vi 2] M16 (fun M18 => mOk M18 ∧ (mK M18 s = 8 ∧ ∀ M22, M22 = mUI M18 s 13 (mI M18 s 12) → Cv G y_So_addOthers (d + 1) [vr s, vi 1] M22 (fun M24 => mOk M24 ∧ (mK M24 s = 8 ∧ Cv G y_So_mix (d + 1) [vr s, vi 0, vi (mI M24 s 13)] M24 (fun M28 => mOk M28 ∧ (mK M28 s = 8 ∧ Cv G y_So_mix (d + 1) [vr s, vi (mI M28 s 13), vi (mI M28 s 12)] M28 (fun M32 => mOk M32 ∧ (Q M32)))))))) := by
  have gs := h.2.1.1.2
  have hO : s + 134 < O := by
    rcases ht.2.2 with u | u
    · omega
    · exact u.1
  have f14 : FI (fun z => z = s) M0 M14 := by rw [e14]; exact FI.ui rfl
  have o14 : mOk M14 := by rw [e14]; exact mOk_UI h.1 ⟨by decide, by decide⟩
  have o16 : mOk M16 := by rw [e16]; exact mOk_UL o14 i64_w64
  have g16 : Fxo (fun x => x = s ∨ x = O) s M0 M16 := (f14.fo.mono (fun _ u => Or.inl u)).trans (Fxo.ul e16)
  have nS : ∀ i, i ≤ 9 → ¬ (g + i = s ∨ g + i = O) := fun i hi u => by omega
  have i16 : mI M16 = mI M14 := by rw [e16]; rfl
  have kp : ∀ x, x ≠ s → mI M16 x = mI M0 x := fun x a1 => by rw [i16]; exact f14.2.2.2.2.2.2 x a1
  have z2 := kp (s + 122) (by omega)
  have z3 := kp (s + 123) (by omega)
  have zj : ∀ j, j ≠ 12 → mI M16 s j = mI M0 s j := fun j hj => by rw [i16, mI_ui s j e14, if_neg (fun u => hj u.2)]
  have L16 : LHs M16 s cn cc := by
    unfold LHs at hL ⊢
    rw [z2, z3]
    exact hL
  refine s_lo16 (h.fo g16 o16 nS) L16 (unk_cg hU (zj 10 (by decide)) z2 z3 (kp _ (by omega)) (kp _ (by omega)) (kp _ (by omega))) (by rw [g16.2.2.1]; exact ht.1.1) (by rw [g16.1]; exact ht.1.2.1) (by rw [g16.2.1]; exact ht.1.2.2) hO (by rw [i16, mI_ui s 12 e14, if_pos ⟨rfl, rfl⟩]) (fun M hM => hQ M ?_)
  obtain ⟨a1, a2, a3, a4⟩ := hM
  exact ⟨a1, g16.trans a2, fun j b1 b2 => by rw [a3 j b1 b2]; exact zj j b1, a4⟩
/-- the list stays, or is a new one -/
def gr1 (s : Nat) (M M' : mM) (O n O' n' : Nat) : Prop := (M' = M ∧ O' = O ∧ n' = n) ∨ (n = 0 ∧ Gro s M M' ∧ O' = mZ M ∧ n' = 2400)
theorem s_So_listOthers (h : Sva L W s g a R k cn cc bc M) (hz : s + 134 < mZ M) (hL : LHs M s cn cc) (hU : Unk M s cn un) (ht : Ot L M s O n) : Cv G y_So_listOthers (d + 2) [vr s] M (fun M' => ∃ (M5 : mM) (O' : Nat), gr1 s M M5 O n O' 2400 ∧ Sva L W s g a R k cn cc bc M5 ∧ Ot L M5 s O' 2400 ∧ loP s un O' M5 M') := by
  have s0 := h.1.2.1.1.1
  refine k_So_listOthers h.1.1 ?_
  rw [ht.1.1, ht.1.2.2]
  have n24 : n = 0 ∨ n = 2400 := by
    rcases ht.2.2 with u | u
    · exact Or.inl u.2
    · exact Or.inr u.2
  refine ⟨s0, ht.1.2.1, ⟨by omega, by omega⟩, fun u M9 e9 => ?_, fun u M35 e35 M37 e37 => ?_⟩
  · have zs := (h.2.2.1 s (Or.inl rfl)).1
    refine ⟨by rw [e9, mK_New, if_neg (by omega)]; exact s0, fun M12 e12 M14 e14 M16 e16 => ?_⟩
    have gq : Gro s M M12 := by
      unfold Gro
      rw [e12, e9]
    obtain ⟨S12, T12, -, I12, -⟩ := h.gro hz gq
    have st : ∀ x, Stb s x → mI M12 x = mI M x := fun x hx => I12 x (h.2.2.1 x hx).1
    have L12 : LHs M12 s cn cc := by
      unfold LHs at hL ⊢
      rw [st _ st122.1, st _ st122.2.1]
      exact hL
    have U12 : Unk M12 s cn un := unk_cg hU (by rw [st s (Or.inl rfl)]) (st _ st122.1) (st _ st122.2.1) (st _ st124) (st _ st122.2.2) (st _ st126)
    exact s_lo12 (d := d) S12.1 L12 U12 T12 e14 e16 (fun M' hM => ⟨M12, mZ M, Or.inr ⟨by omega, gq, rfl, rfl⟩, S12, T12, hM⟩)
  · have en : n = 2400 := by omega
    subst en
    exact s_lo12 (d := d) h.1 hL hU ht e35 e37 (fun M' hM => ⟨M, O, Or.inl ⟨rfl, rfl, rfl⟩, h, ht, hM⟩)
end NBYD
