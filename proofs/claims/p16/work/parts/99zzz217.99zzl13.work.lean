/-! The class's Solver: workOut. -/
section NBZ
variable {G : mG} {d s g a R R' cn cc bc i k k' n c un x y B O O' n' oc mo : Nat} {M M0 M' M1 M2 M3 M5 : mM} {L L' : List Nat} {W : Nat → Nat} {wt : Nat → Nat}
/-- between the rounds -/
def loI (L : List Nat) (W : Nat → Nat) (s g a R k cn cc bc un : Nat) (wt : Nat → Nat) (M0 M : mM) : Prop := NX L W (Tso s M0 R cn) (Cso s M0 R cn) True (s + 1) M0 M ∧ Sva L W s g a R k cn cc bc M ∧ mR M R = mR M0 R ∧ (Rsm M R cn 17 ∧ Rt1 M R cn) ∧ LHs M s cn cc ∧ Unk M s cn un ∧ (∀ i, i < un → wtO M s g i (wt i) ∧ wt i ≤ 33) ∧ mI M (s + 30) = mI M0 (s + 30)
theorem tso_e (e : mR M R = mR M0 R) : Tso s M R cn = Tso s M0 R cn ∧ Cso s M R cn = Cso s M0 R cn := by
  constructor
  · funext z
    unfold Tso Trw
    rw [e]
  · funext z
    unfold Cso Irw
    rw [e]
theorem lhs_same (h : LHs M s cn cc) (e2 : mI M' (s + 122) = mI M (s + 122)) (e3 : mI M' (s + 123) = mI M (s + 123)) : LHs M' s cn cc := by
  unfold LHs at h ⊢
  rw [e2, e3]
  exact h
theorem wto_same (h : wtO M s g i n) (e2 : mI M' (s + 122) = mI M (s + 122)) (e3 : mI M' (s + 123) = mI M (s + 123)) (e5 : mI M' (s + 125) = mI M (s + 125)) (e6 : mI M' (g + 6) = mI M (g + 6)) : wtO M' s g i n := by
  unfold wtO at h ⊢
  rw [e2, e3, e5, e6]
  exact h
theorem lo_ev (hI : loI L W s g a R k cn cc bc un wt M0 M) (hcn : cn ≤ k) (e : evI L W s g a R k cn cc bc M M') : loI L W s g a R k cn cc bc un wt M0 M' := by
  obtain ⟨hN, hS, eR, ⟨hr, ht⟩, hL, hU, hw, h30⟩ := hI
  obtain ⟨q, S1, eR1, st, r1, ti, gi⟩ := e
  obtain ⟨eT, eC⟩ := tso_e (s := s) (cn := cn) eR
  have hF := hS.2.1.1
  have q' : NX L W (Tso s M R cn) (Cso s M R cn) True (s + 1) M M' := q.mono hF (fun _ u => u) (hS.tl hcn) (fun x u => u.so) (hS.cl hcn) (fun u => u.elim)
  rw [eT, eC] at q'
  have e2 := st (s + 122) st122.1
  have e3 := st (s + 123) st122.2.1
  have e5 := st (s + 125) st122.2.2
  refine ⟨hN.trans q', S1, by rw [eR1, eR], ⟨r1, fun i hi => by rw [eR1, ti i hi]; exact ht i hi⟩, lhs_same hL e2 e3, unk_same hU (fun x hx _ => st x hx) (st (s + 126) st126), fun i hi => ⟨wto_same (hw i hi).1 e2 e3 e5 (gi 6 (by decide)), (hw i hi).2⟩, (st (s + 30) st30).trans h30⟩
theorem lo_im (hI : loI L W s g a R k cn cc bc un wt M0 M) (hcn : cn ≤ k) (e : imI L W s g a R k cn cc bc un M M') : loI L W s g a R k cn cc bc un wt M0 M' := by
  obtain ⟨hN, hS, eR, ⟨hr, ht⟩, hL, hU, hw, h30⟩ := hI
  obtain ⟨q, S1, eR1, st, r1, U1⟩ := e
  obtain ⟨eT, eC⟩ := tso_e (s := s) (cn := cn) eR
  have hF := hS.2.1.1
  have q' : NX L W (Tso s M R cn) (Cso s M R cn) True (s + 1) M M' := q.mono hF (fun _ u => Or.inl u) (hS.tl hcn) (fun x u => u.so) (hS.cl hcn) (fun u => u)
  have gi := (hS.nx hcn q' S1.2.1.2.1).2.1
  rw [eT, eC] at q'
  have e2 := st (s + 122) st122.1 (by omega)
  have e3 := st (s + 123) st122.2.1 (by omega)
  have e5 := st (s + 125) st122.2.2 (by omega)
  exact ⟨hN.trans q', S1, by rw [eR1, eR], r1, lhs_same hL e2 e3, U1, fun i hi => ⟨wto_same (hw i hi).1 e2 e3 e5 (gi 6 (by decide)), (hw i hi).2⟩, (st (s + 30) st30 (by omega)).trans h30⟩
/-- the list's growth keeps the Solver -/
theorem gr1.kp (h : Sva L W s g a R k cn cc bc M) (hz : s + 134 < mZ M) (ht : Ot L M s O n) (q : gr1 s M M5 O n O' n') : Sva L W s g a R k cn cc bc M5 ∧ Ot L M5 s O' n' ∧ (∀ b, b ∈ L → nv M5 b = nv M b) ∧ (∀ x, x < mZ M → mI M5 x = mI M x) ∧ mR M5 R = mR M R ∧ mZ M ≤ mZ M5 := by
  rcases q with ⟨e, e1, e2⟩ | ⟨-, gq, e1, e2⟩
  · rw [e, e1, e2]
    exact ⟨h, ht, fun _ _ => rfl, fun _ _ => rfl, rfl, Nat.le_refl _⟩
  · obtain ⟨a1, a2, a3, a4, a5⟩ := h.gro hz gq
    rw [e1, e2]
    exact ⟨a1, a2, fun b hb => (a3 b hb).1, a4, a5, by have := gq.new.2.2.1; omega⟩
def Co2 (s : Nat) (M : mM) (R n O x : Nat) : Prop := Cso s M R n x ∨ x = O
/-- over the rounds in which one state betters its choice -/
def lo2 (L : List Nat) (W : Nat → Nat) (s g a R k cn cc bc O : Nat) (M0 M : mM) : Prop := NX L W (Tso s M0 R cn) (Co2 s M0 R cn O) True (s + 1) M0 M ∧ Sva L W s g a R k cn cc bc M ∧ mR M R = mR M0 R ∧ (Rsm M R cn 17 ∧ Rt1 M R cn) ∧ mI M (s + 30) = mI M0 (s + 30)
/-- between these rounds -/
def lo3 (L : List Nat) (W : Nat → Nat) (s g a R k cn cc bc O un : Nat) (wt : Nat → Nat) (M0 M : mM) : Prop := lo2 L W s g a R k cn cc bc O M0 M ∧ LHs M s cn cc ∧ Unk M s cn un ∧ (∀ i, i < un → wtO M s g i (wt i) ∧ wt i ≤ 33) ∧ ∃ oc mo : Nat, Oth M s un O oc mo
theorem co2_e (e : mR M R = mR M0 R) : Co2 s M R cn O = Co2 s M0 R cn O := by
  funext z
  show (Cso s M R cn z ∨ z = O) = (Cso s M0 R cn z ∨ z = O)
  rw [(tso_e (s := s) (cn := cn) e).2]
theorem nx_oth {T C : Nat → Prop} {r : Prop} (os : Oc L M s) (q : NX L W T C r (s + 1) M M') (oO : Oc L M O) (hO : s + 134 < O) (nC : ¬ C O) (e0 : mI M' s = mI M s) (e2 : mI M' (s + 122) = mI M (s + 122)) (e3 : mI M' (s + 123) = mI M (s + 123)) (e5 : mI M' (s + 125) = mI M (s + 125)) (h : Oth M s un O oc mo) : Oth M' s un O oc mo := by
  obtain ⟨a1, a2, -, a4⟩ := q.oth oO (by omega)
  obtain ⟨-, -, b3, -⟩ := q.oth os (by omega)
  obtain ⟨⟨h1, h2, h3⟩, ⟨h4, h5, h6⟩, h7⟩ := h
  refine ⟨⟨by rw [b3]; exact h1, by rw [a1]; exact h2, by rw [a2]; exact h3⟩, ⟨by rw [e0]; exact h4, by rw [e0]; exact h5, h6⟩, fun j hj => ?_⟩
  rw [a4 nC]
  exact (h7 j hj).cg e2 e3 e5
theorem lo3_ev (hI : lo3 L W s g a R k cn cc bc O un wt M0 M) (hcn : cn ≤ k) (hF0 : NF L W M0) (oO : Oc L M0 O) (hO : s + 134 < O) (e : evI L W s g a R k cn cc bc M M') : lo3 L W s g a R k cn cc bc O un wt M0 M' := by
  obtain ⟨⟨hN, hS, eR, ⟨hr, ht⟩, h30⟩, hL, hU, hw, oc, mo, hH⟩ := hI
  obtain ⟨q, S1, eR1, st, r1, ti, gi⟩ := e
  have eT := (tso_e (s := s) (cn := cn) eR).1
  have eC := co2_e (s := s) (cn := cn) (O := O) eR
  have hF := hS.2.1.1
  have oM := hN.oc hF0 oO
  have q' : NX L W (Tso s M R cn) (Co2 s M R cn O) True (s + 1) M M' := q.mono hF (fun _ u => u) (hS.tl hcn) (fun x u => Or.inl u.so) (fun x u => u.elim (hS.cl hcn x) (fun u => by rw [u]; exact oM)) (fun u => u.elim)
  rw [eT, eC] at q'
  have e2 := st (s + 122) st122.1
  have e3 := st (s + 123) st122.2.1
  have e5 := st (s + 125) st122.2.2
  refine ⟨⟨hN.trans q', S1, by rw [eR1, eR], ⟨r1, fun i hi => by rw [eR1, ti i hi]; exact ht i hi⟩, (st (s + 30) st30).trans h30⟩, lhs_same hL e2 e3, unk_same hU (fun x hx _ => st x hx) (st (s + 126) st126), fun i hi => ⟨wto_same (hw i hi).1 e2 e3 e5 (gi 6 (by decide)), (hw i hi).2⟩, oc, mo, nx_oth (hS.2.2.1 s (Or.inl rfl)) q oM hO (fun u => ?_) (st s (Or.inl rfl)) e2 e3 e5 hH⟩
  unfold Cev S36 at u
  omega
theorem lo3_i1 (hI : lo3 L W s g a R k cn cc bc O un wt M0 M) (hcn : cn ≤ k) (hF0 : NF L W M0) (oO : Oc L M0 O) (e : i1I L W s g a R k cn cc bc un O oc mo M M') : lo3 L W s g a R k cn cc bc O un wt M0 M' := by
  obtain ⟨⟨hN, hS, eR, -, h30⟩, hL, hU, hw, -⟩ := hI
  obtain ⟨q, S1, eR1, st, r1, U1, H1, gi⟩ := e
  have eT := (tso_e (s := s) (cn := cn) eR).1
  have eC := co2_e (s := s) (cn := cn) (O := O) eR
  have hF := hS.2.1.1
  have oM := hN.oc hF0 oO
  have q' : NX L W (Tso s M R cn) (Co2 s M R cn O) True (s + 1) M M' := q.mono hF (fun _ u => u.elim Or.inl (fun u => Or.inr (Or.inr (Or.inl u)))) (hS.tl hcn) (fun x u => by
    rcases u with u | u | u
    · exact Or.inl u.so
    · exact Or.inl (Or.inr (Or.inl (by rw [u]; exact st126)))
    · exact Or.inr u) (fun x u => u.elim (hS.cl hcn x) (fun u => by rw [u]; exact oM)) (fun u => u.elim)
  rw [eT, eC] at q'
  have e2 := st (s + 122) st122.1 (by omega) (by omega)
  have e3 := st (s + 123) st122.2.1 (by omega) (by omega)
  have e5 := st (s + 125) st122.2.2 (by omega) (by omega)
  exact ⟨⟨hN.trans q', S1, by rw [eR1, eR], r1, (st (s + 30) st30 (by omega) (by omega)).trans h30⟩, lhs_same hL e2 e3, U1, fun i hi => ⟨wto_same (hw i hi).1 e2 e3 e5 (gi 6 (by decide)), (hw i hi).2⟩, oc, mo, H1⟩
/-- the rounds in which one state betters its choice -/
theorem s_wo102 {Q : Int → mM → Prop} (hF0 : NF L W M0) (hcn : cn ≤ k) (hk : k ≤ 512) (h480 : wsu wt un ≤ 480) (hWr : ∀ i, i < k → 17 ≤ W (mR M0 R i + 1) ∧ 17 ≤ W (mR M0 R i + 3)) (hWs : ∀ x, Trs (s + 31) x → 40 ≤ W x) (hW : ∀ x, Tat s x → B ≤ W x) (b1 : 300 ≤ B) (hB : B ≤ 16000) (oO : Oc L M0 O) (hO : s + 134 < O)
    (hQ : ∀ M M66, lo2 L W s g a R k cn cc bc O M0 M → M66 = mUI M a 1 1 → Q 0 M66) : ∀ (t rn : Nat) (bt : Int) (M : mM), 4611686018427387904 ≤ rn + t → rn ≤ 4611686018427387904 → (bt = 0 ∨ bt = 1) → lo3 L W s g a R k cn cc bc O un wt M0 M → h_So_workOut_102 G (d + 7) s a bt rn M Q := by
  intro t
  induction t with
  | zero =>
    intro rn bt M h1 h2 hb hI
    have hS := hI.1.2.1
    exact k_So_workOut_102 hS.1.1 (m_b32 hb) ⟨by omega, by omega⟩ ⟨fun _ => ⟨hS.2.2.2.2.1.1, fun M66 e66 => hQ M M66 hI.1 e66⟩, fun u => absurd (Or.inl ((cmpz _ _).1.mpr (by omega))) u⟩
  | succ t ih =>
    intro rn bt M h1 h2 hb hI
    obtain ⟨⟨hN, hS, eR, hr, -⟩, hL, hU, hw, -⟩ := id hI
    refine k_So_workOut_102 hS.1.1 (m_b32 hb) ⟨by omega, by omega⟩ ⟨fun _ => ⟨hS.2.2.2.2.1.1, fun M66 e66 => hQ M M66 hI.1 e66⟩, fun u => ⟨hS.1.2.1.1.1, ?_⟩⟩
    rw [show (((rn : Nat) : Int) + 1) = ((rn + 1 : Nat) : Int) by omega]
    have rl : rn < 4611686018427387904 := by
      by_cases c : (4611686018427387904 : Int) ≤ rn
      · exact absurd (Or.inl ((cmpz _ _).1.mpr c)) u
      · omega
    refine (s_So_evaluate (d := d + 1) (wt := wt) hS hcn hk hL hU hw h480 hr.1 (fun i hi => by rw [eR]; exact hWr i hi) hWs).mono (fun M70 q => ?_)
    have I70 := lo3_ev hI hcn hF0 oO hO q
    obtain ⟨⟨N70, S70, -, r70, -⟩, L70, U70, -, oc, mo, H70⟩ := id I70
    refine ⟨S70.1.1, S70.1.2.1.1.1, (s_So_improveOne (d := d + 1) S70 hcn hk L70 U70 r70 H70 (N70.oc hF0 oO) hO hW b1 hB).mono (fun x75 M74 q2 => ?_)⟩
    obtain ⟨x01, i74⟩ := q2
    have I74 := lo3_i1 I70 hcn hF0 oO i74
    exact ⟨m_b32 x01, I74.1.2.1.1.1, ih (rn + 1) x75 M74 (by omega) (by omega) x01 I74⟩
/-- the first of these rounds begins -/
theorem lo3_go (hI : loI L W s g a R k cn cc bc un wt M0 M) (hcn : cn ≤ k) (hz : s + 134 < mZ M) (ht : Ot L M s O n) (gr : gr1 s M M5 O n O' 2400) (S5 : Sva L W s g a R k cn cc bc M5) (T5 : Ot L M5 s O' 2400) (hO : s + 134 < O') (hP : loP s un O' M5 M') : lo3 L W s g a R k cn cc bc O' un wt M5 M' := by
  obtain ⟨-, hS, -, ⟨hr, ht1⟩, hL, hU, hw, -⟩ := hI
  obtain ⟨-, -, nv5, I5, R5, -⟩ := gr.kp hS hz ht
  obtain ⟨o', ff, ij, hH⟩ := hP
  have hF5 := S5.2.1.1
  have gs := S5.1.2.1.1.2
  have os := S5.2.2.1 s (Or.inl rfl)
  obtain ⟨nx, nvs⟩ := ff.nx (T := Tso s M5 R cn) (r := False) S5.1.1 o' hF5 (S5.tl hcn) (fun x u => by
    rcases u with u | u
    · rw [u]; exact os
    · rw [u]; exact T5.2.1) S5.z9
  obtain ⟨S', gi, eR⟩ := S5.nxg nx (fun i hi u => by omega) (nx.sk hF5 S5.2.1.2.1)
  have q' : NX L W (Tso s M5 R cn) (Co2 s M5 R cn O') True (s + 1) M5 M' := nx.mono hF5 (fun _ u => u) (S5.tl hcn) (fun x u => by
    rcases u with u | u
    · exact Or.inl (Or.inr (Or.inl (Or.inl u)))
    · exact Or.inr u) (fun x u => u.elim (S5.cl hcn x) (fun u => by rw [u]; exact T5.2.1)) (fun u => u.elim)
  have kp : ∀ x, x < mZ M → x ≠ s → x ≠ O' → mI M' x = mI M x := fun x a1 a2 a3 => by
    rw [ff.2.2.2.2.2.2 x (fun u => u.elim a2 a3)]
    exact I5 x a1
  have st : ∀ x, Stb s x → x ≠ s → mI M' x = mI M x := fun x hx nx => kp x (hS.2.2.1 x hx).1 nx (by unfold Stb at hx; omega)
  have e0 : mI M' s 10 = mI M s 10 := by
    rw [ij 10 (by decide) (by decide), I5 s (hS.2.2.1 s (Or.inl rfl)).1]
  have e2 := st (s + 122) st122.1 (by omega)
  have e3 := st (s + 123) st122.2.1 (by omega)
  have e5 := st (s + 125) st122.2.2 (by omega)
  have rows := hS.2.2.2.2.1.2.2.2.2.2
  refine ⟨⟨q', S', eR, ⟨fun i hi => ?_, fun i hi => ?_⟩, ?_⟩, lhs_same hL e2 e3, unk_cg hU e0 e2 e3 (st _ st124 (by omega)) e5 (st _ st126 (by omega)), fun i hi => ⟨wto_same (hw i hi).1 e2 e3 e5 ?_, (hw i hi).2⟩, hH⟩
  · have f := rows i (by omega)
    rw [eR, R5, nvs _ f.2.1, nvs _ f.2.2, nv5 _ f.2.1, nv5 _ f.2.2]
    exact hr i hi
  · have f := rows i (by omega)
    have hb := hS.2.2.2.2.2.1 i (by omega)
    rw [eR, R5, kp _ f.1.2.2 (by omega) (fun u => ?_)]
    · exact ht1 i hi
    · have kO := T5.1.2.1
      have k5 := (S5.2.2.2.2.1.2.2.2.2.2 i (by omega)).1.1
      rw [R5, u, kO] at k5
      exact absurd k5 (by decide)
  · rw [ff.2.2.2.2.2.2 (s + 30) (fun u => by omega)]
  · rw [gi 6 (by decide), I5 _ (hS.2.2.2.1 6 (by decide)).1]
/-- the rounds -/
theorem s_wo45 {Q : Int → mM → Prop} (hF0 : NF L W M0) (os0 : Oc L M0 s) (hz : s + 134 < mZ M0) (ht0 : Ot L M0 s O n) (hcn : cn ≤ k) (hk : k ≤ 512) (h480 : wsu wt un ≤ 480) (hWr : ∀ i, i < k → 17 ≤ W (mR M0 R i + 1) ∧ 17 ≤ W (mR M0 R i + 3)) (hWs : ∀ x, Trs (s + 31) x → 40 ≤ W x) (hW : ∀ x, Tat s x → B ≤ W x) (b1 : 300 ≤ B) (hB : B ≤ 16000)
    (hQ : ∀ (M4 M5 M6 M66 : mM) (O' n' : Nat), loI L W s g a R k cn cc bc un wt M0 M4 → gr1 s M4 M5 O n O' n' → lo2 L W s g a R k cn cc bc O' M5 M6 → M66 = mUI M6 a 1 1 → Q 0 M66) : ∀ (t rn : Nat) (bt : Int) (M : mM), 100 ≤ rn + t → rn ≤ 100 → (bt = 0 ∨ bt = 1) → loI L W s g a R k cn cc bc un wt M0 M → h_So_workOut_45 G (d + 7) s a bt rn M Q := by
  have ex : ∀ (bt : Int) (M : mM), (bt = 0 ∨ bt = 1) → loI L W s g a R k cn cc bc un wt M0 M → (((bt = 0) → (h_So_workOut_102 G (d + 7) s a bt 0 M Q)) ∧ (¬ (bt = 0) → (mK M s = 8 ∧ Cv G y_So_listOthers (d + 7) [vr s] M (fun M33 => mOk M33 ∧ (h_So_workOut_102 G (d + 7) s a bt 0 M33 Q))))) := fun bt M hb hI => by
    obtain ⟨hN, hS, eR, hr, hL, hU, hw, -⟩ := id hI
    have htM := ht0.nx hN hF0 os0
    have zM : s + 134 < mZ M := Nat.lt_of_lt_of_le hz hN.2.2.1.1.1
    refine ⟨fun b0 => ?_, fun b0 => ⟨hS.1.2.1.1.1, ?_⟩⟩
    · refine k_So_workOut_102 hS.1.1 (m_b32 hb) ⟨by decide, by decide⟩ ⟨fun _ => ⟨hS.2.2.2.2.1.1, fun M66 e66 => hQ M M M M66 O n hI (Or.inl ⟨rfl, rfl, rfl⟩) ⟨NX.refl hS.1.1 hS.2.1.1 (hS.tl hcn) (fun x u => u.elim (hS.cl hcn x) (fun u => by rw [u]; exact htM.2.1)) hS.z9, hS, rfl, hr, rfl⟩ e66⟩, fun u => absurd (Or.inr b0) u⟩
    · refine (s_So_listOthers (d := d + 5) hS zM hL hU htM).mono (fun M33 q => ?_)
      obtain ⟨M5, O', gr, S5, T5, hP⟩ := q
      have hO : s + 134 < O' := by
        rcases T5.2.2 with u | u
        · omega
        · exact u.1
      have eR5 : mR M5 R = mR M0 R := by rw [(gr.kp hS zM htM).2.2.2.2.1, eR]
      refine ⟨hP.1, ?_⟩
      show h_So_workOut_102 G (d + 7) s a bt ((0 : Nat) : Int) M33 Q
      exact s_wo102 (d := d) (wt := wt) (un := un) S5.2.1.1 hcn hk h480 (fun i hi => by rw [eR5]; exact hWr i hi) hWs hW b1 hB T5.2.1 hO (fun M6 M66 l2 e66 => hQ M M5 M6 M66 O' 2400 hI gr l2 e66) 4611686018427387904 0 bt M33 (by omega) (by omega) hb (lo3_go hI hcn zM htM gr S5 T5 hO hP)
  intro t
  induction t with
  | zero =>
    intro rn bt M h1 h2 hb hI
    have hS := hI.2.1
    exact k_So_workOut_45 hS.1.1 (m_b32 hb) ⟨by omega, by omega⟩ ⟨fun _ => ex bt M hb hI, fun u => absurd (Or.inl (by omega)) u⟩
  | succ t ih =>
    intro rn bt M h1 h2 hb hI
    obtain ⟨hN, hS, eR, hr, hL, hU, hw, -⟩ := id hI
    refine k_So_workOut_45 hS.1.1 (m_b32 hb) ⟨by omega, by omega⟩ ⟨fun _ => ex bt M hb hI, fun u => ⟨hS.1.2.1.1.1, ?_⟩⟩
    rw [show ((rn : Int) + 1) = ((rn + 1 : Nat) : Int) by omega]
    have rl : rn < 100 := by
      by_cases c : (100 : Int) ≤ rn
      · exact absurd (Or.inl c) u
      · omega
    refine (s_So_evaluate (d := d + 1) (wt := wt) hS hcn hk hL hU hw h480 hr.1 (fun i hi => by rw [eR]; exact hWr i hi) hWs).mono (fun M34 q => ?_)
    have I34 := lo_ev hI hcn q
    obtain ⟨-, S34, -, r34, L34, U34, -⟩ := id I34
    refine ⟨S34.1.1, S34.1.2.1.1.1, (s_So_improve (d := d) (pl := 2) ⟨by decide, by decide⟩ S34 hcn hk L34 U34 r34 (fun x hx => hW x (Or.inl hx)) b1 hB).mono (fun x39 M38 q2 => ?_)⟩
    obtain ⟨x01, im38⟩ := q2
    have I38 := lo_im I34 hcn im38
    obtain ⟨-, S38, -, r38, L38, U38, -⟩ := id I38
    refine ⟨m_b32 x01, S38.1.1, fun _ => ⟨S38.1.2.1.1.1, (s_So_improve (d := d) (pl := 1) ⟨by decide, by decide⟩ S38 hcn hk L38 U38 r38 (fun x hx => hW x (Or.inl hx)) b1 hB).mono (fun x46 M45 q3 => ?_)⟩, fun _ => ih (rn + 1) 1 M38 (by omega) (by omega) (Or.inr rfl) I38⟩
    obtain ⟨x01', im45⟩ := q3
    have I45 := lo_im I38 hcn im45
    exact ⟨m_b32 x01', I45.2.1.1.1, fun v49 e49 => ih (rn + 1) v49 M45 (by omega) (by omega) (by rw [e49]; split <;> omega) I45⟩
/-- the first part of workOut: tables alone have changed -/
def woI (L : List Nat) (W : Nat → Nat) (s g a R k cn cc bc : Nat) (M0 M : mM) : Prop := mOk M ∧ FI (Sta s a) M0 M ∧ Sva L W s g a R k cn cc bc M ∧ mI M (s + 30) = mI M0 (s + 30) ∧ mI M a 1 = 0
/-- what workOut leaves behind -/
def wkoQ (L : List Nat) (W : Nat → Nat) (s g a R k cn cc bc O n : Nat) (M0 : mM) (x : Int) (M' : mM) : Prop := ((x = 5 ∨ x = 6) ∧ woI L W s g a R k cn cc bc M0 M') ∨ (x = 0 ∧ ∃ M1 L' R' k' M2 M3 un wt M4 M5 O' n' M6, woI L W s g a R k cn cc bc M0 M1 ∧ Gw L W a M1 L' M2 ∧ Te L' W (s + 1) g a R' k' M2 ∧ ((M2 = M1 ∧ L' = L ∧ R' = R ∧ k' = k) ∨ rvG L M1 R k L' M2 R' k') ∧ (cn ≤ k' ∧ k ≤ k' ∧ k' ≤ 512) ∧ (∀ i, i < k → mR M2 R' i = mR M1 R i) ∧ (∀ i, k ≤ i → i < k' → mR M2 R' i = mZ M1 + 1 + 5 * (i - k) ∧ mI M2 (mZ M1 + 1 + 5 * (i - k)) 2 = 1) ∧ NL L' W (Trw M2 R' cn) (Irw M2 R' cn) False (s + 1) M2 M3 ∧ loI L' W s g a R' k' cn cc bc un wt M3 M4 ∧ gr1 s M4 M5 O n O' n' ∧ lo2 L' W s g a R' k' cn cc bc O' M5 M6 ∧ M' = mUI M6 a 1 1 ∧ mI M' (s + 30) = mI M0 (s + 30))
theorem s_So_workOut {kp : Int} (hkp : i32 kp) (h : Sva L W s g a R k cn cc bc M) (hot : Ot L M s O n) (hk : k ≤ 512) (hz : s + 134 < mZ M) (ht : Tld M g cn kp) (hWr : ∀ i, i < k → 17 ≤ W (mR M R i + 1) ∧ 17 ≤ W (mR M R i + 3)) (hWn : ∀ x, mZ M < x → 17 ≤ W x ∧ W x ≤ 20000) (hWs : ∀ x, Trs (s + 31) x → 40 ≤ W x) (hW : ∀ x, Tat s x → B ≤ W x) (b1 : 300 ≤ B) (hB : B ≤ 16000) : Ci G y_So_workOut (d + 8) [vr s, vi kp, vr a] M (fun x M' => wkoQ L W s g a R k cn cc bc O n M x M' ∧ (kp = 0 → kdT (xtm M g cn) → svA9 (xtm M g cn) x)) := by
  have gst : ∀ i, i ≤ 9 → ¬ Sta s a (g + i) := fun i hi => h.gst hi
  have nas : ∀ x, Stb s x → x ≠ a := fun x hx e => by
    have ka := h.2.2.2.2.1.1
    obtain ⟨⟨-, ⟨⟨s0, -⟩, -, ⟨k1, k2, k3, k4, k5, k6, k7, k8, k9⟩, -⟩, -⟩, -⟩ := id h
    rw [← e] at ka
    unfold Stb at hx
    rcases hx with u | u | u | u | u | u | u | u | u | u <;> rw [u] at ka <;> omega
  refine k_So_workOut h.1.1 hkp ⟨h.2.2.2.2.1.1, fun M2 e2 => ?_⟩
  have f2 : FI (Sta s a) M M2 := by rw [e2]; exact FI.ui (Or.inl rfl)
  have o2 : mOk M2 := by rw [e2]; exact mOk_UI h.1.1 ⟨by decide, by decide⟩
  have S2 := (h.fi f2 o2).1
  have g2 : ∀ i, i ≤ 9 → mI M2 (g + i) = mI M (g + i) := fun i hi => f2.2.2.2.2.2.2 _ (gst i hi)
  refine ⟨S2.1.2.1.1.1, (s_So_leaveCommands (d := d + 7) hkp S2.1 (fun h0 j hj e x y f1 f4 => ?_)).mono (fun M5 q => ?_)⟩
  · rw [g2 2 (by decide)] at e
    rw [g2 4 (by decide)] at f1 f4
    rw [g2 3 (by decide)]
    exact ht h0 j hj e x y f1 f4
  obtain ⟨f5, sg5, L5, X5⟩ := q
  have f5' : FI (Sta s a) M2 M5 := f5.mono (fun z u => Or.inr (u.elim (fun u => by rw [u]; exact st122.1) (fun u => by rw [u]; exact st122.2.1)))
  have S5 := (S2.fi f5' sg5.1).1
  refine ⟨sg5.1, sg5.2.1.1.1, (x_So_findUnknown (d := d + 5) sg5 L5).mono (fun x10 M9 q => ?_)⟩
  obtain ⟨un, ⟨f9, sg9, L9, U9, mb9, su9⟩, hres⟩ := q
  have x01 : x10 = 0 ∨ x10 = 1 := by
    rcases hres with ⟨u, -⟩ | ⟨u, -⟩
    · exact Or.inr u
    · exact Or.inl u
  have f9' : FI (Sta s a) M5 M9 := f9.mono (fun z u => Or.inr (by
    rcases u with u | u | u | u
    · exact Or.inl u
    · exact Or.inr (Or.inr (Or.inr (Or.inr (Or.inr (Or.inl u)))))
    · rw [u]; exact st122.2.2
    · rw [u]; exact st126))
  have S9 := (S5.fi f9' sg9.1).1
  have e30 : mI M9 (s + 30) = mI M (s + 30) := by
    rw [f9.2.2.2.2.2.2 (s + 30) (fun u => by unfold Sun at u; omega), f5.2.2.2.2.2.2 (s + 30) (fun u => by unfold S56 at u; omega)]
    funext j
    rw [mI_ui _ j e2, if_neg (fun u => nas (s + 30) st30 u.1)]
  have a56 : ¬ S56 s a := fun u => u.elim (fun u => nas (s + 122) st122.1 u.symm) (fun u => nas (s + 123) st122.2.1 u.symm)
  have aSn : ¬ Sun s a := fun u => by
    rcases u with u | u | u | u
    · exact nas s (Or.inl rfl) u.symm
    · exact nas (s + 124) (Or.inr (Or.inr (Or.inr (Or.inr (Or.inr (Or.inl rfl)))))) u.symm
    · exact nas (s + 125) st122.2.2 u.symm
    · exact nas (s + 126) st126 u.symm
  have fl0 : mI M9 a 1 = 0 := by rw [f9.2.2.2.2.2.2 a aSn, f5.2.2.2.2.2.2 a a56, mI_ui a 1 e2, if_pos ⟨rfl, rfl⟩]
  have I9 : woI L W s g a R k cn cc bc M M9 := ⟨sg9.1, (f2.trans f5').trans f9', S9, e30, fl0⟩
  have clt : kp = 0 → kdT (xtm M g cn) → ClT M9 s g cn (xtm M g cn) := fun k0 kd => by
    refine clt_of (M := M) h.1.2.2.2.2 (fun k hk => ?_) (fun i hi => I9.2.1.2.2.2.2.2.2 _ (gst i hi)) kd
    obtain ⟨a1, a2⟩ := X5 k0 k hk
    rw [f9.2.2.2.2.2.2 (s + 122) (fun u => by unfold Sun at u; omega), f9.2.2.2.2.2.2 (s + 123) (fun u => by unfold Sun at u; omega), ← g2 4 (by decide)]
    exact ⟨a1, a2⟩
  have cn5 : cn ≤ 512 := h.1.2.2.2.2.1.1
  refine ⟨m_b32 x01, sg9.1, fun z => ⟨Or.inl ⟨Or.inl rfl, I9⟩, fun k0 kd => ?_⟩, fun z => ⟨sg9.2.1.1.1, (x_So_weights (d := d + 6) sg9 L9 U9).mono (fun x16 M15 q => ?_)⟩⟩
  · rcases hres with ⟨u, -⟩ | ⟨-, e40, k9, hk9, k90, lo9, hi9, l91, l92, hco⟩
    · exact absurd (z.symm.trans u) (by decide)
    · subst e40
      exact cl_many (clt k0 kd) U9.2.2.1 cn5 mb9 su9 hk9 k90 l91 l92 hco (fun J' hc j a b => cl_inn (clt k0 kd) U9.2.2.1 cn5 mb9 hc j ⟨a, b⟩)
  have hno : noM M9 s g cn 0 := by
    rcases hres with ⟨-, u⟩ | ⟨u, -⟩
    · exact u
    · exact absurd u z
  obtain ⟨e15, wt, ew, hw0⟩ := q
  have hw : ∀ i, i < un → wtO M9 s g i (wt i) ∧ wt i ≤ 33 := fun i hi => ⟨(hw0 i hi).1.wto, (hw0 i hi).2⟩
  have few : ∀ r : Int, ((480 < ((wsu wt un : Nat) : Int) ∧ r = 6) ∨ (((wsu wt un : Nat) : Int) ≤ 480 ∧ r = 0)) → kp = 0 → kdT (xtm M g cn) → svA9 (xtm M g cn) r := fun r hr k0 kd => cl_few (clt k0 kd) U9.2.2.1 cn5 U9.2.1 mb9 su9 hno (fun i hi => by
    obtain ⟨k9, c9, lo9, hi9, q1, q2, -⟩ := U9.2.2.2 i hi
    exact ⟨k9, q1, q2⟩) (fun i hi => (hw0 i hi).1) hr
  have w33 : wsu wt un ≤ wsu (fun _ => 33) un := wsu_le un (fun i hi => (hw i hi).2)
  have w33' : ∀ n, wsu (fun _ => 33) n = 33 * n := fun n => by
    induction n with
    | zero => rfl
    | succ n ih => show wsu (fun _ => 33) n + 33 = _; rw [ih]; omega
  rw [w33'] at w33
  have u40 := U9.2.1
  rw [e15, ew]
  refine ⟨⟨by omega, by omega⟩, sg9.1, fun le => ⟨sg9.2.1.1.1, S9.2.2.2.2.1.1, ?_⟩, fun ng => ⟨Or.inl ⟨Or.inr rfl, I9⟩, few 6 (Or.inl ⟨Int.not_le.mp ng, rfl⟩)⟩⟩
  have z9 : mZ M9 = mZ M := I9.2.1.2.2.2.2.1
  have r3 : mR M9 s 3 = g := sg9.2.1.2.1.2.2.2.1
  rw [r3]
  refine (f_begin (d := d + 3) S9.te hk sg9.2.2.2.2.1.1 sg9.2.2.2.2.2.2.2 (fun x hx => by have := hWn x (by omega); omega)).mono (fun M22 q => ?_)
  obtain ⟨L', R', k', MB, gw, te, ⟨c1, c2⟩, gr', p1, p2, nb, bg, -⟩ := q
  have k5 : k' ≤ 512 := by
    rcases gr' with ⟨-, -, -, e⟩ | ⟨-, e, -⟩ <;> omega
  have z133 : s + 134 < mZ M9 := by rw [z9]; exact hz
  have row' : ∀ i, i < k' → s + 134 < mR MB R' i := fun i hi => by
    by_cases c : i < k
    · rw [p1 i c]; exact S9.2.2.2.2.2.1 i c
    · rw [(p2 i (by omega) hi).1]; omega
  obtain ⟨SB, stB, giB⟩ := S9.gw gw te row'
  have FB := SB.2.1.1
  have nbx : NX L' W (Tso s MB R' cn) (Cso s MB R' cn) False (s + 1) MB M22 := (nb.nx FB).mono FB (fun _ u => Or.inr (Or.inr (Or.inr u))) (SB.tl c1) (fun _ u => Or.inr (Or.inr (Or.inr (Or.inr (Or.inr u))))) (SB.cl c1) (fun u => u)
  obtain ⟨S22, gi22, eR22⟩ := SB.nx c1 nbx (nb.sk FB SB.2.1.2.1)
  have st22 : ∀ x, Stb s x → mI M22 x = mI M9 x := fun x hx => by
    have ne : x ≠ s + 1 := by unfold Stb at hx; omega
    rw [((nb.nx FB).oth (SB.2.2.1 x hx) ne).2.2.2 (fun ⟨i, hi, u⟩ => by
      have := row' i (by omega)
      unfold Stb at hx
      omega), stB x hx]
  have e2' := st22 (s + 122) st122.1
  have e3' := st22 (s + 123) st122.2.1
  have e5' := st22 (s + 125) st122.2.2
  have I22 : loI L' W s g a R' k' cn cc bc un wt M22 M22 := by
    refine ⟨NX.refl nb.ok S22.2.1.1 (S22.tl c1) (S22.cl c1) S22.z9, S22, rfl, ⟨fun i hi => ?_, fun i hi => (bg i hi).2.2⟩, lhs_same L9 e2' e3', unk_same U9 (fun x hx _ => st22 x hx) (st22 (s + 126) st126), fun i hi => ⟨wto_same (hw i hi).1 e2' e3' e5' (by rw [gi22 6 (by decide), giB 6 (by decide)]), (hw i hi).2⟩, rfl⟩
    obtain ⟨b1', b3', -⟩ := bg i hi
    have p1' : (1 : Int) < 2 ^ (30 * 17) := Int.lt_of_lt_of_le (show (1 : Int) < 2 ^ (30 * 1) by decide) (p30m (by decide))
    rw [b3']
    exact ⟨by decide, p1', by rcases b1' with e | e <;> rw [e] <;> omega⟩
  have wr' : ∀ i, i < k' → 17 ≤ W (mR M22 R' i + 1) ∧ 17 ≤ W (mR M22 R' i + 3) := fun i hi => by
    rw [eR22]
    by_cases c : i < k
    · rw [p1 i c, I9.2.1.2.2.1]; exact hWr i c
    · rw [(p2 i (by omega) hi).1]
      exact ⟨(hWn _ (by omega)).1, (hWn _ (by omega)).1⟩
  have otB := (hot.fi I9.2.1).gw gw (nas s (Or.inl rfl)) (S9.2.2.1 s (Or.inl rfl)).1
  have ot22 : Ot L' M22 s O n := otB.nx nbx FB (SB.2.2.1 s (Or.inl rfl))
  have zB : mZ M9 ≤ mZ MB := gw.2.2.2.2.1.1.1
  have z22 : s + 134 < mZ M22 := Nat.lt_of_lt_of_le (Nat.lt_of_lt_of_le z133 zB) nbx.2.2.1.1.1
  refine ⟨nb.ok, s_wo45 (d := d) (wt := wt) (un := un) S22.2.1.1 (S22.2.2.1 s (Or.inl rfl)) z22 ot22 c1 k5 (by omega) wr' hWs hW b1 hB (fun M4 M5 M6 M30 O' n' hI gr l2 e30' => ?_) 100 0 1 M22 (by omega) (by omega) (Or.inr rfl) I22⟩
  refine ⟨Or.inr ⟨rfl, M9, L', R', k', MB, M22, un, wt, M4, M5, O', n', M6, I9, gw, te, gr', ⟨c1, c2, k5⟩, p1, p2, nb, hI, gr, l2, e30', ?_⟩, few 0 (Or.inr ⟨le, rfl⟩)⟩
  have hS4 := hI.2.1
  have z4 : s + 134 < mZ M4 := Nat.lt_of_lt_of_le z22 hI.1.2.2.1.1.1
  have I5 := (gr.kp hS4 z4 (ot22.nx hI.1 S22.2.1.1 (S22.2.2.1 s (Or.inl rfl)))).2.2.2.1
  funext j
  rw [mI_ui _ j e30', if_neg (fun u => nas (s + 30) st30 u.1), l2.2.2.2.2, I5 _ (hS4.2.2.1 _ st30).1, hI.2.2.2.2.2.2.2, st22 (s + 30) st30, e30]
end NBZ
