/-! The class's Solver: one better command. -/
section NBYC
variable {G : mG} {d s g a R cn cc bc i k n c un x y B O oc mo : Nat} {M M0 M' M1 M2 M3 : mM} {L : List Nat} {W : Nat → Nat} {v : Int}
/-- a command that is left for an unknown state, as it stands in the list -/
def ot1 (M : mM) (s un : Nat) (v : Int) : Prop := ∃ c i k lo hi : Nat, v = ((c * 40 + i : Nat) : Int) ∧ i < un ∧ mI M (s + 125) i = ((k : Nat) : Int) ∧ mI M (s + 122) k = ((lo : Nat) : Int) ∧ mI M (s + 123) k = ((hi : Nat) : Int) ∧ lo ≤ c ∧ c < hi
theorem ot1.cg (h : ot1 M s un v) (e2 : mI M' (s + 122) = mI M (s + 122)) (e3 : mI M' (s + 123) = mI M (s + 123)) (e5 : mI M' (s + 125) = mI M (s + 125)) : ot1 M' s un v := by
  unfold ot1 at h ⊢
  rw [e2, e3, e5]
  exact h
/-- the list of the other commands: oc of them, min's mo in front -/
def Oth (M : mM) (s un O oc mo : Nat) : Prop := (mR M s 11 = O ∧ mK M O = 30 ∧ mN M O = 2400) ∧ (mI M s 12 = ((oc : Nat) : Int) ∧ mI M s 13 = ((mo : Nat) : Int) ∧ mo ≤ oc ∧ oc ≤ 2400) ∧ ∀ j, j < oc → ot1 M s un (mI M O j)
theorem td40 {c i : Nat} (h : i < 40) : Int.tdiv (((c * 40 + i : Nat)) : Int) 40 = ((c : Nat) : Int) ∧ Int.tmod (((c * 40 + i : Nat)) : Int) 40 = ((i : Nat) : Int) := by
  rw [Int.tdiv_eq_ediv_of_nonneg (by omega), Int.tmod_eq_emod_of_nonneg (by omega)]
  constructor <;> omega
theorem unk_cg (h : Unk M s cn un) (e0 : mI M' s 10 = mI M s 10) (e2 : mI M' (s + 122) = mI M (s + 122)) (e3 : mI M' (s + 123) = mI M (s + 123)) (e4 : mI M' (s + 124) = mI M (s + 124)) (e5 : mI M' (s + 125) = mI M (s + 125)) (e6 : mI M' (s + 126) = mI M (s + 126)) : Unk M' s cn un := by
  unfold Unk Slo at h ⊢
  rw [e0, e2, e3, e4, e5, e6]
  exact h
/-- numbers' steps leave the list alone -/
theorem at_oth (h0 : Sva L W s g a R k cn cc bc M0) (hI : atI L W s g a R k cn cc bc M0 M) (oO : Oc L M0 O) (hO : s + 134 < O) (h : Oth M0 s un O oc mo) : Oth M s un O oc mo := by
  obtain ⟨hN, -, -, st, -, -⟩ := hI
  obtain ⟨a1, a2, -, a4⟩ := hN.oth oO (by omega)
  obtain ⟨-, -, b3, -⟩ := hN.oth (h0.2.2.1 s (Or.inl rfl)) (by omega)
  have eO := a4 (fun u => by unfold Cat at u; omega)
  obtain ⟨⟨h1, h2, h3⟩, ⟨h4, h5, h6⟩, h7⟩ := h
  have e0 := st s (Or.inl rfl) (by omega)
  refine ⟨⟨by rw [b3]; exact h1, by rw [a1]; exact h2, by rw [a2]; exact h3⟩, ⟨by rw [e0]; exact h4, by rw [e0]; exact h5, h6⟩, fun j hj => ?_⟩
  rw [eO]
  exact (h7 j hj).cg (st (s + 122) st122.1 (by omega)) (st (s + 123) st122.2.1 (by omega)) (st (s + 125) st122.2.2 (by omega))
theorem at_unk (hI : atI L W s g a R k cn cc bc M0 M) (h : Unk M0 s cn un) : Unk M s cn un := by
  have st := hI.2.2.2.1
  exact unk_cg h (by rw [st s (Or.inl rfl) (by omega)]) (st (s + 122) st122.1 (by omega)) (st (s + 123) st122.2.1 (by omega)) (st (s + 124) st124 (by omega)) (st (s + 125) st122.2.2 (by omega)) (st (s + 126) st126 (by omega))
def Co1 (s O x : Nat) : Prop := Cat s x ∨ x = s + 126 ∨ x = O
/-- what improveOne leaves behind -/
def i1I (L : List Nat) (W : Nat → Nat) (s g a R k cn cc bc un O oc mo : Nat) (M0 M : mM) : Prop := NX L W (Tat s) (Co1 s O) False (s + 1) M0 M ∧ Sva L W s g a R k cn cc bc M ∧ mR M R = mR M0 R ∧ (∀ x, Stb s x → x ≠ s + 128 → x ≠ s + 126 → mI M x = mI M0 x) ∧ (Rsm M R cn 17 ∧ Rt1 M R cn) ∧ Unk M s cn un ∧ Oth M s un O oc mo ∧ ∀ i, i ≤ 9 → mI M (g + i) = mI M0 (g + i)
theorem i1_mk (h : Sva L W s g a R k cn cc bc M0) (hcn : cn ≤ k) (hr : Rsm M0 R cn 17 ∧ Rt1 M0 R cn) (kO : mK M0 O = 30) (hO : s + 134 < O) (q : NX L W (Tat s) (Co1 s O) False (s + 1) M0 M) (hU : Unk M s cn un) (hH : Oth M s un O oc mo) : i1I L W s g a R k cn cc bc un O oc mo M0 M := by
  have hF := h.2.1.1
  have gs := h.1.2.1.1.2
  obtain ⟨e1, e2, e3⟩ := h.nxg q (fun i hi u => by unfold Co1 Cat at u; omega) (q.sk hF h.2.1.2.1)
  have rv : ∀ i, i < cn → nv M (mR M0 R i + 1) = nv M0 (mR M0 R i + 1) ∧ nv M (mR M0 R i + 3) = nv M0 (mR M0 R i + 3) ∧ mI M (mR M0 R i) = mI M0 (mR M0 R i) := fun i hi => by
    have f := h.2.2.2.2.1.2.2.2.2.2 i (by omega)
    have ap := h.te.2.2.2.1 i (by omega)
    have hb := h.2.2.2.2.2.1 i (by omega)
    have nO : mR M0 R i ≠ O := fun u => by
      have k11 := f.1.1
      rw [u, kO] at k11
      exact absurd k11 (by decide)
    refine ⟨(q.num hF f.2.1 (fun u => u.elim ap.1 (fun u => by unfold T2 at u; omega))).2.2, (q.num hF f.2.2 (fun u => u.elim ap.2.1 (fun u => by unfold T2 at u; omega))).2.2, (q.frl hF f).2 (fun u => ?_)⟩
    unfold Co1 Cat at u
    omega
  refine ⟨q, e1, e3, fun x hx nx nx' => ?_, ⟨fun i hi => ?_, fun i hi => ?_⟩, hU, hH, e2⟩
  · have ne : x ≠ s + 1 := by unfold Stb at hx; omega
    refine (q.oth (h.2.2.1 x hx) ne).2.2.2 (fun u => ?_)
    unfold Co1 Cat at u
    unfold Stb at hx
    omega
  · rw [e3, (rv i hi).1, (rv i hi).2.1]; exact hr.1 i hi
  · rw [e3, (rv i hi).2.2]; exact hr.2 i hi
theorem s_i12 (h0 : Sva L W s g a R k cn cc bc M0) (hcn : cn ≤ k) (hk : k ≤ 512) (hr : Rsm M0 R cn 17 ∧ Rt1 M0 R cn) (hL : LHs M0 s cn cc) (hU : Unk M0 s cn un) (hH : Oth M0 s un O oc mo) (oO : Oc L M0 O) (hO : s + 134 < O) (hW : ∀ x, Tat s x → B ≤ W x) (b1 : 300 ≤ B) (hB : B ≤ 16000) : ∀ (t i : Nat) (M : mM), oc ≤ i + t → i ≤ oc → atI L W s g a R k cn cc bc M0 M → h_So_improveOne_2 G (d + 5) s a i M (fun x M' => (x = 0 ∨ x = 1) ∧ i1I L W s g a R k cn cc bc un O oc mo M0 M') := by
  obtain ⟨hc1, hc2, hc3⟩ := h0.1.2.2.2.2.1
  have u40 := hU.2.1
  have oc24 := hH.2.1.2.2.2
  have kO := hH.1.2.1
  have hF0 := h0.2.1.1
  have c1o : ∀ x, Co1 s O x → Oc L M0 x := fun x u => by
    rcases u with u | u | u
    · exact h0.cat hcn x u
    · rw [u]; exact h0.2.2.1 _ st126
    · rw [u]; exact oO
  intro t
  induction t with
  | zero =>
    intro i M h1 h2 hI
    have ho := at_oth h0 hI oO hO hH
    have hu := at_unk hI hU
    obtain ⟨hN, ⟨⟨o, ⟨⟨s0, -⟩, -⟩, -⟩, -⟩, -⟩ := id hI
    refine k_So_improveOne_2 o ⟨by omega, by omega⟩ ?_
    rw [ho.2.1.1]
    exact ⟨s0, fun _ => ⟨Or.inl rfl, i1_mk h0 hcn hr kO hO (hN.mono hF0 (fun _ u => u) h0.tat (fun _ u => Or.inl u) c1o (fun u => u)) hu ho⟩, fun u => absurd (by omega) u⟩
  | succ t ih =>
    intro i M h1 h2 hI
    by_cases ei : i = oc
    · exact ih i M (by omega) h2 hI
    have ho := at_oth h0 hI oO hO hH
    have hu := at_unk hI hU
    obtain ⟨hN, hS, eR, st, ⟨hrs, ht1⟩, gi⟩ := id hI
    obtain ⟨⟨o, ⟨⟨s0, gs⟩, ⟨r0, -, -, r3, -, -, -, -, -, -, -, -, r17⟩, -⟩, -, -, hT⟩, ⟨hF, hSK, -, hfw⟩, -⟩ := id hS
    obtain ⟨⟨w1, w2, w3⟩, ⟨w4, w5, w6, w7⟩, w8⟩ := id ho
    obtain ⟨c, ii, kst, lo, hi', e1, e2, e3, e4, e5, l1, l2⟩ := w8 i (by omega)
    have kcn : kst < cn := by
      obtain ⟨k', c', lo', hi2, q1, q2, -⟩ := hu.2.2.2 ii e2
      omega
    have hcc : hi' ≤ cc := by
      obtain ⟨lo', hi2, f1, f2, f3, f4⟩ := hL kst kcn
      rw [← st (s + 123) st122.2.1 (by omega)] at f2
      omega
    obtain ⟨dv, md⟩ := td40 (c := c) (i := ii) (by omega)
    rw [← e1] at dv md
    refine k_So_improveOne_2 o ⟨by omega, by omega⟩ ?_
    rw [w4, w1, w3, r0, r3, r17, Int.toNat_natCast, dv, md]
    refine ⟨s0, fun u => absurd u (by omega), fun _ => ⟨w2, ⟨by omega, by omega⟩, ⟨by omega, by omega⟩, hSK.1.1, ?_⟩⟩
    obtain ⟨mu, hm, kw⟩ := f_weigh (G := G) (d := d) (B := B) (S := 17) (hS.we hcn) hrs (fun z hz => hW z (tw_at hz)) (by omega) hB (show c < 4096 by omega) hc1 hc3 (hT.2.1 c (by omega))
    refine kw.mono (fun M8 q => ?_)
    obtain ⟨n1, u1, u2, u3, -⟩ := q
    have x1 : NX L W (Tat s) (Cat s) False (s + 1) M M8 := (n1.nx hF).mono hF (fun _ z => tw_at z) hS.tat (fun _ z => Or.inl z) (hS.cat hcn) (fun z => z)
    have I1 := at_mk h0 hcn hr (hN.trans x1)
    have F1 := n1.nf
    have ow : Osz M8 (s + 130) 139 := ⟨F1.szv hfw.2.1 u2, F1.szv hfw.2.2 (Int.lt_of_lt_of_le u1.2 (p30m (by decide))), by rw [u3]; omega, by rw [u3]; omega⟩
    have pk := s_atOrder (G := G) (d := d) (i := kst) (Q := fun x M' => (x = -1 ∨ x = 0 ∨ x = 1) ∧ atI L W s g a R k cn cc bc M0 M') h0 hcn hr I1 ow kcn hW b1 (fun x M' p q => ⟨p, q⟩)
    obtain ⟨hN1, hS1, eR1, st1, -, -⟩ := id I1
    obtain ⟨⟨o1, ⟨⟨s01, -⟩, ⟨-, -, -, -, -, -, -, -, r81, -⟩, ⟨-, -, -, -, -, k81, -⟩, ⟨-, -, -, -, -, n81, -⟩⟩, -⟩, -, -, -, ⟨t11, t21, t31, t41, -, -⟩, -⟩ := id hS1
    have e31 : mI M8 (s + 125) ii = ((kst : Nat) : Int) := by
      rw [st1 (s + 125) st122.2.2 (by omega), ← st (s + 125) st122.2.2 (by omega)]
      exact e3
    rw [r81, t21, n81, t41, Int.toNat_natCast, e31, Int.toNat_natCast, eR1]
    refine ⟨n1.ok, s01, t11, k81, ⟨by omega, by omega⟩, t31, ⟨by omega, by omega⟩, pk.2.1, pk.2.2.mono (fun x19 M18 q => ?_)⟩
    obtain ⟨i19, o18, -, I2⟩ := q
    have ho2 := at_oth h0 I2 oO hO hH
    have hu2 := at_unk I2 hU
    obtain ⟨hN2, hS2, eR2, st2, ⟨hrs2, ht2⟩, gi2⟩ := id I2
    obtain ⟨⟨o2, ⟨⟨s02, -⟩, ⟨-, -, -, -, -, -, -, -, -, r92, -⟩, ⟨-, -, -, -, -, -, k92, -⟩, ⟨-, -, -, -, -, -, n92, -⟩⟩, -⟩, ⟨hF2, -⟩, hSt2, -⟩ := id hS2
    obtain ⟨⟨y1, y2, y3⟩, ⟨y4, y5, y6, y7⟩, y8⟩ := id ho2
    refine ⟨i19, o18, s02, fun v23 e23 => ⟨fun ex => ?_, fun nx => ?_⟩⟩
    rotate_left
    · rw [show ((i : Int) + 1) = ((i + 1 : Nat) : Int) by omega]
      exact ih (i + 1) M18 (by omega) (by omega) I2
    clear ih e23 ex pk kw
    have m22 : mI M18 (s + 122) = mI M (s + 122) := (st2 _ st122.1 (by omega)).trans (st _ st122.1 (by omega)).symm
    have m23 : mI M18 (s + 123) = mI M (s + 123) := (st2 _ st122.2.1 (by omega)).trans (st _ st122.2.1 (by omega)).symm
    have m25 : mI M18 (s + 125) = mI M (s + 125) := (st2 _ st122.2.2 (by omega)).trans (st _ st122.2.2 (by omega)).symm
    rw [← m25] at e3
    rw [← m22] at e4
    rw [← m23] at e5
    obtain ⟨k', c2, lo', hi2, p1, p2, p3, p4, p5, p6, p7⟩ := hu2.2.2.2 ii e2
    have ek : k' = kst := by rw [e3] at p1; omega
    subst ek
    have eh : hi2 = hi' := by rw [e5] at p5; omega
    rw [r92, n92, y1, y3, p3]
    refine ⟨k92, ⟨by omega, by omega⟩, y2, ⟨by omega, by omega⟩, ⟨by omega, by omega⟩, fun M34 e34 => ?_⟩
    have f34 : FI (fun z => z = O) M18 M34 := by rw [e34]; exact FI.ui rfl
    have o34 : mOk M34 := by rw [e34]; exact mOk_UI o2 ⟨by omega, by omega⟩
    rw [f34.1, f34.2.1, f34.2.2.1, r92, n92]
    refine ⟨k92, ⟨by omega, by omega⟩, fun M38 e38 => ?_⟩
    have f38 : FI (fun z => z = s + 126) M34 M38 := by rw [e38]; exact FI.ui rfl
    have o38 : mOk M38 := by rw [e38]; exact mOk_UI o34 ⟨by omega, by omega⟩
    have sO : ¬ s = O := by omega
    have i13 : mI M38 s 13 = ((mo : Nat) : Int) := by
      rw [f38.2.2.2.2.2.2 s (show ¬ s = s + 126 by omega), f34.2.2.2.2.2.2 s sO]
      exact y5
    rw [i13]
    obtain ⟨l, el, hl⟩ : ∃ l : Nat, (if ((mo : Nat) : Int) < ((i : Nat) : Int) + 1 then ((mo : Nat) : Int) else ((i : Nat) : Int) + 1) = ((l : Nat) : Int) ∧ l ≤ oc := by
      split
      · exact ⟨mo, rfl, w6⟩
      · exact ⟨i + 1, by omega, by omega⟩
    rw [el]
    refine ⟨⟨by omega, by omega⟩, (s_So_mix (G := G) (d := d + 5) (O := O) (l1 := 0) (l2 := l) (n := oc) o38 (by rw [f38.1, f34.1]; exact s02) (by rw [f38.2.2.1, f34.2.2.1]; exact y1) (by rw [f38.1, f34.1]; exact y2) (by rw [f38.2.1, f34.2.1]; exact y3) hl oc24 (by omega)).mono (fun M41 q1 => ?_)⟩
    obtain ⟨o41, f41, p41⟩ := q1
    have i13' : mI M41 s 13 = ((mo : Nat) : Int) := by
      rw [f41.2.2.2.2.2.2 s sO]
      exact i13
    rw [i13', show (((i : Nat) : Int) + 1) = ((i + 1 : Nat) : Int) by omega]
    refine ⟨o41, by rw [f41.1, f38.1, f34.1]; exact s02, (s_So_mix (G := G) (d := d + 5) (O := O) (l1 := mo) (l2 := i + 1) (n := oc) o41 (by rw [f41.1, f38.1, f34.1]; exact s02) (by rw [f41.2.2.1, f38.2.2.1, f34.2.2.1]; exact y1) (by rw [f41.1, f38.1, f34.1]; exact y2) (by rw [f41.2.1, f38.2.1, f34.2.1]; exact y3) (by omega) oc24 (by omega)).mono (fun M45 q2 => ?_)⟩
    obtain ⟨o45, f45, p45⟩ := q2
    refine ⟨o45, Or.inr rfl, ?_⟩
    have ff : Fxo (fun x => x = s + 126 ∨ x = O) s M18 M45 := (f34.fo.mono (fun _ u => Or.inr u)).trans ((f38.fo.mono (fun _ u => Or.inl u)).trans ((f41.mono (fun _ u => Or.inr u)).trans (f45.mono (fun _ u => Or.inr u))))
    obtain ⟨nx, -⟩ := ff.nx (T := Tat s) (r := False) o2 o45 hF2 hS2.tat (fun x u => hN2.oc hF0 (c1o x (Or.inr u))) hS2.z9
    have q' : NX L W (Tat s) (Co1 s O) False (s + 1) M0 M45 := (hN2.mono hF0 (fun _ u => u) h0.tat (fun _ u => Or.inl u) c1o (fun u => u)).trans (nx.mono hF2 (fun _ u => u) hS2.tat (fun x u => Or.inr u) (fun x u => hN2.oc hF0 (c1o x u)) (fun u => u))
    have kp : ∀ x, x ≠ s + 126 → x ≠ O → mI M45 x = mI M18 x := fun x a1 a2 => ff.2.2.2.2.2.2 x (fun u => u.elim a1 a2)
    have z0 := kp s (by omega) (by omega)
    have z2 := kp (s + 122) (by omega) (by omega)
    have z3 := kp (s + 123) (by omega) (by omega)
    have z4 := kp (s + 124) (by omega) (by omega)
    have z5 := kp (s + 125) (by omega) (by omega)
    refine i1_mk h0 hcn hr kO hO q' ?_ ?_
    · obtain ⟨v1, v2, v3, v4⟩ := hu2
      refine ⟨by rw [z0]; exact v1, v2, fun j hj => by rw [z4]; exact v3 j hj, fun j hj => ?_⟩
      have n6 : ¬ s + 126 = O := by omega
      rw [z2, z3, z5, f45.2.2.2.2.2.2 (s + 126) n6, f41.2.2.2.2.2.2 (s + 126) n6, mI_ui _ j e38]
      by_cases cj : j = ii
      · rw [if_pos ⟨rfl, cj⟩, cj]
        exact ⟨k', c, lo, hi', e3, kcn, rfl, e4, e5, l1, l2⟩
      · rw [if_neg (fun u => cj u.2), f34.2.2.2.2.2.2 (s + 126) n6]
        exact v4 j hj
    · have P38 : ∀ j, j < oc → ot1 M18 s un (mI M38 O j) := fun j hj => by
        rw [f38.2.2.2.2.2.2 O (show ¬ O = s + 126 by omega), mI_ui _ j e34]
        by_cases cj : j = i
        · rw [if_pos ⟨rfl, cj⟩]
          exact ⟨c2, ii, k', lo', hi2, by omega, e2, p1, p4, p5, p6, p7⟩
        · rw [if_neg (fun u => cj u.2)]
          exact y8 j hj
      have P45 := p45 _ (p41 _ P38)
      exact ⟨⟨by rw [ff.2.2.1]; exact y1, by rw [ff.1]; exact y2, by rw [ff.2.1]; exact y3⟩, ⟨by rw [z0]; exact y4, by rw [z0]; exact y5, y6, y7⟩, fun j hj => (P45 j hj).cg z2 z3 z5⟩
theorem s_So_improveOne (h0 : Sva L W s g a R k cn cc bc M) (hcn : cn ≤ k) (hk : k ≤ 512) (hL : LHs M s cn cc) (hU : Unk M s cn un) (hr : Rsm M R cn 17 ∧ Rt1 M R cn) (hH : Oth M s un O oc mo) (oO : Oc L M O) (hO : s + 134 < O) (hW : ∀ x, Tat s x → B ≤ W x) (b1 : 300 ≤ B) (hB : B ≤ 16000) : Ci G y_So_improveOne (d + 6) [vr s, vr a] M (fun x M' => (x = 0 ∨ x = 1) ∧ i1I L W s g a R k cn cc bc un O oc mo M M') := by
  refine k_So_improveOne h0.1.1 ?_
  exact s_i12 h0 hcn hk hr hL hU hH oO hO hW b1 hB oc 0 M (by omega) (by omega) (at_mk h0 hcn hr (NX.refl h0.1.1 h0.2.1.1 h0.tat (h0.cat hcn) h0.z9))
end NBYC
