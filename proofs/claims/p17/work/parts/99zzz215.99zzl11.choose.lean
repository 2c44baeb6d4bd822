section
/-! The class's Solver: ranks and choices; whether told values hold. -/
section NBX
variable {G : mG} {d s g a R cn cc bc i k n c un x y fd B : Nat} {M M0 M' M1 M2 M3 : mM} {L : List Nat} {W : Nat → Nat}
/-- the choices stand among the commands -/
def Chs (M : mM) (s g n : Nat) : Prop := ∀ k, k < n → ∀ x y : Nat, mI M (g + 4) k = ((x : Nat) : Int) → mI M (g + 4) (k + 1) = ((y : Nat) : Int) → (x = y ∧ mI M (s + 30) k = -1) ∨ (x ≠ y ∧ 0 ≤ mI M (s + 30) k ∧ mI M (s + 30) k < ((y : Nat) : Int) - ((x : Nat) : Int))
/-- what the Solver leaves, its rows as they were -/
def svQ (L : List Nat) (W : Nat → Nat) (s g a R k cn cc bc : Nat) (M0 M : mM) : Prop := NX L W (Tso s M0 R cn) (Cso s M0 R cn) True (s + 1) M0 M ∧ Sva L W s g a R k cn cc bc M ∧ mR M R = mR M0 R ∧ (Rsm M R cn 17 ∧ Rt1 M R cn) ∧ ∀ i, i ≤ 9 → mI M (g + i) = mI M0 (g + i)
theorem atI.sv (hI : atI L W s g a R k cn cc bc M0 M) (h : Sva L W s g a R k cn cc bc M0) (hcn : cn ≤ k) : svQ L W s g a R k cn cc bc M0 M := by
  obtain ⟨q, h1, h2, -, h4, h5⟩ := hI
  exact ⟨q.mono h.2.1.1 (fun _ u => u.elim Or.inl (fun u => Or.inr (Or.inr (Or.inl u)))) (h.tl hcn) (fun x u => u.so) (h.cl hcn) (fun u => u.elim), h1, h2, h4, h5⟩
/-- a table of the Solver's is written -/
theorem svQ.fi {S : Nat → Prop} (hI : svQ L W s g a R k cn cc bc M0 M) (h : Sva L W s g a R k cn cc bc M0) (hcn : cn ≤ k) (f : FI S M M') (o : mOk M') (hS : ∀ x, S x → Stb s x) : svQ L W s g a R k cn cc bc M0 M' := by
  obtain ⟨q, h1, h2, ⟨h4, h4'⟩, h5⟩ := hI
  have hF := h1.2.1.1
  obtain ⟨x, v⟩ := f.nx (T := Tso s M R cn) (r := False) (z := s + 1) o hF (h1.tl hcn) (fun x u => h1.2.2.1 x (hS x u)) h1.z9
  have x' : NX L W (Tso s M R cn) (Cso s M R cn) False (s + 1) M M' := x.mono hF (fun _ u => u) (h1.tl hcn) (fun x u => Or.inr (Or.inl (hS x u))) (h1.cl hcn) (fun u => u)
  obtain ⟨e1, e2, e3⟩ := h1.nx hcn x' (x.sk hF h1.2.1.2.1)
  have x2 : NX L W (Tso s M0 R cn) (Cso s M0 R cn) True (s + 1) M M' := by
    have e : Tso s M R cn = Tso s M0 R cn := by
      funext z
      unfold Tso Trw
      rw [h2]
    have e' : Cso s M R cn = Cso s M0 R cn := by
      funext z
      unfold Cso Irw
      rw [h2]
    rw [e, e'] at x'
    exact x'.mono hF (fun _ u => u) q.2.1.1 (fun _ u => u) x'.2.1.2.1 (fun u => u.elim)
  have rows : ∀ i, i < cn → FrL L M (mR M R i) := fun i hi => h1.2.2.2.2.1.2.2.2.2.2 i (by omega)
  refine ⟨q.trans x2, e1, by rw [e3, h2], ⟨fun i hi => ?_, fun i hi => ?_⟩, fun i hi => by rw [e2 i hi, h5 i hi]⟩
  · rw [e3, v _ (rows i hi).2.1, v _ (rows i hi).2.2]; exact h4 i hi
  · rw [e3, f.2.2.2.2.2.2 _ (fun u => by
      have := hS _ u
      have hb := h1.2.2.2.2.2.1 i (by omega)
      unfold Stb at this
      omega)]
    exact h4' i hi
theorem s_rc119 {Q : mM → Prop} {b4 : Int} (h4 : b4 = 0 ∨ b4 = 1) (h0 : Sva L W s g a R k cn cc bc M0) (hcn : cn ≤ k) (hi : i < cn) (ex : mI M0 (g + 4) i = ((x : Nat) : Int)) (ey : mI M0 (g + 4) (i + 1) = ((y : Nat) : Int)) (xy : x ≤ y ∧ y ≤ cc)
    (hQ : ∀ M', svQ L W s g a R k cn cc bc M0 M' → Chs M' s g (i + 1) → h_So_rankAndChoose_17 G d s ((i : Int) + 1) M' Q) : ∀ (t c : Nat) (fo : Int) (M : mM), y ≤ c + t → x ≤ c → c ≤ y → (fo = 0 ∨ fo = 1) → svQ L W s g a R k cn cc bc M0 M → Chs M s g (i + 1) → h_So_rankAndChoose_119 G d s i x b4 fo c M Q := by
  obtain ⟨hc1, hc2, hc3⟩ := h0.1.2.2.2.2.1
  intro t
  induction t with
  | zero =>
    intro c fo M h1 h2 h3 hf hI hC
    obtain ⟨-, ⟨⟨o, ⟨⟨s0, -⟩, ⟨-, -, -, r3, -⟩, -⟩, ⟨g0, ⟨-, q4, -⟩, gk, ⟨-, m4, -⟩⟩, -, -⟩, -⟩, -, -, gi⟩ := id hI
    refine k_So_rankAndChoose_119 o ⟨by omega, by omega⟩ ⟨by omega, by omega⟩ (m_b32 h4) (m_b32 hf) ⟨by omega, by omega⟩ ?_
    rw [r3, q4, m4, show Int.toNat ((i : Int) + 1) = i + 1 by first | rfl | omega, gi 4 (by decide), ey]
    exact ⟨s0, g0, gk 4 (by decide) (by decide), ⟨by omega, by omega⟩, fun _ => hQ M hI hC, fun u => absurd (Or.inl (by omega)) u⟩
  | succ t ih =>
    intro c fo M h1 h2 h3 hf hI hC
    obtain ⟨-, hS, -, -, gi⟩ := id hI
    obtain ⟨⟨o, ⟨⟨s0, -⟩, ⟨-, r1, r2, r3, -, -, -, -, -, -, r11, -⟩, ⟨k1, k2, -, -, -, -, -, k11, -⟩, ⟨n1, n2, -, -, -, -, -, n11, -⟩⟩, ⟨g0, ⟨-, q4, -⟩, gk, ⟨-, m4, -⟩⟩, -, -⟩, -⟩ := id hS
    have e1 := gi 4 (by decide)
    refine k_So_rankAndChoose_119 o ⟨by omega, by omega⟩ ⟨by omega, by omega⟩ (m_b32 h4) (m_b32 hf) ⟨by omega, by omega⟩ ?_
    rw [r3, q4, m4, show Int.toNat ((i : Int) + 1) = i + 1 by first | rfl | omega, e1, ey, r11, n11, r1, n1, Int.toNat_natCast, Int.toNat_natCast]
    refine ⟨s0, g0, gk 4 (by decide) (by decide), ⟨by omega, by omega⟩, fun _ => hQ M hI hC, fun u => ?_⟩
    have cy : c < y := by
      by_cases cc' : ((y : Nat) : Int) ≤ c
      · exact absurd (Or.inl cc') u
      · omega
    have s179 : ∀ (k0 : Int), (k0 = 0 ∨ k0 = 1) → h_So_rankAndChoose_179 G d s i x b4 c k0 M Q := fun k0 hk0 => by
      refine k_So_rankAndChoose_179 o ⟨by omega, by omega⟩ ⟨by omega, by omega⟩ (m_b32 h4) ⟨by omega, by omega⟩ (m_b32 hk0) ?_
      rw [r2, n2, Int.toNat_natCast, show ((c : Int) + 1) = ((c + 1 : Nat) : Int) by first | rfl | omega]
      refine ⟨s0, k2, ⟨by omega, by omega⟩, ⟨by omega, by omega⟩, fun M91 e91 => ?_⟩
      have f91 : FI (fun z => z = s + 30) M M91 := by rw [e91]; exact FI.ui rfl
      have o91 : mOk M91 := by rw [e91]; exact mOk_UI o ⟨by omega, by omega⟩
      have I2 := hI.fi h0 hcn f91 o91 (fun z u => by rw [u]; exact Or.inr (Or.inr (Or.inl rfl)))
      refine ih (c + 1) k0 M91 (by omega) (by omega) (by omega) hk0 I2 (fun j hj x' y' f1 f2 => ?_)
      rw [I2.2.2.2.2 4 (by decide)] at f1 f2
      rw [mI_ui _ j e91]
      by_cases cj : j = i
      · rw [if_pos ⟨rfl, cj⟩]
        rw [cj] at f1 f2
        exact Or.inr ⟨by omega, by omega, by omega⟩
      · rw [if_neg (fun u => cj u.2)]
        exact hC j hj x' y' (by rw [e1]; exact f1) (by rw [e1]; exact f2)
    refine ⟨k11, ⟨by omega, by omega⟩, fun _ => s179 0 (Or.inl rfl), fun _ => ⟨fun _ => s179 1 (Or.inr rfl), fun _ => ⟨k1, ⟨by omega, by omega⟩, (s_So_leadsBelow (d := d) (o _ _).1 hS.1 ⟨k1, n1⟩ (show c < cc by omega)).mono (fun x81 M80 q => ?_)⟩⟩⟩
    rw [q.1]
    exact ⟨m_b32 q.2, o, fun _ => s179 0 (Or.inl rfl), fun _ => s179 1 (Or.inr rfl)⟩
theorem s_So_rankAndChoose (h0 : Sva L W s g a R k cn cc bc M) (hcn : cn ≤ k) (hk : k ≤ 512) (hr : Rsm M R cn 17 ∧ Rt1 M R cn) (hW : ∀ x, Tat s x → B ≤ W x) (b1 : 300 ≤ B) (hB : B ≤ 16000) : Cv G y_So_rankAndChoose (d + 7) [vr s, vr a] M (fun M' => svQ L W s g a R k cn cc bc M M' ∧ Chs M' s g cn) := by
  obtain ⟨hc1, hc2, hc3⟩ := h0.1.2.2.2.2.1
  refine k_So_rankAndChoose h0.1.1 ⟨h0.1.2.1.1.1, (s_So_attain (d := d) h0 hcn hk hr hW b1 hB).mono (fun x3 M2 q => ?_)⟩
  obtain ⟨x01, hI2⟩ := q
  have V2 := hI2.sv h0 hcn
  have S2 := hI2.2.1
  have r1 : mR M2 s 1 = s + 29 := S2.1.2.1.2.1.2.1
  rw [r1]
  refine ⟨m_b32 x01, S2.1.1, S2.1.2.1.1.1, (s_So_fillRanks (d := d + 3) S2 hcn hk (Or.inl rfl)).mono (fun M6 q => ?_)⟩
  obtain ⟨o6, f6, S6⟩ := q
  have V6 := V2.fi h0 hcn f6 o6 (fun z u => by rw [u]; exact Or.inr (Or.inl rfl))
  refine ⟨o6, ?_⟩
  suffices HH : ∀ (t i : Nat) (M1 : mM), cn ≤ i + t → i ≤ cn → svQ L W s g a R k cn cc bc M M1 → Chs M1 s g i → h_So_rankAndChoose_17 G (d + 6) s i M1 (fun M' => svQ L W s g a R k cn cc bc M M' ∧ Chs M' s g cn) from HH cn 0 M6 (by omega) (by omega) V6 (fun j hj => absurd hj (by omega))
  intro t
  induction t with
  | zero =>
    intro i M1 h1 h2 hI hC
    have ei : i = cn := by omega
    subst ei
    obtain ⟨-, ⟨⟨o, ⟨⟨s0, -⟩, ⟨-, -, -, r3, -⟩, -⟩, ⟨g0, -⟩, -, hT⟩, -⟩, -⟩ := id hI
    refine k_So_rankAndChoose_17 o ⟨by omega, by omega⟩ ?_
    rw [r3, hT.2.2.2]
    exact ⟨s0, g0, fun _ => ⟨hI, hC⟩, fun u => absurd (by omega) u⟩
  | succ t ih =>
    intro i M1 h1 h2 hI hC
    by_cases ei : i = cn
    · exact ih i M1 (by omega) h2 hI hC
    have hi : i < cn := by omega
    obtain ⟨-, hS, -, -, gi⟩ := id hI
    obtain ⟨⟨o, ⟨⟨s0, -⟩, ⟨-, r1, r2, r3, -⟩, ⟨k1, k2, -⟩, ⟨n1, n2, -⟩⟩, ⟨g0, ⟨q2, q4, -⟩, gk, ⟨m2, m4, -⟩⟩, -, hT⟩, -⟩ := id hS
    obtain ⟨x, y, x1, y1, xy, yc⟩ := hT.2.2.1 i hi
    have e4 := gi 4 (by decide)
    have x1' : mI M (g + 4) i = ((x : Nat) : Int) := by rw [← e4]; exact x1
    have y1' : mI M (g + 4) (i + 1) = ((y : Nat) : Int) := by rw [← e4]; exact y1
    refine k_So_rankAndChoose_17 o ⟨by omega, by omega⟩ ?_
    rw [r3, hT.2.2.2, q4, m4, r2, n2, Int.toNat_natCast, show Int.toNat ((i : Int) + 1) = i + 1 by first | rfl | omega, x1, y1]
    refine ⟨s0, g0, fun u => absurd u (by omega), fun _ => ⟨gk 4 (by decide) (by decide), ⟨by omega, by omega⟩, ⟨by omega, by omega⟩, fun v20 e20 => ⟨k2, ⟨by omega, by omega⟩, fun M26 e26 => ?_⟩⟩⟩
    have i20 : i32 v20 := by rw [e20]; split <;> exact ⟨by decide, by decide⟩
    have f26 : FI (fun z => z = s + 30) M1 M26 := by rw [e26]; exact FI.ui rfl
    have o26 : mOk M26 := by rw [e26]; exact mOk_UI o i20
    have I26 := hI.fi h0 hcn f26 o26 (fun z u => by rw [u]; exact Or.inr (Or.inr (Or.inl rfl)))
    rw [f26.1, f26.2.1, f26.2.2.1, r3, q2, m2, r2, n2, r1, n1]
    refine ⟨g0, gk 2 (by decide) (by decide), ⟨by omega, by omega⟩, fun v32 e32 => ⟨k2, ⟨by omega, by omega⟩, fun _ _ => ⟨k1, ⟨by omega, by omega⟩⟩, fun v44 e44 => ?_⟩⟩
    have b32 : v32 = 0 ∨ v32 = 1 := by rw [e32]; split <;> omega
    have b44 : v44 = 0 ∨ v44 = 1 := by rw [e44]; split <;> omega
    refine s_rc119 b32 h0 hcn hi x1' y1' ⟨xy, yc.1⟩ (fun M' hI' hC' => ?_) (y - x) x v44 M26 (by omega) (Nat.le_refl _) (by omega) b44 I26 (fun j hj x' y' f1 f2 => ?_)
    · rw [show ((i : Int) + 1) = ((i + 1 : Nat) : Int) by first | rfl | omega]
      exact ih (i + 1) M' (by omega) (by omega) hI' hC'
    · rw [I26.2.2.2.2 4 (by decide)] at f1 f2
      rw [mI_ui _ j e26]
      by_cases cj : j = i
      · rw [if_pos ⟨rfl, cj⟩]
        rw [cj] at f1 f2
        by_cases ce : x = y
        · rw [if_pos (by omega)] at e20
          exact Or.inl ⟨by omega, e20⟩
        · rw [if_neg (by omega)] at e20
          exact Or.inr ⟨by omega, by omega, by omega⟩
      · rw [if_neg (fun u => cj u.2)]
        exact hC j (by omega) x' y' (by rw [e4]; exact f1) (by rw [e4]; exact f2)
/-- whether values are what they must be -/
theorem s_So_holds (h0 : Sva L W s g a R k cn cc bc M) (hcn : cn ≤ k) (hk : k ≤ 512) (hr : Rsm M R cn 17 ∧ Rt1 M R cn) (hW : ∀ x, Tat s x → B ≤ W x) (b1 : 300 ≤ B) (hB : B ≤ 16000) : Ci G y_So_holds (d + 7) [vr s, vr a] M (fun x M' => (x = 0 ∨ x = 1) ∧ svQ L W s g a R k cn cc bc M M' ∧ mI M' (s + 30) = mI M (s + 30)) := by
  obtain ⟨hc1, hc2, hc3⟩ := h0.1.2.2.2.2.1
  refine k_So_holds h0.1.1 ⟨h0.1.2.1.1.1, (s_So_attain (d := d) h0 hcn hk hr hW b1 hB).mono (fun x3 M2 q => ?_)⟩
  obtain ⟨x01, hI2⟩ := q
  have V2 := hI2.sv h0 hcn
  have S2 := hI2.2.1
  have r12 : mR M2 s 16 = s + 129 := S2.1.2.1.2.1.2.2.2.2.2.2.2.2.2.2.2.1
  rw [r12]
  refine ⟨m_b32 x01, S2.1.1, S2.1.2.1.1.1, (s_So_fillRanks (d := d + 3) S2 hcn hk (Or.inr rfl)).mono (fun M6 q => ?_)⟩
  obtain ⟨o6, f6, S6⟩ := q
  have V6 := V2.fi h0 hcn f6 o6 (fun z u => by rw [u]; exact Or.inr (Or.inr (Or.inr (Or.inr (Or.inr (Or.inr (Or.inr (Or.inr (Or.inr rfl)))))))))
  refine ⟨o6, ?_⟩
  obtain ⟨⟨o, ⟨⟨s0, -⟩, ⟨-, r1, -, r3, -, -, -, -, -, -, -, r12', -⟩, ⟨k1, -, -, -, -, -, -, -, k12⟩, ⟨n1, -, -, -, -, -, -, -, n12⟩⟩, ⟨g0, -⟩, -, hT⟩, ⟨hF, -⟩, -, -, ⟨t1, t2, t3, t4, -, t7⟩, -, -⟩ := id V6.2.1
  have e30 : mI M6 (s + 30) = mI M (s + 30) := by rw [f6.2.2.2.2.2.2 (s + 30) (show ¬ s + 30 = s + 129 by first | rfl | omega), hI2.2.2.2.1 (s + 30) (Or.inr (Or.inr (Or.inl rfl))) (by omega)]
  suffices HH : ∀ (t i : Nat) (l2 : Int), cn ≤ i + t → i ≤ cn → (l2 = 0 ∨ l2 = 1) → h_So_holds_17 G (d + 6) s a l2 i M6 (fun x M' => (x = 0 ∨ x = 1) ∧ svQ L W s g a R k cn cc bc M M' ∧ mI M' (s + 30) = mI M (s + 30)) from HH cn 0 x3 (by omega) (by omega) x01
  intro t
  induction t with
  | zero =>
    intro i l2 h1 h2 hl
    refine k_So_holds_17 o (m_b32 hl) ⟨by omega, by omega⟩ ?_
    rw [r3, hT.2.2.2]
    exact ⟨s0, g0, fun _ => ⟨hl, hl, V6, e30⟩, fun u => absurd (by omega) u⟩
  | succ t ih =>
    intro i l2 h1 h2 hl
    by_cases ei : i = cn
    · exact ih i l2 (by omega) h2 hl
    have fr := t7 i (by omega)
    refine k_So_holds_17 o (m_b32 hl) ⟨by omega, by omega⟩ ?_
    rw [r3, hT.2.2.2, t2, t4, r12', n12, r1, n1, Int.toNat_natCast, fr.1.2.1.1, show ((i : Int) + 1) = ((i + 1 : Nat) : Int) by first | rfl | omega]
    refine ⟨s0, g0, fun u => absurd u (by omega), fun _ => ⟨t1, t3, ⟨by omega, by omega⟩, fr.1.1, hF.kd fr.2.1, fun _ => ⟨k12, ⟨by omega, by omega⟩⟩, fun v33 e33 => ⟨fun _ => ⟨k12, ⟨by omega, by omega⟩, k1, ⟨by omega, by omega⟩⟩, fun v44 e44 => ?_⟩⟩⟩
    exact ih (i + 1) _ (by omega) (by omega) (and01 hl (by rw [e44]; split <;> omega))
end NBX
end
section
/-! The class's Solver: small steps and growth keep it. -/
section NBY
variable {G : mG} {d s g a R R' cn cc bc i k k' n c un x y B : Nat} {M M0 M' M1 M2 M3 : mM} {L L' : List Nat} {W : Nat → Nat} {S : Nat → Prop}
theorem Oc.fi (h : Oc L M x) (f : FI S M M') : Oc L M' x := ⟨by rw [f.2.2.2.2.1]; exact h.1, h.2.1, fun a ha u => h.2.2 a ha (by rw [← f.2.2.1]; exact u)⟩
theorem FrL.fi (h : FrL L M x) (f : FI S M M') : FrL L M' x := by
  obtain ⟨⟨h1, h2, h3⟩, h4⟩ := h
  exact ⟨⟨by rw [f.1]; exact h1, by rw [f.2.2.1]; exact h2, by rw [f.2.2.2.2.1]; exact h3⟩, h4⟩
/-- tables and the mark of a table of fractions -/
def Sta (s a x : Nat) : Prop := x = a ∨ Stb s x
theorem Sva.sta (h : Sva L W s g a R k cn cc bc M) : ∀ x, Sta s a x → Oc L M x := fun x u => u.elim (fun u => by rw [u]; exact h.2.2.2.2.1.2.2.2.2.1.1) (h.2.2.1 x)
theorem Sva.gst (h : Sva L W s g a R k cn cc bc M) (hi : i ≤ 9) : ¬ Sta s a (g + i) := by
  have gs := h.1.2.1.1.2
  have ka := h.2.2.2.2.1.1
  intro u
  rcases u with u | u
  · have := h.1.2.2.1.kd hi
    by_cases e : i = 0
    · have g0 := h.1.2.2.1.1
      rw [e, Nat.add_zero] at u
      rw [u, ka] at g0
      omega
    · have g0 := h.1.2.2.1.2.2.1 i (by omega) hi
      rw [u, ka] at g0
      omega
  · unfold Stb at u
    omega
/-- ints of the Solver's own tables change -/
theorem Sva.fi (h : Sva L W s g a R k cn cc bc M) (f : FI (Sta s a) M M') (o : mOk M') : Sva L W s g a R k cn cc bc M' ∧ (∀ b, b ∈ L → nv M' b = nv M b) ∧ ∀ i, i < k → mI M' (mR M R i) = mI M (mR M R i) := by
  have gst : ∀ i, i ≤ 9 → ¬ Sta s a (g + i) := fun i hi => h.gst hi
  have sta := h.sta
  obtain ⟨hg, ⟨hF, hSK, hRs, hfw⟩, hSt, hgo, ⟨t1, t2, t3, t4, ⟨t5, t6⟩, t7⟩, hrow, hD⟩ := id h
  obtain ⟨xx, v⟩ := f.nx (T := Tat s) (r := False) (z := s + 1) o hF h.tat sta h.z9
  refine ⟨⟨hg.fi f o gst, ⟨xx.nf, xx.sk hF hSK, ?_, hfw.fi f⟩, fun x hx => (hSt x hx).fi f, fun i hi => (hgo i hi).fi f, ⟨by rw [f.1]; exact t1, by rw [f.2.2.1]; exact t2, by rw [f.1]; exact t3, by rw [f.2.1]; exact t4, ⟨t5.fi f, t6.fi f⟩, fun i hi => by rw [f.2.2.1]; exact (t7 i hi).fi f⟩, fun i hi => by rw [f.2.2.1]; exact hrow i hi, fun i j hi hj ij => by rw [f.2.2.1]; exact hD i j hi hj ij⟩, v, fun i hi => ?_⟩
  · obtain ⟨r1, r2, r3, r4⟩ := hRs
    exact ⟨r1.fi f, fun i hi => (r2 i hi).fi f, fun i hi => by rw [f.2.2.1]; exact r3 i hi, r4⟩
  · refine f.2.2.2.2.2.2 _ (fun u => ?_)
    have k11 := (t7 i hi).1.1
    have hb := hrow i hi
    rcases u with u | u
    · rw [u, t1] at k11; omega
    · unfold Stb at u; omega
/-- the table grows -/
theorem Sva.gw (h : Sva L W s g a R k cn cc bc M) (hg : Gw L W a M L' M') (hT : Te L' W (s + 1) g a R' k' M') (hrow : ∀ i, i < k' → s + 134 < mR M' R' i) : Sva L' W s g a R' k' cn cc bc M' ∧ (∀ x, Stb s x → mI M' x = mI M x) ∧ ∀ i, i ≤ 9 → mI M' (g + i) = mI M (g + i) := by
  obtain ⟨⟨o, ⟨s0, sr, sk, sn⟩, hG, ⟨g3, n3⟩, hGT⟩, ⟨hF, hSK, hRs, hfw⟩, hSt, hgo, ⟨t1, -⟩, -, -⟩ := id h
  have gg := hg
  obtain ⟨o', ⟨-, hF'⟩, l1, l2, f, na, ka⟩ := hg
  obtain ⟨-, ⟨hG', hgo'⟩, hRT, -, hD'⟩ := id hT
  have gi := (gg.gk ⟨hG, hgo⟩).2
  have ns : ∀ x, mK M x ≠ 13 → x ≠ a := fun x hx e => hx (by rw [e]; exact ka)
  obtain ⟨k1, k2, k3, k4, k5, k6, k7, k8, k9⟩ := id sk
  have os : ∀ x, Stb s x → mK M' x = mK M x ∧ mN M' x = mN M x ∧ (x ≠ a → mR M' x = mR M x) ∧ mI M' x = mI M x := fun x hx => by
    obtain ⟨a1, a2, a3, a4, a5⟩ := f.2 x (hSt x hx).1
    exact ⟨a1, a2, a4, a5 (fun u => u)⟩
  have e0 := os s (Or.inl rfl)
  have e29 := os (s + 29) (Or.inr (Or.inl rfl))
  have e30 := os (s + 30) (Or.inr (Or.inr (Or.inl rfl)))
  have e122 := os (s + 122) (Or.inr (Or.inr (Or.inr (Or.inl rfl))))
  have e123 := os (s + 123) (Or.inr (Or.inr (Or.inr (Or.inr (Or.inl rfl)))))
  have e124 := os (s + 124) (Or.inr (Or.inr (Or.inr (Or.inr (Or.inr (Or.inl rfl))))))
  have e125 := os (s + 125) (Or.inr (Or.inr (Or.inr (Or.inr (Or.inr (Or.inr (Or.inl rfl)))))))
  have e126 := os (s + 126) (Or.inr (Or.inr (Or.inr (Or.inr (Or.inr (Or.inr (Or.inr (Or.inl rfl))))))))
  have e128 := os (s + 128) (Or.inr (Or.inr (Or.inr (Or.inr (Or.inr (Or.inr (Or.inr (Or.inr (Or.inl rfl)))))))))
  have e129 := os (s + 129) (Or.inr (Or.inr (Or.inr (Or.inr (Or.inr (Or.inr (Or.inr (Or.inr (Or.inr rfl)))))))))
  have sa : s ≠ a := ns s (by rw [s0.1]; decide)
  have ga : g ≠ a := ns g (by rw [hG.1]; decide)
  have g0z := (hgo 0 (by decide)).1
  rw [Nat.add_zero] at g0z
  have gR : mR M' g = mR M g := (f.2 g g0z).2.2.2.1 ga
  have n3' : mN M' (g + 3) = mN M (g + 3) := (f.2 _ (hgo 3 (by decide)).1).2.1
  refine ⟨⟨⟨o', ⟨⟨by rw [e0.1]; exact s0.1, s0.2⟩, by rw [e0.2.2.1 sa]; exact sr, by rw [e29.1, e30.1, e122.1, e123.1, e124.1, e125.1, e126.1, e128.1, e129.1]; exact sk, by rw [e29.2.1, e30.2.1, e122.2.1, e123.2.1, e124.2.1, e125.2.1, e126.2.1, e128.2.1, e129.2.1]; exact sn⟩, hG', ⟨by rw [gR]; exact g3, by rw [n3']; exact n3⟩, hGT.same gi⟩, ⟨hF', gg.sk hSK, ?_, (gg.frl hfw).1⟩, fun x hx => gg.oc (hSt x hx), hgo', hRT, hrow, hD'⟩, fun x hx => (os x hx).2.2.2, gi⟩
  obtain ⟨⟨c0, c1, c2, c3⟩, c4, c5, c6⟩ := hRs
  have oe : ∀ i, i ≤ 6 → mK M' (s + 31 + i) = mK M (s + 31 + i) ∧ mN M' (s + 31 + i) = mN M (s + 31 + i) ∧ (s + 31 + i ≠ a → mR M' (s + 31 + i) = mR M (s + 31 + i)) := fun i hi => by
    obtain ⟨a1, a2, a3, a4, a5⟩ := f.2 _ (c4 i hi).1
    exact ⟨a1, a2, a4⟩
  have r0 := oe 0 (by decide)
  rw [Nat.add_zero] at r0
  exact ⟨⟨by rw [r0.1]; exact c0, by rw [r0.2.2 (ns _ (by rw [c0]; decide))]; exact c1, by rw [(oe 1 (by decide)).1, (oe 2 (by decide)).1, (oe 3 (by decide)).1, (oe 4 (by decide)).1, (oe 5 (by decide)).1, (oe 6 (by decide)).1]; exact c2, by rw [(oe 1 (by decide)).2.1, (oe 2 (by decide)).2.1, (oe 3 (by decide)).2.1, (oe 4 (by decide)).2.1, (oe 5 (by decide)).2.1, (oe 6 (by decide)).2.1]; exact c3⟩, fun i hi => gg.oc (c4 i hi), fun i hi => by rw [(oe 2 (by decide)).2.2 (ns _ (by rw [c2.2.1]; decide))]; exact ⟨(c5 i hi).1, l1 _ (c5 i hi).2⟩, l1 _ c6⟩
end NBY
end
section
/-! The class's Solver: commands that are not chosen, mixed. -/
section NBYA
variable {G : mG} {d s g a R cn cc bc i k n c un x y B O j : Nat} {M M0 M' M1 M2 M3 : mM} {L L' : List Nat} {W : Nat → Nat} {S S' T C : Nat → Prop} {r : Prop}
/-- ints of cells of S change, and the Solver's own long -/
def Fxo (S : Nat → Prop) (s : Nat) (M M' : mM) : Prop := mK M' = mK M ∧ mN M' = mN M ∧ mR M' = mR M ∧ (∀ x, x ≠ s → mL M' x = mL M x) ∧ mZ M' = mZ M ∧ mS M' = mS M ∧ ∀ x, ¬ S x → mI M' x = mI M x
theorem Fxo.refl : Fxo S s M M := ⟨rfl, rfl, rfl, fun _ _ => rfl, rfl, rfl, fun _ _ => rfl⟩
theorem Fxo.trans (h : Fxo S s M M1) (q : Fxo S s M1 M2) : Fxo S s M M2 := ⟨q.1.trans h.1, q.2.1.trans h.2.1, q.2.2.1.trans h.2.2.1, fun x hx => (q.2.2.2.1 x hx).trans (h.2.2.2.1 x hx), q.2.2.2.2.1.trans h.2.2.2.2.1, q.2.2.2.2.2.1.trans h.2.2.2.2.2.1, fun x hx => (q.2.2.2.2.2.2 x hx).trans (h.2.2.2.2.2.2 x hx)⟩
theorem Fxo.mono (h : Fxo S s M M1) (hs : ∀ x, S x → S' x) : Fxo S' s M M1 := ⟨h.1, h.2.1, h.2.2.1, h.2.2.2.1, h.2.2.2.2.1, h.2.2.2.2.2.1, fun x hx => h.2.2.2.2.2.2 x (fun u => hx (hs x u))⟩
theorem FI.fo (f : FI S M M1) : Fxo S s M M1 := ⟨f.1, f.2.1, f.2.2.1, fun x _ => by rw [f.2.2.2.1], f.2.2.2.2.1, f.2.2.2.2.2.1, f.2.2.2.2.2.2⟩
theorem Fxo.ul {v : Int} (e : M1 = mUL M s j v) : Fxo S s M M1 := by
  subst e
  refine ⟨rfl, rfl, rfl, fun x hx => ?_, rfl, rfl, fun _ _ => rfl⟩
  funext k
  rw [mL_UL, if_neg (fun u => hx u.1)]
/-- the same memory with the old longs -/
def noG (M M' : mM) : mM := (mK M', mN M', mI M', mL M, mR M', mZ M', mS M')
theorem Fxo.fi (f : Fxo S s M M') : FI S M (noG M M') := ⟨f.1, f.2.1, f.2.2.1, rfl, f.2.2.2.2.1, f.2.2.2.2.2.1, f.2.2.2.2.2.2⟩
theorem noG_ok (o : mOk M) (o' : mOk M') : mOk (noG M M') := fun b k => ⟨(o' b k).1, (o b k).2⟩
/-- as numbers' steps -/
theorem Fxo.nx (f : Fxo C s M M') (o : mOk M) (o' : mOk M') (hF : NF L W M) (hT : ∀ t, T t → t ∈ L) (hC : ∀ x, C x → Oc L M x) (hz : s + 1 < mZ M ∧ mK M (s + 1) = 9) : NX L W T C r (s + 1) M M' ∧ ∀ a, a ∈ L → nv M' a = nv M a := by
  obtain ⟨⟨⟨-, q1⟩, q2, q3, q4, q5⟩, v⟩ := f.fi.nx (T := T) (r := r) (noG_ok o o') hF hT hC hz
  refine ⟨⟨⟨o', q1⟩, q2, ⟨q3.1, fun x hx => ?_⟩, q4, q5⟩, v⟩
  obtain ⟨a1, a2, -, a4, a5⟩ := q3.2 x hx
  exact ⟨a1, a2, fun u => f.2.2.2.1 x (fun e => u (Or.inr (by omega))), a4, a5⟩
/-- an unsigned shift by 33 -/
theorem ush33 {x : Int} : 0 ≤ ushrL x 33 := by
  unfold ushrL
  have e : ((Int32.ofInt 33).toInt64.toUInt64 &&& Int64.toUInt64 63) = (33 : UInt64) := by decide +kernel
  rw [e]
  generalize (Int64.ofInt x).toUInt64 = w
  have h1 : (w >>> 33).toNat < 2 ^ 31 := by
    rw [UInt64.toNat_shiftRight]
    have h2 : w.toNat < 2 ^ 64 := w.toNat_lt
    have e3 : (33 : UInt64).toNat % 64 = 33 := by decide
    rw [e3, Nat.shiftRight_eq_div_pow]
    exact Nat.div_lt_of_lt_mul (by omega)
  have h4 : (w >>> 33).toInt64.toInt = ((w >>> 33).toNat : Int) := by
    show (w >>> 33).toInt64.toBitVec.toInt = _
    have e5 : (w >>> 33).toInt64.toBitVec = (w >>> 33).toBitVec := rfl
    rw [e5, BitVec.toInt_eq_toNat_of_lt]
    · rfl
    · show 2 * (w >>> 33).toNat < 2 ^ 64
      omega
  rw [h4]
  omega
/-- the commands that are not chosen are mixed: nothing but their places and the draw changes -/
def mxQ (s O n : Nat) (M M' : mM) : Prop := mOk M' ∧ Fxo (fun x => x = O) s M M' ∧ ∀ P : Int → Prop, (∀ j, j < n → P (mI M O j)) → ∀ j, j < n → P (mI M' O j)
theorem s_So_mix {l1 l2 : Nat} (o : mOk M) (hs : mK M s = 8) (hr : mR M s 11 = O) (hK : mK M O = 30) (hn : mN M O = 2400) (h2 : l2 ≤ n) (hn2 : n ≤ 2400) (h1 : l1 ≤ 2400) : Cv G y_So_mix d [vr s, vi l1, vi l2] M (mxQ s O n M) := by
  refine k_So_mix o ⟨by omega, by omega⟩ ⟨by omega, by omega⟩ ?_
  suffices H : ∀ (t : Nat) (l3 : Int) (M1 : mM), l3 ≤ l1 + t → l3 < n → -1 ≤ l3 → mxQ s O n M M1 → h_So_mix_4 G d s l1 l3 M1 (mxQ s O n M) from H 2400 ((l2 : Int) - 1) M (by omega) (by omega) (by omega) ⟨o, Fxo.refl, fun _ u => u⟩
  intro t
  induction t with
  | zero =>
    intro l3 M1 a1 a2 a3 hI
    exact k_So_mix_4 hI.1 ⟨by omega, by omega⟩ ⟨by omega, by omega⟩ ⟨fun _ => hI, fun u => absurd (by omega) u⟩
  | succ t ih =>
    intro l3 M1 a1 a2 a3 hI
    refine k_So_mix_4 hI.1 ⟨by omega, by omega⟩ ⟨by omega, by omega⟩ ⟨fun _ => hI, fun u => ?_⟩
    obtain ⟨o1, f1, p1⟩ := hI
    have s1 : mK M1 s = 8 := by rw [f1.1]; exact hs
    refine ⟨s1, fun M4 e4 => ?_⟩
    have f4 : Fxo (fun x => x = O) s M1 M4 := Fxo.ul e4
    have o4 : mOk M4 := by rw [e4]; exact mOk_UL o1 i64_w64
    have i4 : mI M4 = mI M1 := by rw [e4]; rfl
    have hlt := ush33 (x := mL M4 s 14)
    obtain ⟨q, eq⟩ : ∃ q : Nat, ((q : Nat) : Int) = Int.tmod (ushrL (mL M4 s 14) 33) ((l3 - l1) + 1) ∧ (q : Int) < (l3 - l1) + 1 := by
      have b1 := Int.tmod_nonneg ((l3 - l1) + 1) hlt
      have b2 := Int.tmod_lt_of_pos (ushrL (mL M4 s 14) 33) (show 0 < (l3 - l1) + 1 by omega)
      exact ⟨(Int.tmod (ushrL (mL M4 s 14) 33) ((l3 - l1) + 1)).toNat, by omega, by omega⟩
    rw [← eq.1, f4.2.2.1, f1.2.2.1, hr, f4.1, f1.1, f4.2.1, f1.2.1, hn, i4]
    obtain ⟨m, em⟩ : ∃ m : Nat, l3 = ((m : Nat) : Int) := ⟨l3.toNat, by omega⟩
    subst em
    have eq2 := eq.2
    clear eq hlt
    have e5 : Int.toNat (((l1 : Nat) : Int) + ((q : Nat) : Int)) = l1 + q := by omega
    rw [e5, Int.toNat_natCast]
    refine ⟨⟨by omega, by omega⟩, by omega, hK, ⟨by omega, by omega⟩, ⟨by omega, by omega⟩, ⟨by omega, by omega⟩, fun M12 e12 => ?_⟩
    have f12 : FI (fun x => x = O) M4 M12 := by rw [e12]; exact FI.ui rfl
    have o12 : mOk M12 := by rw [e12]; exact mOk_UI o4 (o1 O (l1 + q)).1
    rw [f12.1, f12.2.1, f12.2.2.1, f4.2.2.1, f1.2.2.1, hr, f4.1, f1.1, f4.2.1, f1.2.1, hn]
    refine ⟨hK, ⟨by omega, by omega⟩, fun M16 e16 => ?_⟩
    have f16 : FI (fun x => x = O) M12 M16 := by rw [e16]; exact FI.ui rfl
    have o16 : mOk M16 := by rw [e16]; exact mOk_UI o12 (o1 O m).1
    rw [show ((m : Nat) : Int) + (-1) = ((m : Nat) : Int) - 1 by first | rfl | omega]
    refine ih _ M16 (by omega) (by omega) (by omega) ⟨o16, f1.trans (f4.trans ((f12.trans f16).fo)), fun P hP j hj => ?_⟩
    have p2 := p1 P hP
    rw [mI_ui O j e16, mI_ui O j e12, i4]
    split
    · exact p2 m (by omega)
    · split
      · exact p2 (l1 + q) (by omega)
      · exact p2 j hj
end NBYA
end
section
/-! The class's Solver: cells that stay the same; the place of the list of other commands. -/
section NBYB
variable {G : mG} {d t g s b e f i j a n cn cc bc z w x Y Cy R k O : Nat} {M M0 M' M1 : mM} {L L' : List Nat} {W : Nat → Nat} {T C S Z : Nat → Prop} {r : Prop}
/-- a cell is the same (but for longs) -/
def Sm (M M' : mM) (x : Nat) : Prop := mK M' x = mK M x ∧ mN M' x = mN M x ∧ mR M' x = mR M x ∧ mI M' x = mI M x
theorem Nt.sm (h : Nt M a Y Cy n) (ha : Sm M M' a) (hY : Sm M M' Y) (hz : mZ M ≤ mZ M') : Nt M' a Y Cy n := by
  obtain ⟨⟨l0, p0, kX, nX, e, ne, y1, y2⟩, g1, g2, g3, g4⟩ := h
  exact ⟨⟨by rw [ha.1]; exact l0, by rw [ha.2.2.1]; exact p0, by rw [hY.1]; exact kX, by rw [hY.2.1]; exact nX, e, ne, by omega, by omega⟩, by rw [ha.2.2.2]; exact g1, g2, fun j hj => by rw [hY.2.2.2]; exact g3 j hj, by rw [hY.2.2.2]; exact g4⟩
theorem NF.sm (h : NF L W M) (hs : ∀ a, a ∈ L → Sm M M' a ∧ Sm M M' (mR M a 0)) (hz : mZ M ≤ mZ M') : NF L W M' ∧ ∀ a, a ∈ L → nv M' a = nv M a ∧ cp M' a = cp M a ∧ mR M' a = mR M a := by
  have cc : ∀ a, a ∈ L → cp M' a = cp M a := fun a ha => by
    unfold cp
    rw [(hs a ha).1.2.2.1, (hs a ha).2.2.1]
  have nt' : ∀ a, a ∈ L → Nt M' a (mR M a 0) (cp M a) (sz M a) := fun a ha => (h.nt ha).sm (hs a ha).1 (hs a ha).2 hz
  refine ⟨⟨h.1, fun a ha => ⟨(nt' a ha).nn, by rw [cc a ha]; exact (h.2.1 a ha).2.1, (h.2.1 a ha).2.2⟩, fun a b ha hb u => h.2.2 a b ha hb (by rw [← (hs a ha).1.2.2.1, ← (hs b hb).1.2.2.1]; exact u)⟩, fun a ha => ⟨?_, cc a ha, (hs a ha).1.2.2.1⟩⟩
  rw [(nt' a ha).nv, (h.nt ha).nv, (hs a ha).2.2.2.2]
theorem Oc.sm (h : Oc L M x) (hr : ∀ a, a ∈ L → mR M' a = mR M a) (hz : mZ M ≤ mZ M') : Oc L M' x := ⟨Nat.lt_of_lt_of_le h.1 hz, h.2.1, fun a ha u => h.2.2 a ha (by rw [← hr a ha]; exact u)⟩
theorem FrP.sm (h : FrP M f) (hs : Sm M M' f) (hz : mZ M ≤ mZ M') : FrP M' f := ⟨by rw [hs.1]; exact h.1, by rw [hs.2.2.1]; exact h.2.1, Nat.lt_of_lt_of_le h.2.2 hz⟩
theorem FrL.sm (h : FrL L M f) (hs : Sm M M' f) (hz : mZ M ≤ mZ M') : FrL L M' f := ⟨h.1.sm hs hz, h.2⟩
theorem SK.sm (h : SK L M z) (h0 : Sm M M' z) (h13 : Sm M M' (z + 13)) (h18 : Sm M M' (z + 18)) (h23 : Sm M M' (z + 23)) (hz : mZ M ≤ mZ M') : SK L M' z := by
  obtain ⟨⟨k1, k2⟩, k3, k4, ⟨k5, k6, k7⟩, ⟨k8, k9⟩, k10, k11⟩ := h
  exact ⟨⟨by rw [h0.1]; exact k1, by omega⟩, by rw [h0.2.2.1]; exact k3, by rw [h0.2.2.1]; exact k4, ⟨by rw [h13.1]; exact k5, by rw [h13.2.1]; exact k6, by omega⟩, ⟨k8.sm h18 hz, k9.sm h23 hz⟩, k10, k11⟩
theorem RsK.sm (h : RsK L M e) (hs : ∀ i, i ≤ 6 → Sm M M' (e + i)) (hr : ∀ a, a ∈ L → mR M' a = mR M a) (hz : mZ M ≤ mZ M') : RsK L M' e := by
  obtain ⟨⟨c0, c1, c2, c3⟩, c4, c5, c6⟩ := h
  have s0 := hs 0 (by decide)
  rw [Nat.add_zero] at s0
  have s1 := hs 1 (by decide)
  have s2 := hs 2 (by decide)
  have s3 := hs 3 (by decide)
  have s4 := hs 4 (by decide)
  have s5 := hs 5 (by decide)
  have s6 := hs 6 (by decide)
  refine ⟨⟨by rw [s0.1]; exact c0, by rw [s0.2.2.1]; exact c1, by rw [s1.1, s2.1, s3.1, s4.1, s5.1, s6.1]; exact c2, by rw [s1.2.1, s2.2.1, s3.2.1, s4.2.1, s5.2.1, s6.2.1]; exact c3⟩, fun i hi => (c4 i hi).sm hr hz, fun i hi => by rw [s2.2.2.1]; exact c5 i hi, c6⟩
theorem st126 : Stb s (s + 126) := Or.inr (Or.inr (Or.inr (Or.inr (Or.inr (Or.inr (Or.inr (Or.inl rfl)))))))
theorem st124 : Stb s (s + 124) := Or.inr (Or.inr (Or.inr (Or.inr (Or.inr (Or.inl rfl)))))
theorem st30 : Stb s (s + 30) := Or.inr (Or.inr (Or.inl rfl))
/-- where the list of the other commands lies, and its length -/
def Ot (L : List Nat) (M : mM) (s O n : Nat) : Prop := (mR M s 11 = O ∧ mK M O = 30 ∧ mN M O = n) ∧ Oc L M O ∧ ((O = s + 127 ∧ n = 0) ∨ (s + 134 < O ∧ n = 2400))
theorem Ot.ne (h : Ot L M s O n) : O ≠ s + 1 ∧ O ≠ s := by
  have := h.2.2
  constructor <;> omega
theorem Ot.nx (h : Ot L M s O n) (q : NX L W T C r (s + 1) M M') (hF : NF L W M) (hs : Oc L M s) : Ot L M' s O n := by
  obtain ⟨n1, n2⟩ := h.ne
  obtain ⟨⟨h1, h2, h3⟩, h4, h5⟩ := h
  obtain ⟨a1, a2, -⟩ := q.oth h4 n1
  obtain ⟨-, -, b3, -⟩ := q.oth hs (by omega)
  exact ⟨⟨by rw [b3]; exact h1, by rw [a1]; exact h2, by rw [a2]; exact h3⟩, q.oc hF h4, h5⟩
theorem Ot.fi (h : Ot L M s O n) (f : FI S M M') : Ot L M' s O n := ⟨⟨by rw [f.2.2.1]; exact h.1.1, by rw [f.1]; exact h.1.2.1, by rw [f.2.1]; exact h.1.2.2⟩, h.2.1.fi f, h.2.2⟩
theorem Ot.gw (h : Ot L M s O n) (q : Gw L W a M L' M') (sa : s ≠ a) (hs : s < mZ M) : Ot L' M' s O n := by
  obtain ⟨⟨h1, h2, h3⟩, h4, h5⟩ := h
  have f := q.2.2.2.2.1
  have fs := f.2 s hs
  have fo := f.2 O h4.1
  exact ⟨⟨by rw [fs.2.2.2.1 sa]; exact h1, by rw [fo.1]; exact h2, by rw [fo.2.1]; exact h3⟩, q.oc h4, h5⟩
/-- a new list for the other commands -/
def Gro (s : Nat) (M M' : mM) : Prop := M' = mUR (mNew M 30 2400 2400) s 11 (mZ M)
theorem Gro.sm (h : Gro s M M') (hx : x < mZ M) (hs : x ≠ s) : Sm M M' x := by
  unfold Gro at h
  subst h
  have nz : ¬ x = mZ M := by omega
  refine ⟨if_neg nz, if_neg nz, ?_, ?_⟩
  · funext j
    show (if x = s ∧ j = 11 then mZ M else (if x = mZ M then 0 else mR M x j)) = mR M x j
    rw [if_neg (fun u => hs u.1), if_neg nz]
  · funext j
    show (if x = mZ M then 0 else mI M x j) = mI M x j
    exact if_neg nz
theorem Gro.own (h : Gro s M M') (hs : s < mZ M) : mK M' s = mK M s ∧ mN M' s = mN M s ∧ mI M' s = mI M s ∧ mR M' s 11 = mZ M ∧ ∀ j, j ≠ 11 → mR M' s j = mR M s j := by
  unfold Gro at h
  subst h
  have nz : ¬ s = mZ M := by omega
  refine ⟨if_neg nz, if_neg nz, ?_, if_pos ⟨rfl, rfl⟩, fun j hj => ?_⟩
  · funext j
    show (if s = mZ M then 0 else mI M s j) = mI M s j
    exact if_neg nz
  · show (if s = s ∧ j = 11 then mZ M else (if s = mZ M then 0 else mR M s j)) = mR M s j
    rw [if_neg (fun u => hj u.2), if_neg nz]
theorem Gro.lng (h : Gro s M M') (hx : x < mZ M) : mL M' x = mL M x := by
  unfold Gro at h
  subst h
  funext j
  show (if x = mZ M then 0 else mL M x j) = mL M x j
  exact if_neg (by omega)
theorem Gro.new (h : Gro s M M') : mK M' (mZ M) = 30 ∧ mN M' (mZ M) = 2400 ∧ mZ M' = mZ M + 1 ∧ mS M' = mS M + 2400 ∧ (mOk M → mOk M') := by
  unfold Gro at h
  subst h
  exact ⟨if_pos rfl, if_pos rfl, rfl, rfl, fun o => mOk_UR (mOk_New o)⟩
/-- the Solver with a new list -/
theorem Sva.gro (h : Sva L W s g a R k cn cc bc M) (hz : s + 134 < mZ M) (q : Gro s M M') : Sva L W s g a R k cn cc bc M' ∧ Ot L M' s (mZ M) 2400 ∧ (∀ b, b ∈ L → nv M' b = nv M b ∧ cp M' b = cp M b ∧ mR M' b = mR M b) ∧ (∀ x, x < mZ M → mI M' x = mI M x) ∧ mR M' R = mR M R := by
  obtain ⟨⟨o, ⟨s0, sr, sk, sn⟩, hG, ⟨g3, n3⟩, hT⟩, ⟨hF, hSK, hRs, hfw⟩, hSt, hgo, ⟨t1, t2, t3, t4, ⟨t5, t6⟩, t7⟩, hrow, hD⟩ := id h
  have zs := hSt s (Or.inl rfl)
  obtain ⟨w1, w2, w3, w4, w5⟩ := q.own zs.1
  obtain ⟨z1, z2, z3, z4, z5⟩ := q.new
  have hzz : mZ M ≤ mZ M' := by omega
  have hI : ∀ x, x < mZ M → mI M' x = mI M x := fun x hx => by
    by_cases c : x = s
    · rw [c]; exact w3
    · exact (q.sm hx c).2.2.2
  have st : ∀ x, Stb s x → x ≠ s → Sm M M' x := fun x hx nx => q.sm (hSt x hx).1 nx
  have e29 := st (s + 29) (Or.inr (Or.inl rfl)) (by omega)
  have e30 := st (s + 30) (Or.inr (Or.inr (Or.inl rfl))) (by omega)
  have e122 := st (s + 122) (Or.inr (Or.inr (Or.inr (Or.inl rfl)))) (by omega)
  have e123 := st (s + 123) (Or.inr (Or.inr (Or.inr (Or.inr (Or.inl rfl))))) (by omega)
  have e124 := st (s + 124) (Or.inr (Or.inr (Or.inr (Or.inr (Or.inr (Or.inl rfl)))))) (by omega)
  have e125 := st (s + 125) (Or.inr (Or.inr (Or.inr (Or.inr (Or.inr (Or.inr (Or.inl rfl))))))) (by omega)
  have e126 := st (s + 126) (Or.inr (Or.inr (Or.inr (Or.inr (Or.inr (Or.inr (Or.inr (Or.inl rfl)))))))) (by omega)
  have e128 := st (s + 128) (Or.inr (Or.inr (Or.inr (Or.inr (Or.inr (Or.inr (Or.inr (Or.inr (Or.inl rfl))))))))) (by omega)
  have e129 := st (s + 129) (Or.inr (Or.inr (Or.inr (Or.inr (Or.inr (Or.inr (Or.inr (Or.inr (Or.inr rfl))))))))) (by omega)
  have gs := s0.2
  have og : ∀ i, i ≤ 9 → Sm M M' (g + i) := fun i hi => q.sm (hgo i hi).1 (by omega)
  have g0 := og 0 (by decide)
  rw [Nat.add_zero] at g0
  have ls : ∀ b, b ∈ L → Sm M M' b ∧ Sm M M' (mR M b 0) := fun b hb => ⟨q.sm (hF.lt hb).1 (fun u => zs.2.1 (by rw [← u]; exact hb)), q.sm (hF.lt hb).2 (zs.2.2 b hb)⟩
  obtain ⟨F', nvs⟩ := hF.sm ls hzz
  have hr : ∀ b, b ∈ L → mR M' b = mR M b := fun b hb => (nvs b hb).2.2
  have na : a ≠ s := fun u => by rw [u, s0.1] at t1; exact absurd t1 (by decide)
  have nR : R ≠ s := fun u => by rw [u, s0.1] at t3; exact absurd t3 (by decide)
  have sa := q.sm t5.1 na
  have sR := q.sm t6.1 nR
  have rw7 : ∀ i, i < k → Sm M M' (mR M R i) := fun i hi => q.sm (t7 i hi).1.2.2 (by have := hrow i hi; omega)
  have kz := hSK.1.2
  have k13 := hSK.2.2.2.1.2.2
  have k18 := hSK.2.2.2.2.1.1.2.2
  have k23 := hSK.2.2.2.2.1.2.2.2
  refine ⟨⟨⟨z5 o, ⟨⟨by rw [w1]; exact s0.1, s0.2⟩, by rw [w5 0 (by decide), w5 1 (by decide), w5 2 (by decide), w5 3 (by decide), w5 4 (by decide), w5 5 (by decide), w5 6 (by decide), w5 7 (by decide), w5 8 (by decide), w5 9 (by decide), w5 15 (by decide), w5 16 (by decide), w5 17 (by decide)]; exact sr, by rw [e29.1, e30.1, e122.1, e123.1, e124.1, e125.1, e126.1, e128.1, e129.1]; exact sk, by rw [e29.2.1, e30.2.1, e122.2.1, e123.2.1, e124.2.1, e125.2.1, e126.2.1, e128.2.1, e129.2.1]; exact sn⟩, ⟨by rw [g0.1]; exact hG.1, by rw [g0.2.2.1]; exact hG.2.1, fun i hi hi' => by rw [(og i hi').1]; exact hG.2.2.1 i hi hi', by rw [(og 2 (by decide)).2.1, (og 4 (by decide)).2.1, (og 6 (by decide)).2.1, (og 7 (by decide)).2.1, (og 8 (by decide)).2.1, (og 9 (by decide)).2.1]; exact hG.2.2.2⟩, ⟨by rw [g0.2.2.1]; exact g3, by rw [(og 3 (by decide)).2.1]; exact n3⟩, hT.same (fun i hi => (og i hi).2.2.2)⟩, ⟨F', hSK.sm (q.sm kz (by omega)) (q.sm k13 (by omega)) (q.sm k18 (by omega)) (q.sm k23 (by omega)) hzz, hRs.sm (fun i hi => q.sm (hRs.2.1 i hi).1 (by omega)) hr hzz, hfw.sm (q.sm hfw.1.2.2 (by omega)) hzz⟩, fun x hx => (hSt x hx).sm hr hzz, fun i hi => (hgo i hi).sm hr hzz, ⟨by rw [sa.1]; exact t1, by rw [sa.2.2.1]; exact t2, by rw [sR.1]; exact t3, by rw [sR.2.1]; exact t4, ⟨t5.sm hr hzz, t6.sm hr hzz⟩, fun i hi => by rw [sR.2.2.1]; exact (t7 i hi).sm (rw7 i hi) hzz⟩, fun i hi => by rw [sR.2.2.1]; exact hrow i hi, fun i j hi hj ij => by rw [sR.2.2.1]; exact hD i j hi hj ij⟩, ⟨⟨w4, z1, z2⟩, ⟨by omega, fun u => by have := (hF.lt u).1; omega, fun b hb u => ?_⟩, Or.inr ⟨hz, rfl⟩⟩, nvs, hI, sR.2.2.1⟩
  rw [hr b hb] at u
  have := (hF.lt hb).2
  omega
end NBYB
end
section
/-! The class's Solver: one better command. -/
section NBYC
variable {G : mG} {d s g a R cn cc bc i k n c un x y B O oc mo : Nat} {M M0 M' M1 M2 M3 : mM} {L : List Nat} {W : Nat → Nat} {v : Int}
/-- a command that is left for an unknown state, as it stands in the list -/
def ot1 (M : mM) (s un : Nat) (v : Int) : Prop := ∃ c i k lo hi : Nat, v = ((c * 40 + i : Nat) : Int) ∧ i < un ∧ mI M (s + 125) i = ((k : Nat) : Int) ∧ mI M (s + 122) k = ((lo : Nat) : Int) ∧ mI M (s + 123) k = ((hi : Nat) : Int) ∧ lo ≤ c ∧ c < hi
theorem ot1.cg (h : ot1 M s un v) (e2 : mI M' (s + 122) = mI M (s + 122)) (e3 : mI M' (s + 123) = mI M (s + 123)) (e5 : mI M' (s + 125) = mI M (s + 125)) : ot1 M' s un v := by
  unfold ot1 at h ⊢
  rw [e2, e3, e5]
  exact h
/-- the list of the other commands: oc of them, min's mo in front -/
def Oth (M : mM) (s un O oc mo : Nat) : Prop := (mR M s 11 = O ∧ mK M O = 30 ∧ mN M O = 2400) ∧ (mI M s 12 = ((oc : Nat) : Int) ∧ mI M s 13 = ((mo : Nat) : Int) ∧ mo ≤ oc ∧ oc ≤ 2400) ∧ ∀ j, j < oc → ot1 M s un (mI M O j)
theorem td40 {c i : Nat} (h : i < 40) : Int.tdiv (((c * 40 + i : Nat)) : Int) 40 = ((c : Nat) : Int) ∧ Int.tmod (((c * 40 + i : Nat)) : Int) 40 = ((i : Nat) : Int) := by
  rw [Int.tdiv_eq_ediv_of_nonneg (by omega), Int.tmod_eq_emod_of_nonneg (by omega)]
  constructor <;> omega
theorem unk_cg (h : Unk M s cn un) (e0 : mI M' s 10 = mI M s 10) (e2 : mI M' (s + 122) = mI M (s + 122)) (e3 : mI M' (s + 123) = mI M (s + 123)) (e4 : mI M' (s + 124) = mI M (s + 124)) (e5 : mI M' (s + 125) = mI M (s + 125)) (e6 : mI M' (s + 126) = mI M (s + 126)) : Unk M' s cn un := by
  unfold Unk Slo at h ⊢
  rw [e0, e2, e3, e4, e5, e6]
  exact h
/-- numbers' steps leave the list alone -/
theorem at_oth (h0 : Sva L W s g a R k cn cc bc M0) (hI : atI L W s g a R k cn cc bc M0 M) (oO : Oc L M0 O) (hO : s + 134 < O) (h : Oth M0 s un O oc mo) : Oth M s un O oc mo := by
  obtain ⟨hN, -, -, st, -, -⟩ := hI
  obtain ⟨a1, a2, -, a4⟩ := hN.oth oO (by omega)
  obtain ⟨-, -, b3, -⟩ := hN.oth (h0.2.2.1 s (Or.inl rfl)) (by omega)
  have eO := a4 (fun u => by unfold Cat at u; omega)
  obtain ⟨⟨h1, h2, h3⟩, ⟨h4, h5, h6⟩, h7⟩ := h
  have e0 := st s (Or.inl rfl) (by omega)
  refine ⟨⟨by rw [b3]; exact h1, by rw [a1]; exact h2, by rw [a2]; exact h3⟩, ⟨by rw [e0]; exact h4, by rw [e0]; exact h5, h6⟩, fun j hj => ?_⟩
  rw [eO]
  exact (h7 j hj).cg (st (s + 122) st122.1 (by omega)) (st (s + 123) st122.2.1 (by omega)) (st (s + 125) st122.2.2 (by omega))
theorem at_unk (hI : atI L W s g a R k cn cc bc M0 M) (h : Unk M0 s cn un) : Unk M s cn un := by
  have st := hI.2.2.2.1
  exact unk_cg h (by rw [st s (Or.inl rfl) (by omega)]) (st (s + 122) st122.1 (by omega)) (st (s + 123) st122.2.1 (by omega)) (st (s + 124) st124 (by omega)) (st (s + 125) st122.2.2 (by omega)) (st (s + 126) st126 (by omega))
def Co1 (s O x : Nat) : Prop := Cat s x ∨ x = s + 126 ∨ x = O
/-- what improveOne leaves behind -/
def i1I (L : List Nat) (W : Nat → Nat) (s g a R k cn cc bc un O oc mo : Nat) (M0 M : mM) : Prop := NX L W (Tat s) (Co1 s O) False (s + 1) M0 M ∧ Sva L W s g a R k cn cc bc M ∧ mR M R = mR M0 R ∧ (∀ x, Stb s x → x ≠ s + 128 → x ≠ s + 126 → mI M x = mI M0 x) ∧ (Rsm M R cn 17 ∧ Rt1 M R cn) ∧ Unk M s cn un ∧ Oth M s un O oc mo ∧ ∀ i, i ≤ 9 → mI M (g + i) = mI M0 (g + i)
theorem i1_mk (h : Sva L W s g a R k cn cc bc M0) (hcn : cn ≤ k) (hr : Rsm M0 R cn 17 ∧ Rt1 M0 R cn) (kO : mK M0 O = 30) (hO : s + 134 < O) (q : NX L W (Tat s) (Co1 s O) False (s + 1) M0 M) (hU : Unk M s cn un) (hH : Oth M s un O oc mo) : i1I L W s g a R k cn cc bc un O oc mo M0 M := by
  have hF := h.2.1.1
  have gs := h.1.2.1.1.2
  obtain ⟨e1, e2, e3⟩ := h.nxg q (fun i hi u => by unfold Co1 Cat at u; omega) (q.sk hF h.2.1.2.1)
  have rv : ∀ i, i < cn → nv M (mR M0 R i + 1) = nv M0 (mR M0 R i + 1) ∧ nv M (mR M0 R i + 3) = nv M0 (mR M0 R i + 3) ∧ mI M (mR M0 R i) = mI M0 (mR M0 R i) := fun i hi => by
    have f := h.2.2.2.2.1.2.2.2.2.2 i (by omega)
    have ap := h.te.2.2.2.1 i (by omega)
    have hb := h.2.2.2.2.2.1 i (by omega)
    have nO : mR M0 R i ≠ O := fun u => by
      have k11 := f.1.1
      rw [u, kO] at k11
      exact absurd k11 (by decide)
    refine ⟨(q.num hF f.2.1 (fun u => u.elim ap.1 (fun u => by unfold T2 at u; omega))).2.2, (q.num hF f.2.2 (fun u => u.elim ap.2.1 (fun u => by unfold T2 at u; omega))).2.2, (q.frl hF f).2 (fun u => ?_)⟩
    unfold Co1 Cat at u
    omega
  refine ⟨q, e1, e3, fun x hx nx nx' => ?_, ⟨fun i hi => ?_, fun i hi => ?_⟩, hU, hH, e2⟩
  · have ne : x ≠ s + 1 := by unfold Stb at hx; omega
    refine (q.oth (h.2.2.1 x hx) ne).2.2.2 (fun u => ?_)
    unfold Co1 Cat at u
    unfold Stb at hx
    omega
  · rw [e3, (rv i hi).1, (rv i hi).2.1]; exact hr.1 i hi
  · rw [e3, (rv i hi).2.2]; exact hr.2 i hi
theorem s_i12 (h0 : Sva L W s g a R k cn cc bc M0) (hcn : cn ≤ k) (hk : k ≤ 512) (hr : Rsm M0 R cn 17 ∧ Rt1 M0 R cn) (hL : LHs M0 s cn cc) (hU : Unk M0 s cn un) (hH : Oth M0 s un O oc mo) (oO : Oc L M0 O) (hO : s + 134 < O) (hW : ∀ x, Tat s x → B ≤ W x) (b1 : 300 ≤ B) (hB : B ≤ 16000) : ∀ (t i : Nat) (M : mM), oc ≤ i + t → i ≤ oc → atI L W s g a R k cn cc bc M0 M → h_So_improveOne_2 G (d + 5) s a i M (fun x M' => (x = 0 ∨ x = 1) ∧ i1I L W s g a R k cn cc bc un O oc mo M0 M') := by
  obtain ⟨hc1, hc2, hc3⟩ := h0.1.2.2.2.2.1
  have u40 := hU.2.1
  have oc24 := hH.2.1.2.2.2
  have kO := hH.1.2.1
  have hF0 := h0.2.1.1
  have c1o : ∀ x, Co1 s O x → Oc L M0 x := fun x u => by
    rcases u with u | u | u
    · exact h0.cat hcn x u
    · rw [u]; exact h0.2.2.1 _ st126
    · rw [u]; exact oO
  intro t
  induction t with
  | zero =>
    intro i M h1 h2 hI
    have ho := at_oth h0 hI oO hO hH
    have hu := at_unk hI hU
    obtain ⟨hN, ⟨⟨o, ⟨⟨s0, -⟩, -⟩, -⟩, -⟩, -⟩ := id hI
    refine k_So_improveOne_2 o ⟨by omega, by omega⟩ ?_
    rw [ho.2.1.1]
    exact ⟨s0, fun _ => ⟨Or.inl rfl, i1_mk h0 hcn hr kO hO (hN.mono hF0 (fun _ u => u) h0.tat (fun _ u => Or.inl u) c1o (fun u => u)) hu ho⟩, fun u => absurd (by omega) u⟩
  | succ t ih =>
    intro i M h1 h2 hI
    by_cases ei : i = oc
    · exact ih i M (by omega) h2 hI
    have ho := at_oth h0 hI oO hO hH
    have hu := at_unk hI hU
    obtain ⟨hN, hS, eR, st, ⟨hrs, ht1⟩, gi⟩ := id hI
    obtain ⟨⟨o, ⟨⟨s0, gs⟩, ⟨r0, -, -, r3, -, -, -, -, -, -, -, -, r17⟩, -⟩, -, -, hT⟩, ⟨hF, hSK, -, hfw⟩, -⟩ := id hS
    obtain ⟨⟨w1, w2, w3⟩, ⟨w4, w5, w6, w7⟩, w8⟩ := id ho
    obtain ⟨c, ii, kst, lo, hi', e1, e2, e3, e4, e5, l1, l2⟩ := w8 i (by omega)
    have kcn : kst < cn := by
      obtain ⟨k', c', lo', hi2, q1, q2, -⟩ := hu.2.2.2 ii e2
      omega
    have hcc : hi' ≤ cc := by
      obtain ⟨lo', hi2, f1, f2, f3, f4⟩ := hL kst kcn
      rw [← st (s + 123) st122.2.1 (by omega)] at f2
      omega
    obtain ⟨dv, md⟩ := td40 (c := c) (i := ii) (by omega)
    rw [← e1] at dv md
    refine k_So_improveOne_2 o ⟨by omega, by omega⟩ ?_
    rw [w4, w1, w3, r0, r3, r17, Int.toNat_natCast, dv, md]
    refine ⟨s0, fun u => absurd u (by omega), fun _ => ⟨w2, ⟨by omega, by omega⟩, ⟨by omega, by omega⟩, hSK.1.1, ?_⟩⟩
    obtain ⟨mu, hm, kw⟩ := f_weigh (G := G) (d := d) (B := B) (S := 17) (hS.we hcn) hrs (fun z hz => hW z (tw_at hz)) (by omega) hB (show c < 4096 by omega) hc1 hc3 (hT.2.1 c (by omega))
    refine kw.mono (fun M8 q => ?_)
    obtain ⟨n1, u1, u2, u3, -⟩ := q
    have x1 : NX L W (Tat s) (Cat s) False (s + 1) M M8 := (n1.nx hF).mono hF (fun _ z => tw_at z) hS.tat (fun _ z => Or.inl z) (hS.cat hcn) (fun z => z)
    have I1 := at_mk h0 hcn hr (hN.trans x1)
    have F1 := n1.nf
    have ow : Osz M8 (s + 130) 139 := ⟨F1.szv hfw.2.1 u2, F1.szv hfw.2.2 (Int.lt_of_lt_of_le u1.2 (p30m (by decide))), by rw [u3]; omega, by rw [u3]; omega⟩
    have pk := s_atOrder (G := G) (d := d) (i := kst) (Q := fun x M' => (x = -1 ∨ x = 0 ∨ x = 1) ∧ atI L W s g a R k cn cc bc M0 M') h0 hcn hr I1 ow kcn hW b1 (fun x M' p q => ⟨p, q⟩)
    obtain ⟨hN1, hS1, eR1, st1, -, -⟩ := id I1
    obtain ⟨⟨o1, ⟨⟨s01, -⟩, ⟨-, -, -, -, -, -, -, -, r81, -⟩, ⟨-, -, -, -, -, k81, -⟩, ⟨-, -, -, -, -, n81, -⟩⟩, -⟩, -, -, -, ⟨t11, t21, t31, t41, -, -⟩, -⟩ := id hS1
    have e31 : mI M8 (s + 125) ii = ((kst : Nat) : Int) := by
      rw [st1 (s + 125) st122.2.2 (by omega), ← st (s + 125) st122.2.2 (by omega)]
      exact e3
    rw [r81, t21, n81, t41, Int.toNat_natCast, e31, Int.toNat_natCast, eR1]
    refine ⟨n1.ok, s01, t11, k81, ⟨by omega, by omega⟩, t31, ⟨by omega, by omega⟩, pk.2.1, pk.2.2.mono (fun x19 M18 q => ?_)⟩
    obtain ⟨i19, o18, -, I2⟩ := q
    have ho2 := at_oth h0 I2 oO hO hH
    have hu2 := at_unk I2 hU
    obtain ⟨hN2, hS2, eR2, st2, ⟨hrs2, ht2⟩, gi2⟩ := id I2
    obtain ⟨⟨o2, ⟨⟨s02, -⟩, ⟨-, -, -, -, -, -, -, -, -, r92, -⟩, ⟨-, -, -, -, -, -, k92, -⟩, ⟨-, -, -, -, -, -, n92, -⟩⟩, -⟩, ⟨hF2, -⟩, hSt2, -⟩ := id hS2
    obtain ⟨⟨y1, y2, y3⟩, ⟨y4, y5, y6, y7⟩, y8⟩ := id ho2
    refine ⟨i19, o18, s02, fun v23 e23 => ⟨fun ex => ?_, fun nx => ?_⟩⟩
    rotate_left
    · rw [show ((i : Int) + 1) = ((i + 1 : Nat) : Int) by first | rfl | omega]
      exact ih (i + 1) M18 (by omega) (by omega) I2
    clear ih e23 ex pk kw
    have m22 : mI M18 (s + 122) = mI M (s + 122) := (st2 _ st122.1 (by omega)).trans (st _ st122.1 (by omega)).symm
    have m23 : mI M18 (s + 123) = mI M (s + 123) := (st2 _ st122.2.1 (by omega)).trans (st _ st122.2.1 (by omega)).symm
    have m25 : mI M18 (s + 125) = mI M (s + 125) := (st2 _ st122.2.2 (by omega)).trans (st _ st122.2.2 (by omega)).symm
    rw [← m25] at e3
    rw [← m22] at e4
    rw [← m23] at e5
    obtain ⟨k', c2, lo', hi2, p1, p2, p3, p4, p5, p6, p7⟩ := hu2.2.2.2 ii e2
    have ek : k' = kst := by rw [e3] at p1; omega
    subst ek
    have eh : hi2 = hi' := by rw [e5] at p5; omega
    rw [r92, n92, y1, y3, p3]
    refine ⟨k92, ⟨by omega, by omega⟩, y2, ⟨by omega, by omega⟩, ⟨by omega, by omega⟩, fun M34 e34 => ?_⟩
    have f34 : FI (fun z => z = O) M18 M34 := by rw [e34]; exact FI.ui rfl
    have o34 : mOk M34 := by rw [e34]; exact mOk_UI o2 ⟨by omega, by omega⟩
    rw [f34.1, f34.2.1, f34.2.2.1, r92, n92]
    refine ⟨k92, ⟨by omega, by omega⟩, fun M38 e38 => ?_⟩
    have f38 : FI (fun z => z = s + 126) M34 M38 := by rw [e38]; exact FI.ui rfl
    have o38 : mOk M38 := by rw [e38]; exact mOk_UI o34 ⟨by omega, by omega⟩
    have sO : ¬ s = O := by omega
    have i13 : mI M38 s 13 = ((mo : Nat) : Int) := by
      rw [f38.2.2.2.2.2.2 s (show ¬ s = s + 126 by first | rfl | omega), f34.2.2.2.2.2.2 s sO]
      exact y5
    rw [i13]
    obtain ⟨l, el, hl⟩ : ∃ l : Nat, (if ((mo : Nat) : Int) < ((i : Nat) : Int) + 1 then ((mo : Nat) : Int) else ((i : Nat) : Int) + 1) = ((l : Nat) : Int) ∧ l ≤ oc := by
      split
      · exact ⟨mo, rfl, w6⟩
      · exact ⟨i + 1, by omega, by omega⟩
    rw [el]
    refine ⟨⟨by omega, by omega⟩, (s_So_mix (G := G) (d := d + 5) (O := O) (l1 := 0) (l2 := l) (n := oc) o38 (by rw [f38.1, f34.1]; exact s02) (by rw [f38.2.2.1, f34.2.2.1]; exact y1) (by rw [f38.1, f34.1]; exact y2) (by rw [f38.2.1, f34.2.1]; exact y3) hl oc24 (by omega)).mono (fun M41 q1 => ?_)⟩
    obtain ⟨o41, f41, p41⟩ := q1
    have i13' : mI M41 s 13 = ((mo : Nat) : Int) := by
      rw [f41.2.2.2.2.2.2 s sO]
      exact i13
    rw [i13', show (((i : Nat) : Int) + 1) = ((i + 1 : Nat) : Int) by first | rfl | omega]
    refine ⟨o41, by rw [f41.1, f38.1, f34.1]; exact s02, (s_So_mix (G := G) (d := d + 5) (O := O) (l1 := mo) (l2 := i + 1) (n := oc) o41 (by rw [f41.1, f38.1, f34.1]; exact s02) (by rw [f41.2.2.1, f38.2.2.1, f34.2.2.1]; exact y1) (by rw [f41.1, f38.1, f34.1]; exact y2) (by rw [f41.2.1, f38.2.1, f34.2.1]; exact y3) (by omega) oc24 (by omega)).mono (fun M45 q2 => ?_)⟩
    obtain ⟨o45, f45, p45⟩ := q2
    refine ⟨o45, Or.inr rfl, ?_⟩
    have ff : Fxo (fun x => x = s + 126 ∨ x = O) s M18 M45 := (f34.fo.mono (fun _ u => Or.inr u)).trans ((f38.fo.mono (fun _ u => Or.inl u)).trans ((f41.mono (fun _ u => Or.inr u)).trans (f45.mono (fun _ u => Or.inr u))))
    obtain ⟨nx, -⟩ := ff.nx (T := Tat s) (r := False) o2 o45 hF2 hS2.tat (fun x u => hN2.oc hF0 (c1o x (Or.inr u))) hS2.z9
    have q' : NX L W (Tat s) (Co1 s O) False (s + 1) M0 M45 := (hN2.mono hF0 (fun _ u => u) h0.tat (fun _ u => Or.inl u) c1o (fun u => u)).trans (nx.mono hF2 (fun _ u => u) hS2.tat (fun x u => Or.inr u) (fun x u => hN2.oc hF0 (c1o x u)) (fun u => u))
    have kp : ∀ x, x ≠ s + 126 → x ≠ O → mI M45 x = mI M18 x := fun x a1 a2 => ff.2.2.2.2.2.2 x (fun u => u.elim a1 a2)
    have z0 := kp s (by omega) (by omega)
    have z2 := kp (s + 122) (by omega) (by omega)
    have z3 := kp (s + 123) (by omega) (by omega)
    have z4 := kp (s + 124) (by omega) (by omega)
    have z5 := kp (s + 125) (by omega) (by omega)
    refine i1_mk h0 hcn hr kO hO q' ?_ ?_
    · obtain ⟨v1, v2, v3, v4⟩ := hu2
      refine ⟨by rw [z0]; exact v1, v2, fun j hj => by rw [z4]; exact v3 j hj, fun j hj => ?_⟩
      have n6 : ¬ s + 126 = O := by omega
      rw [z2, z3, z5, f45.2.2.2.2.2.2 (s + 126) n6, f41.2.2.2.2.2.2 (s + 126) n6, mI_ui _ j e38]
      by_cases cj : j = ii
      · rw [if_pos ⟨rfl, cj⟩, cj]
        exact ⟨k', c, lo, hi', e3, kcn, rfl, e4, e5, l1, l2⟩
      · rw [if_neg (fun u => cj u.2), f34.2.2.2.2.2.2 (s + 126) n6]
        exact v4 j hj
    · have P38 : ∀ j, j < oc → ot1 M18 s un (mI M38 O j) := fun j hj => by
        rw [f38.2.2.2.2.2.2 O (show ¬ O = s + 126 by first | rfl | omega), mI_ui _ j e34]
        by_cases cj : j = i
        · rw [if_pos ⟨rfl, cj⟩]
          exact ⟨c2, ii, k', lo', hi2, by omega, e2, p1, p4, p5, p6, p7⟩
        · rw [if_neg (fun u => cj u.2)]
          exact y8 j hj
      have P45 := p45 _ (p41 _ P38)
      exact ⟨⟨by rw [ff.2.2.1]; exact y1, by rw [ff.1]; exact y2, by rw [ff.2.1]; exact y3⟩, ⟨by rw [z0]; exact y4, by rw [z0]; exact y5, y6, y7⟩, fun j hj => (P45 j hj).cg z2 z3 z5⟩
theorem s_So_improveOne (h0 : Sva L W s g a R k cn cc bc M) (hcn : cn ≤ k) (hk : k ≤ 512) (hL : LHs M s cn cc) (hU : Unk M s cn un) (hr : Rsm M R cn 17 ∧ Rt1 M R cn) (hH : Oth M s un O oc mo) (oO : Oc L M O) (hO : s + 134 < O) (hW : ∀ x, Tat s x → B ≤ W x) (b1 : 300 ≤ B) (hB : B ≤ 16000) : Ci G y_So_improveOne (d + 6) [vr s, vr a] M (fun x M' => (x = 0 ∨ x = 1) ∧ i1I L W s g a R k cn cc bc un O oc mo M M') := by
  refine k_So_improveOne h0.1.1 ?_
  exact s_i12 h0 hcn hk hr hL hU hH oO hO hW b1 hB oc 0 M (by omega) (by omega) (at_mk h0 hcn hr (NX.refl h0.1.1 h0.2.1.1 h0.tat (h0.cat hcn) h0.z9))
end NBYC
end
section
/-! The class's Solver: the list of the commands that are not chosen. -/
section NBYD
variable {G : mG} {d s g a R cn cc bc i k n c un x y B O oc mo : Nat} {M M0 M' M1 M2 M3 : mM} {L : List Nat} {W : Nat → Nat} {S : Nat → Prop} {p : Int}
theorem SoT.fo (h : SoT M s g) (f : Fxo S s M M') : SoT M' s g := by
  unfold SoT at h ⊢
  rw [f.1, f.2.1, f.2.2.1]
  exact h
theorem GK9.fo (h : GK9 M g) (f : Fxo S s M M') : GK9 M' g := by
  unfold GK9 at h ⊢
  rw [f.1, f.2.1, f.2.2.1]
  exact h
theorem SG.fo (h : SG M s g cn cc bc) (f : Fxo S s M M') (o : mOk M') (hS : ∀ i, i ≤ 9 → ¬ S (g + i)) : SG M' s g cn cc bc := by
  obtain ⟨-, h2, h3, h4, h5⟩ := h
  exact ⟨o, h2.fo f, h3.fo f, by rw [f.2.1, f.2.2.1]; exact h4, h5.same (fun i hi => f.2.2.2.2.2.2 _ (hS i hi))⟩
theorem s_So_addToDraw (h : SG M s g cn cc bc) (hc : c < cc) : Cv G y_So_addToDraw d [vr s, vi c] M (fun M' => mOk M' ∧ Fxo (fun _ => False) s M M') := by
  obtain ⟨o, ⟨⟨s0, gs⟩, ⟨-, -, -, r3, -⟩, -⟩, ⟨g0, ⟨-, -, -, q7, q8, q9⟩, gk, ⟨-, -, -, m7, m8, m9⟩⟩, -, hT⟩ := id h
  obtain ⟨hc1, hc2, hc3⟩ := hT.1
  obtain ⟨x, y, mu, e1, e2, ⟨xy, -⟩, yb, -⟩ := hT.2.1 c hc
  have g7 := gk 7 (by decide) (by decide)
  refine k_So_addToDraw o ⟨by omega, by omega⟩ ?_
  rw [r3, q7, m7, Int.toNat_natCast, e1]
  refine ⟨s0, g0, g7, ⟨by omega, by omega⟩, ?_⟩
  suffices H : ∀ (t l : Nat) (M1 : mM), y ≤ l + t → l ≤ y → mOk M1 ∧ Fxo (fun _ => False) s M M1 → h_So_addToDraw_10 G d s c l M1 (fun M' => mOk M' ∧ Fxo (fun _ => False) s M M') from H y x M (by omega) (by omega) ⟨o, Fxo.refl⟩
  intro t
  induction t with
  | zero =>
    intro l M1 h1 h2 hI
    obtain ⟨o1, f1⟩ := hI
    refine k_So_addToDraw_10 o1 ⟨by omega, by omega⟩ ⟨by omega, by omega⟩ ?_
    rw [f1.2.2.1, f1.1, f1.2.1, r3, q7, m7, show Int.toNat (((c : Nat) : Int) + 1) = c + 1 by first | rfl | omega, f1.2.2.2.2.2.2 (g + 7) (fun u => u), e2]
    exact ⟨s0, g0, g7, ⟨by omega, by omega⟩, fun _ => ⟨o1, f1⟩, fun u => absurd (by omega) u⟩
  | succ t ih =>
    intro l M1 h1 h2 hI
    obtain ⟨o1, f1⟩ := hI
    refine k_So_addToDraw_10 o1 ⟨by omega, by omega⟩ ⟨by omega, by omega⟩ ?_
    rw [f1.2.2.1, f1.1, f1.2.1, r3, q7, m7, show Int.toNat (((c : Nat) : Int) + 1) = c + 1 by first | rfl | omega, f1.2.2.2.2.2.2 (g + 7) (fun u => u), e2, q9, m9]
    refine ⟨s0, g0, g7, ⟨by omega, by omega⟩, fun _ => ⟨o1, f1⟩, fun u => ⟨gk 9 (by decide) (by decide), ⟨by omega, by omega⟩, fun M13 e13 => ?_⟩⟩
    have f13 : Fxo (fun _ => False) s M1 M13 := Fxo.ul e13
    have o13 : mOk M13 := by rw [e13]; exact mOk_UL o1 i64_w64
    have g13 := f1.trans f13
    rw [g13.2.2.1, g13.1, g13.2.1, r3, q8, m8]
    refine ⟨g0, gk 8 (by decide) (by decide), ⟨by omega, by omega⟩, fun M18 e18 => ?_⟩
    rw [show (((l : Nat) : Int) + 1) = ((l + 1 : Nat) : Int) by first | rfl | omega]
    exact ih (l + 1) M18 (by omega) (by omega) ⟨by rw [e18]; exact mOk_UL o13 i64_w64, g13.trans (Fxo.ul e18)⟩
/-- how many of the first n unknown states are a player's -/
def ctp (M : mM) (s g : Nat) (p : Int) : Nat → Nat
  | 0 => 0
  | n + 1 => ctp M s g p n + (if mI M (g + 2) (mI M (s + 125) n).toNat = p then 1 else 0)
theorem ctp_two : ∀ n, ctp M s g 2 n + ctp M s g 1 n ≤ n
  | 0 => Nat.le_refl _
  | n + 1 => by
    have ih := ctp_two n
    show ctp M s g 2 n + (if mI M (g + 2) (mI M (s + 125) n).toNat = 2 then 1 else 0) + (ctp M s g 1 n + (if mI M (g + 2) (mI M (s + 125) n).toNat = 1 then 1 else 0)) ≤ n + 1
    generalize mI M (g + 2) (mI M (s + 125) n).toNat = z
    by_cases z2 : z = 2
    · rw [if_pos z2, if_neg (by omega)]; omega
    · rw [if_neg z2]; split <;> omega
theorem ctp_mono : ∀ (t i : Nat), ctp M s g p i ≤ ctp M s g p (i + t)
  | 0, _ => Nat.le_refl _
  | t + 1, i => by
    have ih := ctp_mono t i
    show _ ≤ ctp M s g p (i + t) + (if mI M (g + 2) (mI M (s + 125) (i + t)).toNat = p then 1 else 0)
    omega
theorem ctp_cg (e5 : mI M' (s + 125) = mI M (s + 125)) (e2 : mI M' (g + 2) = mI M (g + 2)) : ∀ n, ctp M' s g p n = ctp M s g p n
  | 0 => rfl
  | n + 1 => by
    show ctp M' s g p n + (if mI M' (g + 2) (mI M' (s + 125) n).toNat = p then 1 else 0) = ctp M s g p n + (if mI M (g + 2) (mI M (s + 125) n).toNat = p then 1 else 0)
    rw [ctp_cg e5 e2 n, e5, e2]
/-- while commands are listed -/
def adI (s un O : Nat) (M0 M : mM) (oc : Nat) : Prop := mOk M ∧ Fxo (fun x => x = s ∨ x = O) s M0 M ∧ mI M s 12 = ((oc : Nat) : Int) ∧ (∀ j, j ≠ 12 → mI M s j = mI M0 s j) ∧ ∀ j, j < oc → ot1 M0 s un (mI M O j)
theorem s_So_addOthers (hp : i32 p) (h : SG M0 s g cn cc bc) (hL : LHs M0 s cn cc) (hU : Unk M0 s cn un) (hr : mR M0 s 11 = O) (hK : mK M0 O = 30) (hn : mN M0 O = 2400) (hO : s + 134 < O) (e12 : mI M0 s 12 = ((oc : Nat) : Int)) (ho : ∀ j, j < oc → ot1 M0 s un (mI M0 O j)) (hb : oc + 60 * ctp M0 s g p un ≤ 2400) : Cv G y_So_addOthers (d + 1) [vr s, vi p] M0 (fun M' => ∃ oc' : Nat, oc ≤ oc' ∧ oc' ≤ oc + 60 * ctp M0 s g p un ∧ adI s un O M0 M' oc') := by
  refine k_So_addOthers h.1 hp ?_
  obtain ⟨o, ⟨⟨s0, gs⟩, ⟨-, -, -, r3, -, r5, r6, -, r8, r9, -⟩, ⟨-, -, k5, k6, -, k8, k9, -⟩, ⟨-, -, n5, n6, -, n8, n9, -⟩⟩, ⟨g0, ⟨q2, -⟩, gk, ⟨m2, -⟩⟩, -, hT⟩ := id h
  obtain ⟨hc1, hc2, hc3⟩ := hT.1
  have u40 := hU.2.1
  have sO : ¬ s = O := by omega
  have nS : ∀ i, i ≤ 9 → ¬ (g + i = s ∨ g + i = O) := fun i hi u => by omega
  suffices H : ∀ (t i b : Nat) (M : mM), un ≤ i + t → i ≤ un → oc ≤ b → b ≤ oc + 60 * ctp M0 s g p i → adI s un O M0 M b → h_So_addOthers_2 G d s p i M (fun M' => ∃ oc' : Nat, oc ≤ oc' ∧ oc' ≤ oc + 60 * ctp M0 s g p un ∧ adI s un O M0 M' oc') from H un 0 oc M0 (by omega) (by omega) (Nat.le_refl _) (by omega) ⟨h.1, Fxo.refl, e12, fun _ _ => rfl, ho⟩
  intro t
  induction t with
  | zero =>
    intro i b M h1 h2 hb1 hb2 hI
    have ei : i = un := by omega
    subst ei
    obtain ⟨o1, f1, q12, qj, qo⟩ := id hI
    refine k_So_addOthers_2 o1 hp ⟨by omega, by omega⟩ ?_
    rw [f1.1, qj 10 (by decide), hU.1]
    exact ⟨s0, fun _ => ⟨b, hb1, hb2, hI⟩, fun u => absurd (Int.le_refl _) u⟩
  | succ t ih =>
    intro i b M h1 h2 hb1 hb2 hI
    by_cases ei : i = un
    · exact ih i b M (by omega) h2 hb1 hb2 hI
    obtain ⟨o1, f1, q12, qj, qo⟩ := id hI
    obtain ⟨kst, c, lo, hi', e1, hkc, e4, e2, e3, l1, l2⟩ := hU.2.2.2 i (by omega)
    have hl : hi' ≤ cc ∧ hi' ≤ lo + 60 := by
      obtain ⟨lo', hi2, y1, y2, y3, y4, y5⟩ := hL kst hkc
      rw [e2] at y1
      rw [e3] at y2
      omega
    have ec : ctp M0 s g p (i + 1) = ctp M0 s g p i + (if mI M0 (g + 2) kst = p then 1 else 0) := by
      show ctp M0 s g p i + (if mI M0 (g + 2) (mI M0 (s + 125) i).toNat = p then 1 else 0) = _
      rw [e1, Int.toNat_natCast]
    have cm : ctp M0 s g p (i + 1) ≤ ctp M0 s g p un := by
      have := ctp_mono (M := M0) (s := s) (g := g) (p := p) (un - (i + 1)) (i + 1)
      rw [show i + 1 + (un - (i + 1)) = un by first | rfl | omega] at this
      exact this
    have b60 : mI M0 (g + 2) kst = p → b + 60 ≤ 2400 := fun u => by
      rw [if_pos u] at ec
      omega
    have nxt : ∀ (b' : Nat) (M1 : mM), oc ≤ b' → ((mI M0 (g + 2) kst = p ∧ b' ≤ b + 60) ∨ b' = b) → adI s un O M0 M1 b' → h_So_addOthers_2 G d s p (((i : Nat) : Int) + 1) M1 (fun M' => ∃ oc' : Nat, oc ≤ oc' ∧ oc' ≤ oc + 60 * ctp M0 s g p un ∧ adI s un O M0 M' oc') := fun b' M1 a1 a2 a3 => by
      rw [show (((i : Nat) : Int) + 1) = ((i + 1 : Nat) : Int) by first | rfl | omega]
      refine ih (i + 1) b' M1 (by omega) (by omega) a1 ?_ a3
      rcases a2 with ⟨u, w⟩ | u
      · rw [ec, if_pos u]; omega
      · have := ctp_mono (M := M0) (s := s) (g := g) (p := p) 1 i
        omega
    have i125 : mI M (s + 125) = mI M0 (s + 125) := f1.2.2.2.2.2.2 _ (fun u => by omega)
    have i122 : mI M (s + 122) = mI M0 (s + 122) := f1.2.2.2.2.2.2 _ (fun u => by omega)
    refine k_So_addOthers_2 o1 hp ⟨by omega, by omega⟩ ?_
    rw [f1.1, f1.2.1, f1.2.2.1, qj 10 (by decide), hU.1, r8, r5, n8, n5, i125, i122, Int.toNat_natCast, e1, Int.toNat_natCast, e2]
    refine ⟨s0, fun u => absurd u (by omega), fun _ => ⟨k8, ⟨by omega, by omega⟩, k5, ⟨by omega, by omega⟩, ?_⟩⟩
    clear ih
    suffices K : ∀ (t' c' b' : Nat) (M1 : mM), hi' ≤ c' + t' → lo ≤ c' → c' ≤ hi' → oc ≤ b' → ((mI M0 (g + 2) kst = p ∧ b' ≤ b + (c' - lo)) ∨ b' = b) → adI s un O M0 M1 b' → h_So_addOthers_25 G d s p i kst c' M1 (fun M' => ∃ oc' : Nat, oc ≤ oc' ∧ oc' ≤ oc + 60 * ctp M0 s g p un ∧ adI s un O M0 M' oc') from K (hi' - lo) lo b M (by omega) (Nat.le_refl _) (by omega) hb1 (Or.inr rfl) hI
    clear hI f1 q12 qj qo o1 i125 i122
    intro t'
    induction t' with
    | zero =>
      intro c' b' M1 h1' h2' h3' a1 a2 hI
      obtain ⟨o1, f1, q12, qj, qo⟩ := id hI
      have i123 : mI M1 (s + 123) = mI M0 (s + 123) := f1.2.2.2.2.2.2 _ (fun u => by omega)
      refine k_So_addOthers_25 o1 hp ⟨by omega, by omega⟩ ⟨by omega, by omega⟩ ⟨by omega, by omega⟩ ?_
      rw [f1.1, f1.2.1, f1.2.2.1, r6, n6, r3, q2, m2, i123, Int.toNat_natCast, e3]
      refine ⟨s0, k6, ⟨by omega, by omega⟩, fun _ => ⟨g0, gk 2 (by decide) (by decide), ⟨by omega, by omega⟩⟩, fun _ => nxt b' M1 a1 (a2.imp (fun u => ⟨u.1, by have := u.2; omega⟩) id) hI, fun u => absurd (Or.inl (by omega)) u⟩
    | succ t' ih =>
      intro c' b' M1 h1' h2' h3' a1 a2 hI
      obtain ⟨o1, f1, q12, qj, qo⟩ := id hI
      have i123 : mI M1 (s + 123) = mI M0 (s + 123) := f1.2.2.2.2.2.2 _ (fun u => by omega)
      have i126 : mI M1 (s + 126) = mI M0 (s + 126) := f1.2.2.2.2.2.2 _ (fun u => by omega)
      have ig2 : mI M1 (g + 2) = mI M0 (g + 2) := f1.2.2.2.2.2.2 _ (fun u => nS 2 (by decide) u)
      refine k_So_addOthers_25 o1 hp ⟨by omega, by omega⟩ ⟨by omega, by omega⟩ ⟨by omega, by omega⟩ ?_
      rw [f1.1, f1.2.1, f1.2.2.1, r6, n6, r3, q2, m2, r9, n9, hr, q12, i123, i126, ig2, Int.toNat_natCast, Int.toNat_natCast, Int.toNat_natCast, e3, e4]
      refine ⟨s0, k6, ⟨by omega, by omega⟩, fun _ => ⟨g0, gk 2 (by decide) (by decide), ⟨by omega, by omega⟩⟩, fun _ => nxt b' M1 a1 (a2.imp (fun u => ⟨u.1, by have := u.2; omega⟩) id) hI, fun u => ?_⟩
      have cl : c' < hi' := by
        by_cases z : ((hi' : Nat) : Int) ≤ ((c' : Nat) : Int)
        · exact absurd (Or.inl z) u
        · omega
      have sp : mI M0 (g + 2) kst = p := Classical.byContradiction (fun z => u (Or.inr z))
      have bb : b' ≤ b + (c' - lo) := by
        rcases a2 with a | a
        · exact a.2
        · omega
      have b24 := b60 sp
      clear a2 u
      have dr : ∀ (b2 : Nat) (M2 : mM), oc ≤ b2 → b2 ≤ b + (c' + 1 - lo) → adI s un O M0 M2 b2 → Cv G y_So_addToDraw d [vr s, vi ((c' : Nat) : Int)] M2 (fun M35 => mOk M35 ∧ h_So_addOthers_25 G d s p i kst (((c' : Nat) : Int) + 1) M35 (fun M' => ∃ oc' : Nat, oc ≤ oc' ∧ oc' ≤ oc + 60 * ctp M0 s g p un ∧ adI s un O M0 M' oc')) := fun b2 M2 x1 x2 x3 => by
        obtain ⟨o3, f3, v12, vj, vo⟩ := id x3
        refine (s_So_addToDraw (d := d) (h.fo f3 o3 nS) (show c' < cc by omega)).mono (fun M35 q => ?_)
        obtain ⟨o5, f5⟩ := q
        rw [show (((c' : Nat) : Int) + 1) = ((c' + 1 : Nat) : Int) by first | rfl | omega]
        refine ⟨o5, ih (c' + 1) b2 M35 (by omega) (by omega) (by omega) x1 (Or.inl ⟨sp, x2⟩) ⟨o5, f3.trans (f5.mono (fun _ u => u.elim)), ?_, fun j hj => ?_, fun j hj => ?_⟩⟩
        · rw [f5.2.2.2.2.2.2 s (fun u => u)]; exact v12
        · rw [f5.2.2.2.2.2.2 s (fun u => u)]; exact vj j hj
        · rw [f5.2.2.2.2.2.2 O (fun u => u)]; exact vo j hj
      refine ⟨k9, ⟨by omega, by omega⟩, fun _ => dr b' M1 a1 (by omega) hI, fun _ => ⟨⟨by omega, by omega⟩, fun M39 e39 => ?_⟩⟩
      have f39 : FI (fun z => z = s) M1 M39 := by rw [e39]; exact FI.ui rfl
      have o39 : mOk M39 := by rw [e39]; exact mOk_UI o1 ⟨by omega, by omega⟩
      rw [f39.1, f39.2.1, f1.1, f1.2.1, hn]
      refine ⟨hK, ⟨by omega, by omega⟩, ⟨by omega, by omega⟩, fun M44 e44 => dr (b' + 1) M44 (by omega) (by omega) ?_⟩
      have f44 : FI (fun z => z = O) M39 M44 := by rw [e44]; exact FI.ui rfl
      have o44 : mOk M44 := by rw [e44]; exact mOk_UI o39 ⟨by omega, by omega⟩
      refine ⟨o44, f1.trans ((f39.fo.mono (fun _ u => Or.inl u)).trans (f44.fo.mono (fun _ u => Or.inr u))), ?_, fun j hj => ?_, fun j hj => ?_⟩
      · rw [mI_ui s 12 e44, if_neg (fun u => sO u.1), mI_ui s 12 e39, if_pos ⟨rfl, rfl⟩]; omega
      · rw [mI_ui s j e44, if_neg (fun u => sO u.1), mI_ui s j e39, if_neg (fun u => hj u.2)]; exact qj j hj
      · rw [mI_ui O j e44]
        by_cases cj : j = b'
        · rw [if_pos ⟨rfl, cj⟩]
          exact ⟨c', i, kst, lo, hi', by omega, by omega, e1, e2, e3, h2', cl⟩
        · rw [if_neg (fun u => cj u.2), mI_ui O j e39, if_neg (fun u => sO u.1.symm)]
          exact qo j (by omega)
/-- the list is made -/
def loP (s un O : Nat) (M0 M : mM) : Prop := mOk M ∧ Fxo (fun x => x = s ∨ x = O) s M0 M ∧ (∀ j, j ≠ 12 → j ≠ 13 → mI M s j = mI M0 s j) ∧ ∃ oc mo : Nat, Oth M s un O oc mo
theorem s_lo16 {Q : mM → Prop} (h : SG M0 s g cn cc bc) (hL : LHs M0 s cn cc) (hU : Unk M0 s cn un) (hr : mR M0 s 11 = O) (hK : mK M0 O = 30) (hn : mN M0 O = 2400) (hO : s + 134 < O) (e12 : mI M0 s 12 = 0) (hQ : ∀ M, loP s un O M0 M → Q M) : Cv G y_So_addOthers (d + 1) [vr s, vi 2] M0 (fun M18 => mOk M18 ∧ (mK M18 s = 8 ∧ ∀ M22, M22 = mUI M18 s 13 (mI M18 s 12) → Cv G y_So_addOthers (d + 1) [vr s, vi 1] M22 (fun M24 => mOk M24 ∧ (mK M24 s = 8 ∧ Cv G y_So_mix (d + 1) [vr s, vi 0, vi (mI M24 s 13)] M24 (fun M28 => mOk M28 ∧ (mK M28 s = 8 ∧ Cv G y_So_mix (d + 1) [vr s, vi (mI M28 s 13), vi (mI M28 s 12)] M28 (fun M32 => mOk M32 ∧ (Q M32)))))))) := by
  have two := ctp_two (M := M0) (s := s) (g := g) un
  have u40 := hU.2.1
  have s0 := h.2.1.1.1
  have gs := h.2.1.1.2
  have sO : ¬ s = O := by omega
  have nS : ∀ i, i ≤ 9 → ¬ (g + i = s ∨ g + i = O) := fun i hi u => by omega
  refine (s_So_addOthers (G := G) (d := d) (p := 2) (oc := 0) ⟨by decide, by decide⟩ h hL hU hr hK hn hO e12 (fun j hj => absurd hj (by omega)) (by omega)).mono (fun M18 q => ?_)
  obtain ⟨m, -, m2, o18, f18, i12, ij, io⟩ := q
  refine ⟨o18, by rw [f18.1]; exact s0, fun M22 e22 => ?_⟩
  rw [i12] at e22
  have f22 : FI (fun z => z = s) M18 M22 := by rw [e22]; exact FI.ui rfl
  have o22 : mOk M22 := by rw [e22]; exact mOk_UI o18 ⟨by omega, by omega⟩
  have g22 : Fxo (fun x => x = s ∨ x = O) s M0 M22 := f18.trans (f22.fo.mono (fun _ u => Or.inl u))
  have kp : ∀ x, x ≠ s → x ≠ O → mI M22 x = mI M0 x := fun x a1 a2 => g22.2.2.2.2.2.2 x (fun u => u.elim a1 a2)
  have z2 := kp (s + 122) (by omega) (by omega)
  have z3 := kp (s + 123) (by omega) (by omega)
  have z4 := kp (s + 124) (by omega) (by omega)
  have z5 := kp (s + 125) (by omega) (by omega)
  have z6 := kp (s + 126) (by omega) (by omega)
  have zj : ∀ j, j ≠ 13 → mI M22 s j = mI M18 s j := fun j hj => by rw [mI_ui s j e22, if_neg (fun u => hj u.2)]
  have i13 : mI M22 s 13 = ((m : Nat) : Int) := by rw [mI_ui s 13 e22, if_pos ⟨rfl, rfl⟩]
  have U22 : Unk M22 s cn un := unk_cg hU (by rw [zj 10 (by decide), ij 10 (by decide)]) z2 z3 z4 z5 z6
  have L22 : LHs M22 s cn cc := by
    unfold LHs at hL ⊢
    rw [z2, z3]
    exact hL
  have r22 : mR M22 s 11 = O := by rw [g22.2.2.1]; exact hr
  have K22 : mK M22 O = 30 := by rw [g22.1]; exact hK
  have n22 : mN M22 O = 2400 := by rw [g22.2.1]; exact hn
  have ct : ctp M22 s g 1 un = ctp M0 s g 1 un := ctp_cg z5 (g22.2.2.2.2.2.2 _ (nS 2 (by decide))) un
  refine (s_So_addOthers (G := G) (d := d) (p := 1) (oc := m) ⟨by decide, by decide⟩ (h.fo g22 o22 nS) L22 U22 r22 K22 n22 hO (by rw [zj 12 (by decide)]; exact i12) (fun j hj => by rw [f22.2.2.2.2.2.2 O (fun u => sO u.symm)]; exact (io j hj).cg z2 z3 z5) (by rw [ct]; omega)).mono (fun M24 q => ?_)
  obtain ⟨m', a1, a2, o24, f24, j12, jj, jo⟩ := q
  rw [ct] at a2
  have j13 : mI M24 s 13 = ((m : Nat) : Int) := by rw [jj 13 (by decide)]; exact i13
  have s24 : mK M24 s = 8 := by rw [f24.1, g22.1]; exact s0
  have r24 : mR M24 s 11 = O := by rw [f24.2.2.1]; exact r22
  have K24 : mK M24 O = 30 := by rw [f24.1]; exact K22
  have n24 : mN M24 O = 2400 := by rw [f24.2.1]; exact n22
  rw [j13]
  refine ⟨o24, s24, (s_So_mix (G := G) (d := d + 1) (O := O) (l1 := 0) (l2 := m) (n := m') o24 s24 r24 K24 n24 a1 (by omega) (by omega)).mono (fun M28 q => ?_)⟩
  obtain ⟨o28, f28, p28⟩ := q
  have e28 : mI M28 s = mI M24 s := f28.2.2.2.2.2.2 s sO
  have s28 : mK M28 s = 8 := by rw [f28.1]; exact s24
  rw [e28, j13, j12]
  refine ⟨o28, s28, (s_So_mix (G := G) (d := d + 1) (O := O) (l1 := m) (l2 := m') (n := m') o28 s28 (by rw [f28.2.2.1]; exact r24) (by rw [f28.1]; exact K24) (by rw [f28.2.1]; exact n24) (Nat.le_refl _) (by omega) (by omega)).mono (fun M32 q => ?_)⟩
  obtain ⟨o32, f32, p32⟩ := q
  have ff : Fxo (fun x => x = s ∨ x = O) s M22 M32 := f24.trans ((f28.trans f32).mono (fun _ u => Or.inr u))
  have e32 : mI M32 s = mI M24 s := by rw [f32.2.2.2.2.2.2 s sO]; exact e28
  have kq : ∀ x, x ≠ s → x ≠ O → mI M32 x = mI M22 x := fun x b1 b2 => ff.2.2.2.2.2.2 x (fun u => u.elim b1 b2)
  refine ⟨o32, hQ M32 ⟨o32, g22.trans ff, fun j b1 b2 => ?_, m', m, ⟨⟨by rw [ff.2.2.1]; exact r22, by rw [ff.1]; exact K22, by rw [ff.2.1]; exact n22⟩, ⟨by rw [e32]; exact j12, by rw [e32]; exact j13, a1, by omega⟩, fun j hj => ?_⟩⟩⟩
  · rw [e32, jj j b1, zj j b2, ij j b1]
  · exact (p32 _ (p28 _ jo) j hj).cg (kq (s + 122) (by omega) (by omega)) (kq (s + 123) (by omega) (by omega)) (kq (s + 125) (by omega) (by omega))
/-- from the list's place on -/
theorem s_lo12 {Q : mM → Prop} {M14 M16 : mM} (h : SG M0 s g cn cc bc) (hL : LHs M0 s cn cc) (hU : Unk M0 s cn un) (ht : Ot L M0 s O 2400) (e14 : M14 = mUI M0 s 12 0) (e16 : M16 = mUL M14 s 14 (w64 0)) (hQ : ∀ M, loP s un O M0 M → Q M) : Cv G y_So_addOthers (d + 1) [vr s, vi 2] M16 (fun M18 => mOk M18 ∧ (mK M18 s = 8 ∧ ∀ M22, M22 = mUI M18 s 13 (mI M18 s 12) → Cv G y_So_addOthers (d + 1) [vr s, vi 1] M22 (fun M24 => mOk M24 ∧ (mK M24 s = 8 ∧ Cv G y_So_mix (d + 1) [vr s, vi 0, vi (mI M24 s 13)] M24 (fun M28 => mOk M28 ∧ (mK M28 s = 8 ∧ Cv G y_So_mix (d + 1) [vr s, vi (mI M28 s 13), vi (mI M28 s 12)] M28 (fun M32 => mOk M32 ∧ (Q M32)))))))) := by
  have gs := h.2.1.1.2
  have hO : s + 134 < O := by
    rcases ht.2.2 with u | u
    · omega
    · exact u.1
  have f14 : FI (fun z => z = s) M0 M14 := by rw [e14]; exact FI.ui rfl
  have o14 : mOk M14 := by rw [e14]; exact mOk_UI h.1 ⟨by decide, by decide⟩
  have o16 : mOk M16 := by rw [e16]; exact mOk_UL o14 i64_w64
  have g16 : Fxo (fun x => x = s ∨ x = O) s M0 M16 := (f14.fo.mono (fun _ u => Or.inl u)).trans (Fxo.ul e16)
  have nS : ∀ i, i ≤ 9 → ¬ (g + i = s ∨ g + i = O) := fun i hi u => by omega
  have i16 : mI M16 = mI M14 := by rw [e16]; rfl
  have kp : ∀ x, x ≠ s → mI M16 x = mI M0 x := fun x a1 => by rw [i16]; exact f14.2.2.2.2.2.2 x a1
  have z2 := kp (s + 122) (by omega)
  have z3 := kp (s + 123) (by omega)
  have zj : ∀ j, j ≠ 12 → mI M16 s j = mI M0 s j := fun j hj => by rw [i16, mI_ui s j e14, if_neg (fun u => hj u.2)]
  have L16 : LHs M16 s cn cc := by
    unfold LHs at hL ⊢
    rw [z2, z3]
    exact hL
  refine s_lo16 (h.fo g16 o16 nS) L16 (unk_cg hU (zj 10 (by decide)) z2 z3 (kp _ (by omega)) (kp _ (by omega)) (kp _ (by omega))) (by rw [g16.2.2.1]; exact ht.1.1) (by rw [g16.1]; exact ht.1.2.1) (by rw [g16.2.1]; exact ht.1.2.2) hO (by rw [i16, mI_ui s 12 e14, if_pos ⟨rfl, rfl⟩]) (fun M hM => hQ M ?_)
  obtain ⟨a1, a2, a3, a4⟩ := hM
  exact ⟨a1, g16.trans a2, fun j b1 b2 => by rw [a3 j b1 b2]; exact zj j b1, a4⟩
/-- the list stays, or is a new one -/
def gr1 (s : Nat) (M M' : mM) (O n O' n' : Nat) : Prop := (M' = M ∧ O' = O ∧ n' = n) ∨ (n = 0 ∧ Gro s M M' ∧ O' = mZ M ∧ n' = 2400)
theorem s_So_listOthers (h : Sva L W s g a R k cn cc bc M) (hz : s + 134 < mZ M) (hL : LHs M s cn cc) (hU : Unk M s cn un) (ht : Ot L M s O n) : Cv G y_So_listOthers (d + 2) [vr s] M (fun M' => ∃ (M5 : mM) (O' : Nat), gr1 s M M5 O n O' 2400 ∧ Sva L W s g a R k cn cc bc M5 ∧ Ot L M5 s O' 2400 ∧ loP s un O' M5 M') := by
  have s0 := h.1.2.1.1.1
  refine k_So_listOthers h.1.1 ?_
  rw [ht.1.1, ht.1.2.2]
  have n24 : n = 0 ∨ n = 2400 := by
    rcases ht.2.2 with u | u
    · exact Or.inl u.2
    · exact Or.inr u.2
  refine ⟨s0, ht.1.2.1, ⟨by omega, by omega⟩, fun u M9 e9 => ?_, fun u M35 e35 M37 e37 => ?_⟩
  · have zs := (h.2.2.1 s (Or.inl rfl)).1
    refine ⟨by rw [e9, mK_New, if_neg (by omega)]; exact s0, fun M12 e12 M14 e14 M16 e16 => ?_⟩
    have gq : Gro s M M12 := by
      unfold Gro
      rw [e12, e9]
    obtain ⟨S12, T12, -, I12, -⟩ := h.gro hz gq
    have st : ∀ x, Stb s x → mI M12 x = mI M x := fun x hx => I12 x (h.2.2.1 x hx).1
    have L12 : LHs M12 s cn cc := by
      unfold LHs at hL ⊢
      rw [st _ st122.1, st _ st122.2.1]
      exact hL
    have U12 : Unk M12 s cn un := unk_cg hU (by rw [st s (Or.inl rfl)]) (st _ st122.1) (st _ st122.2.1) (st _ st124) (st _ st122.2.2) (st _ st126)
    exact s_lo12 (d := d) S12.1 L12 U12 T12 e14 e16 (fun M' hM => ⟨M12, mZ M, Or.inr ⟨by omega, gq, rfl, rfl⟩, S12, T12, hM⟩)
  · have en : n = 2400 := by omega
    subst en
    exact s_lo12 (d := d) h.1 hL hU ht e35 e37 (fun M' hM => ⟨M, O, Or.inl ⟨rfl, rfl, rfl⟩, h, ht, hM⟩)
end NBYD
end
section
/-! The class's Solver: workOut. -/
section NBZ
variable {G : mG} {d s g a R R' cn cc bc i k k' n c un x y B O O' n' oc mo : Nat} {M M0 M' M1 M2 M3 M5 : mM} {L L' : List Nat} {W : Nat → Nat} {wt : Nat → Nat}
/-- between the rounds -/
def loI (L : List Nat) (W : Nat → Nat) (s g a R k cn cc bc un : Nat) (wt : Nat → Nat) (M0 M : mM) : Prop := NX L W (Tso s M0 R cn) (Cso s M0 R cn) True (s + 1) M0 M ∧ Sva L W s g a R k cn cc bc M ∧ mR M R = mR M0 R ∧ (Rsm M R cn 17 ∧ Rt1 M R cn) ∧ LHs M s cn cc ∧ Unk M s cn un ∧ (∀ i, i < un → wtO M s g i (wt i) ∧ wt i ≤ 33) ∧ mI M (s + 30) = mI M0 (s + 30)
theorem tso_e (e : mR M R = mR M0 R) : Tso s M R cn = Tso s M0 R cn ∧ Cso s M R cn = Cso s M0 R cn := by
  constructor
  · funext z
    unfold Tso Trw
    rw [e]
  · funext z
    unfold Cso Irw
    rw [e]
theorem lhs_same (h : LHs M s cn cc) (e2 : mI M' (s + 122) = mI M (s + 122)) (e3 : mI M' (s + 123) = mI M (s + 123)) : LHs M' s cn cc := by
  unfold LHs at h ⊢
  rw [e2, e3]
  exact h
theorem wto_same (h : wtO M s g i n) (e2 : mI M' (s + 122) = mI M (s + 122)) (e3 : mI M' (s + 123) = mI M (s + 123)) (e5 : mI M' (s + 125) = mI M (s + 125)) (e6 : mI M' (g + 6) = mI M (g + 6)) : wtO M' s g i n := by
  unfold wtO at h ⊢
  rw [e2, e3, e5, e6]
  exact h
theorem lo_ev (hI : loI L W s g a R k cn cc bc un wt M0 M) (hcn : cn ≤ k) (e : evI L W s g a R k cn cc bc M M') : loI L W s g a R k cn cc bc un wt M0 M' := by
  obtain ⟨hN, hS, eR, ⟨hr, ht⟩, hL, hU, hw, h30⟩ := hI
  obtain ⟨q, S1, eR1, st, r1, ti, gi⟩ := e
  obtain ⟨eT, eC⟩ := tso_e (s := s) (cn := cn) eR
  have hF := hS.2.1.1
  have q' : NX L W (Tso s M R cn) (Cso s M R cn) True (s + 1) M M' := q.mono hF (fun _ u => u) (hS.tl hcn) (fun x u => u.so) (hS.cl hcn) (fun u => u.elim)
  rw [eT, eC] at q'
  have e2 := st (s + 122) st122.1
  have e3 := st (s + 123) st122.2.1
  have e5 := st (s + 125) st122.2.2
  refine ⟨hN.trans q', S1, by rw [eR1, eR], ⟨r1, fun i hi => by rw [eR1, ti i hi]; exact ht i hi⟩, lhs_same hL e2 e3, unk_same hU (fun x hx _ => st x hx) (st (s + 126) st126), fun i hi => ⟨wto_same (hw i hi).1 e2 e3 e5 (gi 6 (by decide)), (hw i hi).2⟩, (st (s + 30) st30).trans h30⟩
theorem lo_im (hI : loI L W s g a R k cn cc bc un wt M0 M) (hcn : cn ≤ k) (e : imI L W s g a R k cn cc bc un M M') : loI L W s g a R k cn cc bc un wt M0 M' := by
  obtain ⟨hN, hS, eR, ⟨hr, ht⟩, hL, hU, hw, h30⟩ := hI
  obtain ⟨q, S1, eR1, st, r1, U1⟩ := e
  obtain ⟨eT, eC⟩ := tso_e (s := s) (cn := cn) eR
  have hF := hS.2.1.1
  have q' : NX L W (Tso s M R cn) (Cso s M R cn) True (s + 1) M M' := q.mono hF (fun _ u => Or.inl u) (hS.tl hcn) (fun x u => u.so) (hS.cl hcn) (fun u => u)
  have gi := (hS.nx hcn q' S1.2.1.2.1).2.1
  rw [eT, eC] at q'
  have e2 := st (s + 122) st122.1 (by omega)
  have e3 := st (s + 123) st122.2.1 (by omega)
  have e5 := st (s + 125) st122.2.2 (by omega)
  exact ⟨hN.trans q', S1, by rw [eR1, eR], r1, lhs_same hL e2 e3, U1, fun i hi => ⟨wto_same (hw i hi).1 e2 e3 e5 (gi 6 (by decide)), (hw i hi).2⟩, (st (s + 30) st30 (by omega)).trans h30⟩
/-- the list's growth keeps the Solver -/
theorem gr1.kp (h : Sva L W s g a R k cn cc bc M) (hz : s + 134 < mZ M) (ht : Ot L M s O n) (q : gr1 s M M5 O n O' n') : Sva L W s g a R k cn cc bc M5 ∧ Ot L M5 s O' n' ∧ (∀ b, b ∈ L → nv M5 b = nv M b) ∧ (∀ x, x < mZ M → mI M5 x = mI M x) ∧ mR M5 R = mR M R ∧ mZ M ≤ mZ M5 := by
  rcases q with ⟨e, e1, e2⟩ | ⟨-, gq, e1, e2⟩
  · rw [e, e1, e2]
    exact ⟨h, ht, fun _ _ => rfl, fun _ _ => rfl, rfl, Nat.le_refl _⟩
  · obtain ⟨a1, a2, a3, a4, a5⟩ := h.gro hz gq
    rw [e1, e2]
    exact ⟨a1, a2, fun b hb => (a3 b hb).1, a4, a5, by have := gq.new.2.2.1; omega⟩
def Co2 (s : Nat) (M : mM) (R n O x : Nat) : Prop := Cso s M R n x ∨ x = O
/-- over the rounds in which one state betters its choice -/
def lo2 (L : List Nat) (W : Nat → Nat) (s g a R k cn cc bc O : Nat) (M0 M : mM) : Prop := NX L W (Tso s M0 R cn) (Co2 s M0 R cn O) True (s + 1) M0 M ∧ Sva L W s g a R k cn cc bc M ∧ mR M R = mR M0 R ∧ (Rsm M R cn 17 ∧ Rt1 M R cn) ∧ mI M (s + 30) = mI M0 (s + 30)
/-- between these rounds -/
def lo3 (L : List Nat) (W : Nat → Nat) (s g a R k cn cc bc O un : Nat) (wt : Nat → Nat) (M0 M : mM) : Prop := lo2 L W s g a R k cn cc bc O M0 M ∧ LHs M s cn cc ∧ Unk M s cn un ∧ (∀ i, i < un → wtO M s g i (wt i) ∧ wt i ≤ 33) ∧ ∃ oc mo : Nat, Oth M s un O oc mo
theorem co2_e (e : mR M R = mR M0 R) : Co2 s M R cn O = Co2 s M0 R cn O := by
  funext z
  show (Cso s M R cn z ∨ z = O) = (Cso s M0 R cn z ∨ z = O)
  rw [(tso_e (s := s) (cn := cn) e).2]
theorem nx_oth {T C : Nat → Prop} {r : Prop} (os : Oc L M s) (q : NX L W T C r (s + 1) M M') (oO : Oc L M O) (hO : s + 134 < O) (nC : ¬ C O) (e0 : mI M' s = mI M s) (e2 : mI M' (s + 122) = mI M (s + 122)) (e3 : mI M' (s + 123) = mI M (s + 123)) (e5 : mI M' (s + 125) = mI M (s + 125)) (h : Oth M s un O oc mo) : Oth M' s un O oc mo := by
  obtain ⟨a1, a2, -, a4⟩ := q.oth oO (by omega)
  obtain ⟨-, -, b3, -⟩ := q.oth os (by omega)
  obtain ⟨⟨h1, h2, h3⟩, ⟨h4, h5, h6⟩, h7⟩ := h
  refine ⟨⟨by rw [b3]; exact h1, by rw [a1]; exact h2, by rw [a2]; exact h3⟩, ⟨by rw [e0]; exact h4, by rw [e0]; exact h5, h6⟩, fun j hj => ?_⟩
  rw [a4 nC]
  exact (h7 j hj).cg e2 e3 e5
theorem lo3_ev (hI : lo3 L W s g a R k cn cc bc O un wt M0 M) (hcn : cn ≤ k) (hF0 : NF L W M0) (oO : Oc L M0 O) (hO : s + 134 < O) (e : evI L W s g a R k cn cc bc M M') : lo3 L W s g a R k cn cc bc O un wt M0 M' := by
  obtain ⟨⟨hN, hS, eR, ⟨hr, ht⟩, h30⟩, hL, hU, hw, oc, mo, hH⟩ := hI
  obtain ⟨q, S1, eR1, st, r1, ti, gi⟩ := e
  have eT := (tso_e (s := s) (cn := cn) eR).1
  have eC := co2_e (s := s) (cn := cn) (O := O) eR
  have hF := hS.2.1.1
  have oM := hN.oc hF0 oO
  have q' : NX L W (Tso s M R cn) (Co2 s M R cn O) True (s + 1) M M' := q.mono hF (fun _ u => u) (hS.tl hcn) (fun x u => Or.inl u.so) (fun x u => u.elim (hS.cl hcn x) (fun u => by rw [u]; exact oM)) (fun u => u.elim)
  rw [eT, eC] at q'
  have e2 := st (s + 122) st122.1
  have e3 := st (s + 123) st122.2.1
  have e5 := st (s + 125) st122.2.2
  refine ⟨⟨hN.trans q', S1, by rw [eR1, eR], ⟨r1, fun i hi => by rw [eR1, ti i hi]; exact ht i hi⟩, (st (s + 30) st30).trans h30⟩, lhs_same hL e2 e3, unk_same hU (fun x hx _ => st x hx) (st (s + 126) st126), fun i hi => ⟨wto_same (hw i hi).1 e2 e3 e5 (gi 6 (by decide)), (hw i hi).2⟩, oc, mo, nx_oth (hS.2.2.1 s (Or.inl rfl)) q oM hO (fun u => ?_) (st s (Or.inl rfl)) e2 e3 e5 hH⟩
  unfold Cev S36 at u
  omega
theorem lo3_i1 (hI : lo3 L W s g a R k cn cc bc O un wt M0 M) (hcn : cn ≤ k) (hF0 : NF L W M0) (oO : Oc L M0 O) (e : i1I L W s g a R k cn cc bc un O oc mo M M') : lo3 L W s g a R k cn cc bc O un wt M0 M' := by
  obtain ⟨⟨hN, hS, eR, -, h30⟩, hL, hU, hw, -⟩ := hI
  obtain ⟨q, S1, eR1, st, r1, U1, H1, gi⟩ := e
  have eT := (tso_e (s := s) (cn := cn) eR).1
  have eC := co2_e (s := s) (cn := cn) (O := O) eR
  have hF := hS.2.1.1
  have oM := hN.oc hF0 oO
  have q' : NX L W (Tso s M R cn) (Co2 s M R cn O) True (s + 1) M M' := q.mono hF (fun _ u => u.elim Or.inl (fun u => Or.inr (Or.inr (Or.inl u)))) (hS.tl hcn) (fun x u => by
    rcases u with u | u | u
    · exact Or.inl u.so
    · exact Or.inl (Or.inr (Or.inl (by rw [u]; exact st126)))
    · exact Or.inr u) (fun x u => u.elim (hS.cl hcn x) (fun u => by rw [u]; exact oM)) (fun u => u.elim)
  rw [eT, eC] at q'
  have e2 := st (s + 122) st122.1 (by omega) (by omega)
  have e3 := st (s + 123) st122.2.1 (by omega) (by omega)
  have e5 := st (s + 125) st122.2.2 (by omega) (by omega)
  exact ⟨⟨hN.trans q', S1, by rw [eR1, eR], r1, (st (s + 30) st30 (by omega) (by omega)).trans h30⟩, lhs_same hL e2 e3, U1, fun i hi => ⟨wto_same (hw i hi).1 e2 e3 e5 (gi 6 (by decide)), (hw i hi).2⟩, oc, mo, H1⟩
/-- the rounds in which one state betters its choice -/
theorem s_wo102 {Q : Int → mM → Prop} (hF0 : NF L W M0) (hcn : cn ≤ k) (hk : k ≤ 512) (h480 : wsu wt un ≤ 480) (hWr : ∀ i, i < k → 17 ≤ W (mR M0 R i + 1) ∧ 17 ≤ W (mR M0 R i + 3)) (hWs : ∀ x, Trs (s + 31) x → 40 ≤ W x) (hW : ∀ x, Tat s x → B ≤ W x) (b1 : 300 ≤ B) (hB : B ≤ 16000) (oO : Oc L M0 O) (hO : s + 134 < O)
    (hQ : ∀ M M66, lo2 L W s g a R k cn cc bc O M0 M → M66 = mUI M a 1 1 → Q 0 M66) : ∀ (t rn : Nat) (bt : Int) (M : mM), 4611686018427387904 ≤ rn + t → rn ≤ 4611686018427387904 → (bt = 0 ∨ bt = 1) → lo3 L W s g a R k cn cc bc O un wt M0 M → h_So_workOut_102 G (d + 7) s a bt rn M Q := by
  intro t
  induction t with
  | zero =>
    intro rn bt M h1 h2 hb hI
    have hS := hI.1.2.1
    exact k_So_workOut_102 hS.1.1 (m_b32 hb) ⟨by omega, by omega⟩ ⟨fun _ => ⟨hS.2.2.2.2.1.1, fun M66 e66 => hQ M M66 hI.1 e66⟩, fun u => absurd (Or.inl ((cmpz _ _).1.mpr (by omega))) u⟩
  | succ t ih =>
    intro rn bt M h1 h2 hb hI
    obtain ⟨⟨hN, hS, eR, hr, -⟩, hL, hU, hw, -⟩ := id hI
    refine k_So_workOut_102 hS.1.1 (m_b32 hb) ⟨by omega, by omega⟩ ⟨fun _ => ⟨hS.2.2.2.2.1.1, fun M66 e66 => hQ M M66 hI.1 e66⟩, fun u => ⟨hS.1.2.1.1.1, ?_⟩⟩
    rw [show (((rn : Nat) : Int) + 1) = ((rn + 1 : Nat) : Int) by first | rfl | omega]
    have rl : rn < 4611686018427387904 := by
      by_cases c : (4611686018427387904 : Int) ≤ rn
      · exact absurd (Or.inl ((cmpz _ _).1.mpr c)) u
      · omega
    refine (s_So_evaluate (d := d + 1) (wt := wt) hS hcn hk hL hU hw h480 hr.1 (fun i hi => by rw [eR]; exact hWr i hi) hWs).mono (fun M70 q => ?_)
    have I70 := lo3_ev hI hcn hF0 oO hO q
    obtain ⟨⟨N70, S70, -, r70, -⟩, L70, U70, -, oc, mo, H70⟩ := id I70
    refine ⟨S70.1.1, S70.1.2.1.1.1, (s_So_improveOne (d := d + 1) S70 hcn hk L70 U70 r70 H70 (N70.oc hF0 oO) hO hW b1 hB).mono (fun x75 M74 q2 => ?_)⟩
    obtain ⟨x01, i74⟩ := q2
    have I74 := lo3_i1 I70 hcn hF0 oO i74
    exact ⟨m_b32 x01, I74.1.2.1.1.1, ih (rn + 1) x75 M74 (by omega) (by omega) x01 I74⟩
/-- the first of these rounds begins -/
theorem lo3_go (hI : loI L W s g a R k cn cc bc un wt M0 M) (hcn : cn ≤ k) (hz : s + 134 < mZ M) (ht : Ot L M s O n) (gr : gr1 s M M5 O n O' 2400) (S5 : Sva L W s g a R k cn cc bc M5) (T5 : Ot L M5 s O' 2400) (hO : s + 134 < O') (hP : loP s un O' M5 M') : lo3 L W s g a R k cn cc bc O' un wt M5 M' := by
  obtain ⟨-, hS, -, ⟨hr, ht1⟩, hL, hU, hw, -⟩ := hI
  obtain ⟨-, -, nv5, I5, R5, -⟩ := gr.kp hS hz ht
  obtain ⟨o', ff, ij, hH⟩ := hP
  have hF5 := S5.2.1.1
  have gs := S5.1.2.1.1.2
  have os := S5.2.2.1 s (Or.inl rfl)
  obtain ⟨nx, nvs⟩ := ff.nx (T := Tso s M5 R cn) (r := False) S5.1.1 o' hF5 (S5.tl hcn) (fun x u => by
    rcases u with u | u
    · rw [u]; exact os
    · rw [u]; exact T5.2.1) S5.z9
  obtain ⟨S', gi, eR⟩ := S5.nxg nx (fun i hi u => by omega) (nx.sk hF5 S5.2.1.2.1)
  have q' : NX L W (Tso s M5 R cn) (Co2 s M5 R cn O') True (s + 1) M5 M' := nx.mono hF5 (fun _ u => u) (S5.tl hcn) (fun x u => by
    rcases u with u | u
    · exact Or.inl (Or.inr (Or.inl (Or.inl u)))
    · exact Or.inr u) (fun x u => u.elim (S5.cl hcn x) (fun u => by rw [u]; exact T5.2.1)) (fun u => u.elim)
  have kp : ∀ x, x < mZ M → x ≠ s → x ≠ O' → mI M' x = mI M x := fun x a1 a2 a3 => by
    rw [ff.2.2.2.2.2.2 x (fun u => u.elim a2 a3)]
    exact I5 x a1
  have st : ∀ x, Stb s x → x ≠ s → mI M' x = mI M x := fun x hx nx => kp x (hS.2.2.1 x hx).1 nx (by unfold Stb at hx; omega)
  have e0 : mI M' s 10 = mI M s 10 := by
    rw [ij 10 (by decide) (by decide), I5 s (hS.2.2.1 s (Or.inl rfl)).1]
  have e2 := st (s + 122) st122.1 (by omega)
  have e3 := st (s + 123) st122.2.1 (by omega)
  have e5 := st (s + 125) st122.2.2 (by omega)
  have rows := hS.2.2.2.2.1.2.2.2.2.2
  refine ⟨⟨q', S', eR, ⟨fun i hi => ?_, fun i hi => ?_⟩, ?_⟩, lhs_same hL e2 e3, unk_cg hU e0 e2 e3 (st _ st124 (by omega)) e5 (st _ st126 (by omega)), fun i hi => ⟨wto_same (hw i hi).1 e2 e3 e5 ?_, (hw i hi).2⟩, hH⟩
  · have f := rows i (by omega)
    rw [eR, R5, nvs _ f.2.1, nvs _ f.2.2, nv5 _ f.2.1, nv5 _ f.2.2]
    exact hr i hi
  · have f := rows i (by omega)
    have hb := hS.2.2.2.2.2.1 i (by omega)
    rw [eR, R5, kp _ f.1.2.2 (by omega) (fun u => ?_)]
    · exact ht1 i hi
    · have kO := T5.1.2.1
      have k5 := (S5.2.2.2.2.1.2.2.2.2.2 i (by omega)).1.1
      rw [R5, u, kO] at k5
      exact absurd k5 (by decide)
  · rw [ff.2.2.2.2.2.2 (s + 30) (fun u => by omega)]
  · rw [gi 6 (by decide), I5 _ (hS.2.2.2.1 6 (by decide)).1]
/-- the rounds -/
theorem s_wo45 {Q : Int → mM → Prop} (hF0 : NF L W M0) (os0 : Oc L M0 s) (hz : s + 134 < mZ M0) (ht0 : Ot L M0 s O n) (hcn : cn ≤ k) (hk : k ≤ 512) (h480 : wsu wt un ≤ 480) (hWr : ∀ i, i < k → 17 ≤ W (mR M0 R i + 1) ∧ 17 ≤ W (mR M0 R i + 3)) (hWs : ∀ x, Trs (s + 31) x → 40 ≤ W x) (hW : ∀ x, Tat s x → B ≤ W x) (b1 : 300 ≤ B) (hB : B ≤ 16000)
    (hQ : ∀ (M4 M5 M6 M66 : mM) (O' n' : Nat), loI L W s g a R k cn cc bc un wt M0 M4 → gr1 s M4 M5 O n O' n' → lo2 L W s g a R k cn cc bc O' M5 M6 → M66 = mUI M6 a 1 1 → Q 0 M66) : ∀ (t rn : Nat) (bt : Int) (M : mM), 100 ≤ rn + t → rn ≤ 100 → (bt = 0 ∨ bt = 1) → loI L W s g a R k cn cc bc un wt M0 M → h_So_workOut_45 G (d + 7) s a bt rn M Q := by
  have ex : ∀ (bt : Int) (M : mM), (bt = 0 ∨ bt = 1) → loI L W s g a R k cn cc bc un wt M0 M → (((bt = 0) → (h_So_workOut_102 G (d + 7) s a bt 0 M Q)) ∧ (¬ (bt = 0) → (mK M s = 8 ∧ Cv G y_So_listOthers (d + 7) [vr s] M (fun M33 => mOk M33 ∧ (h_So_workOut_102 G (d + 7) s a bt 0 M33 Q))))) := fun bt M hb hI => by
    obtain ⟨hN, hS, eR, hr, hL, hU, hw, -⟩ := id hI
    have htM := ht0.nx hN hF0 os0
    have zM : s + 134 < mZ M := Nat.lt_of_lt_of_le hz hN.2.2.1.1.1
    refine ⟨fun b0 => ?_, fun b0 => ⟨hS.1.2.1.1.1, ?_⟩⟩
    · refine k_So_workOut_102 hS.1.1 (m_b32 hb) ⟨by decide, by decide⟩ ⟨fun _ => ⟨hS.2.2.2.2.1.1, fun M66 e66 => hQ M M M M66 O n hI (Or.inl ⟨rfl, rfl, rfl⟩) ⟨NX.refl hS.1.1 hS.2.1.1 (hS.tl hcn) (fun x u => u.elim (hS.cl hcn x) (fun u => by rw [u]; exact htM.2.1)) hS.z9, hS, rfl, hr, rfl⟩ e66⟩, fun u => absurd (Or.inr b0) u⟩
    · refine (s_So_listOthers (d := d + 5) hS zM hL hU htM).mono (fun M33 q => ?_)
      obtain ⟨M5, O', gr, S5, T5, hP⟩ := q
      have hO : s + 134 < O' := by
        rcases T5.2.2 with u | u
        · omega
        · exact u.1
      have eR5 : mR M5 R = mR M0 R := by rw [(gr.kp hS zM htM).2.2.2.2.1, eR]
      refine ⟨hP.1, ?_⟩
      show h_So_workOut_102 G (d + 7) s a bt ((0 : Nat) : Int) M33 Q
      exact s_wo102 (d := d) (wt := wt) (un := un) S5.2.1.1 hcn hk h480 (fun i hi => by rw [eR5]; exact hWr i hi) hWs hW b1 hB T5.2.1 hO (fun M6 M66 l2 e66 => hQ M M5 M6 M66 O' 2400 hI gr l2 e66) 4611686018427387904 0 bt M33 (by omega) (by omega) hb (lo3_go hI hcn zM htM gr S5 T5 hO hP)
  intro t
  induction t with
  | zero =>
    intro rn bt M h1 h2 hb hI
    have hS := hI.2.1
    exact k_So_workOut_45 hS.1.1 (m_b32 hb) ⟨by omega, by omega⟩ ⟨fun _ => ex bt M hb hI, fun u => absurd (Or.inl (by omega)) u⟩
  | succ t ih =>
    intro rn bt M h1 h2 hb hI
    obtain ⟨hN, hS, eR, hr, hL, hU, hw, -⟩ := id hI
    refine k_So_workOut_45 hS.1.1 (m_b32 hb) ⟨by omega, by omega⟩ ⟨fun _ => ex bt M hb hI, fun u => ⟨hS.1.2.1.1.1, ?_⟩⟩
    rw [show ((rn : Int) + 1) = ((rn + 1 : Nat) : Int) by first | rfl | omega]
    have rl : rn < 100 := by
      by_cases c : (100 : Int) ≤ rn
      · exact absurd (Or.inl c) u
      · omega
    refine (s_So_evaluate (d := d + 1) (wt := wt) hS hcn hk hL hU hw h480 hr.1 (fun i hi => by rw [eR]; exact hWr i hi) hWs).mono (fun M34 q => ?_)
    have I34 := lo_ev hI hcn q
    obtain ⟨-, S34, -, r34, L34, U34, -⟩ := id I34
    refine ⟨S34.1.1, S34.1.2.1.1.1, (s_So_improve (d := d) (pl := 2) ⟨by decide, by decide⟩ S34 hcn hk L34 U34 r34 (fun x hx => hW x (Or.inl hx)) b1 hB).mono (fun x39 M38 q2 => ?_)⟩
    obtain ⟨x01, im38⟩ := q2
    have I38 := lo_im I34 hcn im38
    obtain ⟨-, S38, -, r38, L38, U38, -⟩ := id I38
    refine ⟨m_b32 x01, S38.1.1, fun _ => ⟨S38.1.2.1.1.1, (s_So_improve (d := d) (pl := 1) ⟨by decide, by decide⟩ S38 hcn hk L38 U38 r38 (fun x hx => hW x (Or.inl hx)) b1 hB).mono (fun x46 M45 q3 => ?_)⟩, fun _ => ih (rn + 1) 1 M38 (by omega) (by omega) (Or.inr rfl) I38⟩
    obtain ⟨x01', im45⟩ := q3
    have I45 := lo_im I38 hcn im45
    exact ⟨m_b32 x01', I45.2.1.1.1, fun v49 e49 => ih (rn + 1) v49 M45 (by omega) (by omega) (by rw [e49]; split <;> omega) I45⟩
/-- the first part of workOut: tables alone have changed -/
def woI (L : List Nat) (W : Nat → Nat) (s g a R k cn cc bc : Nat) (M0 M : mM) : Prop := mOk M ∧ FI (Sta s a) M0 M ∧ Sva L W s g a R k cn cc bc M ∧ mI M (s + 30) = mI M0 (s + 30) ∧ mI M a 1 = 0
/-- what workOut leaves behind -/
def wkoQ (L : List Nat) (W : Nat → Nat) (s g a R k cn cc bc O n : Nat) (M0 : mM) (x : Int) (M' : mM) : Prop := ((x = 5 ∨ x = 6) ∧ woI L W s g a R k cn cc bc M0 M') ∨ (x = 0 ∧ ∃ M1 L' R' k' M2 M3 un wt M4 M5 O' n' M6, woI L W s g a R k cn cc bc M0 M1 ∧ Gw L W a M1 L' M2 ∧ Te L' W (s + 1) g a R' k' M2 ∧ ((M2 = M1 ∧ L' = L ∧ R' = R ∧ k' = k) ∨ rvG L M1 R k L' M2 R' k') ∧ (cn ≤ k' ∧ k ≤ k' ∧ k' ≤ 512) ∧ (∀ i, i < k → mR M2 R' i = mR M1 R i) ∧ (∀ i, k ≤ i → i < k' → mR M2 R' i = mZ M1 + 1 + 5 * (i - k) ∧ mI M2 (mZ M1 + 1 + 5 * (i - k)) 2 = 1) ∧ NL L' W (Trw M2 R' cn) (Irw M2 R' cn) False (s + 1) M2 M3 ∧ loI L' W s g a R' k' cn cc bc un wt M3 M4 ∧ gr1 s M4 M5 O n O' n' ∧ lo2 L' W s g a R' k' cn cc bc O' M5 M6 ∧ M' = mUI M6 a 1 1 ∧ mI M' (s + 30) = mI M0 (s + 30))
theorem s_So_workOut {kp : Int} (hkp : i32 kp) (h : Sva L W s g a R k cn cc bc M) (hot : Ot L M s O n) (hk : k ≤ 512) (hz : s + 134 < mZ M) (ht : Tld M g cn kp) (hWr : ∀ i, i < k → 17 ≤ W (mR M R i + 1) ∧ 17 ≤ W (mR M R i + 3)) (hWn : ∀ x, mZ M < x → 17 ≤ W x ∧ W x ≤ 20000) (hWs : ∀ x, Trs (s + 31) x → 40 ≤ W x) (hW : ∀ x, Tat s x → B ≤ W x) (b1 : 300 ≤ B) (hB : B ≤ 16000) : Ci G y_So_workOut (d + 8) [vr s, vi kp, vr a] M (fun x M' => wkoQ L W s g a R k cn cc bc O n M x M' ∧ (kp = 0 → kdT (xtm M g cn) → svA9 (xtm M g cn) x)) := by
  have gst : ∀ i, i ≤ 9 → ¬ Sta s a (g + i) := fun i hi => h.gst hi
  have nas : ∀ x, Stb s x → x ≠ a := fun x hx e => by
    have ka := h.2.2.2.2.1.1
    obtain ⟨⟨-, ⟨⟨s0, -⟩, -, ⟨k1, k2, k3, k4, k5, k6, k7, k8, k9⟩, -⟩, -⟩, -⟩ := id h
    rw [← e] at ka
    unfold Stb at hx
    rcases hx with u | u | u | u | u | u | u | u | u | u <;> rw [u] at ka <;> omega
  refine k_So_workOut h.1.1 hkp ⟨h.2.2.2.2.1.1, fun M2 e2 => ?_⟩
  have f2 : FI (Sta s a) M M2 := by rw [e2]; exact FI.ui (Or.inl rfl)
  have o2 : mOk M2 := by rw [e2]; exact mOk_UI h.1.1 ⟨by decide, by decide⟩
  have S2 := (h.fi f2 o2).1
  have g2 : ∀ i, i ≤ 9 → mI M2 (g + i) = mI M (g + i) := fun i hi => f2.2.2.2.2.2.2 _ (gst i hi)
  refine ⟨S2.1.2.1.1.1, (s_So_leaveCommands (d := d + 7) hkp S2.1 (fun h0 j hj e x y f1 f4 => ?_)).mono (fun M5 q => ?_)⟩
  · rw [g2 2 (by decide)] at e
    rw [g2 4 (by decide)] at f1 f4
    rw [g2 3 (by decide)]
    exact ht h0 j hj e x y f1 f4
  obtain ⟨f5, sg5, L5, X5⟩ := q
  have f5' : FI (Sta s a) M2 M5 := f5.mono (fun z u => Or.inr (u.elim (fun u => by rw [u]; exact st122.1) (fun u => by rw [u]; exact st122.2.1)))
  have S5 := (S2.fi f5' sg5.1).1
  refine ⟨sg5.1, sg5.2.1.1.1, (x_So_findUnknown (d := d + 5) sg5 L5).mono (fun x10 M9 q => ?_)⟩
  obtain ⟨un, ⟨f9, sg9, L9, U9, mb9, su9⟩, hres⟩ := q
  have x01 : x10 = 0 ∨ x10 = 1 := by
    rcases hres with ⟨u, -⟩ | ⟨u, -⟩
    · exact Or.inr u
    · exact Or.inl u
  have f9' : FI (Sta s a) M5 M9 := f9.mono (fun z u => Or.inr (by
    rcases u with u | u | u | u
    · exact Or.inl u
    · exact Or.inr (Or.inr (Or.inr (Or.inr (Or.inr (Or.inl u)))))
    · rw [u]; exact st122.2.2
    · rw [u]; exact st126))
  have S9 := (S5.fi f9' sg9.1).1
  have e30 : mI M9 (s + 30) = mI M (s + 30) := by
    rw [f9.2.2.2.2.2.2 (s + 30) (fun u => by unfold Sun at u; omega), f5.2.2.2.2.2.2 (s + 30) (fun u => by unfold S56 at u; omega)]
    funext j
    rw [mI_ui _ j e2, if_neg (fun u => nas (s + 30) st30 u.1)]
  have a56 : ¬ S56 s a := fun u => u.elim (fun u => nas (s + 122) st122.1 u.symm) (fun u => nas (s + 123) st122.2.1 u.symm)
  have aSn : ¬ Sun s a := fun u => by
    rcases u with u | u | u | u
    · exact nas s (Or.inl rfl) u.symm
    · exact nas (s + 124) (Or.inr (Or.inr (Or.inr (Or.inr (Or.inr (Or.inl rfl)))))) u.symm
    · exact nas (s + 125) st122.2.2 u.symm
    · exact nas (s + 126) st126 u.symm
  have fl0 : mI M9 a 1 = 0 := by rw [f9.2.2.2.2.2.2 a aSn, f5.2.2.2.2.2.2 a a56, mI_ui a 1 e2, if_pos ⟨rfl, rfl⟩]
  have I9 : woI L W s g a R k cn cc bc M M9 := ⟨sg9.1, (f2.trans f5').trans f9', S9, e30, fl0⟩
  have clt : kp = 0 → kdT (xtm M g cn) → ClT M9 s g cn (xtm M g cn) := fun k0 kd => by
    refine clt_of (M := M) h.1.2.2.2.2 (fun k hk => ?_) (fun i hi => I9.2.1.2.2.2.2.2.2 _ (gst i hi)) kd
    obtain ⟨a1, a2⟩ := X5 k0 k hk
    rw [f9.2.2.2.2.2.2 (s + 122) (fun u => by unfold Sun at u; omega), f9.2.2.2.2.2.2 (s + 123) (fun u => by unfold Sun at u; omega), ← g2 4 (by decide)]
    exact ⟨a1, a2⟩
  have cn5 : cn ≤ 512 := h.1.2.2.2.2.1.1
  refine ⟨m_b32 x01, sg9.1, fun z => ⟨Or.inl ⟨Or.inl rfl, I9⟩, fun k0 kd => ?_⟩, fun z => ⟨sg9.2.1.1.1, (x_So_weights (d := d + 6) sg9 L9 U9).mono (fun x16 M15 q => ?_)⟩⟩
  · rcases hres with ⟨u, -⟩ | ⟨-, e40, k9, hk9, k90, lo9, hi9, l91, l92, hco⟩
    · exact absurd (z.symm.trans u) (by decide)
    · subst e40
      exact cl_many (clt k0 kd) U9.2.2.1 cn5 mb9 su9 hk9 k90 l91 l92 hco (fun J' hc j a b => cl_inn (clt k0 kd) U9.2.2.1 cn5 mb9 hc j ⟨a, b⟩)
  have hno : noM M9 s g cn 0 := by
    rcases hres with ⟨-, u⟩ | ⟨u, -⟩
    · exact u
    · exact absurd u z
  obtain ⟨e15, wt, ew, hw0⟩ := q
  have hw : ∀ i, i < un → wtO M9 s g i (wt i) ∧ wt i ≤ 33 := fun i hi => ⟨(hw0 i hi).1.wto, (hw0 i hi).2⟩
  have few : ∀ r : Int, ((480 < ((wsu wt un : Nat) : Int) ∧ r = 6) ∨ (((wsu wt un : Nat) : Int) ≤ 480 ∧ r = 0)) → kp = 0 → kdT (xtm M g cn) → svA9 (xtm M g cn) r := fun r hr k0 kd => cl_few (clt k0 kd) U9.2.2.1 cn5 U9.2.1 mb9 su9 hno (fun i hi => by
    obtain ⟨k9, c9, lo9, hi9, q1, q2, -⟩ := U9.2.2.2 i hi
    exact ⟨k9, q1, q2⟩) (fun i hi => (hw0 i hi).1) hr
  have w33 : wsu wt un ≤ wsu (fun _ => 33) un := wsu_le un (fun i hi => (hw i hi).2)
  have w33' : ∀ n, wsu (fun _ => 33) n = 33 * n := fun n => by
    induction n with
    | zero => rfl
    | succ n ih => show wsu (fun _ => 33) n + 33 = _; rw [ih]; omega
  rw [w33'] at w33
  have u40 := U9.2.1
  rw [e15, ew]
  refine ⟨⟨by omega, by omega⟩, sg9.1, fun le => ⟨sg9.2.1.1.1, S9.2.2.2.2.1.1, ?_⟩, fun ng => ⟨Or.inl ⟨Or.inr rfl, I9⟩, few 6 (Or.inl ⟨Int.not_le.mp ng, rfl⟩)⟩⟩
  have z9 : mZ M9 = mZ M := I9.2.1.2.2.2.2.1
  have r3 : mR M9 s 3 = g := sg9.2.1.2.1.2.2.2.1
  rw [r3]
  refine (f_begin (d := d + 3) S9.te hk sg9.2.2.2.2.1.1 sg9.2.2.2.2.2.2.2 (fun x hx => by have := hWn x (by omega); omega)).mono (fun M22 q => ?_)
  obtain ⟨L', R', k', MB, gw, te, ⟨c1, c2⟩, gr', p1, p2, nb, bg, -⟩ := q
  have k5 : k' ≤ 512 := by
    rcases gr' with ⟨-, -, -, e⟩ | ⟨-, e, -⟩ <;> omega
  have z133 : s + 134 < mZ M9 := by rw [z9]; exact hz
  have row' : ∀ i, i < k' → s + 134 < mR MB R' i := fun i hi => by
    by_cases c : i < k
    · rw [p1 i c]; exact S9.2.2.2.2.2.1 i c
    · rw [(p2 i (by omega) hi).1]; omega
  obtain ⟨SB, stB, giB⟩ := S9.gw gw te row'
  have FB := SB.2.1.1
  have nbx : NX L' W (Tso s MB R' cn) (Cso s MB R' cn) False (s + 1) MB M22 := (nb.nx FB).mono FB (fun _ u => Or.inr (Or.inr (Or.inr u))) (SB.tl c1) (fun _ u => Or.inr (Or.inr (Or.inr (Or.inr (Or.inr u))))) (SB.cl c1) (fun u => u)
  obtain ⟨S22, gi22, eR22⟩ := SB.nx c1 nbx (nb.sk FB SB.2.1.2.1)
  have st22 : ∀ x, Stb s x → mI M22 x = mI M9 x := fun x hx => by
    have ne : x ≠ s + 1 := by unfold Stb at hx; omega
    rw [((nb.nx FB).oth (SB.2.2.1 x hx) ne).2.2.2 (fun ⟨i, hi, u⟩ => by
      have := row' i (by omega)
      unfold Stb at hx
      omega), stB x hx]
  have e2' := st22 (s + 122) st122.1
  have e3' := st22 (s + 123) st122.2.1
  have e5' := st22 (s + 125) st122.2.2
  have I22 : loI L' W s g a R' k' cn cc bc un wt M22 M22 := by
    refine ⟨NX.refl nb.ok S22.2.1.1 (S22.tl c1) (S22.cl c1) S22.z9, S22, rfl, ⟨fun i hi => ?_, fun i hi => (bg i hi).2.2⟩, lhs_same L9 e2' e3', unk_same U9 (fun x hx _ => st22 x hx) (st22 (s + 126) st126), fun i hi => ⟨wto_same (hw i hi).1 e2' e3' e5' (by rw [gi22 6 (by decide), giB 6 (by decide)]), (hw i hi).2⟩, rfl⟩
    obtain ⟨b1', b3', -⟩ := bg i hi
    have p1' : (1 : Int) < 2 ^ (30 * 17) := Int.lt_of_lt_of_le (show (1 : Int) < 2 ^ (30 * 1) by decide) (p30m (by decide))
    rw [b3']
    exact ⟨by decide, p1', by rcases b1' with e | e <;> rw [e] <;> omega⟩
  have wr' : ∀ i, i < k' → 17 ≤ W (mR M22 R' i + 1) ∧ 17 ≤ W (mR M22 R' i + 3) := fun i hi => by
    rw [eR22]
    by_cases c : i < k
    · rw [p1 i c, I9.2.1.2.2.1]; exact hWr i c
    · rw [(p2 i (by omega) hi).1]
      exact ⟨(hWn _ (by omega)).1, (hWn _ (by omega)).1⟩
  have otB := (hot.fi I9.2.1).gw gw (nas s (Or.inl rfl)) (S9.2.2.1 s (Or.inl rfl)).1
  have ot22 : Ot L' M22 s O n := otB.nx nbx FB (SB.2.2.1 s (Or.inl rfl))
  have zB : mZ M9 ≤ mZ MB := gw.2.2.2.2.1.1.1
  have z22 : s + 134 < mZ M22 := Nat.lt_of_lt_of_le (Nat.lt_of_lt_of_le z133 zB) nbx.2.2.1.1.1
  refine ⟨nb.ok, s_wo45 (d := d) (wt := wt) (un := un) S22.2.1.1 (S22.2.2.1 s (Or.inl rfl)) z22 ot22 c1 k5 (by omega) wr' hWs hW b1 hB (fun M4 M5 M6 M30 O' n' hI gr l2 e30' => ?_) 100 0 1 M22 (by omega) (by omega) (Or.inr rfl) I22⟩
  refine ⟨Or.inr ⟨rfl, M9, L', R', k', MB, M22, un, wt, M4, M5, O', n', M6, I9, gw, te, gr', ⟨c1, c2, k5⟩, p1, p2, nb, hI, gr, l2, e30', ?_⟩, few 0 (Or.inr ⟨le, rfl⟩)⟩
  have hS4 := hI.2.1
  have z4 : s + 134 < mZ M4 := Nat.lt_of_lt_of_le z22 hI.1.2.2.1.1.1
  have I5 := (gr.kp hS4 z4 (ot22.nx hI.1 S22.2.1.1 (S22.2.2.1 s (Or.inl rfl)))).2.2.2.1
  funext j
  rw [mI_ui _ j e30', if_neg (fun u => nas (s + 30) st30 u.1), l2.2.2.2.2, I5 _ (hS4.2.2.1 _ st30).1, hI.2.2.2.2.2.2.2, st22 (s + 30) st30, e30]
end NBZ
end
section
/-! The class's top: division by 0, whole parts, digits. -/
section NCA
variable {G : mG} {d a b q e z n s x t pr st : Nat} {M M0 M' M1 M2 M3 : mM} {L : List Nat} {W : Nat → Nat}
theorem f_divide0 (hO : mOk M) (hF : NF L W M) (hb : b ∈ L) (hq : q ∈ L) (bq : b ≠ q) (hb0 : nv M b = 0) : Cv G y_Na_divide (d + 3) [vr a, vr b, vr q, vr e] M (fun M' => NC L W (fun x => x = q) M M' ∧ nv M' q = 0) := by
  refine k_Na_divide hO ⟨hF.kd hq, (f_put0 (d := d + 2) ⟨by decide, by decide⟩ hO hF hq).mono (fun M2 k2 => ?_)⟩
  obtain ⟨c1, v1⟩ := k2
  have F1 := c1.nf
  have z0 : sz M2 b = 0 := (F1.sz0 hb).2 (by rw [c1.v hF hb bq]; exact hb0)
  have tb := F1.nt hb
  rw [tb.2.1, z0]
  exact ⟨c1.ok, F1.kd hb, fun u => absurd rfl u, fun _ => ⟨c1, v1⟩, fun u => absurd (Or.inl rfl) u⟩
/-- how often a divisor is in a number, 0 for a divisor of 0 -/
theorem f_wholePartZ (hO : mOk M) (hF : NF L W M) (hS : SK L M z) (ha : a ∈ L) (hb : b ∈ L) (ab : a ≠ b) (na : ¬ T4 z a) (nb : ¬ T4 z b) (wa : sz M a + 2 ≤ W a) (w5 : sz M a + 1 ≤ W (z + 5)) (w7 : sz M b + 1 ≤ W (z + 7)) : Ci G y_Sc_wholePart (d + 4) [vr z, vr a, vr b] M (fun x M' => NC L W (fun x => x = a ∨ x = z + 5 ∨ x = z + 7) M M' ∧ 0 ≤ x ∧ x < 1073741824) := by
  by_cases b0 : 0 < nv M b
  · exact (f_wholePart (d := d) hO hF hS ha hb ab na nb b0 wa w5 w7).mono (fun x M' k => ⟨k.1, k.2.2.1, k.2.2.2.1⟩)
  · have z0 : nv M b = 0 := by have := hF.nn0 hb; omega
    obtain ⟨⟨k1, k1'⟩, ⟨-, -, r2, r3, -⟩, -, -, -, ⟨-, -, m5, m7, -⟩, -⟩ := id hS
    have b5 : b ≠ z + 5 := fun e => nb (Or.inr (Or.inr (Or.inl e)))
    refine k_Sc_wholePart hO ?_
    rw [r2, r3]
    refine ⟨k1, hF.kd ha, (f_divide0 (d := d) hO hF hb m5 b5 z0).mono (fun M3 k => ?_)⟩
    obtain ⟨c, v⟩ := k
    have hF3 := c.nf
    have hS3 := (c.nl (I := fun _ => False) (r := False) noI hS.z9).sk hF hS
    obtain ⟨⟨j1, -⟩, ⟨-, -, j2, -⟩, -⟩ := id hS3
    have t5 := hF3.nt m5
    have q0 : sz M3 (z + 5) = 0 := (hF3.sz0 m5).2 v
    rw [j2, t5.2.1, q0]
    refine ⟨c.ok, j1, hF3.kd m5, fun u => absurd rfl u, fun v11 e11 => ?_⟩
    rw [if_pos (show ((0 : Nat) : Int) = 0 from rfl)] at e11
    rw [e11]
    refine ⟨c.mono (fun t ht => Or.inr (Or.inl ht)) (fun t ht => ?_) hF, by decide, by decide⟩
    rcases ht with u | u | u
    · rw [u]; exact ha
    · rw [u]; exact m5
    · rw [u]; exact m7
theorem i2c_b (x : Int) (h : 48 ≤ x ∧ x < 58) : 0 ≤ i2cI x ∧ i2cI x < 65536 := by
  obtain ⟨n, hn, e⟩ : ∃ n : Nat, n < 58 ∧ x = ((n : Nat) : Int) := ⟨x.toNat, by omega, by omega⟩
  have : ∀ n : Nat, n < 58 → 0 ≤ i2cI ((n : Nat) : Int) ∧ i2cI ((n : Nat) : Int) < 65536 := by decide
  rw [e]
  exact this n hn
/-- printed characters -/
def Pch (M : mM) (pr : Nat) : Prop := ∀ j, j < 400 → 0 ≤ mI M pr j ∧ mI M pr j < 65536
/-- the printer's places: t the object, pr its characters, n its number -/
def Prt (L : List Nat) (M : mM) (t pr n : Nat) : Prop := (mK M t = 1 ∧ mR M t 15 = n ∧ mR M t 17 = pr) ∧ (mK M pr = 32 ∧ mN M pr = 400) ∧ (Oc L M t ∧ Oc L M pr ∧ t ≠ pr) ∧ n ∈ L ∧ Pch M pr
def Cpr (t pr x : Nat) : Prop := x = t ∨ x = pr
/-- while digits are printed: at most p characters -/
def pnI (L : List Nat) (W : Nat → Nat) (z t pr n p : Nat) (M0 M : mM) : Prop := NX L W (fun x => x = n) (Cpr t pr) False z M0 M ∧ Prt L M t pr n ∧ ∃ c : Nat, mI M t 18 = ((c : Nat) : Int) ∧ c ≤ p ∧ ∀ i, i ≠ 18 → mI M t i = mI M0 t i
theorem Prt.nx (h : Prt L M t pr n) (q : NX L W (fun x => x = n) (Cpr t pr) False z M M') (hF : NF L W M) (nz : t ≠ z ∧ pr ≠ z) (hp : Pch M' pr) : Prt L M' t pr n := by
  obtain ⟨⟨h1, h2, h3⟩, ⟨h4, h5⟩, ⟨h6, h7, h8⟩, h9, -⟩ := h
  have ot := q.oth h6 nz.1
  have op := q.oth h7 nz.2
  exact ⟨⟨by rw [ot.1]; exact h1, by rw [ot.2.2.1]; exact h2, by rw [ot.2.2.1]; exact h3⟩, ⟨by rw [op.1]; exact h4, by rw [op.2.1]; exact h5⟩, ⟨q.oc hF h6, q.oc hF h7, h8⟩, h9, hp⟩
theorem Prt.cl (h : Prt L M t pr n) : ∀ x, Cpr t pr x → Oc L M x := fun x u => u.elim (fun u => by rw [u]; exact h.2.2.1.1) (fun u => by rw [u]; exact h.2.2.1.2.1)
theorem Prt.tl (h : Prt L M t pr n) : ∀ x, (fun x => x = n) x → x ∈ L := fun x u => by rw [u]; exact h.2.2.2.1
/-- a character is printed -/
theorem pn_put {p : Nat} {v : Int} {c : Nat} (hI : pnI L W z t pr n p M0 M) (nz : t ≠ z ∧ pr ≠ z) (hz : z < mZ M ∧ mK M z = 9) (hc : mI M t 18 = ((c : Nat) : Int)) (hcp : c ≤ p) (hp : p + 1 ≤ 400) (e1 : M1 = mUI M t 18 (((c : Nat) : Int) + 1)) (hv : 0 ≤ v ∧ v < 65536) (e2 : M2 = mUI M1 pr c v) : pnI L W z t pr n (p + 1) M0 M2 ∧ (∀ b, b ∈ L → nv M2 b = nv M b) := by
  obtain ⟨hN, hP, c0, -, -, oi⟩ := hI
  obtain ⟨⟨h1, h2, h3⟩, ⟨h4, h5⟩, ⟨h6, h7, h8⟩, h9, h10⟩ := id hP
  have f1 : FI (Cpr t pr) M M1 := by rw [e1]; exact FI.ui (Or.inl rfl)
  have f2 : FI (Cpr t pr) M1 M2 := by rw [e2]; exact FI.ui (Or.inr rfl)
  have o2 : mOk M2 := by rw [e2]; exact mOk_UI (by rw [e1]; exact mOk_UI hN.ok ⟨by omega, by omega⟩) ⟨by omega, by omega⟩
  have ff := f1.trans f2
  obtain ⟨x, v'⟩ := ff.nx (T := fun x => x = n) (r := False) (z := z) o2 hN.nf hP.tl hP.cl hz
  have pp : Pch M2 pr := fun j hj => by
    rw [mI_ui pr j e2]
    by_cases cj : pr = pr ∧ j = c
    · rw [if_pos cj]; exact hv
    · rw [if_neg cj, mI_ui pr j e1, if_neg (fun u => h8 u.1.symm)]; exact h10 j hj
  have ti : ∀ i, mI M2 t i = if i = 18 then ((c : Nat) : Int) + 1 else mI M t i := fun i => by
    rw [mI_ui t i e2, if_neg (fun u => h8 u.1), mI_ui t i e1]
    by_cases ci : i = 18
    · rw [if_pos ⟨rfl, ci⟩, if_pos ci]
    · rw [if_neg (fun u => ci u.2), if_neg ci]
  exact ⟨⟨hN.trans x, hP.nx x hN.nf nz pp, c + 1, by rw [ti, if_pos rfl]; omega, by omega, fun i hi => by rw [ti, if_neg hi]; exact oi i hi⟩, v'⟩
end NCA
end
section
/-! The class's top: a number is printed. -/
section NCB
variable {G : mG} {d a b z n x t pr st p : Nat} {M M0 M' M1 M2 M3 : mM} {L : List Nat} {W : Nat → Nat}
theorem NX.z9 {T C : Nat → Prop} {r : Prop} (h : NX L W T C r z M M') : z < mZ M' ∧ mK M' z = 9 := ⟨Nat.lt_of_lt_of_le h.2.1.2.2.1 h.2.2.1.1.1, by rw [h.kind h.2.1.2.2.1]; exact h.2.1.2.2.2⟩
/-- turning the characters round -/
theorem s_pn144 {Q : mM → Prop} (nz : t ≠ z ∧ pr ≠ z) (hQ : ∀ M', pnI L W z t pr n p M0 M' → Q M') : ∀ (k : Nat) (lo hi : Int) (M : mM), hi - lo ≤ k → 0 ≤ lo → lo < 400 → -1 ≤ hi → hi < 400 → pnI L W z t pr n p M0 M → h_CA_printNumber_144 G d t lo hi M Q := by
  intro k
  induction k with
  | zero =>
    intro lo hi M h1 h2 h2' h3 h4 hI
    exact k_CA_printNumber_144 hI.1.ok ⟨by omega, by omega⟩ ⟨by omega, by omega⟩ ⟨fun _ => hQ M hI, fun u => absurd (by omega) u⟩
  | succ k ih =>
    intro lo hi M h1 h2 h2' h3 h4 hI
    refine k_CA_printNumber_144 hI.1.ok ⟨by omega, by omega⟩ ⟨by omega, by omega⟩ ⟨fun _ => hQ M hI, fun u => ?_⟩
    obtain ⟨hN, hP, c, hc, hcp, oi⟩ := id hI
    obtain ⟨⟨e1, e2, e3⟩, ⟨k1, n1⟩, ⟨o1, o2, ne⟩, mn, hp⟩ := id hP
    obtain ⟨l, el⟩ : ∃ l : Nat, lo = ((l : Nat) : Int) := ⟨lo.toNat, by omega⟩
    obtain ⟨h, eh⟩ : ∃ h : Nat, hi = ((h : Nat) : Int) := ⟨hi.toNat, by omega⟩
    subst el
    subst eh
    have pl := hp l (by omega)
    have ph := hp h (by omega)
    rw [e3, n1, Int.toNat_natCast, Int.toNat_natCast]
    refine ⟨e1, k1, ⟨by omega, by omega⟩, ⟨by omega, by omega⟩, ⟨by omega, by omega⟩, ph, fun M70 e70 => ?_⟩
    have f70 : FI (Cpr t pr) M M70 := by rw [e70]; exact FI.ui (Or.inr rfl)
    rw [f70.1, f70.2.1, f70.2.2.1, e3, n1]
    refine ⟨k1, ⟨by omega, by omega⟩, pl, fun M75 e75 => ?_⟩
    have f75 : FI (Cpr t pr) M70 M75 := by rw [e75]; exact FI.ui (Or.inr rfl)
    have o75 : mOk M75 := by rw [e75]; exact mOk_UI (by rw [e70]; exact mOk_UI hN.ok ⟨by omega, by omega⟩) ⟨by omega, by omega⟩
    obtain ⟨xx, -⟩ := (f70.trans f75).nx (T := fun x => x = n) (r := False) (z := z) o75 hN.nf hP.tl hP.cl hN.z9
    have pp : Pch M75 pr := fun j hj => by
      rw [mI_ui pr j e75]
      by_cases cj : pr = pr ∧ j = h
      · rw [if_pos cj]; exact pl
      · rw [if_neg cj, mI_ui pr j e70]
        by_cases cj2 : pr = pr ∧ j = l
        · rw [if_pos cj2]; exact ph
        · rw [if_neg cj2]; exact hp j hj
    have tt : mI M75 t = mI M t := by
      funext i
      rw [mI_ui t i e75, if_neg (fun u => ne u.1), mI_ui t i e70, if_neg (fun u => ne u.1)]
    exact ih _ _ M75 (by omega) (by omega) (by omega) (by omega) (by omega) ⟨hN.trans xx, hP.nx xx hN.nf nz pp, c, by rw [tt]; exact hc, hcp, fun i hi => by rw [tt]; exact oi i hi⟩
/-- nine digits -/
theorem s_pn68 {Q : mM → Prop} {l2 l3 : Int} {b5 : Int} {v : Int} (h2 : i32 l2) (h3 : i32 l3) (h5 : b5 = 0 ∨ b5 = 1) (nz : t ≠ z ∧ pr ≠ z) (hp : p + 9 ≤ 400) (hQ : ∀ M', pnI L W z t pr n (p + 9) M0 M' → nv M' n = v → h_CA_printNumber_15 G d t l2 (l3 + 1) M' Q) : ∀ (k i : Nat) (nine : Int) (M : mM), 9 ≤ i + k → i ≤ 9 → 0 ≤ nine → nine < 1000000000 → pnI L W z t pr n (p + i) M0 M → nv M n = v → h_CA_printNumber_68 G d t l2 l3 nine b5 i M Q := by
  have up : ∀ {i : Nat} {M : mM}, i ≤ 9 → pnI L W z t pr n (p + i) M0 M → pnI L W z t pr n (p + 9) M0 M := fun hi h => by
    obtain ⟨a1, a2, c, a3, a4, a5⟩ := h
    exact ⟨a1, a2, c, a3, by omega, a5⟩
  intro k
  induction k with
  | zero =>
    intro i nine M h1 h2' h6 h7 hI hv
    exact k_CA_printNumber_68 hI.1.ok h2 h3 ⟨by omega, by omega⟩ (m_b32 h5) ⟨by omega, by omega⟩ ⟨fun _ => hQ M (up h2' hI) hv, fun u => absurd (Or.inl (by omega)) u⟩
  | succ k ih =>
    intro i nine M h1 h2' h6 h7 hI hv
    refine k_CA_printNumber_68 hI.1.ok h2 h3 ⟨by omega, by omega⟩ (m_b32 h5) ⟨by omega, by omega⟩ ⟨fun _ => hQ M (up h2' hI) hv, fun u => ?_⟩
    have i9 : i < 9 := by
      by_cases c : (9 : Int) ≤ i
      · exact absurd (Or.inl c) u
      · omega
    obtain ⟨hN, hP, c, hc, hcp, oi⟩ := id hI
    obtain ⟨⟨e1, e2, e3⟩, ⟨k1, n1⟩, ⟨o1, o2, ne⟩, mn, hp'⟩ := id hP
    have tm : Int.tmod nine 10 = nine % 10 := Int.tmod_eq_emod_of_nonneg h6
    have td : Int.tdiv nine 10 = nine / 10 := Int.tdiv_eq_ediv_of_nonneg h6
    rw [hc, e3, tm, td]
    have cb := i2c_b (48 + nine % 10) ⟨by omega, by omega⟩
    refine ⟨e1, ⟨by omega, by omega⟩, fun M46 e46 => ?_⟩
    have f46 : FI (Cpr t pr) M M46 := by rw [e46]; exact FI.ui (Or.inl rfl)
    rw [f46.1, f46.2.1, n1, Int.toNat_natCast]
    refine ⟨k1, ⟨by omega, by omega⟩, cb, fun M51 e51 => ?_⟩
    obtain ⟨I2, v2⟩ := pn_put hI nz hN.z9 hc hcp (by omega) e46 cb e51
    rw [show ((i : Int) + 1) = ((i + 1 : Nat) : Int) by first | rfl | omega]
    exact ih (i + 1) _ M51 (by omega) (by omega) (by omega) (by omega) I2 (by rw [v2 n mn]; exact hv)
theorem p9 (k : Nat) : (1000000000 : Int) ^ (k + 1) = 1000000000 * 1000000000 ^ k := by rw [Int.pow_succ, Int.mul_comm]
/-- the digits of a number, from the place st on -/
theorem s_CA_printNumber (hO : mOk M) (hF : NF L W M) (hP : Prt L M t pr n) (nz : t ≠ z ∧ pr ≠ z) (hz : z < mZ M ∧ mK M z = 9) (ha : a ∈ L) (na : n ≠ a) (hv : nv M a < 2 ^ (30 * 17)) (wn : 17 ≤ W n) (hs : mI M t 18 = ((st : Nat) : Int)) (hst : st + 162 ≤ 400) : Cv G y_CA_printNumber (d + 2) [vr t, vr a] M (pnI L W z t pr n (st + 162) M) := by
  obtain ⟨⟨e1, e2, e3⟩, ⟨k1, n1⟩, ⟨o1, o2, ne⟩, mn, hp⟩ := id hP
  refine k_CA_printNumber hO ?_
  rw [e2]
  refine ⟨e1, hF.kd mn, (f_put1 (d := d) hO hF mn ha na (by have := hF.szv ha hv; omega)).mono (fun M3 q => ?_)⟩
  obtain ⟨c3, v3⟩ := q
  have x3 : NX L W (fun x => x = n) (Cpr t pr) False z M M3 := c3.nx hP.cl hz
  have ot := c3.oth o1
  have op := c3.oth o2
  have P3 : Prt L M3 t pr n := hP.nx x3 hF nz (fun j hj => by rw [op.2.2.2]; exact hp j hj)
  have hs3 : mI M3 t 18 = ((st : Nat) : Int) := by rw [ot.2.2.2]; exact hs
  have big : (2 : Int) ^ (30 * 17) ≤ 1000000000 ^ 18 := by decide +kernel
  rw [hs3]
  refine ⟨c3.ok, P3.1.1, ?_⟩
  suffices HH : ∀ (k i : Nat) (M1 : mM), 18 ≤ i + k → i ≤ 18 → pnI L W z t pr n (st + 9 * i) M M1 → nv M1 n < 1000000000 ^ (18 - i) → h_CA_printNumber_15 G (d + 1) t st i M1 (pnI L W z t pr n (st + 162) M) from
    HH 18 0 M3 (by omega) (by omega) ⟨x3, P3, st, hs3, by omega, fun i _ => by rw [ot.2.2.2]⟩ (by rw [v3]; exact Int.lt_of_lt_of_le hv big)
  have up : ∀ {i : Nat} {M : mM} {M0 : mM}, i ≤ 18 → pnI L W z t pr n (st + 9 * i) M0 M → pnI L W z t pr n (st + 162) M0 M := fun hi h => by
    obtain ⟨a1, a2, c, a3, a4, a5⟩ := h
    exact ⟨a1, a2, c, a3, by omega, a5⟩
  have turn : ∀ (i : Nat) (M1 : mM), i ≤ 18 → pnI L W z t pr n (st + 9 * i) M M1 → mK M1 t = 1 ∧ h_CA_printNumber_144 G (d + 1) t st ((mI M1 t 18) - 1) M1 (pnI L W z t pr n (st + 162) M) := fun i M1 hi hI => by
    have hI' := up hi hI
    obtain ⟨-, hP1, c, hc, hcp, -⟩ := id hI'
    rw [hc]
    exact ⟨hP1.1.1, s_pn144 nz (fun M' h => h) 400 _ _ M1 (by omega) (by omega) (by omega) (by omega) (by omega) hI'⟩
  intro k
  induction k with
  | zero =>
    intro i M1 h1 h2 hI hv1
    have ei : i = 18 := by omega
    subst ei
    obtain ⟨hN, hP1, -⟩ := id hI
    have m1 := hP1.2.2.2.1
    have z0 : sz M1 n = 0 := (hN.nf.sz0 m1).2 (by
      have := hN.nf.nn0 m1
      have h0 : (1000000000 : Int) ^ (18 - 18) = 1 := by decide
      omega)
    refine k_CA_printNumber_15 hN.ok ⟨by omega, by omega⟩ ⟨by omega, by omega⟩ ?_
    rw [hP1.1.2.1, (hN.nf.nt m1).2.1, z0]
    exact ⟨fun _ _ => ⟨hP1.1.1, hN.nf.kd m1⟩, fun _ => turn 18 M1 (Nat.le_refl _) hI, fun u => absurd (Or.inr ⟨by decide, by decide⟩) u⟩
  | succ k ih =>
    intro i M1 h1 h2 hI hv1
    by_cases ei : i = 18
    · exact ih i M1 (by omega) h2 hI hv1
    obtain ⟨hN, hP1, -⟩ := id hI
    have m1 := hP1.2.2.2.1
    refine k_CA_printNumber_15 hN.ok ⟨by omega, by omega⟩ ⟨by omega, by omega⟩ ?_
    rw [hP1.1.2.1]
    refine ⟨fun _ _ => ⟨hP1.1.1, hN.nf.kd m1⟩, fun _ => turn i M1 h2 hI, fun _ => ⟨hP1.1.1, hN.nf.kd m1, (f_divideSmall (d := d + 1) (dv := 1000000000) ⟨by decide, by decide⟩ hN.ok hN.nf m1).mono (fun x19 M18 q => ?_)⟩⟩
    obtain ⟨c18, hx, v18⟩ := q
    have x18 : NX L W (fun x => x = n) (Cpr t pr) False z M1 M18 := c18.nx hP1.cl hN.z9
    have ot1 := c18.oth hP1.2.2.1.1
    have op1 := c18.oth hP1.2.2.1.2.1
    have P18 : Prt L M18 t pr n := hP1.nx x18 hN.nf nz (fun j hj => by rw [op1.2.2.2]; exact hP1.2.2.2.2 j hj)
    have n18 := c18.nf.nn0 m1
    have vb : nv M18 n < 1000000000 ^ (18 - (i + 1)) := by
      rw [show 18 - i = (18 - (i + 1)) + 1 by first | rfl | omega, p9] at hv1
      omega
    have I18 : pnI L W z t pr n (st + 9 * i) M M18 := by
      obtain ⟨-, -, c, hc, hcp, oi⟩ := hI
      exact ⟨hN.trans x18, P18, c, by rw [ot1.2.2.2]; exact hc, hcp, fun j hj => by rw [ot1.2.2.2]; exact oi j hj⟩
    rw [P18.1.2.1]
    refine ⟨⟨by omega, by omega⟩, c18.ok, P18.1.1, c18.nf.kd m1, fun v24 e24 => ?_⟩
    have b24 : v24 = 0 ∨ v24 = 1 := by rw [e24]; split <;> omega
    refine s_pn68 (p := st + 9 * i) (v := nv M18 n) ⟨by omega, by omega⟩ ⟨by omega, by omega⟩ b24 nz (by omega) (fun M' hI' hv' => ?_) 9 0 x19 M18 (by omega) (by omega) hx.1 hx.2 I18 rfl
    rw [show ((i : Int) + 1) = ((i + 1 : Nat) : Int) by first | rfl | omega]
    exact ih (i + 1) M' (by omega) (by omega) (by rw [show st + 9 * (i + 1) = st + 9 * i + 9 by first | rfl | omega]; exact hI') (by rw [hv']; exact vb)
end NCB
end
section
/-! The class's top: questions about the game. -/
section NCC
variable {G : mG} {d t g s c cn cc bc : Nat} {M M' : mM}
theorem GR.cnt (hr : GR M g cn cc bc) : mI M g 0 = ((cn : Nat) : Int) ∧ cn ≤ 512 := by
  rcases hr with ⟨e1, e2⟩ | ⟨-, q⟩
  · exact ⟨by rw [e1]; exact e2, by omega⟩
  · exact ⟨q.1.1, q.1.2.1⟩
theorem GR.cmd (hr : GR M g cn cc bc) (c1 : 1 ≤ cn) : (cc ≤ bc ∧ bc ≤ 4096 ∧ cn ≤ 512) ∧ ∀ c, c < cc → cmdG M g cn bc c := by
  rcases hr with ⟨e1, -⟩ | ⟨-, q⟩
  · omega
  · obtain ⟨⟨-, q2, -⟩, -, -, t1, t2, t3, -⟩ := q
    exact ⟨⟨t1, t2, q2⟩, t3⟩
/-- the top with its game -/
def Tg (M : mM) (t g cn cc bc : Nat) : Prop := mOk M ∧ (mK M t = 1 ∧ mR M t 9 = g) ∧ GK M g ∧ GR M g cn cc bc
theorem s_CA_place (h : Tg M t g cn cc bc) : Ci G y_CA_place d [vr t] M (fun r M' => M' = M ∧ i32 r ∧ r = mI M t 7) := k_CA_place h.1 ⟨h.2.1.1, rfl, (h.1 _ _).1, rfl⟩
theorem s_CA_state (h : Tg M t g cn cc bc) : Ci G y_CA_state d [vr t] M (fun r M' => M' = M ∧ i32 r ∧ r = mI M t 8) := k_CA_state h.1 ⟨h.2.1.1, rfl, (h.1 _ _).1, rfl⟩
theorem s_CA_states (h : Tg M t g cn cc bc) : Ci G y_CA_states d [vr t] M (fun r M' => M' = M ∧ r = ((cn : Nat) : Int)) := by
  obtain ⟨h1, ⟨h2, h3⟩, h4, h5⟩ := h
  refine k_CA_states h1 ?_
  rw [h3]
  exact ⟨h2, h4.1, rfl, h5.cnt.1⟩
theorem s_CA_items {l : Int} {p : Nat} (il : i32 l) (h : Tg M t g cn cc bc) (hp : mR M t 4 = p ∧ mK M p = 6) : Ci G y_CA_items d [vr t, vi l] M (fun r M' => (M' = M ∧ i32 r) ∧ r = if mI M t 6 = 0 then -1 else if l = 0 then mI M p 3 else if l = 1 then mI M p 7 else if l = 2 then mI M p 12 else -1) := by
  obtain ⟨h1, ⟨h2, h3⟩, h4, h5⟩ := h
  refine k_CA_items h1 il ?_
  rw [hp.1]
  have m1 : (M = M ∧ i32 (-1)) := ⟨rfl, by decide, by decide⟩
  exact ⟨h2, fun u => ⟨m1, by rw [if_pos u]⟩, fun u => ⟨fun u0 => ⟨hp.2, ⟨rfl, (h1 _ _).1⟩, by rw [if_neg u, if_pos u0]⟩, fun u0 => ⟨fun u1 => ⟨hp.2, ⟨rfl, (h1 _ _).1⟩, by rw [if_neg u, if_neg u0, if_pos u1]⟩, fun u1 => ⟨fun u2 => ⟨hp.2, ⟨rfl, (h1 _ _).1⟩, by rw [if_neg u, if_neg u0, if_neg u1, if_pos u2]⟩, fun u2 => ⟨m1, by rw [if_neg u, if_neg u0, if_neg u1, if_neg u2]⟩⟩⟩⟩⟩
theorem s_CA_next {l1 l2 : Int} (i1 : i32 l1) (i2 : i32 l2) (h : Tg M t g cn cc bc) : Ci G y_CA_next (d + 2) [vr t, vi l1, vi l2] M (fun r M' => M' = M ∧ i32 r) := by
  obtain ⟨h1, ⟨h2, h3⟩, h4, h5⟩ := h
  have hc := h5.cnt
  obtain ⟨g0, ⟨-, -, g3, -⟩, ⟨-, -, k3, -⟩, ⟨-, -, n3, -⟩⟩ := id h4
  refine k_CA_next h1 i1 i2 ?_
  rw [h3]
  refine ⟨h2, g0, (s_Ga_hasState i1 h1 g0 hc.1).mono (fun x4 M3 q => ?_)⟩
  obtain ⟨e, hx, hi⟩ := q
  subst e
  rw [h3, g3, n3]
  refine ⟨m_b32 hx, h1, fun _ => ⟨rfl, by decide, by decide⟩, fun u => ?_⟩
  have b := hi.mp (fun w => u (Or.inl w))
  refine ⟨h2, g0, k3, by omega, (s_Ga_commandAt (d := d) i1 (h1 _ _).1 h1 h4 h5).mono (fun x16 M15 q => ?_)⟩
  obtain ⟨e, hx16, hi16⟩ := q
  subst e
  refine ⟨hx16, h1, fun _ => ⟨rfl, i1⟩, fun u16 => ?_⟩
  rcases hi16 with w | w
  · exact absurd w u16
  obtain ⟨b1, b2⟩ := h5.cmd w.2.2
  have m := b2 x16.toNat (by omega)
  rw [h3]
  have e16 : ((x16.toNat : Nat) : Int) = x16 := by omega
  have key := s_Ga_drawn (G := G) (d := d + 1) (l2 := l2) i2 h1 h4 (by omega) b1.1 b1.2.1 b1.2.2 m
  rw [e16] at key
  exact ⟨h2, g0, key.mono (fun x25 M24 q => ⟨q.2.1, by rw [q.1]; exact h1, q.1, q.2.1⟩)⟩
end NCC
end
section
/-! The class's top: which fraction is asked for; choices, ranks, characters. -/
section NCD
variable {G : mG} {d t g s p pr v v0 v1 v2 c cn cc bc : Nat} {M M' : mM}
/-- a table of fractions, rows enough for all states once it is known -/
def Tbl3 (M : mM) (v cn : Nat) : Prop := mK M v = 13 ∧ mK M (mR M v 0) = 35 ∧ (mI M v 1 ≠ 0 → cn ≤ mN M (mR M v 0))
/-- the top's three tables -/
def Tab3 (M : mM) (t v0 v1 v2 cn : Nat) : Prop := (mR M t 11 = v0 ∧ mR M t 12 = v1 ∧ mR M t 14 = v2) ∧ Tbl3 M v0 cn ∧ Tbl3 M v1 cn ∧ Tbl3 M v2 cn
/-- a row of a table that is known -/
def RowK (M : mM) (v cn f : Nat) : Prop := mI M v 1 ≠ 0 ∧ ∃ k, k < cn ∧ f = mR M (mR M v 0) k
theorem s_fo {l : Int} {Q : Nat → mM → Prop} (il : i32 l) (h : Tg M t g cn cc bc) (hb : Tbl3 M v cn) (hQ0 : Q 0 M) (hQ : ∀ f, RowK M v cn f → Q f M) : (¬ (v = 0) → mK M v = 13) ∧ (((v = 0) ∨ (mI M v 1 = 0)) → (Q 0 M)) ∧ (¬ ((v = 0) ∨ (mI M v 1 = 0)) → (mK M t = 1 ∧ mK M (mR M t 9) = 7 ∧ Ci G y_Ga_hasState d [vr (mR M t 9), vi l] M (fun x23 M22 => i32 x23 ∧ mOk M22 ∧ ((¬ (x23 = 0) → (mK M22 v = 13 ∧ mK M22 (mR M22 v 0) = 35 ∧ ((0 : Int) ≤ l ∧ l < (mN M22 (mR M22 v 0) : Int)))) ∧ ∀ v29 : Nat, v29 = (if (x23 = 0) then 0 else mR M22 (mR M22 v 0) (Int.toNat l)) → Q v29 M22)))) := by
  obtain ⟨h1, ⟨h2, h3⟩, h4, h5⟩ := h
  obtain ⟨b1, b2, b3⟩ := hb
  have hc := h5.cnt
  rw [h3]
  refine ⟨fun _ => b1, fun _ => hQ0, fun u => ⟨h2, h4.1, (s_Ga_hasState il h1 h4.1 hc.1).mono (fun x M3 q => ?_)⟩⟩
  obtain ⟨e, hx, hi⟩ := q
  subst e
  have kn : mI M3 v 1 ≠ 0 := fun w => u (Or.inr w)
  have b4 := b3 kn
  refine ⟨m_b32 hx, h1, fun w => ?_, fun r e => ?_⟩
  · have := hi.mp w
    exact ⟨b1, b2, by omega, by omega⟩
  · rw [e]
    by_cases w : x = 0
    · rw [if_pos w]; exact hQ0
    · rw [if_neg w]
      have := hi.mp w
      exact hQ _ ⟨kn, l.toNat, by omega, rfl⟩
theorem s_CA_fractionOf {l1 l2 : Int} (i1 : i32 l1) (i2 : i32 l2) (h : Tg M t g cn cc bc) (h3 : Tab3 M t v0 v1 v2 cn) : Cr G y_CA_fractionOf (d + 1) [vr t, vi l1, vi l2] M (fun f M' => M' = M ∧ (f = 0 ∨ RowK M v0 cn f ∨ RowK M v1 cn f ∨ RowK M v2 cn f)) := by
  obtain ⟨⟨e0, e1, e2⟩, b0, b1, b2⟩ := h3
  refine k_CA_fractionOf h.1 i1 i2 ?_
  rw [e0, e1, e2]
  have k1 := h.2.1.1
  refine ⟨⟨fun _ => k1, fun _ => ⟨fun _ => k1, fun _ _ => k1⟩⟩, fun v7 e7 => ?_⟩
  by_cases c0 : l2 = 0
  · rw [if_pos c0] at e7
    rw [e7]
    exact s_fo (Q := fun f M' => M' = M ∧ (f = 0 ∨ RowK M v0 cn f ∨ RowK M v1 cn f ∨ RowK M v2 cn f)) i1 h b0 ⟨rfl, Or.inl rfl⟩ (fun f r => ⟨rfl, Or.inr (Or.inl r)⟩)
  rw [if_neg c0] at e7
  by_cases c1 : l2 = 1
  · rw [if_pos c1] at e7
    rw [e7]
    exact s_fo (Q := fun f M' => M' = M ∧ (f = 0 ∨ RowK M v0 cn f ∨ RowK M v1 cn f ∨ RowK M v2 cn f)) i1 h b1 ⟨rfl, Or.inl rfl⟩ (fun f r => ⟨rfl, Or.inr (Or.inr (Or.inl r))⟩)
  rw [if_neg c1] at e7
  by_cases c2 : l2 = 2
  · rw [if_pos c2] at e7
    rw [e7]
    exact s_fo (Q := fun f M' => M' = M ∧ (f = 0 ∨ RowK M v0 cn f ∨ RowK M v1 cn f ∨ RowK M v2 cn f)) i1 h b2 ⟨rfl, Or.inl rfl⟩ (fun f r => ⟨rfl, Or.inr (Or.inr (Or.inr r))⟩)
  rw [if_neg c2] at e7
  subst e7
  exact ⟨fun u => absurd rfl u, fun _ => ⟨rfl, Or.inl rfl⟩, fun u => absurd (Or.inl rfl) u⟩
theorem s_CA_choice {l : Int} (il : i32 l) (h : Tg M t g cn cc bc) (hs : mR M t 10 = s) (hS : SoT M s g) (ht : mR M t 11 = v0 ∧ mK M v0 = 13) : Ci G y_CA_choice (d + 1) [vr t, vi l] M (fun r M' => M' = M ∧ i32 r) := by
  obtain ⟨h1, ⟨h2, h3⟩, h4, h5⟩ := h
  have hc := h5.cnt
  obtain ⟨⟨s0, -⟩, ⟨-, r1, r2, -⟩, ⟨k1, k2, -⟩, ⟨n1, n2, -⟩⟩ := hS
  refine k_CA_choice h1 il ?_
  rw [h3, ht.1]
  refine ⟨h2, ht.2, fun _ => ⟨rfl, by decide, by decide⟩, fun _ => ⟨h4.1, (s_Ga_hasState il h1 h4.1 hc.1).mono (fun x M3 q => ?_)⟩⟩
  obtain ⟨e, hx, hi⟩ := q
  subst e
  rw [hs, r2, n2]
  refine ⟨m_b32 hx, h1, fun w => ?_, fun r e => ⟨rfl, ?_⟩⟩
  · have := hi.mp w
    exact ⟨h2, s0, k2, by omega, by omega⟩
  · rw [e]
    split
    · exact ⟨by decide, by decide⟩
    · exact (h1 _ _).1
theorem s_CA_rank {l : Int} (il : i32 l) (h : Tg M t g cn cc bc) (hs : mR M t 10 = s) (hS : SoT M s g) (ht : mR M t 11 = v0 ∧ mK M v0 = 13) : Ci G y_CA_rank (d + 1) [vr t, vi l] M (fun r M' => M' = M ∧ i32 r) := by
  obtain ⟨h1, ⟨h2, h3⟩, h4, h5⟩ := h
  have hc := h5.cnt
  obtain ⟨⟨s0, -⟩, ⟨-, r1, r2, -⟩, ⟨k1, k2, -⟩, ⟨n1, n2, -⟩⟩ := hS
  refine k_CA_rank h1 il ?_
  rw [h3, ht.1]
  refine ⟨h2, ht.2, fun _ => ⟨rfl, by decide, by decide⟩, fun _ => ⟨h4.1, (s_Ga_hasState il h1 h4.1 hc.1).mono (fun x M3 q => ?_)⟩⟩
  obtain ⟨e, hx, hi⟩ := q
  subst e
  rw [hs, r1, n1]
  refine ⟨m_b32 hx, h1, fun w => ?_, fun r e => ⟨rfl, ?_⟩⟩
  · have := hi.mp w
    exact ⟨h2, s0, k1, by omega, by omega⟩
  · rw [e]
    split
    · exact ⟨by decide, by decide⟩
    · exact (h1 _ _).1
theorem s_CA_character {l : Int} (il : i32 l) (h1 : mOk M) (h2 : mK M t = 1) (h3 : mR M t 17 = pr) (h4 : mK M pr = 32 ∧ mN M pr = 400) (h5 : mI M t 18 = ((c : Nat) : Int)) (h6 : c ≤ 400) : Ci G y_CA_character d [vr t, vi l] M (fun r M' => M' = M ∧ i32 r) := by
  refine k_CA_character h1 il ?_
  rw [h3, h4.2, h5]
  refine ⟨fun u => ⟨h2, fun w => ⟨h4.1, by omega, by omega⟩⟩, fun v e => ⟨rfl, ?_⟩⟩
  rw [e]
  split
  · exact ⟨by decide, by decide⟩
  · exact (h1 _ _).1
/-- end, where it does not throw -/
theorem s_CA_end {l : Int} {n : Nat} (il : i32 l) (h1 : mOk M) (h2 : mK M t = 1) (hn : mI M t 1 = ((n : Nat) : Int)) (hb : n ≤ 16384) (hl : 0 ≤ l ∧ l ≤ 20 ∧ 20 ≤ n) : Ci G y_CA_end d [vr t, vi l] M (fun r M' => r = ((n : Nat) : Int) + (l - 20) ∧ mOk M' ∧ M' = mUI M t 1 (((n : Nat) : Int) + (l - 20))) := by
  refine k_CA_end h1 il ?_
  rw [hn]
  refine ⟨fun _ _ => h2, fun u => ?_, fun _ => ⟨h2, i32s (by omega) (by omega), fun M11 e => ?_⟩⟩
  · rcases u with u | u | u <;> omega
  · rw [mI_ui t 1 e, if_pos ⟨rfl, rfl⟩]
    exact ⟨rfl, by rw [e]; exact mOk_UI h1 ⟨by omega, by omega⟩, e⟩
/-- what is known is forgotten -/
def Sfg (v0 v1 v2 x : Nat) : Prop := x = v0 ∨ x = v1 ∨ x = v2
theorem s_CA_forget (h1 : mOk M) (h2 : mK M t = 1) (h3 : Tab3 M t v0 v1 v2 cn) (nt : t ≠ v0 ∧ t ≠ v1 ∧ t ≠ v2) : Cv G y_CA_forget d [vr t] M (fun M' => mOk M' ∧ FI (Sfg v0 v1 v2) M M' ∧ mI M' v0 1 = 0 ∧ mI M' v1 1 = 0 ∧ mI M' v2 1 = 0) := by
  obtain ⟨⟨e0, e1, e2⟩, b0, b1, b2⟩ := h3
  refine k_CA_forget h1 ?_
  rw [e0]
  refine ⟨h2, b0.1, fun M3 q3 => ?_⟩
  have f3 : FI (Sfg v0 v1 v2) M M3 := by rw [q3]; exact FI.ui (Or.inl rfl)
  rw [f3.1, f3.2.2.1, e1]
  refine ⟨b1.1, fun M6 q6 => ?_⟩
  have f6 : FI (Sfg v0 v1 v2) M3 M6 := by rw [q6]; exact FI.ui (Or.inr (Or.inl rfl))
  rw [f6.1, f6.2.2.1, f3.1, f3.2.2.1, e2]
  refine ⟨b2.1, fun M9 q9 => ?_⟩
  have f9 : FI (Sfg v0 v1 v2) M6 M9 := by rw [q9]; exact FI.ui (Or.inr (Or.inr rfl))
  have z : i32 0 := ⟨by decide, by decide⟩
  have o9 : mOk M9 := by rw [q9]; refine mOk_UI ?_ z; rw [q6]; refine mOk_UI ?_ z; rw [q3]; exact mOk_UI h1 z
  have r : ∀ v, v = v0 ∨ v = v1 ∨ v = v2 → mI M9 v 1 = 0 := fun v hv => by
    rw [mI_ui v 1 q9, mI_ui v 1 q6, mI_ui v 1 q3]
    split
    · rfl
    · split
      · rfl
      · split
        · rfl
        · rename_i a b c
          rcases hv with u | u | u
          · exact absurd ⟨u, rfl⟩ c
          · exact absurd ⟨u, rfl⟩ b
          · exact absurd ⟨u, rfl⟩ a
  exact ⟨o9, (f3.trans f6).trans f9, r v0 (Or.inl rfl), r v1 (Or.inr (Or.inl rfl)), r v2 (Or.inr (Or.inr rfl))⟩
end NCD
end
section
/-! The class's top: the tape is fed. -/
section NCE
variable {G : mG} {d t A K n : Nat} {M M' M1 M2 M3 M4 : mM} {c9 c8 : Nat → Int}
theorem i2c_a (x : Int) : 0 ≤ i2cI x ∧ i2cI x < 65536 := by
  unfold i2cI
  generalize (Int32.ofInt x).toUInt32 = u
  have h : (u % 65536).toNat < 65536 := by rw [UInt32.toNat_mod]; exact Nat.mod_lt _ (by decide)
  have e : (u % 65536).toInt32.toInt = ((u % 65536).toNat : Int) := BitVec.toInt_eq_toNat_of_lt (by show 2 * (u % 65536).toNat < 2 ^ 32; omega)
  rw [e]
  omega
theorem i2c_id {x : Int} (h : 0 ≤ x ∧ x < 65536) : i2cI x = x := by
  unfold i2cI
  have hu : (Int32.ofInt x).toUInt32.toNat = x.toNat := by
    show (BitVec.ofInt 32 x).toNat = x.toNat
    rw [BitVec.toNat_ofInt]
    show (x % 4294967296).toNat = x.toNat
    omega
  generalize (Int32.ofInt x).toUInt32 = u at hu ⊢
  have e9 : (u % 65536).toNat = u.toNat % 65536 := by
    rw [UInt32.toNat_mod]
    rfl
  have e : (u % 65536).toInt32.toInt = ((u % 65536).toNat : Int) := BitVec.toInt_eq_toNat_of_lt (by show 2 * (u % 65536).toNat < 2 ^ 32; omega)
  rw [e, e9, hu]
  omega
theorem u_shr {x : Int} (h : i32 x) (k : Nat) (hk : k = 8 ∨ k = 16 ∨ k = 24) : ushrI x k = x % 4294967296 / 2 ^ k := by
  have hk1 : k < 32 := by omega
  have e : ∀ k, k < 32 → ((Int32.ofInt ((k : Nat) : Int)).toUInt32 &&& Int32.toUInt32 31).toBitVec = BitVec.ofNat 32 k := by decide
  unfold ushrI
  show (BitVec.ofInt 32 x >>> (((Int32.ofInt ((k : Nat) : Int)).toUInt32 &&& Int32.toUInt32 31).toBitVec % 32#32)).toInt = _
  rw [e k hk1]
  have e2 : ∀ k, k < 32 → (BitVec.ofNat 32 k % 32#32).toNat = k := by decide
  have h1 : (BitVec.ofInt 32 x).toNat = (x % 4294967296).toNat := by
    rw [BitVec.toNat_ofInt]
    rfl
  have h2 : (BitVec.ofInt 32 x >>> (BitVec.ofNat 32 k % 32#32)).toNat = (x % 4294967296).toNat / 2 ^ k := by
    rw [BitVec.ushiftRight_eq', e2 k hk1, BitVec.toNat_ushiftRight, h1, Nat.shiftRight_eq_div_pow]
  rw [BitVec.toInt_eq_toNat_cond, h2]
  generalize hy : x % 4294967296 = y
  have y0 : 0 ≤ y ∧ y < 4294967296 := by omega
  obtain ⟨m, hm⟩ : ∃ m : Nat, y = m := ⟨y.toNat, by omega⟩
  subst hm
  rw [Int.toNat_natCast]
  rcases hk with z | z | z <;> subst z
  · rw [if_pos (by show 2 * (m / 256) < 4294967296; omega)]
    rfl
  · rw [if_pos (by show 2 * (m / 65536) < 4294967296; omega)]
    rfl
  · rw [if_pos (by show 2 * (m / 16777216) < 4294967296; omega)]
    rfl
theorem u_sh0 {x : Int} (h : i32 x) : ushrI x 0 = x := by
  unfold ushrI
  show (BitVec.ofInt 32 x >>> (((Int32.ofInt (0 : Int)).toUInt32 &&& Int32.toUInt32 31).toBitVec % 32#32)).toInt = _
  have e : (((Int32.ofInt (0 : Int)).toUInt32 &&& Int32.toUInt32 31).toBitVec % 32#32) = 0#32 := by decide
  rw [e]
  have e2 : BitVec.ofInt 32 x >>> 0#32 = BitVec.ofInt 32 x := by
    rw [BitVec.ushiftRight_eq']
    exact BitVec.ushiftRight_zero _
  rw [e2]
  exact i32_toInt h
/-- a byte of an int, as the class takes it -/
theorem byt_u {x : Int} (h : i32 x) (k : Nat) (hk : k ≤ 3) : i2cI (andI (ushrI x (8 * (k : Int))) 255) = byt x (3 - k) := by
  unfold byt
  rw [i_and 8 (by decide) 255 (by decide) ⟨by decide, by decide⟩]
  have hs : shrI x (24 - 8 * ((3 - k : Nat) : Int)) = x / 2 ^ (8 * k) := by
    rw [show (24 - 8 * ((3 - k : Nat) : Int)) = ((8 * k : Nat) : Int) by first | rfl | omega]
    exact i_shr (8 * k) (by omega) h
  rw [hs, i2c_id (by
    have e : (2 : Int) ^ 8 = 256 := by decide
    rw [e]
    omega)]
  have k4 : k = 0 ∨ k = 1 ∨ k = 2 ∨ k = 3 := by omega
  rcases k4 with z | z | z | z <;> subst z
  · show ushrI x 0 % 2 ^ 8 = x / 2 ^ 0 % 256
    rw [u_sh0 h]
    show x % 256 = x / 1 % 256
    omega
  · show ushrI x ((8 : Nat) : Int) % 2 ^ 8 = x / 2 ^ 8 % 256
    rw [u_shr h 8 (by omega)]
    show x % 4294967296 / 256 % 256 = x / 256 % 256
    omega
  · show ushrI x ((16 : Nat) : Int) % 2 ^ 8 = x / 2 ^ 16 % 256
    rw [u_shr h 16 (by omega)]
    show x % 4294967296 / 65536 % 256 = x / 65536 % 256
    omega
  · show ushrI x ((24 : Nat) : Int) % 2 ^ 8 = x / 2 ^ 24 % 256
    rw [u_shr h 24 (by omega)]
    show x % 4294967296 / 16777216 % 256 = x / 16777216 % 256
    omega
/-- the tape: n characters c9 in an array A of K places -/
def Tap (c9 : Nat → Int) (M : mM) (t A K n : Nat) : Prop := (mK M t = 1 ∧ mR M t 0 = A ∧ mI M t 1 = ((n : Nat) : Int)) ∧ (mK M A = 32 ∧ mN M A = K) ∧ (t ≠ A ∧ t < mZ M ∧ A < mZ M) ∧ (n ≤ K ∧ n ≤ 16384 ∧ 20 ≤ K ∧ K ≤ 32768) ∧ ∀ j, j < n → (0 ≤ mI M A j ∧ mI M A j < 65536) ∧ mI M A j = c9 j
theorem Tap.ch (h : Tap c9 M t A K n) (e : ∀ j, j < n → c9 j = c8 j) : Tap c8 M t A K n := ⟨h.1, h.2.1, h.2.2.1, h.2.2.2.1, fun j hj => ⟨(h.2.2.2.2 j hj).1, by rw [(h.2.2.2.2 j hj).2, e j hj]⟩⟩
def up9 (c : Nat → Int) (n : Nat) (v : Int) : Nat → Int := fun j => if j = n then v else c j
def Sta2 (t A x : Nat) : Prop := x = t ∨ x = A
/-- characters were put, m there are now -/
def pfQ (c9 : Nat → Int) (t A K : Nat) (M : mM) (m : Nat) (M' : mM) : Prop := mOk M' ∧ FI (Sta2 t A) M M' ∧ Tap c9 M' t A K m ∧ ∀ i, i ≠ 1 → mI M' t i = mI M t i
theorem pf_put {v : Int} (h1 : mOk M) (h : Tap c9 M t A K n) (hn : n + 1 ≤ K ∧ n + 1 ≤ 16384) (hv : 0 ≤ v ∧ v < 65536) (e1 : M1 = mUI M t 1 (((n : Nat) : Int) + 1)) (e2 : M2 = mUI M1 A n v) : pfQ (up9 c9 n v) t A K M (n + 1) M2 := by
  obtain ⟨⟨k1, k2, k3⟩, ⟨a1, a2⟩, ⟨n1, n2, n3⟩, ⟨b1, b2, b3, b4⟩, ch⟩ := h
  have f1 : FI (Sta2 t A) M M1 := by rw [e1]; exact FI.ui (Or.inl rfl)
  have f2 : FI (Sta2 t A) M1 M2 := by rw [e2]; exact FI.ui (Or.inr rfl)
  have ff := f1.trans f2
  have o2 : mOk M2 := by rw [e2]; exact mOk_UI (by rw [e1]; exact mOk_UI h1 ⟨by omega, by omega⟩) ⟨by omega, by omega⟩
  have ti : ∀ i, mI M2 t i = if i = 1 then ((n : Nat) : Int) + 1 else mI M t i := fun i => by
    rw [mI_ui t i e2, if_neg (fun u => n1 u.1), mI_ui t i e1]
    by_cases c : i = 1
    · rw [if_pos ⟨rfl, c⟩, if_pos c]
    · rw [if_neg (fun u => c u.2), if_neg c]
  refine ⟨o2, ff, ⟨⟨by rw [ff.1]; exact k1, by rw [ff.2.2.1]; exact k2, by rw [ti, if_pos rfl]; omega⟩, ⟨by rw [ff.1]; exact a1, by rw [ff.2.1]; exact a2⟩, by rw [ff.2.2.2.2.1]; exact ⟨n1, n2, n3⟩, by omega, fun j hj => ?_⟩, fun i hi => by rw [ti, if_neg hi]⟩
  rw [mI_ui A j e2]
  by_cases c : j = n
  · rw [if_pos ⟨rfl, c⟩]; exact ⟨hv, (if_pos c : up9 c9 n v j = v).symm⟩
  · rw [if_neg (fun u => c u.2), mI_ui A j e1, if_neg (fun u => n1 u.1.symm)]
    exact ⟨(ch j (by omega)).1, by rw [(ch j (by omega)).2]; exact (if_neg c : up9 c9 n v j = c9 j).symm⟩
theorem pfQ.trans {m m' : Nat} (h : pfQ c9 t A K M m M1) (k : pfQ c8 t A K M1 m' M2) : pfQ c8 t A K M m' M2 := ⟨k.1, h.2.1.trans k.2.1, k.2.2.1, fun i hi => by rw [k.2.2.2 i hi]; exact h.2.2.2 i hi⟩
theorem s_CA_putFour {l : Int} (il : i32 l) (h1 : mOk M) (h : Tap c9 M t A K n) (hn : n + 4 ≤ K ∧ n + 4 ≤ 16384) : Cv G y_CA_putFour d [vr t, vi l] M (pfQ (f4 c9 n l) t A K M (n + 4)) := by
  refine k_CA_putFour h1 il ?_
  have h := h.ch (c8 := f4 c9 n l) (fun j hj => (if_pos hj : f4 c9 n l j = c9 j).symm)
  have F9 : ∀ k, k ≤ 3 → f4 c9 n l (n + (4 - (k + 1))) = i2cI (andI (ushrI l (8 * (k : Int))) 255) := fun k hk => by
    rw [byt_u il k hk]
    show (if n + (4 - (k + 1)) < n then _ else _) = _
    rw [if_neg (by omega), show n + (4 - (k + 1)) - n = 3 - k by first | rfl | omega]
  generalize f4 c9 n l = c8 at h F9 ⊢
  suffices HH : ∀ (k : Nat) (M1 : mM), k ≤ 4 → mOk M1 → Tap c8 M1 t A K (n + (4 - k)) → (∀ M2, pfQ c8 t A K M1 (n + 4) M2 → pfQ c8 t A K M (n + 4) M2) → h_CA_putFour_3 G d t l (8 * (k : Int) + (-8)) M1 (pfQ c8 t A K M (n + 4)) from HH 4 M (by omega) h1 h (fun M2 q => q)
  intro k
  induction k with
  | zero =>
    intro M1 hk o1 hT hQ
    refine k_CA_putFour_3 o1 il (i32s (by omega) (by omega)) ⟨fun _ => hQ M1 ⟨o1, FI.refl, hT, fun _ _ => rfl⟩, fun u => absurd (by omega) u⟩
  | succ k ih =>
    intro M1 hk o1 hT hQ
    obtain ⟨⟨k1, k2, k3⟩, ⟨a1, a2⟩, -⟩ := id hT
    refine k_CA_putFour_3 o1 il (i32s (by omega) (by omega)) ⟨fun u => absurd u (by omega), fun _ => ?_⟩
    rw [k2, k3]
    refine ⟨k1, i32s (by omega) (by omega), fun M5 e5 => ?_⟩
    have f5 : FI (Sta2 t A) M1 M5 := by rw [e5]; exact FI.ui (Or.inl rfl)
    rw [f5.1, f5.2.1, a2, Int.toNat_natCast]
    refine ⟨a1, ⟨by omega, by omega⟩, i2c_a _, fun M10 e10 => ?_⟩
    have q := pf_put o1 hT ⟨by omega, by omega⟩ (i2c_a _) e5 e10
    have ec : up9 c8 (n + (4 - (k + 1))) (i2cI (andI (ushrI l (8 * ((k + 1 : Nat) : Int) + (-8))) 255)) = c8 := by
      funext j
      unfold up9
      by_cases c : j = n + (4 - (k + 1))
      · rw [if_pos c, c, F9 k (by omega), show 8 * ((k + 1 : Nat) : Int) + (-8) = 8 * (k : Int) by first | rfl | omega]
      · rw [if_neg c]
    rw [ec] at q
    rw [show 8 * ((k + 1 : Nat) : Int) + (-8) + (-8) = 8 * (k : Int) + (-8) by first | rfl | omega]
    refine ih M10 (by omega) q.1 ?_ (fun M2 q2 => hQ M2 (q.trans q2))
    rw [show n + (4 - k) = n + (4 - (k + 1)) + 1 by first | rfl | omega]
    exact q.2.2.1
/-- twenty characters -/
theorem s_pf5 {l1 l2 l3 l4 l5 : Int} {Q : Int → mM → Prop} (i1 : i32 l1) (i2 : i32 l2) (i3 : i32 l3) (i4 : i32 l4) (i5 : i32 l5) (h1 : mOk M) (h : Tap c9 M t A K n) (hn : n + 20 ≤ K ∧ n + 20 ≤ 16384) (hQ : ∀ M', pfQ (fdc c9 n l1 l2 l3 l4 l5) t A K M (n + 20) M' → Q (((n + 20 : Nat) : Int)) M') : Cv G y_CA_putFour d [vr t, vi l1] M (fun M16 => mOk M16 ∧ (mK M16 t = 1 ∧ Cv G y_CA_putFour d [vr t, vi l2] M16 (fun M20 => mOk M20 ∧ (mK M20 t = 1 ∧ Cv G y_CA_putFour d [vr t, vi l3] M20 (fun M24 => mOk M24 ∧ (mK M24 t = 1 ∧ Cv G y_CA_putFour d [vr t, vi l4] M24 (fun M28 => mOk M28 ∧ (mK M28 t = 1 ∧ Cv G y_CA_putFour d [vr t, vi l5] M28 (fun M32 => mOk M32 ∧ (mK M32 t = 1 ∧ Q (mI M32 t 1) M32)))))))))) := by
  refine (s_CA_putFour i1 h1 h (by omega)).mono (fun M16 q1 => ⟨q1.1, q1.2.2.1.1.1, ?_⟩)
  refine (s_CA_putFour i2 q1.1 q1.2.2.1 (by omega)).mono (fun M20 q2 => ⟨q2.1, q2.2.2.1.1.1, ?_⟩)
  refine (s_CA_putFour i3 q2.1 q2.2.2.1 (by omega)).mono (fun M24 q3 => ⟨q3.1, q3.2.2.1.1.1, ?_⟩)
  refine (s_CA_putFour i4 q3.1 q3.2.2.1 (by omega)).mono (fun M28 q4 => ⟨q4.1, q4.2.2.1.1.1, ?_⟩)
  refine (s_CA_putFour i5 q4.1 q4.2.2.1 (by omega)).mono (fun M32 q5 => ⟨q5.1, q5.2.2.1.1.1, ?_⟩)
  have qq := (((q1.trans q2).trans q3).trans q4).trans q5
  rw [q5.2.2.1.1.2.2]
  exact hQ M32 qq
end NCE
end
section
/-! The class's top: the tape grows; feed. -/
section NCF
variable {G : mG} {d t A K n : Nat} {M M' M1 M2 M3 M4 : mM} {c9 c8 : Nat → Int}
theorem FA.cpy {S R : Nat → Prop} {a0 a sp dp m : Nat} (ha : S a) (e : M' = mCpy M a0 a sp dp m) : FA S R M M' := by
  rw [e]
  refine ⟨⟨Nat.le_refl _, Nat.le_refl _⟩, fun x _ => ⟨rfl, rfl, rfl, fun _ => rfl, fun u => ?_⟩⟩
  funext j
  show (if x = a ∧ dp ≤ j ∧ j < dp + m then mI M a0 (sp + (j - dp)) else mI M x j) = mI M x j
  exact if_neg (fun (w : x = a ∧ dp ≤ j ∧ j < dp + m) => u (by rw [w.1]; exact ha))
theorem mI_cpy {a0 a sp dp m : Nat} (b j : Nat) (e : M' = mCpy M a0 a sp dp m) : mI M' b j = if b = a ∧ dp ≤ j ∧ j < dp + m then mI M a0 (sp + (j - dp)) else mI M b j := by
  rw [e]
  rfl
/-- a tape of twice the places: the array x holds the same characters -/
def gtQ (c9 : Nat → Int) (t A K n : Nat) (M : mM) (x : Nat) (M' : mM) : Prop := mOk M' ∧ x = mZ M ∧ (mZ M' = mZ M + 1 ∧ mS M' = mS M + 2 * K) ∧ FA (fun _ => False) (fun _ => False) M M' ∧ (mK M' x = 32 ∧ mN M' x = 2 * K) ∧ ∀ j, j < n → (0 ≤ mI M' x j ∧ mI M' x j < 65536) ∧ mI M' x j = c9 j
theorem s_CA_growTape (h1 : mOk M) (h : Tap c9 M t A K n) : Cr G y_CA_growTape (d + 1) [vr t] M (gtQ c9 t A K n M) := by
  obtain ⟨⟨k1, k2, k3⟩, ⟨a1, a2⟩, ⟨n1, n2, n3⟩, ⟨b1, b2, b3, b4⟩, ch⟩ := h
  refine k_CA_growTape h1 ?_
  rw [k2, a2]
  have ek : Int.toNat (2 * (K : Int)) = 2 * K := by omega
  rw [ek]
  refine ⟨k1, a1, ⟨by omega, by omega⟩, fun M4 e4 => ?_⟩
  have f4 : FA (fun _ => False) (fun _ => False) M M4 := FA.new e4
  have o4 : mOk M4 := by rw [e4]; exact mOk_New h1
  have ct := f4.2 t n2
  have ca := f4.2 A n3
  have z4 : mZ M4 = mZ M + 1 ∧ mS M4 = mS M + 2 * K := by rw [e4]; exact ⟨rfl, rfl⟩
  have kn : mK M4 (mZ M) = 32 ∧ mN M4 (mZ M) = 2 * K := by
    rw [e4]
    exact ⟨if_pos rfl, if_pos rfl⟩
  rw [ct.1, ct.2.2.2.1 id, k2, ca.1, ca.2.1, ct.2.2.2.2 id, k3, a2, kn.2, Int.toNat_natCast]
  have ch4 : ∀ j, j < n → (0 ≤ mI M4 A j ∧ mI M4 A j < 65536) ∧ mI M4 A j = c9 j := fun j hj => by rw [ca.2.2.2.2 id]; exact ch j hj
  refine ⟨k1, a1, ⟨by omega, by omega, by omega, by omega, by omega⟩, fun i hi => by rw [Nat.zero_add]; exact (ch4 i (by omega)).1, fun M10 e10 => ?_⟩
  have f10 : FA (fun x => x = mZ M) (fun _ => False) M4 M10 := FA.cpy rfl e10
  have z10 : mZ M10 = mZ M4 ∧ mS M10 = mS M4 := by rw [e10]; exact ⟨rfl, rfl⟩
  have c10 := f10.2 (mZ M) (by omega)
  refine ⟨by rw [e10]; exact mOk_Cpy o4, rfl, by rw [z10.1, z10.2]; exact z4, f4.trans2 f10 (fun x hx u => ?_) (fun _ _ u => u), ⟨by rw [c10.1]; exact kn.1, by rw [c10.2.1]; exact kn.2⟩, fun j hj => ?_⟩
  · have u' : x = mZ M := u
    omega
  · rw [mI_cpy (mZ M) j e10, if_pos ⟨rfl, by omega, by omega⟩, Nat.zero_add, Nat.sub_zero]
    exact ch4 j hj
/-- what feed comes to -/
def feQ (c9 c8 : Nat → Int) (t A K n : Nat) (M : mM) (r : Int) (M' : mM) : Prop := (r = -1 ∧ 16384 < n + 20 ∧ M' = M) ∨ (r = ((n + 20 : Nat) : Int) ∧ n + 20 ≤ 16384 ∧ ∃ A' K', mOk M' ∧ Tap c8 M' t A' K' (n + 20) ∧ FA (Sta2 t A) (fun x => x = t) M M' ∧ (∀ i, i ≠ 1 → mI M' t i = mI M t i) ∧ (∀ i, i ≠ 0 → mR M' t i = mR M t i) ∧ ((A' = A ∧ K' = K ∧ mZ M' = mZ M ∧ mS M' = mS M) ∨ (A' = mZ M ∧ K' = 2 * K ∧ mZ M' = mZ M + 1 ∧ mS M' = mS M + 2 * K)))
theorem s_CA_feed {l1 l2 l3 l4 l5 : Int} (i1 : i32 l1) (i2 : i32 l2) (i3 : i32 l3) (i4 : i32 l4) (i5 : i32 l5) (h1 : mOk M) (h : Tap c9 M t A K n) : Ci G y_CA_feed (d + 2) [vr t, vi l1, vi l2, vi l3, vi l4, vi l5] M (feQ c9 (fdc c9 n l1 l2 l3 l4 l5) t A K n M) := by
  obtain ⟨⟨k1, k2, k3⟩, ⟨a1, a2⟩, ⟨n1, n2, n3⟩, ⟨b1, b2, b3, b4⟩, ch⟩ := id h
  refine k_CA_feed h1 i1 i2 i3 i4 i5 ?_
  rw [k3, k2, a2]
  refine ⟨k1, i32s (by omega) (by omega), fun c1 => ⟨a1, i32s (by omega) (by omega), fun c2 => ?_, fun c2 => ?_⟩, fun c1 => Or.inl ⟨rfl, by omega, rfl⟩⟩
  · refine s_pf5 i1 i2 i3 i4 i5 h1 h ⟨by omega, by omega⟩ (fun M' q => Or.inr ⟨rfl, by omega, A, K, q.1, q.2.2.1, q.2.1.fa, q.2.2.2, fun i _ => by rw [q.2.1.2.2.1], Or.inl ⟨rfl, rfl, q.2.1.2.2.2.2.1, q.2.1.2.2.2.2.2.1⟩⟩)
  · refine (s_CA_growTape (d := d) h1 h).mono (fun x M36 q => ?_)
    obtain ⟨o36, ex, ⟨z36, s36⟩, f36, ⟨kx, nx⟩, cx⟩ := q
    have ct := f36.2 t n2
    refine ⟨o36, by rw [ct.1]; exact k1, fun M40 e40 => ?_⟩
    have f40 : FA (fun _ => False) (fun x => x = t) M36 M40 := FA.ur rfl e40
    have o40 : mOk M40 := by rw [e40]; exact mOk_UR o36
    have z40 : mZ M40 = mZ M36 ∧ mS M40 = mS M36 := by rw [e40]; exact ⟨rfl, rfl⟩
    have ct2 := f40.2 t (by omega)
    have cx2 := f40.2 x (by omega)
    have r40 : ∀ i, mR M40 t i = if i = 0 then x else mR M36 t i := fun i => by
      rw [e40]
      show (if t = t ∧ i = 0 then x else mR M36 t i) = _
      by_cases c : i = 0
      · rw [if_pos ⟨rfl, c⟩, if_pos c]
      · rw [if_neg (fun u => c u.2), if_neg c]
    have i40 : mI M40 t = mI M t := by rw [ct2.2.2.2.2 id, ct.2.2.2.2 id]
    have T40 : Tap c9 M40 t x (2 * K) n := by
      refine ⟨⟨by rw [ct2.1, ct.1]; exact k1, by rw [r40, if_pos rfl], by rw [i40]; exact k3⟩, ⟨by rw [cx2.1]; exact kx, by rw [cx2.2.1]; exact nx⟩, ⟨by omega, by omega, by omega⟩, by omega, fun j hj => ?_⟩
      rw [cx2.2.2.2.2 id]
      exact cx j hj
    refine s_pf5 i1 i2 i3 i4 i5 o40 T40 ⟨by omega, by omega⟩ (fun M' q => Or.inr ⟨rfl, by omega, x, 2 * K, q.1, q.2.2.1, ?_, fun i hi => by rw [q.2.2.2 i hi, i40], fun i hi => by rw [q.2.1.2.2.1, r40, if_neg hi, ct.2.2.2.1 id], Or.inr ⟨ex, rfl, by rw [q.2.1.2.2.2.2.1]; omega, by rw [q.2.1.2.2.2.2.2.1]; omega⟩⟩)
    have g1 : FA (Sta2 t A) (fun x => x = t) M M40 := (f36.mono (fun _ _ u => u.elim) (fun _ _ u => u.elim)).trans2 f40 (fun _ _ u => u.elim) (fun _ _ u => u)
    refine g1.trans2 (q.2.1.fa (R := fun _ => False)) (fun y hy u => ?_) (fun _ _ u => u.elim)
    rcases u with u | u
    · exact Or.inl u
    · omega
end NCF
end
section
/-! The class's top: rows of a table that is known; compare. -/
section NCG
variable {G : mG} {d t g s z b f f' v v0 v1 v2 R R0 R1 R2 k k0 k1 k2 cn cc bc : Nat} {M M' : mM} {L : List Nat} {W : Nat → Nat}
/-- a table of k rows, all from the cell b on (what the constructor made lies below); once it is known its first cn rows are small, their sharers 1 -/
def Tv (L : List Nat) (M : mM) (b v R k cn : Nat) : Prop := RwT L M v R k ∧ (∀ i, i < k → b ≤ mR M R i) ∧ (mI M v 1 ≠ 0 → cn ≤ k ∧ Rsm M R cn 17 ∧ Rt1 M R cn)
theorem Tv.tb (h : Tv L M b v R k cn) : Tbl3 M v cn := by
  obtain ⟨⟨h1, h2, h3, h4, -⟩, -, h5⟩ := h
  exact ⟨h1, by rw [h2]; exact h3, fun u => by rw [h2, h4]; exact (h5 u).1⟩
/-- what a row of a known table is -/
def Rw1 (L : List Nat) (M : mM) (b f : Nat) : Prop := FrL L M f ∧ b ≤ f ∧ Osz M f 17 ∧ (nv M (f + 1) < 2 ^ (30 * 17) ∧ nv M (f + 3) < 2 ^ (30 * 17)) ∧ mI M f 2 = 1
theorem Tv.row (hF : NF L W M) (h : Tv L M b v R k cn) (r : RowK M v cn f) : Rw1 L M b f := by
  obtain ⟨⟨h1, h2, h3, h4, h5, h6⟩, h7, h8⟩ := h
  obtain ⟨kn, i, hi, e⟩ := r
  obtain ⟨ck, rs, rt⟩ := h8 kn
  rw [h2] at e
  have fl := h6 i (by omega)
  have ap := h7 i (by omega)
  have sm := rs i hi
  have t1 := rt i hi
  rw [← e] at fl ap sm t1
  exact ⟨fl, ap, ⟨hF.szv fl.2.1 sm.2.2, hF.szv fl.2.2 sm.2.1, by omega⟩, ⟨sm.2.2, sm.2.1⟩, t1⟩
/-- the top's three tables at rest -/
def Tv3 (L : List Nat) (M : mM) (t b v0 v1 v2 R0 R1 R2 k0 k1 k2 cn : Nat) : Prop := (mR M t 11 = v0 ∧ mR M t 12 = v1 ∧ mR M t 14 = v2) ∧ Tv L M b v0 R0 k0 cn ∧ Tv L M b v1 R1 k1 cn ∧ Tv L M b v2 R2 k2 cn
theorem s_fo1 {l1 l2 : Int} (i1 : i32 l1) (i2 : i32 l2) (hF : NF L W M) (h : Tg M t g cn cc bc) (h3 : Tv3 L M t b v0 v1 v2 R0 R1 R2 k0 k1 k2 cn) : Cr G y_CA_fractionOf (d + 1) [vr t, vi l1, vi l2] M (fun f M' => M' = M ∧ (f ≠ 0 → Rw1 L M b f)) := by
  obtain ⟨e, a0, a1, a2⟩ := h3
  refine (s_CA_fractionOf (d := d) i1 i2 h ⟨e, a0.tb, a1.tb, a2.tb⟩).mono (fun f M' q => ⟨q.1, fun u => ?_⟩)
  rcases q.2 with w | w | w | w
  · exact absurd w u
  · exact a0.row hF w
  · exact a1.row hF w
  · exact a2.row hF w
theorem s_CA_compare {l1 l2 l3 l4 : Int} (i1 : i32 l1) (i2 : i32 l2) (i3 : i32 l3) (i4 : i32 l4) (hF : NF L W M) (hS : SK L M (s + 1)) (h : Tg M t g cn cc bc) (hs : mR M t 10 = s ∧ mK M s = 8 ∧ mR M s 0 = s + 1) (h3 : Tv3 L M t b v0 v1 v2 R0 R1 R2 k0 k1 k2 cn) (hb : s + 134 < b) (w9 : 35 ≤ W (s + 1 + 9)) (w11 : 35 ≤ W (s + 1 + 11)) : Ci G y_CA_compare (d + 6) [vr t, vi l1, vi l2, vi l3, vi l4] M (fun x M' => i32 x ∧ (M' = M ∨ NL L W (Tor (s + 1)) (fun _ => False) False (s + 1) M M')) := by
  have h1 := h.1
  have t1 := h.2.1.1
  refine k_CA_compare h1 i1 i2 i3 i4 ⟨t1, (s_fo1 (d := d + 4) i1 i2 hF h h3).mono (fun f M2 q => ?_)⟩
  obtain ⟨e, r1⟩ := q
  subst e
  refine ⟨h1, t1, (s_fo1 (d := d + 4) i3 i4 hF h h3).mono (fun f' M2' q => ?_)⟩
  obtain ⟨e, r2⟩ := q
  subst e
  refine ⟨h1, fun _ => ⟨⟨by decide, by decide⟩, Or.inl rfl⟩, fun u => ?_⟩
  obtain ⟨a1, a2, a3, -⟩ := r1 (fun w => u (Or.inl w))
  obtain ⟨b1, b2, b3, -⟩ := r2 (fun w => u (Or.inr w))
  have na : ∀ {x : Nat}, b < x → ¬ Tor (s + 1) x := fun n w => by unfold Tor at w; omega
  rw [hs.1, hs.2.2]
  refine ⟨t1, hs.2.1, hS.1.1, (f_Sc_order (d := d) ⟨h1, hF, hS, a1, b1⟩ a3 b3 ⟨na (by omega), na (by omega)⟩ ⟨na (by omega), na (by omega)⟩ w9 w11).mono (fun x M' q => ?_)⟩
  have ix : i32 x := by rcases q.2 with w | w | w <;> (rw [w]; exact ⟨by decide, by decide⟩)
  exact ⟨ix, q.1.ok, ix, Or.inr q.1⟩
end NCG
end
section
/-! The class's top: billionths. -/
section NCH
variable {G : mG} {d t g s b f n h v0 v1 v2 R0 R1 R2 k0 k1 k2 cn cc bc : Nat} {M M' M1 : mM} {L : List Nat} {W : Nat → Nat}
/-- the top's own numbers: n the number, h the fraction that is shown; all below b -/
def Shn (L : List Nat) (M : mM) (t s n h b : Nat) : Prop := (mK M t = 1 ∧ mR M t 10 = s ∧ mR M t 15 = n ∧ mR M t 16 = h) ∧ (mK M s = 8 ∧ mR M s 0 = s + 1) ∧ (n ∈ L ∧ FrL L M h) ∧ (Oc L M t ∧ Oc L M s ∧ t ≠ s + 1) ∧ (s + 134 < n ∧ n < h ∧ h + 4 < b)
/-- the numbers that showing may change -/
def Tsh (s n h x : Nat) : Prop := T4 (s + 1) x ∨ x = n ∨ x = h + 1 ∨ x = h + 3
theorem Shn.nx {T C : Nat → Prop} (hh : Shn L M t s n h b) (q : NX L W T C False (s + 1) M M') (hF : NF L W M) : Shn L M' t s n h b := by
  obtain ⟨⟨a1, a2, a3, a4⟩, ⟨b1, b2⟩, ⟨c1, c2⟩, ⟨d1, d2, d3⟩, e⟩ := hh
  have ot := q.oth d1 d3
  have os := q.oth d2 (by omega)
  exact ⟨⟨by rw [ot.1]; exact a1, by rw [ot.2.2.1]; exact a2, by rw [ot.2.2.1]; exact a3, by rw [ot.2.2.1]; exact a4⟩, ⟨by rw [os.1]; exact b1, by rw [os.2.2.1]; exact b2⟩, ⟨c1, (q.frl hF c2).1⟩, ⟨q.oc hF d1, q.oc hF d2, d3⟩, e⟩
theorem bl_18 (x : Int) (h : x < 2 ^ (30 * 17)) : 1000000000 * x < 2 ^ (30 * 18) := by
  have e : (2 : Int) ^ (30 * 18) = 1073741824 * 2 ^ (30 * 17) := by decide +kernel
  have p : (0 : Int) < 2 ^ (30 * 17) := by decide +kernel
  rw [e]
  generalize (2 : Int) ^ (30 * 17) = Y at h p
  omega
theorem s_CA_billionths {l1 l2 : Int} (i1 : i32 l1) (i2 : i32 l2) (hF : NF L W M) (hS : SK L M (s + 1)) (h0 : Tg M t g cn cc bc) (hh : Shn L M t s n h b) (h3 : Tv3 L M t b v0 v1 v2 R0 R1 R2 k0 k1 k2 cn) (hW : 20 ≤ W n ∧ 17 ≤ W (h + 1) ∧ 17 ≤ W (h + 3) ∧ 19 ≤ W (s + 1 + 5) ∧ 18 ≤ W (s + 1 + 7)) : Ci G y_CA_billionths (d + 5) [vr t, vi l1, vi l2] M (fun x M' => i32 x ∧ (M' = M ∨ NX L W (Tsh s n h) (fun x => x = h) False (s + 1) M M')) := by
  have h1 := h0.1
  obtain ⟨⟨a1, a2, a3, a4⟩, ⟨b1, b2⟩, ⟨c1, c2⟩, -, ⟨e1, e2, e3⟩⟩ := id hh
  obtain ⟨w1, w2, w3, w4, w5⟩ := hW
  refine k_CA_billionths h1 i1 i2 ⟨a1, (s_fo1 (d := d + 3) i1 i2 hF h0 h3).mono (fun f M2 q => ?_)⟩
  obtain ⟨e, r1⟩ := q
  subst e
  refine ⟨h1, fun _ => ⟨⟨by decide, by decide⟩, Or.inl rfl⟩, fun u => ?_⟩
  obtain ⟨x1, x2, x3, x4, x5⟩ := r1 u
  rw [a4]
  have y1 := x3.1
  have y2 := x3.2.1
  refine ⟨a1, c2.1.1, (f_Fr_put1 (d := d + 2) (z := s + 1) h1 hF c2 x1 (by omega) (by omega) (by omega) ⟨hS.1.2, hS.1.1⟩ (by omega) (by omega)).mono (fun M9 q => ?_)⟩
  obtain ⟨q1, q2, q3, q4⟩ := q
  have X9 := q1.nx hF
  have S9 := hh.nx X9 hF
  have F9 := X9.nf
  have K9 := X9.sk hF hS
  obtain ⟨⟨a1', a2', a3', a4'⟩, -, ⟨c1', c2'⟩, -⟩ := id S9
  have oc9 : ∀ x, x = h → Oc L M9 x := fun x hx => X9.oc hF (X9.2.1.2.1 x hx)
  rw [a4', a3', c2'.1.2.1.1]
  have z1 : sz M9 (h + 1) ≤ 17 := F9.szv c2'.2.1 (by rw [q2]; exact x4.1)
  refine ⟨q1.ok, a1', c2'.1.1, F9.kd c1', (f_put1 (d := d + 3) q1.ok F9 c1' c2'.2.1 (by omega) (by omega)).mono (fun M15 q => ?_)⟩
  obtain ⟨p1, p2⟩ := q
  have X15 : NX L W (fun x => x = n) (fun x => x = h) False (s + 1) M9 M15 := p1.nx oc9 ⟨K9.1.2, K9.1.1⟩
  have S15 := S9.nx X15 F9
  have F15 := X15.nf
  have K15 := X15.sk F9 K9
  obtain ⟨⟨a1', a2', a3', a4'⟩, -, ⟨c1', c2'⟩, -⟩ := id S15
  rw [a3']
  have n15 : nv M15 n < 2 ^ (30 * 17) := by rw [p2, q2]; exact x4.1
  have z2 : sz M15 n ≤ 17 := F15.szv c1' n15
  refine ⟨p1.ok, a1', F15.kd c1', (f_multiply (d := d + 2) ⟨by decide, by decide⟩ p1.ok F15 c1' (by omega)).mono (fun M20 q => ?_)⟩
  obtain ⟨m1, m2⟩ := q
  have X20 : NX L W (fun x => x = n) (fun x => x = h) False (s + 1) M15 M20 := m1.nx (fun x hx => X15.oc F9 (oc9 x hx)) ⟨K15.1.2, K15.1.1⟩
  have S20 := S15.nx X20 F15
  have F20 := X20.nf
  have K20 := X20.sk F15 K15
  obtain ⟨⟨a1', a2', a3', a4'⟩, ⟨b1', b2'⟩, ⟨c1', c2'⟩, -⟩ := id S20
  have z3 : sz M20 n ≤ 18 := F20.szv c1' (by rw [m2]; exact bl_18 _ n15)
  have h15 := X15.num F9 c2'.2.2 (fun w => by have w' : h + 3 = n := w; omega)
  have h20 := X20.num F15 c2'.2.2 (fun w => by have w' : h + 3 = n := w; omega)
  have z4 : sz M20 (h + 3) ≤ 17 := F20.szv c2'.2.2 (by rw [h20.2.2, h15.2.2, q3]; exact x4.2)
  have t4 : ∀ x, s + 134 < x → ¬ T4 (s + 1) x := fun x hx w => by unfold T4 at w; omega
  rw [a2', a3', a4', b2', c2'.1.2.1.2]
  refine ⟨m1.ok, a1', b1', c2'.1.1, K20.1.1, (f_wholePartZ (d := d) m1.ok F20 K20 c1' c2'.2.2 (by omega) (t4 _ e1) (t4 _ (by omega)) (by omega) (by omega) (by omega)).mono (fun x M27 q => ?_)⟩
  obtain ⟨o1, o2, o3⟩ := q
  have ix : i32 x := ⟨by omega, by omega⟩
  have X27 : NX L W (fun x => x = n ∨ x = s + 1 + 5 ∨ x = s + 1 + 7) (fun x => x = h) False (s + 1) M20 M27 := o1.nx (fun x hx => X20.oc F15 (X15.oc F9 (oc9 x hx))) ⟨K20.1.2, K20.1.1⟩
  obtain ⟨-, -, -, -, -, ⟨j1, j3, j5, j7, -⟩, -⟩ := id hS
  have TL : ∀ x, Tsh s n h x → x ∈ L := fun x hx => by
    rcases hx with (w | w | w | w) | w | w | w
    · rw [w]; exact j1
    · rw [w]; exact j3
    · rw [w]; exact j5
    · rw [w]; exact j7
    · rw [w]; exact c1
    · rw [w]; exact c2.2.1
    · rw [w]; exact c2.2.2
  have O9 := oc9
  have O15 : ∀ x, x = h → Oc L M15 x := fun x hx => X15.oc F9 (oc9 x hx)
  have O20 : ∀ x, x = h → Oc L M20 x := fun x hx => X20.oc F15 (O15 x hx)
  have Y1 : NX L W (Tsh s n h) (fun x => x = h) False (s + 1) M2 M9 := X9.mono hF (fun x w => Or.inr (Or.inr w)) TL (fun x w => w) (fun x w => X9.2.1.2.1 x w) id
  have Y2 : NX L W (Tsh s n h) (fun x => x = h) False (s + 1) M9 M15 := X15.mono F9 (fun x w => Or.inr (Or.inl w)) TL (fun x w => w) O9 id
  have Y3 : NX L W (Tsh s n h) (fun x => x = h) False (s + 1) M15 M20 := X20.mono F15 (fun x w => Or.inr (Or.inl w)) TL (fun x w => w) O15 id
  have Y4 : NX L W (Tsh s n h) (fun x => x = h) False (s + 1) M20 M27 := X27.mono F20 (fun x w => w.elim (fun w => Or.inr (Or.inl w)) (fun w => Or.inl (Or.inr (Or.inr w)))) TL (fun x w => w) O20 id
  exact ⟨ix, o1.ok, ix, Or.inr (((Y1.trans Y2).trans Y3).trans Y4)⟩
end NCH
end
section
/-! The class's top: a fraction brought to least terms, also with 0 below. -/
section NCI
variable {G : mG} {d b c z n m w S x y B u g a R cn f s : Nat} {M M0 M' M1 M2 M3 : mM} {L : List Nat} {W : Nat → Nat} {T T' I I' : Nat → Prop} {sh t : Int}
/-- as rdQ2, and a bound below for every fraction -/
def rdQ3 (L : List Nat) (W : Nat → Nat) (z f : Nat) (t A V : Int) (M M' : mM) : Prop := NL L W (Tre z f) (fun x => x = f) False z M M' ∧ mI M' f 2 = 1 ∧ (0 < V → 0 < nv M' (f + 3)) ∧ nv M' (f + 1) ≤ A ∧ (0 < V → nv M' (f + 3) ≤ t * V) ∧ (A ≤ t * V → nv M' (f + 1) ≤ nv M' (f + 3)) ∧ (nv M' (f + 3) ≤ 1 ∨ nv M' (f + 3) ≤ t * V)
theorem f_reduce3 (h : Rds L W z f M) (nf : ¬ T4 z (f + 1) ∧ ¬ T4 z (f + 3)) (ht : mI M f 2 = t) (t1 : 1 ≤ t ∧ t < 1073741824) (s1 : sz M (f + 1) ≤ s) (s3 : sz M (f + 3) ≤ s) (hs : s ≤ 15000) (hW : ∀ x, Tre z f x → s + 3 ≤ W x) : Cv G y_Sc_reduce (d + 5) [vr z, vr f] M (rdQ3 L W z f t (nv M (f + 1)) (nv M (f + 3)) M) := by
  obtain ⟨⟨k1, k2⟩, ⟨r2, r3⟩, ⟨f0, f1⟩, m5, m7, mf1, mf3⟩ := h.pl
  have hF := h.2.1
  have w1 := hW _ (Or.inr (Or.inl rfl))
  have w3 := hW _ (Or.inr (Or.inr rfl))
  have f13 : f + 3 ≠ f + 1 := nez (by decide)
  have A0 := hF.nn0 mf1
  refine k_Sc_reduce h.1 ?_
  rw [f1, ht]
  refine ⟨k2, hF.kd mf3, (f_multiply (d := d + 2) t1 h.1 hF mf3 (by omega)).mono (fun M3 k => ?_)⟩
  obtain ⟨c1, v1⟩ := k
  obtain ⟨n1, H1⟩ := h.st (Or.inr (Or.inr rfl)) c1
  have a1 := (c1.num hF mf1 (fun e => f13 e.symm)).2.2.2
  refine ⟨c1.ok, H1.2.2.2.1.1, fun M7 e7 => ?_⟩
  obtain ⟨n2, t2, vv⟩ := nl_times (T := Tre z f) (I := fun x => x = f) (r := False) (z := z) c1.ok H1.2.1 H1.2.2.2 H1.2.2.1.z9 ⟨by decide, by decide⟩ e7 h.tre rfl H1.iw
  have H2 := H1.nl n2
  have N2 := n1.trans n2
  have F2 := H2.2.1
  have A2 : nv M7 (f + 1) = nv M (f + 1) := by rw [vv _ mf1, a1.2.1]
  have V2 : nv M7 (f + 3) = t * nv M (f + 3) := by rw [vv _ mf3, v1]
  have Vn := hF.nn0 mf3
  have Vp : 0 < nv M (f + 3) → 0 < t * nv M (f + 3) := fun V0 => Int.mul_pos (by omega) V0
  obtain ⟨⟨k1, k2⟩, ⟨r2, r3⟩, ⟨f0, f1⟩, -⟩ := H2.pl
  rw [f0, f1, (F2.nt mf1).2.1]
  refine ⟨F2.kd mf1, fun y => ⟨F2.kd mf3, (f_put0 (d := d + 4) ⟨by decide, by decide⟩ H2.1 F2 mf3).mono (fun M13 k => ?_)⟩, fun y => ⟨k1, ?_⟩⟩
  · obtain ⟨c3, v3⟩ := k
    obtain ⟨n3, H3⟩ := H2.st (Or.inr (Or.inr rfl)) c3
    have z0 : nv M7 (f + 1) = 0 := (F2.sz0 mf1).1 (by omega)
    have z1 := (c3.v F2 mf1 (fun e => f13 e.symm)).trans z0
    have ti : mI M13 f = mI M7 f := ((c3.nl (I := fun _ => False) (r := False) noI H2.2.2.1.z9).frp F2 H2.2.2.2.1).2 (fun e => e)
    exact ⟨c3.ok, N2.trans n3, by rw [ti]; exact t2, fun _ => by rw [v3]; decide, by rw [z1]; exact A0, fun V0 => by rw [v3]; exact Vp V0, fun _ => by rw [z1, v3]; decide, Or.inl (by rw [v3]; decide)⟩
  · have Ap : 0 < nv M (f + 1) := Classical.byContradiction (fun u => y (by
      have := (F2.sz0 mf1).2 (by rw [A2]; omega)
      omega))
    have sv : sz M7 (f + 3) ≤ s + 1 := F2.szv mf3 (by rw [V2]; exact (mul_sz ⟨Vn, Int.lt_of_lt_of_le (hF.vlt mf3) (p30m s3)⟩ t1).2)
    have sa : sz M7 (f + 1) ≤ s := F2.szv mf1 (by rw [A2]; exact Int.lt_of_lt_of_le (hF.vlt mf1) (p30m s1))
    have h1 := hW (z + 1) (Or.inl (Or.inl rfl))
    have h3 := hW (z + 3) (Or.inl (Or.inr (Or.inl rfl)))
    have h5 := hW (z + 5) (Or.inl (Or.inr (Or.inr (Or.inl rfl))))
    have h7 := hW (z + 7) (Or.inl (Or.inr (Or.inr (Or.inr rfl))))
    refine (f_common (d := d) (S := s + 1) H2.1 F2 H2.2.2.1 mf1 mf3 nf.1 nf.2 (Or.inl (by rw [A2]; exact Ap)) (by omega) sv (by omega) ⟨h1, h3, h5, h7⟩).mono (fun r M17 k => ?_)
    obtain ⟨er, N17, q0, d1, d2, -⟩ := k
    have n3 : NL L W (Tre z f) (fun x => x = f) False z M7 M17 := N17.mono F2 (fun t ht => Or.inl ht) h.tre (fun _ e => e.elim) H2.iw (fun e => e)
    have H3 := H2.nl n3
    have A3 := (N17.num F2 mf1 nf.1).2
    have V3 := (N17.num F2 mf3 nf.2).2
    have t3 : mI M17 f 2 = 1 := by rw [(N17.frp F2 H2.2.2.2.1).2 (fun e => e)]; exact t2
    have mr : r ∈ L := h.2.2.1.t4 r (er.elim Or.inl (fun e => Or.inr (Or.inl e)))
    rw [A2] at A3 d1
    rw [V2] at V3 d2
    refine ⟨H3.1, H3.2.1.kd mr, (s_Na_isOne (d := d + 4) H3.1 (H3.2.1.nt mr)).mono (fun x22 M21 k => ?_)⟩
    obtain ⟨e21, x01, -⟩ := k
    rw [e21]
    refine ⟨m_b32 x01, H3.1, fun _ => ?_, fun _ => ?_⟩
    · exact s_rdDiv (d := d) (s := s + 3) H3 er nf A3.2 V3.2 rfl q0 d1 d2 Ap (by omega) (by omega) w1 w3 h5 h7 (fun M' Q1 Q2 g1 g2 g3 g4 g5 g6 g7 g8 => by
        have hq : 1 ≤ nv M17 r := q0
        have m1 := Int.mul_le_mul_of_nonneg_right hq g7
        have m2 := Int.mul_le_mul_of_nonneg_right hq g8
        have Q2p : 0 < nv M (f + 3) → 0 < Q2 := fun V0 => Classical.byContradiction (fun u => by
          have V1 := Vp V0
          have : Q2 = 0 := by omega
          rw [this, Int.mul_zero] at g6
          omega)
        refine ⟨(N2.trans n3).trans g1, by rw [g2]; exact t3, fun V0 => by rw [g4]; exact Q2p V0, by rw [g3]; omega, fun _ => by rw [g4]; omega, fun le => ?_, Or.inr (by rw [g4]; omega)⟩
        rw [g3, g4]
        rw [g5, g6] at le
        exact Int.le_of_mul_le_mul_left le q0)
    · exact ⟨N2.trans n3, t3, fun V0 => by rw [V3.2]; exact Vp V0, by rw [A3.2]; exact Int.le_refl _, fun _ => by rw [V3.2]; exact Int.le_refl _, fun le => by rw [A3.2, V3.2]; exact le, Or.inr (by rw [V3.2]; exact Int.le_refl _)⟩
end NCI
end
section
/-! The class's top: print. -/
section NCJ
variable {G : mG} {d t g s b f n h pr v0 v1 v2 R0 R1 R2 k0 k1 k2 cn cc bc : Nat} {M M0 M' M1 : mM} {L : List Nat} {W : Nat → Nat}
def Csh (t pr h x : Nat) : Prop := x = t ∨ x = pr ∨ x = h
theorem Prt.nx2 {T C : Nat → Prop} {z : Nat} (hp : Prt L M t pr n) (q : NX L W T C False z M M') (hF : NF L W M) (nz : t ≠ z ∧ pr ≠ z) (hC : ¬ C pr) : Prt L M' t pr n := by
  obtain ⟨⟨h1, h2, h3⟩, ⟨h4, h5⟩, ⟨h6, h7, h8⟩, h9, h10⟩ := hp
  have ot := q.oth h6 nz.1
  have op := q.oth h7 nz.2
  exact ⟨⟨by rw [ot.1]; exact h1, by rw [ot.2.2.1]; exact h2, by rw [ot.2.2.1]; exact h3⟩, ⟨by rw [op.1]; exact h4, by rw [op.2.1]; exact h5⟩, ⟨q.oc hF h6, q.oc hF h7, h8⟩, h9, fun j hj => by rw [op.2.2.2 hC]; exact h10 j hj⟩
/-- what print comes to -/
def prQ (L : List Nat) (W : Nat → Nat) (s t pr n h : Nat) (M : mM) (x : Int) (M' : mM) : Prop := i32 x ∧ (M' = M ∨ (NX L W (Tsh s n h) (Csh t pr h) False (s + 1) M M' ∧ Prt L M' t pr n ∧ (∃ c : Nat, mI M' t 18 = ((c : Nat) : Int) ∧ c ≤ 325) ∧ ∀ i, i ≠ 18 → mI M' t i = mI M t i))
/-- the second half: the fraction is in least terms -/
theorem s_pr15 (h1 : mOk M) (hF : NF L W M) (hS : SK L M (s + 1)) (hh : Shn L M t s n h b) (hp : Prt L M t pr n) (pz : pr ≠ s + 1) (hA : nv M (h + 1) < 2 ^ (30 * 17)) (hB : nv M (h + 3) < 2 ^ (30 * 17)) (wn : 17 ≤ W n) {Q : Int → mM → Prop} (hQ : ∀ (x : Int) (M' : mM), i32 x → NX L W (fun x => x = n) (Cpr t pr) False (s + 1) M M' → Prt L M' t pr n → (∃ c : Nat, mI M' t 18 = ((c : Nat) : Int) ∧ c ≤ 325) → (∀ i, i ≠ 18 → mI M' t i = mI M t i) → Q x M') : mK M t = 1 ∧ ∀ M19, M19 = mUI M t 18 0 → mK M19 (mR M19 t 16) = 11 ∧ Cv G y_CA_printNumber (d + 2) [vr t, vr (mR M19 (mR M19 t 16) 0)] M19 (fun M22 => mOk M22 ∧ (mK M22 t = 1 ∧ mK M22 (mR M22 t 16) = 11 ∧ mK M22 (mR M22 (mR M22 t 16) 1) = 10 ∧ Ci G y_Na_isOne (d + 2) [vr (mR M22 (mR M22 t 16) 1)] M22 (fun x29 M28 => i32 x29 ∧ mOk M28 ∧ (((x29 = 0) → (mK M28 t = 1 ∧ i32 ((mI M28 t 18) + 1) ∧ ∀ M40, M40 = mUI M28 t 18 ((mI M28 t 18) + 1) → mK M40 (mR M28 t 17) = 32 ∧ ((0 : Int) ≤ mI M28 t 18 ∧ mI M28 t 18 < (mN M40 (mR M28 t 17) : Int)) ∧ ∀ M44, M44 = mUI M40 (mR M28 t 17) (Int.toNat (mI M28 t 18)) 47 → mK M44 (mR M44 t 16) = 11 ∧ Cv G y_CA_printNumber (d + 2) [vr t, vr (mR M44 (mR M44 t 16) 1)] M44 (fun M47 => mOk M47 ∧ (mK M47 t = 1 ∧ Q (mI M47 t 18) M47)))) ∧ (¬ (x29 = 0) → (mK M28 t = 1 ∧ Q (mI M28 t 18) M28)))))) := by
  have nz : t ≠ s + 1 ∧ pr ≠ s + 1 := ⟨hh.2.2.2.1.2.2, pz⟩
  obtain ⟨-, -, ⟨c1, c2⟩, -, ⟨e1, e2, e3⟩⟩ := id hh
  have z9 : s + 1 < mZ M ∧ mK M (s + 1) = 9 := ⟨hS.1.2, hS.1.1⟩
  refine ⟨hh.1.1, fun M19 e19 => ?_⟩
  have f19 : FI (Cpr t pr) M M19 := by rw [e19]; exact FI.ui (Or.inl rfl)
  have o19 : mOk M19 := by rw [e19]; exact mOk_UI h1 ⟨by decide, by decide⟩
  obtain ⟨X19, v19⟩ := f19.nx (T := fun x => x = n) (r := False) (z := s + 1) o19 hF hp.tl hp.cl z9
  have S19 := hh.nx X19 hF
  have t19 : ∀ i, mI M19 t i = if i = 18 then 0 else mI M t i := fun i => by
    rw [mI_ui t i e19]
    by_cases c : i = 18
    · rw [if_pos ⟨rfl, c⟩, if_pos c]
    · rw [if_neg (fun u => c u.2), if_neg c]
  have P19 : Prt L M19 t pr n := hp.nx X19 hF nz (fun j hj => by rw [mI_ui pr j e19, if_neg (fun u => hp.2.2.1.2.2 u.1.symm)]; exact hp.2.2.2.2 j hj)
  rw [S19.1.2.2.2, S19.2.2.1.2.1.2.1.1]
  refine ⟨S19.2.2.1.2.1.1, (s_CA_printNumber (d := d) (st := 0) o19 X19.nf P19 nz X19.z9 c2.2.1 (by omega) (by rw [v19 _ c2.2.1]; exact hA) wn (by rw [t19, if_pos rfl]; rfl) (by decide)).mono (fun M22 q => ?_)⟩
  obtain ⟨X22, P22, c, hc, hcp, oi⟩ := id q
  have S22 := S19.nx X22 X19.nf
  have F22 := X22.nf
  have nB : nv M22 (h + 3) < 2 ^ (30 * 17) := by
    rw [(X22.num X19.nf c2.2.2 (fun w => by have w' : h + 3 = n := w; omega)).2.2, v19 _ c2.2.2]
    exact hB
  rw [S22.1.2.2.2, S22.2.2.1.2.1.2.1.2]
  refine ⟨X22.ok, P22.1.1, S22.2.2.1.2.1.1, F22.kd c2.2.2, (s_Na_isOne (d := d + 2) X22.ok (F22.nt c2.2.2)).mono (fun x29 M28 q2 => ?_)⟩
  obtain ⟨e28, hx, -⟩ := q2
  subst e28
  rw [hc, P22.1.2.2]
  refine ⟨m_b32 hx, X22.ok, fun _ => ⟨P22.1.1, i32s (by omega) (by omega), fun M40 e40 => ?_⟩, fun _ => ⟨P22.1.1, hQ _ _ (i32s (by omega) (by omega)) (X19.trans X22) P22 ⟨c, hc, by omega⟩ (fun i hi => by rw [oi i hi, t19, if_neg hi])⟩⟩
  have f40 : FI (Cpr t pr) M28 M40 := by rw [e40]; exact FI.ui (Or.inl rfl)
  rw [f40.1, f40.2.1, P22.2.1.2, Int.toNat_natCast]
  refine ⟨P22.2.1.1, ⟨by omega, by omega⟩, fun M44 e44 => ?_⟩
  obtain ⟨I44, v44⟩ := pn_put (v := 47) q nz X22.z9 hc hcp (by decide) e40 ⟨by decide, by decide⟩ e44
  obtain ⟨X44, P44, -, -, -, oi44⟩ := id I44
  have S44 := S19.nx X44 X19.nf
  have hc44 : mI M44 t 18 = ((c + 1 : Nat) : Int) := by
    rw [mI_ui t 18 e44, if_neg (fun u => P22.2.2.1.2.2 u.1), mI_ui t 18 e40, if_pos ⟨rfl, rfl⟩]
    omega
  rw [S44.1.2.2.2, S44.2.2.1.2.1.2.1.2]
  refine ⟨S44.2.2.1.2.1.1, (s_CA_printNumber (d := d) (st := c + 1) X44.ok X44.nf P44 nz X44.z9 c2.2.2 (by omega) (by rw [v44 _ c2.2.2]; exact nB) wn hc44 (by omega)).mono (fun M47 q3 => ?_)⟩
  obtain ⟨X47, P47, c', hc', hcp', oi47⟩ := q3
  rw [hc']
  exact ⟨X47.ok, P47.1.1, hQ _ _ (i32s (by omega) (by omega)) ((X19.trans X44).trans X47) P47 ⟨c', hc', by omega⟩ (fun i hi => by rw [oi47 i hi, oi44 i hi, t19, if_neg hi])⟩
end NCJ
end
section
/-! The class's top: print as a whole. -/
section NCK
variable {G : mG} {d t g s b f n h pr v0 v1 v2 R0 R1 R2 k0 k1 k2 cn cc bc : Nat} {M M0 M' M1 : mM} {L : List Nat} {W : Nat → Nat}
theorem s_CA_print {l1 l2 : Int} (i1 : i32 l1) (i2 : i32 l2) (hF : NF L W M) (hS : SK L M (s + 1)) (h0 : Tg M t g cn cc bc) (hh : Shn L M t s n h b) (hp : Prt L M t pr n) (h3 : Tv3 L M t b v0 v1 v2 R0 R1 R2 k0 k1 k2 cn) (hW : ∀ x, Tre (s + 1) h x → 20 ≤ W x) (wn : 17 ≤ W n) : Ci G y_CA_print (d + 6) [vr t, vi l1, vi l2] M (prQ L W s t pr n h M) := by
  have h1 := h0.1
  obtain ⟨⟨a1, a2, a3, a4⟩, ⟨b1, b2⟩, ⟨c1, c2⟩, -, ⟨e1, e2, e3⟩⟩ := id hh
  have w1 := hW (h + 1) (Or.inr (Or.inl rfl))
  have w3 := hW (h + 3) (Or.inr (Or.inr rfl))
  have pz : pr ≠ s + 1 := fun e => by
    have u1 := hp.2.1.1
    have u2 := hS.1.1
    rw [e, u2] at u1
    exact absurd u1 (by decide)
  have ph : pr ≠ h := fun e => by
    have u1 := hp.2.1.1
    have u2 := c2.1.1
    rw [e, u2] at u1
    exact absurd u1 (by decide)
  have th : t ≠ h := fun e => by
    have u2 := c2.1.1
    rw [e, u2] at a1
    exact absurd a1 (by decide)
  have nz : t ≠ s + 1 ∧ pr ≠ s + 1 := ⟨hh.2.2.2.1.2.2, pz⟩
  refine k_CA_print h1 i1 i2 ⟨a1, (s_fo1 (d := d + 4) i1 i2 hF h0 h3).mono (fun f M2 q => ?_)⟩
  obtain ⟨e, r1⟩ := q
  subst e
  refine ⟨h1, fun _ => ⟨⟨by decide, by decide⟩, Or.inl rfl⟩, fun u => ?_⟩
  obtain ⟨x1, x2, x3, x4, x5⟩ := r1 u
  rw [a4]
  have y1 := x3.1
  have y2 := x3.2.1
  refine ⟨a1, c2.1.1, (f_Fr_put1 (d := d + 3) (z := s + 1) h1 hF c2 x1 (by omega) (by omega) (by omega) ⟨hS.1.2, hS.1.1⟩ (by omega) (by omega)).mono (fun M9 q => ?_)⟩
  obtain ⟨q1, q2, q3, q4⟩ := q
  have X9 := q1.nx hF
  have S9 := hh.nx X9 hF
  have F9 := X9.nf
  have K9 := X9.sk hF hS
  have P9 := hp.nx2 X9 hF nz ph
  obtain ⟨⟨a1', a2', a3', a4'⟩, ⟨b1', b2'⟩, ⟨c1', c2'⟩, -⟩ := id S9
  have t4 : ∀ x, s + 134 < x → ¬ T4 (s + 1) x := fun x hx w => by unfold T4 at w; omega
  have z1 : sz M9 (h + 1) ≤ 17 := F9.szv c2'.2.1 (by rw [q2]; exact x4.1)
  have z3 : sz M9 (h + 3) ≤ 17 := F9.szv c2'.2.2 (by rw [q3]; exact x4.2)
  rw [a2', a4', b2']
  refine ⟨q1.ok, a1', b1', K9.1.1, (f_reduce3 (d := d) (t := 1) (s := 17) ⟨q1.ok, F9, K9, c2'⟩ ⟨t4 _ (by omega), t4 _ (by omega)⟩ (by rw [q4]; exact x5) ⟨by decide, by decide⟩ z1 z3 (by decide) hW).mono (fun M15 q => ?_)⟩
  obtain ⟨r1, -, -, r4, -, -, r7⟩ := q
  have X15 := r1.nx F9
  have S15 := S9.nx X15 F9
  have P15 := P9.nx2 X15 F9 nz ph
  have K15 := X15.sk F9 K9
  have hA : nv M15 (h + 1) < 2 ^ (30 * 17) := by
    rw [q2] at r4
    exact Int.lt_of_le_of_lt r4 x4.1
  have hB : nv M15 (h + 3) < 2 ^ (30 * 17) := by
    rcases r7 with w | w
    · exact Int.lt_of_le_of_lt w (by decide +kernel)
    · rw [q3, Int.one_mul] at w
      exact Int.lt_of_le_of_lt w x4.2
  obtain ⟨-, -, -, -, -, ⟨j1, j3, j5, j7, -⟩, -⟩ := id hS
  have TL : ∀ x, Tsh s n h x → x ∈ L := fun x hx => by
    rcases hx with (w | w | w | w) | w | w | w
    · rw [w]; exact j1
    · rw [w]; exact j3
    · rw [w]; exact j5
    · rw [w]; exact j7
    · rw [w]; exact c1
    · rw [w]; exact c2.2.1
    · rw [w]; exact c2.2.2
  have O0 : ∀ x, Csh t pr h x → Oc L M2 x := fun x hx => by
    rcases hx with w | w | w
    · rw [w]; exact hp.2.2.1.1
    · rw [w]; exact hp.2.2.1.2.1
    · exact X9.2.1.2.1 x w
  have O9 : ∀ x, Csh t pr h x → Oc L M9 x := fun x hx => X9.oc hF (O0 x hx)
  have O15 : ∀ x, Csh t pr h x → Oc L M15 x := fun x hx => X15.oc F9 (O9 x hx)
  have Y1 : NX L W (Tsh s n h) (Csh t pr h) False (s + 1) M2 M9 := X9.mono hF (fun x w => Or.inr (Or.inr w)) TL (fun x w => Or.inr (Or.inr w)) O0 id
  have Y2 : NX L W (Tsh s n h) (Csh t pr h) False (s + 1) M9 M15 := X15.mono F9 (fun x w => w.elim Or.inl (fun w => Or.inr (Or.inr w))) TL (fun x w => Or.inr (Or.inr w)) O9 id
  have ot9 := X9.oth hp.2.2.1.1 nz.1
  have ot15 := X15.oth P9.2.2.1.1 nz.1
  refine ⟨X15.ok, s_pr15 (d := d + 3) X15.ok X15.nf K15 S15 P15 pz hA hB wn (fun x M' ix XM PM hc oi => ⟨ix, Or.inr ⟨(Y1.trans Y2).trans (XM.mono X15.nf (fun x w => Or.inr (Or.inl w)) TL (fun x w => w.elim Or.inl (fun w => Or.inr (Or.inl w))) O15 id), PM, hc, fun i hi => ?_⟩⟩)⟩
  rw [oi i hi, ot15.2.2.2 th, ot9.2.2.2 th]
end NCK
end
section
/-! The class's top: its four tables (0 values, 1 withins, 2 earlier, 3 judged). -/
section NCL
variable {G : mG} {d t g s b i j a Ra n cn cc bc z w : Nat} {v R k : Nat → Nat} {M M0 M' M1 : mM} {L L' : List Nat} {W : Nat → Nat} {T C S : Nat → Prop} {r : Prop}
/-- where a table lies -/
def Tb1 (L : List Nat) (M : mM) (s b a Ra n : Nat) : Prop := RwT L M a Ra n ∧ (∀ i, i < n → b ≤ mR M Ra i) ∧ RwD M Ra n ∧ n ≤ 512 ∧ (s + 134 < a ∧ s + 134 < Ra)
/-- where the four tables lie -/
def Tb0 (L : List Nat) (M : mM) (s b : Nat) (v R k : Nat → Nat) : Prop := (∀ i, i < 4 → Tb1 L M s b (v i) (R i) (k i)) ∧ (∀ i j, i < 4 → j < 4 → i ≠ j → Rsp M (R i) (k i) (R j) (k j) ∧ v i ≠ v j ∧ R i ≠ R j)
/-- what a known table holds -/
def Tk (M : mM) (cn a Ra n : Nat) : Prop := mI M a 1 ≠ 0 → cn ≤ n ∧ Rsm M Ra cn 17 ∧ Rt1 M Ra cn
theorem NX.rwt (q : NX L W T C r z M M') (hF : NF L W M) (h : RwT L M a Ra n) (ha : a ≠ z) (hR : Ra ≠ z) : RwT L M' a Ra n ∧ mR M' Ra = mR M Ra := by
  obtain ⟨h1, h2, h3, h4, ⟨h5, h6⟩, h7⟩ := h
  have oa := q.oth h5 ha
  have oR := q.oth h6 hR
  exact ⟨⟨by rw [oa.1]; exact h1, by rw [oa.2.2.1]; exact h2, by rw [oR.1]; exact h3, by rw [oR.2.1]; exact h4, ⟨q.oc hF h5, q.oc hF h6⟩, fun i hi => by rw [oR.2.2.1]; exact (q.frl hF (h7 i hi)).1⟩, oR.2.2.1⟩
theorem Tb1.nx (h : Tb1 L M s b a Ra n) (q : NX L W T C r (s + 1) M M') (hF : NF L W M) : Tb1 L M' s b a Ra n ∧ mR M' Ra = mR M Ra := by
  obtain ⟨h1, h2, h3, h4, h5, h6⟩ := h
  obtain ⟨k1, k2⟩ := q.rwt hF h1 (by omega) (by omega)
  exact ⟨⟨k1, by rw [k2]; exact h2, by unfold RwD; rw [k2]; exact h3, h4, h5, h6⟩, k2⟩
theorem Tb0.nx (h : Tb0 L M s b v R k) (q : NX L W T C r (s + 1) M M') (hF : NF L W M) : Tb0 L M' s b v R k := by
  refine ⟨fun i hi => ((h.1 i hi).nx q hF).1, fun i j hi hj ij => ?_⟩
  obtain ⟨a1, a2⟩ := h.2 i j hi hj ij
  refine ⟨?_, a2⟩
  unfold Rsp
  rw [((h.1 i hi).nx q hF).2, ((h.1 j hj).nx q hF).2]
  exact a1
/-- the rows are the same -/
theorem Tk.keep (h : Tk M cn a Ra n) (e1 : mI M' a 1 = mI M a 1 ∨ mI M' a 1 = 0) (eR : mR M' Ra = mR M Ra) (e : ∀ i, i < n → nv M' (mR M Ra i + 1) = nv M (mR M Ra i + 1) ∧ nv M' (mR M Ra i + 3) = nv M (mR M Ra i + 3) ∧ mI M' (mR M Ra i) = mI M (mR M Ra i)) : Tk M' cn a Ra n := by
  intro kn
  rcases e1 with e1 | e1
  · rw [e1] at kn
    obtain ⟨k1, k2, k3⟩ := h kn
    refine ⟨k1, fun i hi => ?_, fun i hi => ?_⟩
    · rw [eR, (e i (by omega)).1, (e i (by omega)).2.1]; exact k2 i hi
    · rw [eR, (e i (by omega)).2.2]; exact k3 i hi
  · exact absurd e1 kn
/-- a table of which nothing is touched holds what it held -/
theorem Tk.nx (h : Tk M cn a Ra n) (h1 : Tb1 L M s b a Ra n) (q : NX L W T C r (s + 1) M M') (hF : NF L W M) (ha : ¬ C a) (hT : ∀ i, i < n → ¬ T (mR M Ra i + 1) ∧ ¬ T (mR M Ra i + 3) ∧ ¬ C (mR M Ra i)) : Tk M' cn a Ra n := by
  have oa := q.oth h1.1.2.2.2.2.1.1 (show a ≠ s + 1 by have := h1.2.2.2.2; omega)
  refine h.keep (Or.inl (by rw [oa.2.2.2 ha])) (h1.nx q hF).2 (fun i hi => ?_)
  obtain ⟨t1, t3, c⟩ := hT i hi
  have fl := h1.1.2.2.2.2.2 i hi
  exact ⟨(q.num hF fl.2.1 t1).2.2, (q.num hF fl.2.2 t3).2.2, (q.frl hF fl).2 c⟩
theorem Tb1.fi (h : Tb1 L M s b a Ra n) (f : FI S M M') : Tb1 L M' s b a Ra n := by
  obtain ⟨⟨h1, h2, h3, h4, ⟨h5, h6⟩, h7⟩, h8, h9, h10, h11⟩ := h
  exact ⟨⟨by rw [f.1]; exact h1, by rw [f.2.2.1]; exact h2, by rw [f.1]; exact h3, by rw [f.2.1]; exact h4, ⟨h5.fi f, h6.fi f⟩, fun i hi => by rw [f.2.2.1]; exact (h7 i hi).fi f⟩, by rw [f.2.2.1]; exact h8, by unfold RwD; rw [f.2.2.1]; exact h9, h10, h11⟩
theorem Tb0.fi (h : Tb0 L M s b v R k) (f : FI S M M') : Tb0 L M' s b v R k := ⟨fun i hi => (h.1 i hi).fi f, fun i j hi hj ij => ⟨by unfold Rsp; rw [f.2.2.1]; exact (h.2 i j hi hj ij).1, (h.2 i j hi hj ij).2⟩⟩
theorem Tk.fi (h : Tk M cn a Ra n) (h1 : Tb1 L M s b a Ra n) (hF : NF L W M) (f : FI S M M') (o : mOk M') (hz : s + 1 < mZ M ∧ mK M (s + 1) = 9) (hS : ∀ x, S x → Oc L M x ∧ mK M x ≠ 11) (e1 : mI M' a 1 = mI M a 1 ∨ mI M' a 1 = 0) : Tk M' cn a Ra n := by
  have nvs := (f.nx (T := fun _ => False) (r := False) (z := s + 1) o hF (fun _ u => u.elim) (fun x u => (hS x u).1) hz).2
  refine h.keep e1 (by rw [f.2.2.1]) (fun i hi => ?_)
  have fl := h1.1.2.2.2.2.2 i hi
  exact ⟨nvs _ fl.2.1, nvs _ fl.2.2, f.2.2.2.2.2.2 _ (fun u => (hS _ u).2 fl.1.1)⟩
theorem Tb1.gw (h : Tb1 L M s b a Ra n) (q : Gw L W w M L' M') (ne : a ≠ w) : Tb1 L' M' s b a Ra n ∧ mR M' Ra = mR M Ra := by
  obtain ⟨⟨h1, h2, h3, h4, ⟨h5, h6⟩, h7⟩, h8, h9, h10, h11⟩ := h
  have gg := q
  obtain ⟨o', -, l1, l2, f, na, ka⟩ := q
  have nR : Ra ≠ w := fun e => by rw [e, ka] at h3; omega
  have fa := f.2 a h5.1
  have fR := f.2 Ra h6.1
  have eR := fR.2.2.2.1 nR
  exact ⟨⟨⟨by rw [fa.1]; exact h1, by rw [fa.2.2.2.1 ne]; exact h2, by rw [fR.1]; exact h3, by rw [fR.2.1]; exact h4, ⟨gg.oc h5, gg.oc h6⟩, fun i hi => by rw [eR]; exact (gg.frl (h7 i hi)).1⟩, by rw [eR]; exact h8, by unfold RwD; rw [eR]; exact h9, h10, h11⟩, eR⟩
theorem Tk.gw (h : Tk M cn a Ra n) (h1 : Tb1 L M s b a Ra n) (q : Gw L W w M L' M') (ne : a ≠ w) : Tk M' cn a Ra n := by
  have eR := (h1.gw q ne).2
  have ea : mI M' a = mI M a := (q.2.2.2.2.1.2 a h1.1.2.2.2.2.1.1.1).2.2.2.2 (fun u => u)
  refine h.keep (Or.inl (by rw [ea])) eR (fun i hi => ?_)
  have fl := h1.1.2.2.2.2.2 i hi
  exact ⟨(q.rf fl.2.1).2.1, (q.rf fl.2.2).2.1, (q.frl fl).2⟩
/-- one place of a list of places is another -/
def up1 (f : Nat → Nat) (i x : Nat) : Nat → Nat := fun j => if j = i then x else f j
theorem up1_s {f : Nat → Nat} {x : Nat} : up1 f i x i = x := if_pos rfl
theorem up1_n {f : Nat → Nat} {x : Nat} (h : j ≠ i) : up1 f i x j = f j := if_neg h
/-- one table grows -/
theorem Tb0.gw {R' k' : Nat} (h : Tb0 L M s b v R k) (hb : b ≤ mZ M) (i4 : i < 4) (q : Gw L W (v i) M L' M') (te : RwT L' M' (v i) R' k') (hD : RwD M' R' k') (k5 : k' ≤ 512) (gr : R' = R i ∨ R' = mZ M) (p1 : ∀ j, j < k i → mR M' R' j = mR M (R i) j) (p2 : ∀ j, k i ≤ j → j < k' → mR M' R' j = mZ M + 1 + 5 * (j - k i)) : Tb0 L' M' s b v (up1 R i R') (up1 k i k') := by
  obtain ⟨h1, h2⟩ := h
  have ti := h1 i i4
  have lz : ∀ j, j < 4 → R j < mZ M := fun j hj => (h1 j hj).1.2.2.2.2.1.2.1
  have R5 : s + 134 < R' := by
    have a1 := ti.2.2.2.2.2
    have a2 := lz i i4
    rcases gr with e | e <;> omega
  have one : ∀ j, j < 4 → Tb1 L' M' s b (v j) (up1 R i R' j) (up1 k i k' j) := fun j hj => by
    by_cases c : j = i
    · subst c
      rw [up1_s, up1_s]
      refine ⟨te, fun l hl => ?_, hD, k5, ti.2.2.2.2.1, R5⟩
      by_cases c : l < k j
      · rw [p1 l c]; exact ti.2.1 l c
      · rw [p2 l (by omega) hl]; omega
    · rw [up1_n c, up1_n c]
      exact ((h1 j hj).gw q (h2 j i hj i4 c).2.1).1
  have two : ∀ l, l < 4 → l ≠ i → Rsp M' R' k' (R l) (k l) ∧ R' ≠ R l := fun l hl c => by
    have el := ((h1 l hl).gw q (h2 l i hl i4 c).2.1).2
    obtain ⟨o1, o2, o3⟩ := h2 i l i4 hl (fun e => c e.symm)
    refine ⟨fun x y hx hy => ?_, ?_⟩
    · rw [el]
      by_cases cx : x < k i
      · rw [p1 x cx]; exact o1 x y cx hy
      · rw [p2 x (by omega) hx]
        have fl := (h1 l hl).1.2.2.2.2.2 y hy
        have z3 := (q.2.1.1.lt fl.2.2).1
        exact ⟨by omega, by omega, by omega⟩
    · have := lz l hl
      rcases gr with e | e
      · rw [e]; exact o3
      · omega
  refine ⟨one, fun j l hj hl jl => ?_⟩
  have vv := (h2 j l hj hl jl).2.1
  by_cases c : j = i
  · subst c
    rw [up1_s, up1_s, up1_n (fun e => jl e.symm), up1_n (fun e => jl e.symm)]
    exact ⟨(two l hl (fun e => jl e.symm)).1, vv, (two l hl (fun e => jl e.symm)).2⟩
  · rw [up1_n c, up1_n c]
    by_cases c2 : l = i
    · subst c2
      rw [up1_s, up1_s]
      exact ⟨fun x y hx hy => ((two j hj c).1 y x hy hx).sym, vv, fun e => (two j hj c).2 e.symm⟩
    · rw [up1_n c2, up1_n c2]
      have ej := ((h1 j hj).gw q (h2 j i hj i4 c).2.1).2
      have el := ((h1 l hl).gw q (h2 l i hl i4 c2).2.1).2
      refine ⟨?_, vv, (h2 j l hj hl jl).2.2⟩
      unfold Rsp
      rw [ej, el]
      exact (h2 j l hj hl jl).1
end NCL
end
section
/-! The class's top: its numbers at rest. -/
section NCM
variable {G : mG} {d t g s b i j a Ra n cn cc bc z w : Nat} {v R k : Nat → Nat} {M M0 M' M1 : mM} {L L' : List Nat} {W : Nat → Nat} {T C S Z : Nat → Prop} {r : Prop}
/-- the Solver without a table -/
def Sb (L : List Nat) (W : Nat → Nat) (s g cn cc bc : Nat) (M : mM) : Prop := SG M s g cn cc bc ∧ (NF L W M ∧ SK L M (s + 1) ∧ RsK L M (s + 31) ∧ FrL L M (s + 130)) ∧ (∀ x, Stb s x → Oc L M x) ∧ (∀ i, i ≤ 9 → Oc L M (g + i))
theorem Sb.sva (h : Sb L W s g cn cc bc M) (hb : s + 134 < b) (ht : Tb1 L M s b a Ra n) : Sva L W s g a Ra n cn cc bc M := ⟨h.1, h.2.1, h.2.2.1, h.2.2.2, ht.1, fun i hi => by have := ht.2.1 i hi; omega, ht.2.2.1⟩
theorem Sva.sb (h : Sva L W s g a Ra n cn cc bc M) : Sb L W s g cn cc bc M := ⟨h.1, h.2.1, h.2.2.1, h.2.2.2.1⟩
/-- the numbers at rest: b is where the rows may begin -/
def Nms (L : List Nat) (W : Nat → Nat) (s g b cn cc bc : Nat) (v R k : Nat → Nat) (M : mM) : Prop := Sb L W s g cn cc bc M ∧ Tb0 L M s b v R k ∧ (s + 134 < b ∧ b ≤ mZ M) ∧ (∀ i, i < 4 → i ≠ 2 → Tk M cn (v i) (R i) (k i))
theorem chs_same (h : Chs M s g cn) (e3 : mI M' (s + 30) = mI M (s + 30)) (e4 : mI M' (g + 4) = mI M (g + 4)) : Chs M' s g cn := by
  unfold Chs at h ⊢
  rw [e3, e4]
  exact h
theorem tso_lo {x : Nat} (h : Tso s M Ra n x) : (s ≤ x ∧ x ≤ s + 134) ∨ Trw M Ra n x := by
  rcases h with u | ⟨u | ⟨i, hi, u⟩⟩ | u | u
  · left; unfold Tpk T4 Tor T2 at u; omega
  · left; omega
  · left; omega
  · left; unfold T2 at u; omega
  · exact Or.inr u
theorem cso_lo {x : Nat} (h : Cso s M Ra n x) : (s ≤ x ∧ x ≤ s + 134) ∨ Irw M Ra n x := by
  rcases h with u | u | u | u | u | u
  · left; unfold Ipk at u; omega
  · left; unfold Stb at u; omega
  · left; unfold S36 at u; omega
  · left; omega
  · left; omega
  · exact Or.inr u
/-- rows of two tables: what touches one leaves the other -/
theorem rsp_no {R1 k1 R2 k2 l : Nat} (h : Rsp M R1 k1 R2 k2) (hn : n ≤ k1) (hl : l < k2) : ¬ Trw M R1 n (mR M R2 l + 1) ∧ ¬ Trw M R1 n (mR M R2 l + 3) ∧ ¬ Irw M R1 n (mR M R2 l) := by
  refine ⟨?_, ?_, ?_⟩
  · rintro ⟨i, hi, u⟩
    obtain ⟨f1, f2, f3⟩ := h i l (by omega) hl
    unfold T2 at u
    omega
  · rintro ⟨i, hi, u⟩
    obtain ⟨f1, f2, f3⟩ := h i l (by omega) hl
    unfold T2 at u
    omega
  · rintro ⟨i, hi, u⟩
    obtain ⟨f1, f2, f3⟩ := h i l (by omega) hl
    omega
/-- a step of numbers that touches table i alone -/
theorem Nms.nx3 (h : Nms L W s g b cn cc bc v R k M) (i4 : i < 4) (q : NX L W T C r (s + 1) M M') (hn : n ≤ k i) (hT : ∀ x, T x → (s ≤ x ∧ x ≤ s + 134) ∨ Trw M (R i) n x) (hC : ∀ x, C x → (s ≤ x ∧ x ≤ s + 134) ∨ Irw M (R i) n x ∨ mK M x = 30) : Tb0 L M' s b v R k ∧ (∀ j, j < 4 → mR M' (R j) = mR M (R j) ∧ mI M' (v j) = mI M (v j)) ∧ (∀ j, j < 4 → j ≠ 2 → j ≠ i → Tk M' cn (v j) (R j) (k j)) := by
  obtain ⟨sb, tb, ⟨b1, b2⟩, tk⟩ := h
  have hF := sb.2.1.1
  have nC : ∀ j, j < 4 → ¬ C (v j) := fun j hj u => by
    have kv := (tb.1 j hj).1.1
    have lv := (tb.1 j hj).2.2.2.2.1
    rcases hC _ u with w | ⟨l, hl, w⟩ | w
    · omega
    · have := ((tb.1 i i4).1.2.2.2.2.2 l (by omega)).1.1
      rw [← w, kv] at this
      omega
    · rw [kv] at w
      exact absurd w (by decide)
  refine ⟨tb.nx q hF, fun j hj => ⟨((tb.1 j hj).nx q hF).2, ?_⟩, fun j hj j2 ji => ?_⟩
  · exact (q.oth (tb.1 j hj).1.2.2.2.2.1.1 (by have := (tb.1 j hj).2.2.2.2.1; omega)).2.2.2 (nC j hj)
  · refine (tk j hj j2).nx (tb.1 j hj) q hF (nC j hj) (fun l hl => ?_)
    have bl := (tb.1 j hj).2.1 l hl
    obtain ⟨n1, n2, n3⟩ := rsp_no (tb.2 i j i4 hj (fun e => ji e.symm)).1 hn hl
    refine ⟨fun u => ?_, fun u => ?_, fun u => ?_⟩
    · rcases hT _ u with w | w
      · omega
      · exact n1 w
    · rcases hT _ u with w | w
      · omega
      · exact n2 w
    · rcases hC _ u with w | w | w
      · omega
      · exact n3 w
      · rw [((tb.1 j hj).1.2.2.2.2.2 l hl).1.1] at w
        exact absurd w (by decide)
theorem Nms.nx (h : Nms L W s g b cn cc bc v R k M) (i4 : i < 4) (q : NX L W T C r (s + 1) M M') (hn : n ≤ k i) (hT : ∀ x, T x → (s ≤ x ∧ x ≤ s + 134) ∨ Trw M (R i) n x) (hC : ∀ x, C x → (s ≤ x ∧ x ≤ s + 134) ∨ Irw M (R i) n x) : Tb0 L M' s b v R k ∧ (∀ j, j < 4 → mR M' (R j) = mR M (R j) ∧ mI M' (v j) = mI M (v j)) ∧ (∀ j, j < 4 → j ≠ 2 → j ≠ i → Tk M' cn (v j) (R j) (k j)) := h.nx3 i4 q hn hT (fun x u => (hC x u).imp id Or.inl)
/-- the cells of the numbers -/
def Cnu (Z : Nat → Prop) (L : List Nat) (s : Nat) (v R k : Nat → Nat) (M : mM) : Prop := (∀ x, s ≤ x → x ≤ s + 134 → Z x) ∧ (∀ a, a ∈ L → Z a ∧ Z (mR M a 0)) ∧ (∀ i, i < 4 → Z (v i) ∧ Z (R i) ∧ ∀ j, j < k i → Z (mR M (R i) j)) ∧ (Z (R 4) ∧ Ot L M s (R 4) (k 4) ∧ Oc L M s)
/-- only cells of Z have changed -/
def FC (Z : Nat → Prop) (M M' : mM) : Prop := (mZ M ≤ mZ M' ∧ mS M ≤ mS M') ∧ ∀ x, x < mZ M → mK M' x = mK M x ∧ mN M' x = mN M x ∧ (¬ Z x → mL M' x = mL M x ∧ mR M' x = mR M x ∧ mI M' x = mI M x)
/-- with the cells that were made since -/
def Zn (Z : Nat → Prop) (M M' : mM) (x : Nat) : Prop := Z x ∨ (mZ M ≤ x ∧ x < mZ M')
theorem FC.refl : FC Z M M := ⟨⟨Nat.le_refl _, Nat.le_refl _⟩, fun _ _ => ⟨rfl, rfl, fun _ => ⟨rfl, rfl, rfl⟩⟩⟩
theorem FC.trans (h : FC Z M M1) (q : FC (Zn Z M M1) M1 M') : FC Z M M' := by
  obtain ⟨⟨h1, h2⟩, h3⟩ := h
  obtain ⟨⟨q1, q2⟩, q3⟩ := q
  refine ⟨⟨by omega, by omega⟩, fun x hx => ?_⟩
  obtain ⟨a1, a2, a3⟩ := h3 x hx
  obtain ⟨b1, b2, b3⟩ := q3 x (by omega)
  refine ⟨b1.trans a1, b2.trans a2, fun nz => ?_⟩
  have a := a3 nz
  have b := b3 (fun u => u.elim nz (fun u => by omega))
  exact ⟨b.1.trans a.1, b.2.1.trans a.2.1, b.2.2.trans a.2.2⟩
theorem FC.mono {Z' : Nat → Prop} (h : FC Z M M') (hz : ∀ x, x < mZ M → Z x → Z' x) : FC Z' M M' := ⟨h.1, fun x hx => ⟨(h.2 x hx).1, (h.2 x hx).2.1, fun nz => (h.2 x hx).2.2 (fun u => nz (hz x hx u))⟩⟩
theorem Zn.trans {x : Nat} (z1 : mZ M ≤ mZ M1) (z2 : mZ M1 ≤ mZ M') : Zn (Zn Z M M1) M1 M' x ↔ Zn Z M M' x := by
  unfold Zn
  constructor
  · rintro ((u | u) | u)
    · exact Or.inl u
    · right; omega
    · right; omega
  · rintro (u | u)
    · exact Or.inl (Or.inl u)
    · by_cases c : x < mZ M1
      · exact Or.inl (Or.inr ⟨u.1, c⟩)
      · right; omega
theorem FD.fc {S' R' D' : Nat → Prop} (h : FD S' R' D' M M') (h1 : ∀ x, S' x → Z x) (h2 : ∀ x, R' x → Z x) (h3 : ∀ x, D' x → Z x) : FC Z M M' := ⟨h.1, fun x hx => ⟨(h.2 x hx).1, (h.2 x hx).2.1, fun nz => ⟨(h.2 x hx).2.2.1 (fun u => nz (h3 x u)), (h.2 x hx).2.2.2.1 (fun u => nz (h2 x u)), (h.2 x hx).2.2.2.2 (fun u => nz (h1 x u))⟩⟩⟩
theorem FA.fc {S' R' : Nat → Prop} (h : FA S' R' M M') (h1 : ∀ x, S' x → Z x) (h2 : ∀ x, R' x → Z x) : FC Z M M' := ⟨h.1, fun x hx => ⟨(h.2 x hx).1, (h.2 x hx).2.1, fun nz => ⟨(h.2 x hx).2.2.1, (h.2 x hx).2.2.2.1 (fun u => nz (h2 x u)), (h.2 x hx).2.2.2.2 (fun u => nz (h1 x u))⟩⟩⟩
theorem FI.fc (h : FI S M M') (h1 : ∀ x, S x → Z x) : FC Z M M' := (h.fa (R := fun _ => False)).fc h1 (fun _ u => u.elim)
/-- a step of numbers: its cells, and the cells after it -/
theorem NX.fc (q : NX L W T C r (s + 1) M M') (hF : NF L W M) (hc : Cnu Z L s v R k M) (tb : Tb0 L M s b v R k) (hC : ∀ x, C x → Z x) : FC Z M M' ∧ Cnu (Zn Z M M') L s v R k M' := by
  obtain ⟨c1, c2, c3, c4, c5, c6⟩ := hc
  have hq := q
  obtain ⟨-, ⟨h2, -, hz⟩, h3, h4, -⟩ := q
  refine ⟨h3.fc (fun x u => ?_) (fun x u => ?_) (fun x u => ?_), fun x a1 a2 => Or.inl (c1 x a1 a2), fun a ha => ⟨Or.inl (c2 a ha).1, ?_⟩, fun i hi => ⟨Or.inl (c3 i hi).1, Or.inl (c3 i hi).2.1, fun j hj => ?_⟩, Or.inl c4, c5.nx hq hF c6, hq.oc hF c6⟩
  · rcases u with (u | ⟨t, ht, u⟩) | u
    · exact (c2 x (h2 x u)).1
    · rw [u]; exact (c2 t (h2 t ht)).2
    · exact hC x u
  · rcases u with u | u
    · exact (c2 x (h2 x u)).1
    · rw [u.1]; exact c1 _ (by omega) (by omega)
  · exact c1 x (by omega) (by omega)
  · by_cases c : T a
    · rcases h4 a c with e | e
      · rw [e]; exact Or.inl (c2 a ha).2
      · exact Or.inr ⟨e, (hq.nf.lt ha).2⟩
    · rw [(hq.num hF ha c).1]; exact Or.inl (c2 a ha).2
  · rw [((tb.1 i hi).nx hq hF).2]; exact Or.inl ((c3 i hi).2.2 j hj)
end NCM
end
section
/-! The class's top: steps of its numbers; the room they take. -/
section NCN
variable {G : mG} {d t g s b i j a Ra n cn cc bc z w R' k' : Nat} {v R k Rn kn : Nat → Nat} {M M0 M' M1 : mM} {L L' : List Nat} {W : Nat → Nat} {T C S Z : Nat → Prop} {r : Prop}
/-- the room of a table's array: the last growth may be a small one -/
def pk4 (k : Nat) : Nat := 2 * k + (if k = 512 then 512 else 0)
def Pn (L : List Nat) (k : Nat → Nat) (M : mM) : Nat := 2 * psum (cp M) L + (pk4 (k 0) + pk4 (k 1) + pk4 (k 2) + pk4 (k 3)) + k 4
def Qn (L : List Nat) (k : Nat → Nat) (M : mM) : Nat := psum (fun p => cp M p / 4) L + 4 * (k 0 + k 1 + k 2 + k 3) + k 4 / 2400
/-- the room that a step of numbers takes -/
def Rq (L : List Nat) (k : Nat → Nat) (M : mM) (L' : List Nat) (kn : Nat → Nat) (M' : mM) : Prop := mS M' + Pn L k M ≤ mS M + Pn L' kn M' ∧ mZ M' + Qn L k M ≤ mZ M + Qn L' kn M' ∧ L'.length + 2 * (k 0 + k 1 + k 2 + k 3) ≤ L.length + 2 * (kn 0 + kn 1 + kn 2 + kn 3) ∧ (∀ x, x ∈ L → x ∈ L') ∧ ∀ f, FrL L M f → FrL L' M' f
theorem Rq.refl : Rq L k M L k M := ⟨Nat.le_refl _, Nat.le_refl _, Nat.le_refl _, fun _ u => u, fun _ u => u⟩
theorem Rq.trans {L1 : List Nat} {k1 : Nat → Nat} (h : Rq L k M L1 k1 M1) (q : Rq L1 k1 M1 L' kn M') : Rq L k M L' kn M' := by
  obtain ⟨h1, h2, h3, h4, h5⟩ := h
  obtain ⟨q1, q2, q3, q4, q5⟩ := q
  exact ⟨by omega, by omega, by omega, fun x u => q4 x (h4 x u), fun f u => q5 f (h5 f u)⟩
theorem NX.rq (q : NX L W T C r z M M') (hF : NF L W M) : Rq L k M L k M' := by
  obtain ⟨h1, h2⟩ := q.2.2.2.2
  unfold Rq Pn Qn
  exact ⟨by omega, by omega, Nat.le_refl _, fun _ u => u, fun f u => (q.frl hF u).1⟩
theorem FI.rq (f : FI S M M') : Rq L k M L k M' := by
  have cc : cp M' = cp M := by funext x; unfold cp; rw [f.2.2.1, f.2.1]
  unfold Rq Pn Qn
  rw [cc, f.2.2.2.2.1, f.2.2.2.2.2.1]
  exact ⟨Nat.le_refl _, Nat.le_refl _, Nat.le_refl _, fun _ u => u, fun x u => u.fi f⟩
/-- a sum over four places of which one has changed -/
theorem four_up {f : Nat → Nat} (i4 : i < 4) : f (up1 k i k' 0) + f (up1 k i k' 1) + f (up1 k i k' 2) + f (up1 k i k' 3) + f (k i) = f (k 0) + f (k 1) + f (k 2) + f (k 3) + f k' := by
  have : i = 0 ∨ i = 1 ∨ i = 2 ∨ i = 3 := by omega
  rcases this with e | e | e | e <;> subst e <;> simp only [up1] <;> simp <;> omega
theorem rv_rq (i4 : i < 4) (gw : Gw L W w M L' M') (h : (M' = M ∧ L' = L ∧ R' = R i ∧ k' = k i) ∨ rvG L M (R i) (k i) L' M' R' k') : Rq L k M L' (up1 k i k') M' := by
  have l1 := gw.2.2.1
  have lf : ∀ f, FrL L M f → FrL L' M' f := fun f u => (gw.frl u).1
  clear gw
  have f1 := four_up (k := k) (k' := k') (f := pk4) i4
  have f2 := four_up (k := k) (k' := k') (f := fun x => x) i4
  have f4 : up1 k i k' 4 = k 4 := up1_n (by omega)
  rcases h with ⟨e1, e2, -, e4⟩ | ⟨-, ⟨c1, c2, c3⟩, l, ⟨z1, z2⟩, p1, p2⟩
  · subst e1 e2
    rw [e4] at f1 f2 f4 ⊢
    unfold Rq Pn Qn
    exact ⟨by omega, by omega, by omega, l1, lf⟩
  · have pk1 : pk4 (k i) + k' ≤ pk4 k' := by
      unfold pk4
      rw [if_neg (by omega)]
      split <;> omega
    unfold Rq Pn Qn
    exact ⟨by omega, by omega, by omega, l1, lf⟩
/-- ints of other cells change -/
theorem Nms.fi (h : Nms L W s g b cn cc bc v R k M) (f : FI S M M') (o : mOk M') (hS : ∀ x, S x → Oc L M x ∧ mK M x ≠ 11) (sb' : Sb L W s g cn cc bc M') (e1 : ∀ j, j < 4 → j ≠ 2 → mI M' (v j) 1 = mI M (v j) 1 ∨ mI M' (v j) 1 = 0) : Nms L W s g b cn cc bc v R k M' := by
  obtain ⟨sb, tb, ⟨b1, b2⟩, tk⟩ := h
  exact ⟨sb', tb.fi f, ⟨b1, by rw [f.2.2.2.2.1]; exact b2⟩, fun j hj j2 => (tk j hj j2).fi (tb.1 j hj) sb.2.1.1 f o sb.2.1.2.1.z9 hS (e1 j hj j2)⟩
theorem Nms.nx23 (h : Nms L W s g b cn cc bc v R k M) (i4 : i < 4) (q : NX L W T C r (s + 1) M M') (hn : n ≤ k i) (hT : ∀ x, T x → (s ≤ x ∧ x ≤ s + 134) ∨ Trw M (R i) n x) (hC : ∀ x, C x → (s ≤ x ∧ x ≤ s + 134) ∨ Irw M (R i) n x ∨ mK M x = 30) (sb' : Sb L W s g cn cc bc M') (ti : i ≠ 2 → Tk M' cn (v i) (R i) (k i)) : Nms L W s g b cn cc bc v R k M' := by
  obtain ⟨a1, a2, a3⟩ := h.nx3 i4 q hn hT hC
  refine ⟨sb', a1, ⟨h.2.2.1.1, Nat.le_trans h.2.2.1.2 q.2.2.1.1.1⟩, fun j hj j2 => ?_⟩
  by_cases c : j = i
  · subst c; exact ti j2
  · exact a3 j hj j2 c
theorem Nms.nx2 (h : Nms L W s g b cn cc bc v R k M) (i4 : i < 4) (q : NX L W T C r (s + 1) M M') (hn : n ≤ k i) (hT : ∀ x, T x → (s ≤ x ∧ x ≤ s + 134) ∨ Trw M (R i) n x) (hC : ∀ x, C x → (s ≤ x ∧ x ≤ s + 134) ∨ Irw M (R i) n x) (sb' : Sb L W s g cn cc bc M') (ti : i ≠ 2 → Tk M' cn (v i) (R i) (k i)) : Nms L W s g b cn cc bc v R k M' := h.nx23 i4 q hn hT (fun x u => (hC x u).imp id Or.inl) sb' ti
/-- one table grows, which isn't known -/
theorem Nms.gw (h : Nms L W s g b cn cc bc v R k M) (i4 : i < 4) (q : Gw L W (v i) M L' M') (te : Te L' W (s + 1) g (v i) R' k' M') (k5 : k' ≤ 512) (gr : (M' = M ∧ L' = L ∧ R' = R i ∧ k' = k i) ∨ rvG L M (R i) (k i) L' M' R' k') (p1 : ∀ j, j < k i → mR M' R' j = mR M (R i) j) (p2 : ∀ j, k i ≤ j → j < k' → mR M' R' j = mZ M + 1 + 5 * (j - k i)) (fl : mI M (v i) 1 = 0) : Nms L' W s g b cn cc bc v (up1 R i R') (up1 k i k') M' ∧ Sva L' W s g (v i) R' k' cn cc bc M' := by
  obtain ⟨sb, tb, ⟨b1, b2⟩, tk⟩ := h
  have gr' : R' = R i ∨ R' = mZ M := by
    rcases gr with e | e
    · exact Or.inl e.2.2.1
    · exact Or.inr e.1
  have tb' := tb.gw b2 i4 q te.2.2.1 te.2.2.2.2 k5 gr' p1 p2
  have ti' := tb'.1 i i4
  rw [up1_s, up1_s] at ti'
  obtain ⟨sv', -, -⟩ := (sb.sva b1 (tb.1 i i4)).gw q te (fun j hj => by have := ti'.2.1 j hj; omega)
  have ei : ∀ j, j < 4 → mI M' (v j) = mI M (v j) := fun j hj => (q.2.2.2.2.1.2 _ (tb.1 j hj).1.2.2.2.2.1.1.1).2.2.2.2 (fun u => u)
  refine ⟨⟨sv'.sb, tb', ⟨b1, Nat.le_trans b2 q.2.2.2.2.1.1.1⟩, fun j hj j2 => ?_⟩, sv'⟩
  by_cases c : j = i
  · subst c
    rw [up1_s, up1_s]
    intro kn
    rw [ei j hj] at kn
    exact absurd fl kn
  · rw [up1_n c, up1_n c]
    exact (tk j hj j2).gw (tb.1 j hj) q (tb.2 j i hj i4 c).2.1
/-- its cells -/
theorem Gw.fc (q : Gw L W (v i) M L' M') (i4 : i < 4) (hc : Cnu Z L s v R k M) (tb : Tb0 L M s b v R k) (te : Te L' W (s + 1) g (v i) R' k' M') (gr : (M' = M ∧ L' = L ∧ R' = R i ∧ k' = k i) ∨ rvG L M (R i) (k i) L' M' R' k') (p1 : ∀ j, j < k i → mR M' R' j = mR M (R i) j) (p2 : ∀ j, k i ≤ j → j < k' → mR M' R' j = mZ M + 1 + 5 * (j - k i)) : FC Z M M' ∧ Cnu (Zn Z M M') L' s v (up1 R i R') (up1 k i k') M' := by
  obtain ⟨c1, c2, c3, c4, c5, c6⟩ := hc
  have vi5 := (tb.1 i i4).2.2.2.2.1
  have l2 := q.2.2.2.1
  have f := q.2.2.2.2.1
  have fl := te.2.2.1.2.2.2.2.2
  refine ⟨f.fc (fun _ u => u.elim) (fun x u => by rw [u]; exact (c3 i i4).1), fun x a1 a2 => Or.inl (c1 x a1 a2), fun a ha => ?_, fun j hj => ⟨Or.inl (c3 j hj).1, ?_⟩, by rw [up1_n (show 4 ≠ i by omega)]; exact Or.inl c4, by rw [up1_n (show 4 ≠ i by omega), up1_n (show 4 ≠ i by omega)]; exact c5.gw q (by omega) c6.1, q.oc c6⟩
  · have lt := q.2.1.2.lt ha
    rcases l2 a ha with u | u
    · rw [(q.rf u).1]
      exact ⟨Or.inl (c2 a u).1, Or.inl (c2 a u).2⟩
    · exact ⟨Or.inr ⟨by omega, lt.1⟩, Or.inr ⟨by omega, lt.2⟩⟩
  · by_cases c : j = i
    · subst c
      rw [up1_s, up1_s]
      refine ⟨?_, fun l hl => ?_⟩
      · rcases gr with e | e
        · rw [e.2.2.1]; exact Or.inl (c3 j hj).2.1
        · rw [e.1]; exact Or.inr ⟨Nat.le_refl _, by have := e.2.2.2.1.1; omega⟩
      · by_cases cl : l < k j
        · rw [p1 l cl]; exact Or.inl ((c3 j hj).2.2 l cl)
        · have z := (fl l hl).1.2.2
          have e := p2 l (by omega) hl
          exact Or.inr ⟨by omega, z⟩
    · rw [up1_n c, up1_n c, ((tb.1 j hj).gw q (tb.2 j i hj i4 c).2.1).2]
      exact ⟨Or.inl (c3 j hj).2.1, fun l hl => Or.inl ((c3 j hj).2.2 l hl)⟩
theorem FI.cnu (f : FI S M M') (hc : Cnu Z L s v R k M) : Cnu (Zn Z M M') L s v R k M' := by
  obtain ⟨c1, c2, c3, c4, c5, c6⟩ := hc
  refine ⟨fun x a1 a2 => Or.inl (c1 x a1 a2), fun a ha => ?_, fun i hi => ?_, Or.inl c4, c5.fi f, c6.fi f⟩
  · rw [f.2.2.1]
    exact ⟨Or.inl (c2 a ha).1, Or.inl (c2 a ha).2⟩
  · rw [f.2.2.1]
    exact ⟨Or.inl (c3 i hi).1, Or.inl (c3 i hi).2.1, fun j hj => Or.inl ((c3 i hi).2.2 j hj)⟩
/-- the same cells by another name -/
theorem Cnu.cg {Z' : Nat → Prop} (hc : Cnu Z L s v R k M) (hz : ∀ x, Z x → Z' x) : Cnu Z' L s v R k M := ⟨fun x a b => hz x (hc.1 x a b), fun a ha => ⟨hz _ (hc.2.1 a ha).1, hz _ (hc.2.1 a ha).2⟩, fun i hi => ⟨hz _ (hc.2.2.1 i hi).1, hz _ (hc.2.2.1 i hi).2.1, fun j hj => hz _ ((hc.2.2.1 i hi).2.2 j hj)⟩, hz _ hc.2.2.2.1, hc.2.2.2.2⟩
end NCN
end
section
/-! The class's top: numbers of which nothing was touched. -/
section NCQ
variable {G : mG} {d t g s b e f i j a Ra n cn cc bc cn' cc' bc' z w x Y Cy : Nat} {v R k : Nat → Nat} {M M0 M' M1 : mM} {L L' : List Nat} {W : Nat → Nat} {T C S Z : Nat → Prop} {r : Prop}
theorem FC.sm (h : FC Z M M') (hx : x < mZ M) (nz : ¬ Z x) : Sm M M' x := ⟨(h.2 x hx).1, (h.2 x hx).2.1, ((h.2 x hx).2.2 nz).2.1, ((h.2 x hx).2.2 nz).2.2⟩
theorem SoT.sm (h : SoT M s g) (hs : ∀ x, s ≤ x → x ≤ s + 134 → Sm M M' x) : SoT M' s g := by
  have q := fun i (hi : i ≤ 134) => hs (s + i) (by omega) (by omega)
  obtain ⟨⟨a1, a2⟩, a3, a4, a5⟩ := h
  have s0 := hs s (by omega) (by omega)
  exact ⟨⟨by rw [s0.1]; exact a1, a2⟩, by rw [s0.2.2.1]; exact a3, by rw [(q 29 (by decide)).1, (q 30 (by decide)).1, (q 122 (by decide)).1, (q 123 (by decide)).1, (q 124 (by decide)).1, (q 125 (by decide)).1, (q 126 (by decide)).1, (q 128 (by decide)).1, (q 129 (by decide)).1]; exact a4, by rw [(q 29 (by decide)).2.1, (q 30 (by decide)).2.1, (q 122 (by decide)).2.1, (q 123 (by decide)).2.1, (q 124 (by decide)).2.1, (q 125 (by decide)).2.1, (q 126 (by decide)).2.1, (q 128 (by decide)).2.1, (q 129 (by decide)).2.1]; exact a5⟩
theorem SG.sm (h : SG M s g cn cc bc) (o : mOk M') (hs : ∀ x, s ≤ x → x ≤ s + 134 → Sm M M' x) (hg : ∀ i, i ≤ 9 → Sm M M' (g + i)) : SG M' s g cn cc bc := by
  obtain ⟨-, h2, ⟨b1, b2, b3, b4⟩, ⟨h4, h5⟩, h6⟩ := h
  have g0 := hg 0 (by decide)
  rw [Nat.add_zero] at g0
  exact ⟨o, h2.sm hs, ⟨by rw [g0.1]; exact b1, by rw [g0.2.2.1]; exact b2, fun i i1 i2 => by rw [(hg i i2).1]; exact b3 i i1 i2, by rw [(hg 2 (by decide)).2.1, (hg 4 (by decide)).2.1, (hg 6 (by decide)).2.1, (hg 7 (by decide)).2.1, (hg 8 (by decide)).2.1, (hg 9 (by decide)).2.1]; exact b4⟩, ⟨by rw [g0.2.2.1]; exact h4, by rw [(hg 3 (by decide)).2.1]; exact h5⟩, h6.same (fun i hi => (hg i hi).2.2.2)⟩
theorem Tb1.sm (h : Tb1 L M s b a Ra n) (ha : mK M' a = mK M a ∧ mR M' a = mR M a) (hR : Sm M M' Ra) (hrow : ∀ j, j < n → Sm M M' (mR M Ra j)) (hr : ∀ a, a ∈ L → mR M' a = mR M a) (hz : mZ M ≤ mZ M') : Tb1 L M' s b a Ra n := by
  obtain ⟨⟨h1, h2, h3, h4, ⟨h5, h6⟩, h7⟩, h8, h9, h10, h11⟩ := h
  exact ⟨⟨by rw [ha.1]; exact h1, by rw [ha.2]; exact h2, by rw [hR.1]; exact h3, by rw [hR.2.1]; exact h4, ⟨h5.sm hr hz, h6.sm hr hz⟩, fun i hi => by rw [hR.2.2.1]; exact (h7 i hi).sm (hrow i hi) hz⟩, by rw [hR.2.2.1]; exact h8, by unfold RwD; rw [hR.2.2.1]; exact h9, h10, h11⟩
/-- all cells of the numbers are the same, but for the marks of the tables -/
def Ks (L : List Nat) (s : Nat) (v R k : Nat → Nat) (M M' : mM) : Prop := mZ M ≤ mZ M' ∧ (∀ x, s ≤ x → x ≤ s + 134 → Sm M M' x) ∧ (∀ a, a ∈ L → Sm M M' a ∧ Sm M M' (mR M a 0)) ∧ (∀ i, i < 4 → (mK M' (v i) = mK M (v i) ∧ mR M' (v i) = mR M (v i)) ∧ Sm M M' (R i) ∧ ∀ j, j < k i → Sm M M' (mR M (R i) j))
/-- the same, without the Solver's own cell -/
def Ks0 (L : List Nat) (s : Nat) (v R k : Nat → Nat) (M M' : mM) : Prop := mZ M ≤ mZ M' ∧ (∀ x, s < x → x ≤ s + 134 → Sm M M' x) ∧ (∀ a, a ∈ L → Sm M M' a ∧ Sm M M' (mR M a 0)) ∧ (∀ i, i < 4 → (mK M' (v i) = mK M (v i) ∧ mR M' (v i) = mR M (v i)) ∧ Sm M M' (R i) ∧ ∀ j, j < k i → Sm M M' (mR M (R i) j))
theorem Nms.keep0 (h : Nms L W s g b cn cc bc v R k M) (hk : Ks0 L s v R k M M') (sg : SG M' s g cn' cc' bc') (tk : ∀ i, i < 4 → i ≠ 2 → mI M' (v i) 1 = 0 ∨ (mI M' (v i) 1 = mI M (v i) 1 ∧ cn' = cn) ∨ cn' = 0) : Nms L W s g b cn' cc' bc' v R k M' ∧ ∀ a, a ∈ L → cp M' a = cp M a := by
  obtain ⟨⟨-, ⟨hF, hS, hRs, hf⟩, hSt, hgo⟩, tb, ⟨b1, b2⟩, tk0⟩ := h
  obtain ⟨hz, k1, k2, k3⟩ := hk
  obtain ⟨F', nvs⟩ := hF.sm k2 hz
  have hr : ∀ a, a ∈ L → mR M' a = mR M a := fun a ha => (nvs a ha).2.2
  refine ⟨⟨⟨sg, ⟨F', hS.sm (k1 _ (by omega) (by omega)) (k1 _ (by omega) (by omega)) (k1 _ (by omega) (by omega)) (k1 _ (by omega) (by omega)) hz, hRs.sm (fun i hi => k1 _ (by omega) (by omega)) hr hz, hf.sm (k1 _ (by omega) (by omega)) hz⟩, fun x hx => (hSt x hx).sm hr hz, fun i hi => (hgo i hi).sm hr hz⟩, ⟨fun i hi => (tb.1 i hi).sm (k3 i hi).1 (k3 i hi).2.1 (k3 i hi).2.2 hr hz, fun i j hi hj ij => ⟨?_, (tb.2 i j hi hj ij).2⟩⟩, ⟨b1, by omega⟩, fun i hi i2 => ?_⟩, fun a ha => (nvs a ha).2.1⟩
  · unfold Rsp
    rw [(k3 i hi).2.1.2.2.1, (k3 j hj).2.1.2.2.1]
    exact (tb.2 i j hi hj ij).1
  · rcases tk i hi i2 with e | ⟨e, ec⟩ | ec
    · intro kn
      exact absurd e kn
    · rw [ec]
      refine (tk0 i hi i2).keep (Or.inl e) (k3 i hi).2.1.2.2.1 (fun l hl => ?_)
      have fl := (tb.1 i hi).1.2.2.2.2.2 l hl
      exact ⟨(nvs _ fl.2.1).1, (nvs _ fl.2.2).1, ((k3 i hi).2.2 l hl).2.2.2⟩
    · subst ec
      exact fun _ => ⟨Nat.zero_le _, fun l hl => absurd hl (Nat.not_lt_zero _), fun l hl => absurd hl (Nat.not_lt_zero _)⟩
theorem Nms.keep (h : Nms L W s g b cn cc bc v R k M) (hk : Ks L s v R k M M') (sg : SG M' s g cn' cc' bc') (tk : ∀ i, i < 4 → i ≠ 2 → mI M' (v i) 1 = 0 ∨ (mI M' (v i) 1 = mI M (v i) 1 ∧ cn' = cn) ∨ cn' = 0) : Nms L W s g b cn' cc' bc' v R k M' ∧ ∀ a, a ∈ L → cp M' a = cp M a := h.keep0 ⟨hk.1, fun x a b => hk.2.1 x (Nat.le_of_lt a) b, hk.2.2⟩ sg tk
/-- the room of the numbers is the same -/
theorem pn_cg (hc : ∀ a, a ∈ L → cp M' a = cp M a) : Pn L k M' = Pn L k M ∧ Qn L k M' = Qn L k M := by
  unfold Pn Qn
  rw [psum_cg L hc, psum_cg (f := fun p => cp M' p / 4) (g := fun p => cp M p / 4) L (fun p hp => by show cp M' p / 4 = cp M p / 4; rw [hc p hp])]
  exact ⟨rfl, rfl⟩
/-- the cells of the numbers -/
def Zm (L : List Nat) (s : Nat) (v R k : Nat → Nat) (M : mM) (x : Nat) : Prop := (s ≤ x ∧ x ≤ s + 134) ∨ x ∈ L ∨ (∃ a, a ∈ L ∧ x = mR M a 0) ∨ ∃ i, i < 4 ∧ (x = v i ∨ x = R i ∨ ∃ j, j < k i ∧ x = mR M (R i) j)
theorem zm_in (hc : Cnu Z L s v R k M) : ∀ x, Zm L s v R k M x → Z x := fun x u => by
  rcases u with u | u | ⟨a, ha, u⟩ | ⟨i, hi, u | u | ⟨j, hj, u⟩⟩
  · exact hc.1 x u.1 u.2
  · exact (hc.2.1 x u).1
  · rw [u]; exact (hc.2.1 a ha).2
  · rw [u]; exact (hc.2.2.1 i hi).1
  · rw [u]; exact (hc.2.2.1 i hi).2.1
  · rw [u]; exact (hc.2.2.1 i hi).2.2 j hj
/-- what leaves them alone -/
theorem FC.ks (f : FC Z M M') (h : Nms L W s g b cn cc bc v R k M) (hz : ∀ x, Zm L s v R k M x → ¬ Z x ∨ ∃ i, i < 4 ∧ x = v i ∧ mR M' x = mR M x) : Ks L s v R k M M' := by
  have tb := h.2.1
  have hF := h.1.2.1.1
  have hk : ∀ i, i < 4 → mK M (v i) = 13 := fun i hi => (tb.1 i hi).1.1
  have sm : ∀ x, x < mZ M → Zm L s v R k M x → mK M x ≠ 13 → Sm M M' x := fun x hx zx k13 => by
    rcases hz x zx with u | ⟨i, hi, u, -⟩
    · exact f.sm hx u
    · rw [u] at k13; exact absurd (hk i hi) k13
  have zz := h.2.2.1
  refine ⟨f.1.1, fun x a1 a2 => ?_, fun a ha => ⟨sm a (hF.lt ha).1 (Or.inr (Or.inl ha)) (by rw [hF.kd ha]; decide), sm _ (hF.lt ha).2 (Or.inr (Or.inr (Or.inl ⟨a, ha, rfl⟩))) (by rw [hF.ka ha]; decide)⟩, fun i hi => ⟨⟨?_, ?_⟩, ?_, fun j hj => ?_⟩⟩
  · rcases hz x (Or.inl ⟨a1, a2⟩) with u | ⟨i, hi, u, -⟩
    · exact f.sm (by omega) u
    · have := (tb.1 i hi).2.2.2.2.1; omega
  · exact (f.2 _ (tb.1 i hi).1.2.2.2.2.1.1.1).1
  · have lt := (tb.1 i hi).1.2.2.2.2.1.1.1
    rcases hz (v i) (Or.inr (Or.inr (Or.inr ⟨i, hi, Or.inl rfl⟩))) with u | ⟨-, -, -, u⟩
    · exact ((f.2 _ lt).2.2 u).2.1
    · exact u
  · exact sm _ (tb.1 i hi).1.2.2.2.2.1.2.1 (Or.inr (Or.inr (Or.inr ⟨i, hi, Or.inr (Or.inl rfl)⟩))) (by rw [(tb.1 i hi).1.2.2.1]; decide)
  · have fl := (tb.1 i hi).1.2.2.2.2.2 j hj
    exact sm _ fl.1.2.2 (Or.inr (Or.inr (Or.inr ⟨i, hi, Or.inr (Or.inr ⟨j, hj, rfl⟩)⟩))) (by rw [fl.1.1]; decide)
/-- a step elsewhere -/
theorem Nms.off (h : Nms L W s g b cn cc bc v R k M) (f : FC Z M M') (o : mOk M') (hz : ∀ x, Zm L s v R k M x → ¬ Z x) (hg : ∀ i, i ≤ 9 → ¬ Z (g + i)) : Nms L W s g b cn cc bc v R k M' ∧ Ks L s v R k M M' ∧ ∀ a, a ∈ L → cp M' a = cp M a := by
  have bz := h.2.2.1
  have ks := f.ks h (fun x u => Or.inl (hz x u))
  obtain ⟨a1, a2⟩ := h.keep ks (h.1.1.sm o (fun x a b => f.sm (by omega) (hz x (Or.inl ⟨a, b⟩))) (fun i hi => f.sm (h.1.2.2.2 i hi).1 (hg i hi))) (fun i hi i2 => Or.inr (Or.inl ⟨by rw [(f.sm (h.2.1.1 i hi).1.2.2.2.2.1.1.1 (hz _ (Or.inr (Or.inr (Or.inr ⟨i, hi, Or.inl rfl⟩))))).2.2.2], rfl⟩))
  exact ⟨a1, ks, a2⟩
theorem Ks.cnu {Y' : Nat → Prop} (hk : Ks L s v R k M M') (f : FC Y' M M') (hc : Cnu Z L s v R k M) : Cnu Z L s v R k M' := by
  obtain ⟨hz, k1, k2, k3⟩ := hk
  obtain ⟨d1, ⟨⟨d2, d3, d4⟩, d5, d6⟩, d7⟩ := hc.2.2.2
  have hr : ∀ a, a ∈ L → mR M' a = mR M a := fun a ha => (k2 a ha).1.2.2.1
  refine ⟨hc.1, fun a ha => by rw [(k2 a ha).1.2.2.1]; exact hc.2.1 a ha, fun i hi => ?_, d1, ⟨⟨by rw [(k1 s (Nat.le_refl _) (by omega)).2.2.1]; exact d2, by rw [(f.2 _ d5.1).1]; exact d3, by rw [(f.2 _ d5.1).2.1]; exact d4⟩, d5.sm hr hz, d6⟩, d7.sm hr hz⟩
  rw [(k3 i hi).2.1.2.2.1]
  exact hc.2.2.1 i hi
/-- what lies outside is no number and no limbs -/
theorem Cnu.oc (h : Cnu Z L s v R k M) (hx : x < mZ M) (nz : ¬ Z x) : Oc L M x := ⟨hx, fun u => nz (h.2.1 x u).1, fun a ha e => nz (by rw [← e]; exact (h.2.1 a ha).2)⟩
/-- a table is known -/
theorem Nms.mark (h : Nms L W s g b cn cc bc v R k M) (i4 : i < 4) (tk : cn ≤ k i ∧ Rsm M (R i) cn 17 ∧ Rt1 M (R i) cn) (e : M' = mUI M (v i) 1 1) : Nms L W s g b cn cc bc v R k M' ∧ FI (fun x => x = v i) M M' ∧ mOk M' := by
  have sv := h.1.sva h.2.2.1.1 (h.2.1.1 i i4)
  have f5 : FI (fun x => x = v i) M M' := by rw [e]; exact FI.ui rfl
  have o5 : mOk M' := by rw [e]; exact mOk_UI sv.1.1 ⟨by decide, by decide⟩
  obtain ⟨S5, n5, r5⟩ := sv.fi (f5.mono (fun x u => Or.inl u)) o5
  have rows := sv.2.2.2.2.1.2.2.2.2.2
  refine ⟨⟨S5.sb, h.2.1.fi f5, ⟨h.2.2.1.1, by rw [f5.2.2.2.2.1]; exact h.2.2.1.2⟩, fun j hj j2 => ?_⟩, f5, o5⟩
  by_cases c : j = i
  · subst c
    obtain ⟨c1, lr, lt⟩ := tk
    refine fun _ => ⟨c1, fun l hl => ?_, fun l hl => ?_⟩
    · rw [f5.2.2.1, n5 _ (rows l (by omega)).2.1, n5 _ (rows l (by omega)).2.2]; exact lr l hl
    · rw [f5.2.2.1, r5 l (by omega)]; exact lt l hl
  · exact (h.2.2.2 j hj j2).fi (h.2.1.1 j hj) sv.2.1.1 f5 o5 sv.z9 (fun x u => by rw [u]; exact ⟨(h.2.1.1 i i4).1.2.2.2.2.1.1, by rw [(h.2.1.1 i i4).1.1]; decide⟩) (Or.inl (by rw [f5.2.2.2.2.2.2 _ (fun u => (h.2.1.2 j i hj i4 c).2.1 u)]))
end NCQ
end
section
/-! The class's top: what workOut leaves of the numbers. -/
section NCO
variable {G : mG} {d t g s b i j a Ra n cn cc bc z w R' k' : Nat} {v R k Rn kn : Nat → Nat} {M M0 M' M1 : mM} {L L' L1 : List Nat} {W : Nat → Nat} {T C S Z : Nat → Prop} {r : Prop}
/-- a step and the cells of the numbers after it -/
def Sp (Z : Nat → Prop) (s : Nat) (v : Nat → Nat) (M M' : mM) (L : List Nat) (R k : Nat → Nat) : Prop := FC Z M M' ∧ Cnu (Zn Z M M') L s v R k M'
theorem Sp.trans {R1 k1 : Nat → Nat} (h : Sp Z s v M M1 L1 R1 k1) (q : Sp (Zn Z M M1) s v M1 M' L' Rn kn) : Sp Z s v M M' L' Rn kn := ⟨h.1.trans q.1, q.2.cg (fun _ u => (Zn.trans h.1.1.1 q.1.1.1).mp u)⟩
theorem Cnu.sp (hc : Cnu Z L s v R k M) : Sp Z s v M M L R k := ⟨FC.refl, hc.cg (fun _ u => Or.inl u)⟩
/-- what a step on table i leaves of the numbers -/
def nmQ (Z : Nat → Prop) (L : List Nat) (W : Nat → Nat) (s g b cn cc bc : Nat) (v k : Nat → Nat) (i : Nat) (M M' : mM) : Prop := ∃ L' Rn kn, Nms L' W s g b cn cc bc v Rn kn M' ∧ Sp Z s v M M' L' Rn kn ∧ Rq L k M L' kn M' ∧ (∀ j, j ≤ 9 → mI M' (g + j) = mI M (g + j)) ∧ (∀ j, j < 4 → j ≠ i → mI M' (v j) = mI M (v j))
theorem Sva.stk (h : Sva L W s g a Ra n cn cc bc M) : ∀ x, Sta s a x → mK M x ≠ 11 := fun x u => by
  have ka := h.2.2.2.2.1.1
  obtain ⟨⟨-, ⟨⟨s0, -⟩, -, ⟨k1, k2, k3, k4, k5, k6, k7, k8, k9⟩, -⟩, -⟩, -⟩ := id h
  rcases u with u | u
  · rw [u]; omega
  · unfold Stb at u
    rcases u with u | u | u | u | u | u | u | u | u | u <;> rw [u] <;> omega
/-- workOut's beginning -/
theorem Nms.wo (h : Nms L W s g b cn cc bc v R k M) (hc : Cnu Z L s v R k M) (i4 : i < 4) (wo : woI L W s g (v i) (R i) (k i) cn cc bc M M1) : Nms L W s g b cn cc bc v R k M1 ∧ Sp Z s v M M1 L R k ∧ Rq L k M L k M1 ∧ (∀ j, j ≤ 9 → mI M1 (g + j) = mI M (g + j)) ∧ (∀ j, j < 4 → j ≠ i → mI M1 (v j) = mI M (v j)) := by
  have sv := h.1.sva h.2.2.1.1 (h.2.1.1 i i4)
  obtain ⟨o1, f1, S1, e30, fl⟩ := wo
  have vj : ∀ j, j < 4 → j ≠ i → mI M1 (v j) = mI M (v j) := fun j hj ji => f1.2.2.2.2.2.2 _ (fun u => by
    rcases u with u | u
    · exact (h.2.1.2 j i hj i4 ji).2.1 u
    · have := (h.2.1.1 j hj).2.2.2.2.1
      unfold Stb at u
      omega)
  refine ⟨h.fi f1 o1 (fun x u => ⟨sv.sta x u, sv.stk x u⟩) S1.sb (fun j hj j2 => ?_), ⟨f1.fc (fun x u => ?_), f1.cnu hc⟩, f1.rq, fun j hj => f1.2.2.2.2.2.2 _ (sv.gst hj), vj⟩
  · by_cases c : j = i
    · subst c; exact Or.inr fl
    · exact Or.inl (by rw [vj j hj c])
  · rcases u with u | u
    · rw [u]; exact (hc.2.2.1 i i4).1
    · exact hc.1 x (by unfold Stb at u; omega) (by unfold Stb at u; omega)
/-- the list grows -/
theorem Nms.gro (h : Nms L W s g b cn cc bc v R k M) (q : Gro s M M') : Nms L W s g b cn cc bc v R k M' ∧ Sva L W s g (v 0) (R 0) (k 0) cn cc bc M' ∧ Ot L M' s (mZ M) 2400 ∧ (∀ x, x < mZ M → mI M' x = mI M x) ∧ (∀ a, a ∈ L → cp M' a = cp M a ∧ mR M' a = mR M a) := by
  have hz : s + 134 < mZ M := by
    have := h.2.2.1
    omega
  have sv := h.1.sva h.2.2.1.1 (h.2.1.1 0 (by decide))
  obtain ⟨S', ot, ls, I', -⟩ := sv.gro hz q
  have hF := h.1.2.1.1
  have os := h.1.2.2.1 s (Or.inl rfl)
  have b1 := h.2.2.1.1
  have zz := q.new.2.2.1
  refine ⟨(h.keep0 ⟨by omega, fun x a1 a2 => q.sm (by omega) (by omega), fun a ha => ⟨q.sm (hF.lt ha).1 (fun u => os.2.1 (by rw [← u]; exact ha)), q.sm (hF.lt ha).2 (os.2.2 a ha)⟩, fun i hi => ?_⟩ S'.1 (fun i hi i2 => Or.inr (Or.inl ⟨by rw [I' _ (h.2.1.1 i hi).1.2.2.2.2.1.1.1], rfl⟩))).1, S', ot, I', fun a ha => ⟨(ls a ha).2.1, (ls a ha).2.2⟩⟩
  have ti := h.2.1.1 i hi
  have l5 := ti.2.2.2.2
  have sv' := q.sm ti.1.2.2.2.2.1.1.1 (show v i ≠ s by omega)
  exact ⟨⟨sv'.1, sv'.2.2.1⟩, q.sm ti.1.2.2.2.2.1.2.1 (by omega), fun j hj => q.sm (ti.1.2.2.2.2.2 j hj).1.2.2 (by have := ti.2.1 j hj; omega)⟩
theorem Nms.cgr {R2 k2 : Nat → Nat} (h : Nms L W s g b cn cc bc v R k M) (e : ∀ i, i < 4 → R2 i = R i ∧ k2 i = k i) : Nms L W s g b cn cc bc v R2 k2 M := ⟨h.1, ⟨fun i hi => by rw [(e i hi).1, (e i hi).2]; exact h.2.1.1 i hi, fun i j hi hj ij => by rw [(e i hi).1, (e i hi).2, (e j hj).1, (e j hj).2]; exact h.2.1.2 i j hi hj ij⟩, h.2.2.1, fun i hi i2 => by rw [(e i hi).1, (e i hi).2]; exact h.2.2.2 i hi i2⟩
theorem up1_id {f : Nat → Nat} : up1 f i (f i) = f := by
  funext j
  unfold up1
  split
  · rename_i e; rw [e]
  · rfl
theorem Nms.gr1 {M5 : mM} {O' n' : Nat} (h : Nms L W s g b cn cc bc v R k M) (hc : Cnu Z L s v R k M) (q : gr1 s M M5 (R 4) (k 4) O' n') : Nms L W s g b cn cc bc v (up1 R 4 O') (up1 k 4 n') M5 ∧ Sp Z s v M M5 L (up1 R 4 O') (up1 k 4 n') ∧ Rq L k M L (up1 k 4 n') M5 ∧ ∀ x, x < mZ M → mI M5 x = mI M x := by
  rcases q with ⟨e, e1, e2⟩ | ⟨e0, gq, e1, e2⟩
  · rw [e, e1, e2, up1_id, up1_id]
    exact ⟨h, hc.sp, Rq.refl, fun _ _ => rfl⟩
  obtain ⟨N, S', ot, I', ls⟩ := h.gro gq
  obtain ⟨c1, c2, c3, c4, c5, c6⟩ := hc
  obtain ⟨z1, z2, z3, z4, -⟩ := gq.new
  obtain ⟨w1, w2, w3, w4, w5⟩ := gq.own c6.1
  have n0 : ∀ j, j < 4 → up1 R 4 O' j = R j ∧ up1 k 4 n' j = k j := fun j hj => ⟨up1_n (by omega), up1_n (by omega)⟩
  rw [e1, e2] at n0 ⊢
  refine ⟨N.cgr n0, ⟨⟨⟨by omega, by omega⟩, fun x hx => ?_⟩, fun x a1 a2 => Or.inl (c1 x a1 a2), fun a ha => ?_, fun i hi => ?_, ?_, ?_, c6.sm (fun a ha => (ls a ha).2) (by omega)⟩, ?_, I'⟩
  · by_cases c : x = s
    · rw [c]
      exact ⟨w1, w2, fun nz => absurd (c1 s (Nat.le_refl _) (by omega)) nz⟩
    · have sm := gq.sm hx c
      exact ⟨sm.1, sm.2.1, fun _ => ⟨gq.lng hx, sm.2.2.1, sm.2.2.2⟩⟩
  · rw [(ls a ha).2]
    exact ⟨Or.inl (c2 a ha).1, Or.inl (c2 a ha).2⟩
  · have ti := h.2.1.1 i hi
    have l5 := ti.2.2.2.2
    have sR := gq.sm ti.1.2.2.2.2.1.2.1 (show R i ≠ s by omega)
    rw [(n0 i hi).1, (n0 i hi).2, sR.2.2.1]
    exact ⟨Or.inl (c3 i hi).1, Or.inl (c3 i hi).2.1, fun j hj => Or.inl ((c3 i hi).2.2 j hj)⟩
  · rw [up1_s]
    exact Or.inr ⟨Nat.le_refl _, by omega⟩
  · rw [up1_s, up1_s]
    exact ot
  · have q0 := (n0 0 (by decide)).2
    have q1 := (n0 1 (by decide)).2
    have q2 := (n0 2 (by decide)).2
    have q3 := (n0 3 (by decide)).2
    have p1 : psum (cp M5) L = psum (cp M) L := psum_cg L (fun a ha => (ls a ha).1)
    have p2 : psum (fun p => cp M5 p / 4) L = psum (fun p => cp M p / 4) L := psum_cg L (fun a ha => by show cp M5 a / 4 = cp M a / 4; rw [(ls a ha).1])
    unfold Rq Pn Qn
    rw [q0, q1, q2, q3, up1_s, p1, p2, e0]
    refine ⟨by omega, by omega, Nat.le_refl _, fun _ u => u, fun f u => u.sm (gq.sm u.1.2.2 (fun e => ?_)) (by omega)⟩
    have k11 := u.1.1
    rw [e, h.1.1.2.1.1.1] at k11
    exact absurd k11 (by decide)
theorem Nms.work {kp : Int} (hkp : i32 kp) (h : Nms L W s g b cn cc bc v R k M) (hc : Cnu Z L s v R k M) (i4 : i < 4) (ht : Tld M g cn kp) (hWr : ∀ x, b ≤ x → 17 ≤ W x ∧ W x ≤ 20000) (hWs : ∀ x, s ≤ x → x ≤ s + 134 → 300 ≤ W x) : Ci G y_So_workOut (d + 8) [vr s, vi kp, vr (v i)] M (fun x M' => (x = 0 ∨ x = 5 ∨ x = 6) ∧ nmQ Z L W s g b cn cc bc v k i M M' ∧ mI M' (s + 30) = mI M (s + 30) ∧ (x ≠ 0 → mI M' (v i) 1 = 0) ∧ (x = 0 → mI M' (v i) 1 = 1) ∧ (kp = 0 → kdT (xtm M g cn) → svA9 (xtm M g cn) x)) := by
  have sv := h.1.sva h.2.2.1.1 (h.2.1.1 i i4)
  have bz := h.2.2.1
  have rb := (h.2.1.1 i i4).2.1
  refine (s_So_workOut (d := d) (B := 300) hkp sv hc.2.2.2.2.1 (h.2.1.1 i i4).2.2.2.1 (by omega) ht (fun l hl => ?_) (fun x hx => hWr x (by omega)) (fun x u => ?_) (fun x u => ?_) (by decide) (by decide)).mono (fun x M' q => ?_)
  · have := rb l hl
    exact ⟨(hWr _ (by omega)).1, (hWr _ (by omega)).1⟩
  · have := hWs x (by rcases u with u | ⟨i, hi, u⟩ <;> omega) (by rcases u with u | ⟨i, hi, u⟩ <;> omega)
    omega
  · exact hWs x (by unfold Tat Tpk T4 Tor T2 at u; omega) (by unfold Tat Tpk T4 Tor T2 at u; omega)
  obtain ⟨q, qsv⟩ := q
  rcases q with ⟨hx, wo⟩ | ⟨hx, M1, L', R', k', M2, M3, un, wt, M4, M5, O', n', M6, wo, gw, te, gr, ⟨c1, c2, k5⟩, p1, p2, nb, lo, gq, l2, eM, e30⟩
  · obtain ⟨N1, P1, Q1, G1, V1⟩ := h.wo hc i4 wo
    exact ⟨Or.inr hx, ⟨L, R, k, N1, P1, Q1, G1, V1⟩, wo.2.2.2.1, fun _ => wo.2.2.2.2, fun e => by omega, qsv⟩
  · obtain ⟨N1, P1, Q1, G1, V1⟩ := h.wo hc i4 wo
    have p2' : ∀ j, k i ≤ j → j < k' → mR M2 R' j = mZ M1 + 1 + 5 * (j - k i) := fun j a b => (p2 j a b).1
    obtain ⟨N2, S2⟩ := N1.gw i4 gw te k5 gr p1 p2' wo.2.2.2.2
    have P2 := P1.trans (gw.fc i4 P1.2 N1.2.1 te gr p1 p2')
    have Q2 := Q1.trans (rv_rq (R := R) i4 gw gr)
    have FB := S2.2.1.1
    have ti2 := N2.2.1.1 i i4
    rw [up1_s, up1_s] at ti2
    have nbx : NX L' W (Tso s M2 R' cn) (Cso s M2 R' cn) True (s + 1) M2 M3 := (nb.nx FB).mono FB (fun _ u => Or.inr (Or.inr (Or.inr u))) (S2.tl c1) (fun _ u => Or.inr (Or.inr (Or.inr (Or.inr (Or.inr u))))) (S2.cl c1) (fun u => u.elim)
    obtain ⟨lN, lS, lR, ⟨lr, lt⟩, -⟩ := lo
    have eR3 := (ti2.nx (nb.nx FB) FB).2
    obtain ⟨eT, eC⟩ := tso_e (s := s) (cn := cn) eR3
    rw [eT, eC] at lN
    have q24 := nbx.trans lN
    have hT : ∀ x, Tso s M2 R' cn x → (s ≤ x ∧ x ≤ s + 134) ∨ Trw M2 (up1 R i R' i) cn x := fun x u => by rw [up1_s]; exact tso_lo u
    have hC : ∀ x, Cso s M2 R' cn x → (s ≤ x ∧ x ≤ s + 134) ∨ Irw M2 (up1 R i R' i) cn x := fun x u => by rw [up1_s]; exact cso_lo u
    have ck : cn ≤ up1 k i k' i := by rw [up1_s]; exact c1
    have N4 : Nms L' W s g b cn cc bc v (up1 R i R') (up1 k i k') M4 := N2.nx2 i4 q24 ck hT hC lS.sb (fun _ => by rw [up1_s, up1_s]; exact fun _ => ⟨c1, lr, lt⟩)
    have V4 := (N2.nx i4 q24 ck hT hC).2.1
    have P4 := P2.trans (q24.fc FB P2.2 N2.2.1 (fun x u => by
      rcases hC x u with w | ⟨l, hl, w⟩
      · exact P2.2.1 x w.1 w.2
      · rw [w]; exact (P2.2.2.2.1 i i4).2.2 l (by omega)))
    have Q4 : Rq L k M L' (up1 k i k') M4 := Q2.trans (q24.rq FB)
    have G4 := (S2.nx c1 q24 lS.2.1.2.1).2.1
    have r4 : up1 R i R' 4 = R 4 := up1_n (by omega)
    have k4 : up1 k i k' 4 = k 4 := up1_n (by omega)
    rw [← r4, ← k4] at gq
    obtain ⟨N5, P45, Q45, I5⟩ := N4.gr1 P4.2 gq
    have P5 := P4.trans P45
    have Q5 := Q4.trans Q45
    have ri : up1 (up1 R i R') 4 O' i = R' := by rw [up1_n (by omega), up1_s]
    have ki : up1 (up1 k i k') 4 n' i = k' := by rw [up1_n (by omega), up1_s]
    have S5 := N5.1.sva N5.2.2.1.1 (N5.2.1.1 i i4)
    rw [ri, ki] at S5
    have ot5 : Ot L' M5 s O' n' := by
      have := P5.2.2.2.2.2.1
      rw [up1_s, up1_s] at this
      exact this
    have zO : Zn Z M M5 O' := by
      have := P5.2.2.2.2.1
      rw [up1_s] at this
      exact this
    obtain ⟨lN2, S6, lR2, ⟨lr2, lt2⟩, -⟩ := l2
    have hT6 : ∀ x, Tso s M5 R' cn x → (s ≤ x ∧ x ≤ s + 134) ∨ Trw M5 (up1 (up1 R i R') 4 O' i) cn x := fun x u => by rw [ri]; exact tso_lo u
    have hC6 : ∀ x, Co2 s M5 R' cn O' x → (s ≤ x ∧ x ≤ s + 134) ∨ Irw M5 (up1 (up1 R i R') 4 O' i) cn x ∨ mK M5 x = 30 := fun x u => by
      rw [ri]
      rcases u with u | u
      · exact (cso_lo u).imp id Or.inl
      · exact Or.inr (Or.inr (by rw [u]; exact ot5.1.2.1))
    have ck6 : cn ≤ up1 (up1 k i k') 4 n' i := by rw [ki]; exact c1
    have F5 := S5.2.1.1
    have N6 : Nms L' W s g b cn cc bc v (up1 (up1 R i R') 4 O') (up1 (up1 k i k') 4 n') M6 := N5.nx23 i4 lN2 ck6 hT6 hC6 S6.sb (fun _ => by rw [ri, ki]; exact fun _ => ⟨c1, lr2, lt2⟩)
    have V6 := (N5.nx3 i4 lN2 ck6 hT6 hC6).2.1
    have P6 := P5.trans (lN2.fc F5 P5.2 N5.2.1 (fun x u => by
      rcases u with u | u
      · rcases cso_lo u with w | ⟨l, hl, w⟩
        · exact P5.2.1 x w.1 w.2
        · have := (P5.2.2.2.1 i i4).2.2 l (by rw [ki]; omega)
          rw [ri] at this
          rw [w]; exact this
      · rw [u]; exact zO))
    have Q6 : Rq L k M L' (up1 (up1 k i k') 4 n') M6 := Q5.trans (lN2.rq F5)
    have gs := S5.1.2.1.1.2
    have G6 := (S5.nxg lN2 (fun j hj u => by
      rcases u with u | u
      · exact S5.gC c1 hj u
      · have := ot5.2.2
        omega) S6.2.1.2.1).2.1
    have f5 : FI (fun x => x = v i) M6 M' := by rw [eM]; exact FI.ui rfl
    have o5 : mOk M' := by rw [eM]; exact mOk_UI S6.1.1 ⟨by decide, by decide⟩
    obtain ⟨S7, n5, r5⟩ := S6.fi (f5.mono (fun x u => Or.inl u)) o5
    have P7 : Sp Z s v M M' L' (up1 (up1 R i R') 4 O') (up1 (up1 k i k') 4 n') := P6.trans ⟨f5.fc (fun x u => by rw [u]; exact (P6.2.2.2.1 i i4).1), f5.cnu P6.2⟩
    have V2 : ∀ j, j < 4 → mI M2 (v j) = mI M1 (v j) := fun j hj => (gw.2.2.2.2.1.2 _ (N1.2.1.1 j hj).1.2.2.2.2.1.1.1).2.2.2.2 (fun u => u)
    have V45 : ∀ j, j < 4 → mI M5 (v j) = mI M4 (v j) := fun j hj => I5 _ (N4.2.1.1 j hj).1.2.2.2.2.1.1.1
    have V5 : ∀ j, j < 4 → j ≠ i → mI M' (v j) = mI M6 (v j) := fun j hj ji => f5.2.2.2.2.2.2 _ (fun u => (h.2.1.2 j i hj i4 ji).2.1 u)
    have rows := S6.2.2.2.2.1.2.2.2.2.2
    refine ⟨Or.inl hx, ⟨L', up1 (up1 R i R') 4 O', up1 (up1 k i k') 4 n', ⟨S7.sb, N6.2.1.fi f5, ⟨bz.1, by rw [f5.2.2.2.2.1]; exact N6.2.2.1.2⟩, fun j hj j2 => ?_⟩, P7, Q6.trans f5.rq, fun j hj => ?_, fun j hj ji => by rw [V5 j hj ji, (V6 j hj).2, V45 j hj, (V4 j hj).2, V2 j hj, V1 j hj ji]⟩, e30, fun e => absurd hx e, fun _ => by rw [eM, mI_UI, if_pos ⟨rfl, rfl⟩], qsv⟩
    · by_cases c : j = i
      · subst c
        rw [ri, ki]
        refine fun _ => ⟨c1, fun l hl => ?_, fun l hl => ?_⟩
        · rw [f5.2.2.1, n5 _ (rows l (by omega)).2.1, n5 _ (rows l (by omega)).2.2]; exact lr2 l hl
        · rw [f5.2.2.1, r5 l (by omega)]; exact lt2 l hl
      · exact (N6.2.2.2 j hj j2).fi (N6.2.1.1 j hj) S6.2.1.1 f5 o5 S6.z9 (fun x u => by rw [u]; exact ⟨(N6.2.1.1 i i4).1.2.2.2.2.1.1, by rw [(N6.2.1.1 i i4).1.1]; decide⟩) (Or.inl (by rw [V5 j hj c]))
    · rw [f5.2.2.2.2.2.2 _ (fun e => S6.gst hj (Or.inl e)), G6 j hj, I5 _ (N4.1.2.2.2 j hj).1, G4 j hj, (gw.2.2.2.2.1.2 _ (N1.1.2.2.2 j hj).1).2.2.2.2 (fun u => u), G1 j hj]
/-- ranks and choices, and whether values hold, change no table -/
theorem Nms.sv (h : Nms L W s g b cn cc bc v R k M) (hc : Cnu Z L s v R k M) (i4 : i < 4) (hn : cn ≤ k i) (q : svQ L W s g (v i) (R i) (k i) cn cc bc M M') : nmQ Z L W s g b cn cc bc v k i M M' ∧ mI M' (v i) = mI M (v i) := by
  obtain ⟨q1, q2, q3, q4, q5⟩ := q
  have hT : ∀ x, Tso s M (R i) cn x → (s ≤ x ∧ x ≤ s + 134) ∨ Trw M (R i) cn x := fun x u => tso_lo u
  have hC : ∀ x, Cso s M (R i) cn x → (s ≤ x ∧ x ≤ s + 134) ∨ Irw M (R i) cn x := fun x u => cso_lo u
  have V := (h.nx i4 q1 hn hT hC).2.1
  refine ⟨⟨L, R, k, h.nx2 i4 q1 hn hT hC q2.sb (fun _ _ => ⟨hn, q4.1, q4.2⟩), q1.fc h.1.2.1.1 hc h.2.1 (fun x u => ?_), q1.rq h.1.2.1.1, q5, fun j hj _ => (V j hj).2⟩, (V i i4).2⟩
  rcases hC x u with w | ⟨l, hl, w⟩
  · exact hc.1 x w.1 w.2
  · rw [w]; exact (hc.2.2.1 i i4).2.2 l (by omega)
end NCO
end
section
/-! The class's top: solve, judge, check. -/
section NCP
variable {G : mG} {d t g s b i j a Ra n cn cc bc z w R' k' : Nat} {v R k Rn kn : Nat → Nat} {M M0 M' M1 : mM} {L L' L1 : List Nat} {W : Nat → Nat} {T C S Z : Nat → Prop} {r : Prop}
/-- the top's references -/
def Tr (t : Nat) (v : Nat → Nat) (M : mM) : Prop := mK M t = 1 ∧ (mR M t 9 = t + 62 ∧ mR M t 10 = t + 85) ∧ (mR M t 11 = v 0 ∧ mR M t 12 = v 1 ∧ mR M t 13 = v 2 ∧ mR M t 14 = v 3) ∧ (mR M t 15 = t + 228 ∧ mR M t 16 = t + 230 ∧ mR M t 17 = t + 235) ∧ t < mZ M
theorem Tr.fc (h : Tr t v M) (f : FC Z M M') (nz : ¬ Z t) : Tr t v M' ∧ mI M' t = mI M t := by
  obtain ⟨h1, h2, h3, h4, h5⟩ := h
  obtain ⟨f1, -, f2⟩ := f.2 t h5
  obtain ⟨-, e1, e2⟩ := f2 nz
  have := f.1.1
  exact ⟨⟨by rw [f1]; exact h1, by rw [e1]; exact h2, by rw [e1]; exact h3, by rw [e1]; exact h4, by omega⟩, e2⟩
theorem Nms.cnt (h : Nms L W s g b cn cc bc v R k M) : mI M g 0 = ((cn : Nat) : Int) ∧ mK M g = 7 ∧ mK M s = 8 ∧ mOk M := ⟨h.1.1.2.2.2.2.2.2.2, h.1.1.2.2.1.1, h.1.1.2.1.1.1, h.1.1.1⟩
theorem w_tat (hWs : ∀ x, s ≤ x → x ≤ s + 134 → 300 ≤ W x) : ∀ x, Tat s x → 300 ≤ W x := fun x u => hWs x (by unfold Tat Tpk T4 Tor T2 at u; omega) (by unfold Tat Tpk T4 Tor T2 at u; omega)
theorem n_CA_solve (h : Nms L W (t + 85) (t + 62) b cn cc bc v R k M) (hc : Cnu Z L (t + 85) v R k M) (hr : Tr t v M) (nz : ¬ Z t) (c1 : 1 ≤ cn) (hWr : ∀ x, b ≤ x → 17 ≤ W x ∧ W x ≤ 20000) (hWs : ∀ x, t + 85 ≤ x → x ≤ t + 85 + 134 → 300 ≤ W x) : Ci G y_CA_solve (d + 9) [vr t] M (fun x M' => i32 x ∧ nmQ Z L W (t + 85) (t + 62) b cn cc bc v k 0 M M' ∧ (mI M' (v 0) 1 ≠ 0 → Chs M' (t + 85) (t + 62) cn) ∧ (kdT (xtm M (t + 62) cn) → svA9 (xtm M (t + 62) cn) x) ∧ mI M' (v 0) 1 = if x = 0 then 1 else 0) := by
  obtain ⟨e0, kg, ks, o⟩ := h.cnt
  refine k_CA_solve o ?_
  rw [hr.2.1.1, hr.2.1.2, hr.2.2.1.1, e0]
  refine ⟨hr.1, kg, fun u => absurd u (by omega), fun _ => ⟨ks, (h.work (d := d) (kp := 0) ⟨by decide, by decide⟩ hc (by decide) (fun u => absurd rfl u) hWr hWs).mono (fun x M6 q => ?_)⟩⟩
  obtain ⟨hx, q1, q2, q3, q4, q5⟩ := q
  have ix : i32 x := by rcases hx with u | u | u <;> rw [u] <;> exact ⟨by decide, by decide⟩
  obtain ⟨L1, R1, k1, N1, P1, Q1, G1, V1⟩ := id q1
  obtain ⟨-, -, ks6, o6⟩ := N1.cnt
  have r6 := (hr.fc P1.1 nz).1
  rw [r6.2.1.2, r6.2.2.1.1]
  refine ⟨ix, o6, fun u => ⟨r6.1, ks6, ?_⟩, fun u => ⟨ix, q1, fun w => absurd (q3 u) w, q5 rfl, by rw [if_neg u]; exact q3 u⟩⟩
  obtain ⟨ck, rs, rt⟩ := N1.2.2.2 0 (by decide) (by decide) (by rw [q4 u]; decide)
  refine (s_So_rankAndChoose (d := d + 1) (B := 300) (N1.1.sva N1.2.2.1.1 (N1.2.1.1 0 (by decide))) ck (N1.2.1.1 0 (by decide)).2.2.2.1 ⟨rs, rt⟩ (w_tat hWs) (by decide) (by decide)).mono (fun M15 q => ?_)
  obtain ⟨p1, p2⟩ := q
  obtain ⟨⟨L2, R2, k2, N2, P2, Q2, G2, V2⟩, ev0⟩ := N1.sv P1.2 (by decide) ck p1
  exact ⟨p1.2.1.1.1, ix, ⟨L2, R2, k2, N2, P1.trans P2, Q1.trans Q2, fun j hj => by rw [G2 j hj, G1 j hj], fun j hj ji => by rw [V2 j hj ji, V1 j hj ji]⟩, fun _ => p2, q5 rfl, by rw [if_pos u, ev0]; exact q4 u⟩
theorem n_CA_judge {l : Int} (hl : l = 1 ∨ l = 2) (h : Nms L W (t + 85) (t + 62) b cn cc bc v R k M) (hc : Cnu Z L (t + 85) v R k M) (hr : Tr t v M) (c1 : 1 ≤ cn) (ht : Tld M (t + 62) cn l) (hWr : ∀ x, b ≤ x → 17 ≤ W x ∧ W x ≤ 20000) (hWs : ∀ x, t + 85 ≤ x → x ≤ t + 85 + 134 → 300 ≤ W x) : Ci G y_CA_judge (d + 9) [vr t, vi l] M (fun x M' => i32 x ∧ nmQ Z L W (t + 85) (t + 62) b cn cc bc v k 3 M M' ∧ mI M' (t + 85 + 30) = mI M (t + 85 + 30)) := by
  obtain ⟨e0, kg, ks, o⟩ := h.cnt
  have il : i32 l := by rcases hl with u | u <;> rw [u] <;> exact ⟨by decide, by decide⟩
  refine k_CA_judge o il ?_
  rw [hr.2.1.1, hr.2.1.2, hr.2.2.1.2.2.2, e0]
  refine ⟨fun _ => ⟨hr.1, kg, fun u => absurd u (by omega), fun _ => ⟨ks, (h.work (d := d) il hc (by decide) ht hWr hWs).mono (fun x M6 q => ?_)⟩⟩, fun u => absurd hl u⟩
  obtain ⟨hx, q1, q2, -⟩ := q
  have ix : i32 x := by rcases hx with u | u | u <;> rw [u] <;> exact ⟨by decide, by decide⟩
  obtain ⟨L1, R1, k1, N1, -⟩ := id q1
  exact ⟨ix, N1.cnt.2.2.2, ix, q1, q2⟩
theorem n_CA_check (h : Nms L W (t + 85) (t + 62) b cn cc bc v R k M) (hc : Cnu Z L (t + 85) v R k M) (hr : Tr t v M) (hWs : ∀ x, t + 85 ≤ x → x ≤ t + 85 + 134 → 300 ≤ W x) : Ci G y_CA_check (d + 8) [vr t] M (fun x M' => i32 x ∧ (M' = M ∨ (nmQ Z L W (t + 85) (t + 62) b cn cc bc v k 0 M M' ∧ mI M' (v 0) = mI M (v 0) ∧ mI M' (t + 85 + 30) = mI M (t + 85 + 30)))) := by
  obtain ⟨e0, kg, ks, o⟩ := h.cnt
  have t0 := h.2.1.1 0 (by decide)
  refine k_CA_check o ?_
  rw [hr.2.2.1.1, hr.2.1.2]
  refine ⟨hr.1, t0.1.1, fun _ => ⟨⟨by decide, by decide⟩, Or.inl rfl⟩, fun u => ⟨ks, ?_⟩⟩
  obtain ⟨ck, rs, rt⟩ := h.2.2.2 0 (by decide) (by decide) u
  refine (s_So_holds (d := d) (B := 300) (h.1.sva h.2.2.1.1 t0) ck t0.2.2.2.1 ⟨rs, rt⟩ (w_tat hWs) (by decide) (by decide)).mono (fun x M6 q => ?_)
  obtain ⟨x01, q1, q2⟩ := q
  refine ⟨m_b32 x01, q1.2.1.1.1, fun y ey => ⟨by rw [ey]; split <;> exact ⟨by decide, by decide⟩, Or.inr ?_⟩⟩
  obtain ⟨p1, p2⟩ := h.sv hc (by decide) ck q1
  exact ⟨p1, p2, q2⟩
end NCP
end
