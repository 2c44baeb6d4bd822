/-! The class's Solver: ranks and choices; whether told values hold. -/
section NBX
variable {G : mG} {d s g a R cn cc bc i k n c un x y fd B : Nat} {M M0 M' M1 M2 M3 : mM} {L : List Nat} {W : Nat → Nat}
/-- the choices stand among the commands -/
def Chs (M : mM) (s g n : Nat) : Prop := ∀ k, k < n → ∀ x y : Nat, mI M (g + 4) k = ((x : Nat) : Int) → mI M (g + 4) (k + 1) = ((y : Nat) : Int) → (x = y ∧ mI M (s + 30) k = -1) ∨ (x ≠ y ∧ 0 ≤ mI M (s + 30) k ∧ mI M (s + 30) k < ((y : Nat) : Int) - ((x : Nat) : Int))
/-- what the Solver leaves, its rows as they were -/
def svQ (L : List Nat) (W : Nat → Nat) (s g a R k cn cc bc : Nat) (M0 M : mM) : Prop := NX L W (Tso s M0 R cn) (Cso s M0 R cn) True (s + 1) M0 M ∧ Sva L W s g a R k cn cc bc M ∧ mR M R = mR M0 R ∧ (Rsm M R cn 17 ∧ Rt1 M R cn) ∧ ∀ i, i ≤ 9 → mI M (g + i) = mI M0 (g + i)
theorem atI.sv (hI : atI L W s g a R k cn cc bc M0 M) (h : Sva L W s g a R k cn cc bc M0) (hcn : cn ≤ k) : svQ L W s g a R k cn cc bc M0 M := by
  obtain ⟨q, h1, h2, -, h4, h5⟩ := hI
  exact ⟨q.mono h.2.1.1 (fun _ u => u.elim Or.inl (fun u => Or.inr (Or.inr (Or.inl u)))) (h.tl hcn) (fun x u => u.so) (h.cl hcn) (fun u => u.elim), h1, h2, h4, h5⟩
/-- a table of the Solver's is written -/
theorem svQ.fi {S : Nat → Prop} (hI : svQ L W s g a R k cn cc bc M0 M) (h : Sva L W s g a R k cn cc bc M0) (hcn : cn ≤ k) (f : FI S M M') (o : mOk M') (hS : ∀ x, S x → Stb s x) : svQ L W s g a R k cn cc bc M0 M' := by
  obtain ⟨q, h1, h2, ⟨h4, h4'⟩, h5⟩ := hI
  have hF := h1.2.1.1
  obtain ⟨x, v⟩ := f.nx (T := Tso s M R cn) (r := False) (z := s + 1) o hF (h1.tl hcn) (fun x u => h1.2.2.1 x (hS x u)) h1.z9
  have x' : NX L W (Tso s M R cn) (Cso s M R cn) False (s + 1) M M' := x.mono hF (fun _ u => u) (h1.tl hcn) (fun x u => Or.inr (Or.inl (hS x u))) (h1.cl hcn) (fun u => u)
  obtain ⟨e1, e2, e3⟩ := h1.nx hcn x' (x.sk hF h1.2.1.2.1)
  have x2 : NX L W (Tso s M0 R cn) (Cso s M0 R cn) True (s + 1) M M' := by
    have e : Tso s M R cn = Tso s M0 R cn := by
      funext z
      unfold Tso Trw
      rw [h2]
    have e' : Cso s M R cn = Cso s M0 R cn := by
      funext z
      unfold Cso Irw
      rw [h2]
    rw [e, e'] at x'
    exact x'.mono hF (fun _ u => u) q.2.1.1 (fun _ u => u) x'.2.1.2.1 (fun u => u.elim)
  have rows : ∀ i, i < cn → FrL L M (mR M R i) := fun i hi => h1.2.2.2.2.1.2.2.2.2.2 i (by omega)
  refine ⟨q.trans x2, e1, by rw [e3, h2], ⟨fun i hi => ?_, fun i hi => ?_⟩, fun i hi => by rw [e2 i hi, h5 i hi]⟩
  · rw [e3, v _ (rows i hi).2.1, v _ (rows i hi).2.2]; exact h4 i hi
  · rw [e3, f.2.2.2.2.2.2 _ (fun u => by
      have := hS _ u
      have hb := h1.2.2.2.2.2.1 i (by omega)
      unfold Stb at this
      omega)]
    exact h4' i hi
theorem s_rc119 {Q : mM → Prop} {b4 : Int} (h4 : b4 = 0 ∨ b4 = 1) (h0 : Sva L W s g a R k cn cc bc M0) (hcn : cn ≤ k) (hi : i < cn) (ex : mI M0 (g + 4) i = ((x : Nat) : Int)) (ey : mI M0 (g + 4) (i + 1) = ((y : Nat) : Int)) (xy : x ≤ y ∧ y ≤ cc)
    (hQ : ∀ M', svQ L W s g a R k cn cc bc M0 M' → Chs M' s g (i + 1) → h_So_rankAndChoose_17 G d s ((i : Int) + 1) M' Q) : ∀ (t c : Nat) (fo : Int) (M : mM), y ≤ c + t → x ≤ c → c ≤ y → (fo = 0 ∨ fo = 1) → svQ L W s g a R k cn cc bc M0 M → Chs M s g (i + 1) → h_So_rankAndChoose_119 G d s i x b4 fo c M Q := by
  obtain ⟨hc1, hc2, hc3⟩ := h0.1.2.2.2.2.1
  intro t
  induction t with
  | zero =>
    intro c fo M h1 h2 h3 hf hI hC
    obtain ⟨-, ⟨⟨o, ⟨⟨s0, -⟩, ⟨-, -, -, r3, -⟩, -⟩, ⟨g0, ⟨-, q4, -⟩, gk, ⟨-, m4, -⟩⟩, -, -⟩, -⟩, -, -, gi⟩ := id hI
    refine k_So_rankAndChoose_119 o ⟨by omega, by omega⟩ ⟨by omega, by omega⟩ (m_b32 h4) (m_b32 hf) ⟨by omega, by omega⟩ ?_
    rw [r3, q4, m4, show Int.toNat ((i : Int) + 1) = i + 1 by omega, gi 4 (by decide), ey]
    exact ⟨s0, g0, gk 4 (by decide) (by decide), ⟨by omega, by omega⟩, fun _ => hQ M hI hC, fun u => absurd (Or.inl (by omega)) u⟩
  | succ t ih =>
    intro c fo M h1 h2 h3 hf hI hC
    obtain ⟨-, hS, -, -, gi⟩ := id hI
    obtain ⟨⟨o, ⟨⟨s0, -⟩, ⟨-, r1, r2, r3, -, -, -, -, -, -, r11, -⟩, ⟨k1, k2, -, -, -, -, -, k11, -⟩, ⟨n1, n2, -, -, -, -, -, n11, -⟩⟩, ⟨g0, ⟨-, q4, -⟩, gk, ⟨-, m4, -⟩⟩, -, -⟩, -⟩ := id hS
    have e1 := gi 4 (by decide)
    refine k_So_rankAndChoose_119 o ⟨by omega, by omega⟩ ⟨by omega, by omega⟩ (m_b32 h4) (m_b32 hf) ⟨by omega, by omega⟩ ?_
    rw [r3, q4, m4, show Int.toNat ((i : Int) + 1) = i + 1 by omega, e1, ey, r11, n11, r1, n1, Int.toNat_natCast, Int.toNat_natCast]
    refine ⟨s0, g0, gk 4 (by decide) (by decide), ⟨by omega, by omega⟩, fun _ => hQ M hI hC, fun u => ?_⟩
    have cy : c < y := by
      by_cases cc' : ((y : Nat) : Int) ≤ c
      · exact absurd (Or.inl cc') u
      · omega
    have s179 : ∀ (k0 : Int), (k0 = 0 ∨ k0 = 1) → h_So_rankAndChoose_179 G d s i x b4 c k0 M Q := fun k0 hk0 => by
      refine k_So_rankAndChoose_179 o ⟨by omega, by omega⟩ ⟨by omega, by omega⟩ (m_b32 h4) ⟨by omega, by omega⟩ (m_b32 hk0) ?_
      rw [r2, n2, Int.toNat_natCast, show ((c : Int) + 1) = ((c + 1 : Nat) : Int) by omega]
      refine ⟨s0, k2, ⟨by omega, by omega⟩, ⟨by omega, by omega⟩, fun M91 e91 => ?_⟩
      have f91 : FI (fun z => z = s + 30) M M91 := by rw [e91]; exact FI.ui rfl
      have o91 : mOk M91 := by rw [e91]; exact mOk_UI o ⟨by omega, by omega⟩
      have I2 := hI.fi h0 hcn f91 o91 (fun z u => by rw [u]; exact Or.inr (Or.inr (Or.inl rfl)))
      refine ih (c + 1) k0 M91 (by omega) (by omega) (by omega) hk0 I2 (fun j hj x' y' f1 f2 => ?_)
      rw [I2.2.2.2.2 4 (by decide)] at f1 f2
      rw [mI_ui _ j e91]
      by_cases cj : j = i
      · rw [if_pos ⟨rfl, cj⟩]
        rw [cj] at f1 f2
        exact Or.inr ⟨by omega, by omega, by omega⟩
      · rw [if_neg (fun u => cj u.2)]
        exact hC j hj x' y' (by rw [e1]; exact f1) (by rw [e1]; exact f2)
    refine ⟨k11, ⟨by omega, by omega⟩, fun _ => s179 0 (Or.inl rfl), fun _ => ⟨fun _ => s179 1 (Or.inr rfl), fun _ => ⟨k1, ⟨by omega, by omega⟩, (s_So_leadsBelow (d := d) (o _ _).1 hS.1 ⟨k1, n1⟩ (show c < cc by omega)).mono (fun x81 M80 q => ?_)⟩⟩⟩
    rw [q.1]
    exact ⟨m_b32 q.2, o, fun _ => s179 0 (Or.inl rfl), fun _ => s179 1 (Or.inr rfl)⟩
theorem s_So_rankAndChoose (h0 : Sva L W s g a R k cn cc bc M) (hcn : cn ≤ k) (hk : k ≤ 512) (hr : Rsm M R cn 17 ∧ Rt1 M R cn) (hW : ∀ x, Tat s x → B ≤ W x) (b1 : 300 ≤ B) (hB : B ≤ 16000) : Cv G y_So_rankAndChoose (d + 7) [vr s, vr a] M (fun M' => svQ L W s g a R k cn cc bc M M' ∧ Chs M' s g cn) := by
  obtain ⟨hc1, hc2, hc3⟩ := h0.1.2.2.2.2.1
  refine k_So_rankAndChoose h0.1.1 ⟨h0.1.2.1.1.1, (s_So_attain (d := d) h0 hcn hk hr hW b1 hB).mono (fun x3 M2 q => ?_)⟩
  obtain ⟨x01, hI2⟩ := q
  have V2 := hI2.sv h0 hcn
  have S2 := hI2.2.1
  have r1 : mR M2 s 1 = s + 29 := S2.1.2.1.2.1.2.1
  rw [r1]
  refine ⟨m_b32 x01, S2.1.1, S2.1.2.1.1.1, (s_So_fillRanks (d := d + 3) S2 hcn hk (Or.inl rfl)).mono (fun M6 q => ?_)⟩
  obtain ⟨o6, f6, S6⟩ := q
  have V6 := V2.fi h0 hcn f6 o6 (fun z u => by rw [u]; exact Or.inr (Or.inl rfl))
  refine ⟨o6, ?_⟩
  suffices HH : ∀ (t i : Nat) (M1 : mM), cn ≤ i + t → i ≤ cn → svQ L W s g a R k cn cc bc M M1 → Chs M1 s g i → h_So_rankAndChoose_17 G (d + 6) s i M1 (fun M' => svQ L W s g a R k cn cc bc M M' ∧ Chs M' s g cn) from HH cn 0 M6 (by omega) (by omega) V6 (fun j hj => absurd hj (by omega))
  intro t
  induction t with
  | zero =>
    intro i M1 h1 h2 hI hC
    have ei : i = cn := by omega
    subst ei
    obtain ⟨-, ⟨⟨o, ⟨⟨s0, -⟩, ⟨-, -, -, r3, -⟩, -⟩, ⟨g0, -⟩, -, hT⟩, -⟩, -⟩ := id hI
    refine k_So_rankAndChoose_17 o ⟨by omega, by omega⟩ ?_
    rw [r3, hT.2.2.2]
    exact ⟨s0, g0, fun _ => ⟨hI, hC⟩, fun u => absurd (by omega) u⟩
  | succ t ih =>
    intro i M1 h1 h2 hI hC
    by_cases ei : i = cn
    · exact ih i M1 (by omega) h2 hI hC
    have hi : i < cn := by omega
    obtain ⟨-, hS, -, -, gi⟩ := id hI
    obtain ⟨⟨o, ⟨⟨s0, -⟩, ⟨-, r1, r2, r3, -⟩, ⟨k1, k2, -⟩, ⟨n1, n2, -⟩⟩, ⟨g0, ⟨q2, q4, -⟩, gk, ⟨m2, m4, -⟩⟩, -, hT⟩, -⟩ := id hS
    obtain ⟨x, y, x1, y1, xy, yc⟩ := hT.2.2.1 i hi
    have e4 := gi 4 (by decide)
    have x1' : mI M (g + 4) i = ((x : Nat) : Int) := by rw [← e4]; exact x1
    have y1' : mI M (g + 4) (i + 1) = ((y : Nat) : Int) := by rw [← e4]; exact y1
    refine k_So_rankAndChoose_17 o ⟨by omega, by omega⟩ ?_
    rw [r3, hT.2.2.2, q4, m4, r2, n2, Int.toNat_natCast, show Int.toNat ((i : Int) + 1) = i + 1 by omega, x1, y1]
    refine ⟨s0, g0, fun u => absurd u (by omega), fun _ => ⟨gk 4 (by decide) (by decide), ⟨by omega, by omega⟩, ⟨by omega, by omega⟩, fun v20 e20 => ⟨k2, ⟨by omega, by omega⟩, fun M26 e26 => ?_⟩⟩⟩
    have i20 : i32 v20 := by rw [e20]; split <;> exact ⟨by decide, by decide⟩
    have f26 : FI (fun z => z = s + 30) M1 M26 := by rw [e26]; exact FI.ui rfl
    have o26 : mOk M26 := by rw [e26]; exact mOk_UI o i20
    have I26 := hI.fi h0 hcn f26 o26 (fun z u => by rw [u]; exact Or.inr (Or.inr (Or.inl rfl)))
    rw [f26.1, f26.2.1, f26.2.2.1, r3, q2, m2, r2, n2, r1, n1]
    refine ⟨g0, gk 2 (by decide) (by decide), ⟨by omega, by omega⟩, fun v32 e32 => ⟨k2, ⟨by omega, by omega⟩, fun _ _ => ⟨k1, ⟨by omega, by omega⟩⟩, fun v44 e44 => ?_⟩⟩
    have b32 : v32 = 0 ∨ v32 = 1 := by rw [e32]; split <;> omega
    have b44 : v44 = 0 ∨ v44 = 1 := by rw [e44]; split <;> omega
    refine s_rc119 b32 h0 hcn hi x1' y1' ⟨xy, yc.1⟩ (fun M' hI' hC' => ?_) (y - x) x v44 M26 (by omega) (Nat.le_refl _) (by omega) b44 I26 (fun j hj x' y' f1 f2 => ?_)
    · rw [show ((i : Int) + 1) = ((i + 1 : Nat) : Int) by omega]
      exact ih (i + 1) M' (by omega) (by omega) hI' hC'
    · rw [I26.2.2.2.2 4 (by decide)] at f1 f2
      rw [mI_ui _ j e26]
      by_cases cj : j = i
      · rw [if_pos ⟨rfl, cj⟩]
        rw [cj] at f1 f2
        by_cases ce : x = y
        · rw [if_pos (by omega)] at e20
          exact Or.inl ⟨by omega, e20⟩
        · rw [if_neg (by omega)] at e20
          exact Or.inr ⟨by omega, by omega, by omega⟩
      · rw [if_neg (fun u => cj u.2)]
        exact hC j (by omega) x' y' (by rw [e4]; exact f1) (by rw [e4]; exact f2)
/-- whether values are what they must be -/
theorem s_So_holds (h0 : Sva L W s g a R k cn cc bc M) (hcn : cn ≤ k) (hk : k ≤ 512) (hr : Rsm M R cn 17 ∧ Rt1 M R cn) (hW : ∀ x, Tat s x → B ≤ W x) (b1 : 300 ≤ B) (hB : B ≤ 16000) : Ci G y_So_holds (d + 7) [vr s, vr a] M (fun x M' => (x = 0 ∨ x = 1) ∧ svQ L W s g a R k cn cc bc M M' ∧ mI M' (s + 30) = mI M (s + 30)) := by
  obtain ⟨hc1, hc2, hc3⟩ := h0.1.2.2.2.2.1
  refine k_So_holds h0.1.1 ⟨h0.1.2.1.1.1, (s_So_attain (d := d) h0 hcn hk hr hW b1 hB).mono (fun x3 M2 q => ?_)⟩
  obtain ⟨x01, hI2⟩ := q
  have V2 := hI2.sv h0 hcn
  have S2 := hI2.2.1
  have r12 : mR M2 s 16 = s + 129 := S2.1.2.1.2.1.2.2.2.2.2.2.2.2.2.2.2.1
  rw [r12]
  refine ⟨m_b32 x01, S2.1.1, S2.1.2.1.1.1, (s_So_fillRanks (d := d + 3) S2 hcn hk (Or.inr rfl)).mono (fun M6 q => ?_)⟩
  obtain ⟨o6, f6, S6⟩ := q
  have V6 := V2.fi h0 hcn f6 o6 (fun z u => by rw [u]; exact Or.inr (Or.inr (Or.inr (Or.inr (Or.inr (Or.inr (Or.inr (Or.inr (Or.inr rfl)))))))))
  refine ⟨o6, ?_⟩
  obtain ⟨⟨o, ⟨⟨s0, -⟩, ⟨-, r1, -, r3, -, -, -, -, -, -, -, r12', -⟩, ⟨k1, -, -, -, -, -, -, -, k12⟩, ⟨n1, -, -, -, -, -, -, -, n12⟩⟩, ⟨g0, -⟩, -, hT⟩, ⟨hF, -⟩, -, -, ⟨t1, t2, t3, t4, -, t7⟩, -, -⟩ := id V6.2.1
  have e30 : mI M6 (s + 30) = mI M (s + 30) := by rw [f6.2.2.2.2.2.2 (s + 30) (show ¬ s + 30 = s + 129 by omega), hI2.2.2.2.1 (s + 30) (Or.inr (Or.inr (Or.inl rfl))) (by omega)]
  suffices HH : ∀ (t i : Nat) (l2 : Int), cn ≤ i + t → i ≤ cn → (l2 = 0 ∨ l2 = 1) → h_So_holds_17 G (d + 6) s a l2 i M6 (fun x M' => (x = 0 ∨ x = 1) ∧ svQ L W s g a R k cn cc bc M M' ∧ mI M' (s + 30) = mI M (s + 30)) from HH cn 0 x3 (by omega) (by omega) x01
  intro t
  induction t with
  | zero =>
    intro i l2 h1 h2 hl
    refine k_So_holds_17 o (m_b32 hl) ⟨by omega, by omega⟩ ?_
    rw [r3, hT.2.2.2]
    exact ⟨s0, g0, fun _ => ⟨hl, hl, V6, e30⟩, fun u => absurd (by omega) u⟩
  | succ t ih =>
    intro i l2 h1 h2 hl
    by_cases ei : i = cn
    · exact ih i l2 (by omega) h2 hl
    have fr := t7 i (by omega)
    refine k_So_holds_17 o (m_b32 hl) ⟨by omega, by omega⟩ ?_
    rw [r3, hT.2.2.2, t2, t4, r12', n12, r1, n1, Int.toNat_natCast, fr.1.2.1.1, show ((i : Int) + 1) = ((i + 1 : Nat) : Int) by omega]
    refine ⟨s0, g0, fun u => absurd u (by omega), fun _ => ⟨t1, t3, ⟨by omega, by omega⟩, fr.1.1, hF.kd fr.2.1, fun _ => ⟨k12, ⟨by omega, by omega⟩⟩, fun v33 e33 => ⟨fun _ => ⟨k12, ⟨by omega, by omega⟩, k1, ⟨by omega, by omega⟩⟩, fun v44 e44 => ?_⟩⟩⟩
    exact ih (i + 1) _ (by omega) (by omega) (and01 hl (by rw [e44]; split <;> omega))
end NBX
