/-! The class's Solver: ranks. -/
section NBV
variable {G : mG} {d s g a R cn cc bc i k n c un x y fd : Nat} {M M0 M' M1 M2 M3 : mM} {L : List Nat} {W : Nat → Nat}
theorem s_So_leadsBelow {rd : Int} (hrd : i32 rd) (h : SG M s g cn cc bc) (hf : mK M fd = 30 ∧ mN M fd = 512) (hc : c < cc) : Ci G y_So_leadsBelow d [vr s, vi c, vi rd, vr fd] M (fun x M' => M' = M ∧ (x = 0 ∨ x = 1)) := by
  obtain ⟨o, ⟨⟨s0, -⟩, ⟨-, -, -, r3, -⟩, -⟩, ⟨g0, ⟨-, -, -, q7, q8, -⟩, gk, ⟨-, -, -, m7, m8, -⟩⟩, -, hT⟩ := id h
  obtain ⟨hc1, hc2, hc3⟩ := hT.1
  obtain ⟨x, y, mu, e1, e2, ⟨xy, -⟩, yb, br, -⟩ := hT.2.1 c hc
  refine k_So_leadsBelow o ⟨by omega, by omega⟩ hrd ?_
  rw [r3, q7, m7, Int.toNat_natCast, e1]
  refine ⟨s0, g0, gk 7 (by decide) (by decide), ⟨by omega, by omega⟩, ?_⟩
  suffices HH : ∀ (t i : Nat), y ≤ i + t → x ≤ i → i ≤ y → h_So_leadsBelow_11 G d s c rd fd i M (fun x M' => M' = M ∧ (x = 0 ∨ x = 1)) from HH (y - x) x (by omega) (Nat.le_refl _) (by omega)
  intro t
  induction t with
  | zero =>
    intro i h1 h2 h3
    refine k_So_leadsBelow_11 o ⟨by omega, by omega⟩ hrd ⟨by omega, by omega⟩ ?_
    rw [r3, q7, m7, show Int.toNat ((c : Int) + 1) = c + 1 by omega, e2]
    exact ⟨s0, g0, gk 7 (by decide) (by decide), ⟨by omega, by omega⟩, fun _ => ⟨rfl, Or.inl rfl⟩, fun u => absurd (by omega) u⟩
  | succ t ih =>
    intro i h1 h2 h3
    refine k_So_leadsBelow_11 o ⟨by omega, by omega⟩ hrd ⟨by omega, by omega⟩ ?_
    rw [r3, q7, m7, show Int.toNat ((c : Int) + 1) = c + 1 by omega, e2]
    refine ⟨s0, g0, gk 7 (by decide) (by decide), ⟨by omega, by omega⟩, fun _ => ⟨rfl, Or.inl rfl⟩, fun u => ?_⟩
    obtain ⟨b1, b2, b3⟩ := br i h2 (by omega)
    rw [q8, m8, hf.2, Int.toNat_natCast, show ((i : Int) + 1) = ((i + 1 : Nat) : Int) by omega]
    exact ⟨gk 8 (by decide) (by decide), ⟨by omega, by omega⟩, hf.1, ⟨by omega, by omega⟩, fun _ => ih (i + 1) (by omega) (by omega) (by omega), fun _ => ⟨rfl, Or.inr rfl⟩⟩
theorem s_So_earns {rd : Int} (hrd : i32 rd) (h : SG M s g cn cc bc) (hf : mK M fd = 30 ∧ mN M fd = 512) (hk : k < cn) : Ci G y_So_earns (d + 1) [vr s, vi k, vi rd, vr fd] M (fun x M' => M' = M ∧ (x = 0 ∨ x = 1)) := by
  obtain ⟨o, ⟨⟨s0, -⟩, ⟨-, -, -, r3, -, -, -, -, -, -, r11, -⟩, ⟨-, -, -, -, -, -, -, k11, -⟩, ⟨-, -, -, -, -, -, -, n11, -⟩⟩, ⟨g0, ⟨q2, q4, -⟩, gk, ⟨m2, m4, -⟩⟩, -, hT⟩ := id h
  obtain ⟨hc1, hc2, hc3⟩ := hT.1
  obtain ⟨x, y, e1, e2, xy, yc⟩ := hT.2.2.1 k hk
  refine k_So_earns o ⟨by omega, by omega⟩ hrd ?_
  rw [r3, q2, m2, q4, m4, Int.toNat_natCast, e1]
  refine ⟨s0, g0, gk 2 (by decide) (by decide), ⟨by omega, by omega⟩, fun v6 e6 => ⟨gk 4 (by decide) (by decide), ⟨by omega, by omega⟩, ?_⟩⟩
  have v01 : v6 = 0 ∨ v6 = 1 := by rw [e6]; split <;> omega
  suffices HH : ∀ (t c : Nat), y ≤ c + t → x ≤ c → c ≤ y → h_So_earns_31 G d s k rd fd v6 c M (fun x M' => M' = M ∧ (x = 0 ∨ x = 1)) from HH (y - x) x (by omega) (Nat.le_refl _) (by omega)
  have fin : ∀ v27 : Int, v27 = (if (v6 = 0) then 1 else 0) → M = M ∧ (v27 = 0 ∨ v27 = 1) := fun v27 e => ⟨rfl, by rw [e]; split <;> omega⟩
  intro t
  induction t with
  | zero =>
    intro c h1 h2 h3
    refine k_So_earns_31 o ⟨by omega, by omega⟩ hrd (m_b32 v01) ⟨by omega, by omega⟩ ?_
    rw [r3, q4, m4, show Int.toNat ((k : Int) + 1) = k + 1 by omega, e2]
    exact ⟨s0, g0, gk 4 (by decide) (by decide), ⟨by omega, by omega⟩, fun _ => fin, fun u => absurd (by omega) u⟩
  | succ t ih =>
    intro c h1 h2 h3
    refine k_So_earns_31 o ⟨by omega, by omega⟩ hrd (m_b32 v01) ⟨by omega, by omega⟩ ?_
    rw [r3, q4, m4, show Int.toNat ((k : Int) + 1) = k + 1 by omega, e2]
    refine ⟨s0, g0, gk 4 (by decide) (by decide), ⟨by omega, by omega⟩, fun _ => fin, fun u => ?_⟩
    rw [r11, n11, Int.toNat_natCast, show ((c : Int) + 1) = ((c + 1 : Nat) : Int) by omega]
    refine ⟨k11, ⟨by omega, by omega⟩, fun _ => ih (c + 1) (by omega) (by omega) (by omega), fun _ => (s_So_leadsBelow (d := d) hrd h hf (show c < cc by omega)).mono (fun x38 M37 q => ?_)⟩
    rw [q.1]
    exact ⟨m_b32 q.2, o, fun _ => ⟨v01, rfl, v01⟩, fun _ => ih (c + 1) (by omega) (by omega) (by omega)⟩
/-- ranks are filled in -/
def frI (L : List Nat) (W : Nat → Nat) (s g a R k cn cc bc fd : Nat) (M0 M : mM) : Prop := mOk M ∧ FI (fun z => z = fd) M0 M ∧ Sva L W s g a R k cn cc bc M
theorem fr_mk (h : Sva L W s g a R k cn cc bc M0) (hcn : cn ≤ k) (hfd : Stb s fd ∧ fd ≠ s) (o : mOk M) (f : FI (fun z => z = fd) M0 M) : frI L W s g a R k cn cc bc fd M0 M := by
  have hF := h.2.1.1
  obtain ⟨x, -⟩ := f.nx (T := Tso s M0 R cn) (r := False) (z := s + 1) o hF (h.tl hcn) (fun x u => by rw [u]; exact h.2.2.1 fd hfd.1) h.z9
  have x' : NX L W (Tso s M0 R cn) (Cso s M0 R cn) False (s + 1) M0 M := x.mono hF (fun _ u => u) (h.tl hcn) (fun x u => Or.inr (Or.inl (by rw [u]; exact hfd.1))) (h.cl hcn) (fun u => u)
  exact ⟨o, f, (h.nx hcn x' (x.sk hF h.2.1.2.1)).1⟩
theorem s_So_fillRanks (h : Sva L W s g a R k cn cc bc M) (hcn : cn ≤ k) (hk : k ≤ 512) (hfd : fd = s + 29 ∨ fd = s + 129) : Cv G y_So_fillRanks (d + 3) [vr s, vr a, vr fd] M (frI L W s g a R k cn cc bc fd M) := by
  have hSt : Stb s fd ∧ fd ≠ s := by
    unfold Stb
    omega
  have kf : ∀ {M1 : mM}, Sva L W s g a R k cn cc bc M1 → mK M1 fd = 30 ∧ mN M1 fd = 512 := fun h => by
    obtain ⟨⟨-, ⟨-, -, ⟨k1, -, -, -, -, -, -, -, k12⟩, ⟨n1, -, -, -, -, -, -, -, n12⟩⟩, -⟩, -⟩ := h
    rcases hfd with e | e <;> rw [e]
    · exact ⟨k1, n1⟩
    · exact ⟨k12, n12⟩
  have st : ∀ {M1 : mM} {j : Nat} {v : Int}, frI L W s g a R k cn cc bc fd M M1 → i32 v → ∀ M2, M2 = mUI M1 fd j v → frI L W s g a R k cn cc bc fd M M2 := fun hI hv M2 e => fr_mk h hcn hSt (by rw [e]; exact mOk_UI hI.1 hv) (hI.2.1.trans (by rw [e]; exact FI.ui rfl))
  refine k_So_fillRanks h.1.1 ?_
  -- the rounds
  have R45 : ∀ (t rn : Nat) (l3 : Int) (M1 : mM), 513 ≤ rn + t → 1 ≤ rn → rn ≤ 513 → (l3 = 0 ∨ l3 = 1) → frI L W s g a R k cn cc bc fd M M1 → h_So_fillRanks_45 G (d + 2) s a fd l3 rn M1 (frI L W s g a R k cn cc bc fd M) := by
    intro t
    induction t with
    | zero =>
      intro rn l3 M1 h1 h2 h3 hl hI
      exact k_So_fillRanks_45 hI.1 (m_b32 hl) ⟨by omega, by omega⟩ ⟨fun _ => hI, fun u => absurd (Or.inl (by omega)) u⟩
    | succ t ih =>
      intro rn l3 M1 h1 h2 h3 hl hI
      refine k_So_fillRanks_45 hI.1 (m_b32 hl) ⟨by omega, by omega⟩ ⟨fun _ => hI, fun u => ?_⟩
      have rl : rn ≤ 512 := by
        by_cases c : (512 : Int) < rn
        · exact absurd (Or.inl c) u
        · omega
      suffices HH : ∀ (t j : Nat) (l3 : Int) (M1 : mM), cn ≤ j + t → j ≤ cn → (l3 = 0 ∨ l3 = 1) → frI L W s g a R k cn cc bc fd M M1 → h_So_fillRanks_62 G (d + 2) s a fd l3 rn j M1 (frI L W s g a R k cn cc bc fd M) from HH cn 0 0 M1 (by omega) (by omega) (Or.inl rfl) hI
      intro t2
      induction t2 with
      | zero =>
        intro j l3 M1 h1' h2' hl' hI'
        obtain ⟨-, -, ⟨⟨o, ⟨⟨s0, -⟩, ⟨-, -, -, r3, -⟩, -⟩, ⟨g0, -⟩, -, hT⟩, -⟩⟩ := id hI'
        have hc1 := hT.1.1
        refine k_So_fillRanks_62 o (m_b32 hl') ⟨by omega, by omega⟩ ⟨by omega, by omega⟩ ?_
        rw [r3, hT.2.2.2, show ((rn : Int) + 1) = ((rn + 1 : Nat) : Int) by omega]
        exact ⟨s0, g0, fun _ => ih (rn + 1) l3 M1 (by omega) (by omega) (by omega) hl' hI', fun u => absurd (by omega) u⟩
      | succ t2 ih2 =>
        intro j l3 M1 h1' h2' hl' hI'
        by_cases ej : j = cn
        · exact ih2 j l3 M1 (by omega) h2' hl' hI'
        have hS1 := hI'.2.2
        obtain ⟨⟨o, ⟨⟨s0, -⟩, ⟨-, -, -, r3, -⟩, -⟩, ⟨g0, -⟩, -, hT⟩, ⟨hF, -⟩, -, -, ⟨t1, t2', t3, t4, -, t7⟩, -, -⟩ := id hS1
        have hc1 := hT.1.1
        obtain ⟨kd, nd⟩ := kf hS1
        have fr := t7 j (by omega)
        refine k_So_fillRanks_62 o (m_b32 hl') ⟨by omega, by omega⟩ ⟨by omega, by omega⟩ ?_
        rw [r3, hT.2.2.2, kd, nd, t2', t4, Int.toNat_natCast, fr.1.2.1.1, show ((j : Int) + 1) = ((j + 1 : Nat) : Int) by omega]
        refine ⟨s0, g0, fun u => absurd u (by omega), fun _ => ⟨rfl, ⟨by omega, by omega⟩, fun _ => ⟨t1, t3, ⟨by omega, by omega⟩, fr.1.1, hF.kd fr.2.1⟩, fun _ => ih2 (j + 1) l3 M1 (by omega) (by omega) hl' hI', fun _ => (s_So_earns (d := d + 1) (rd := ((rn : Nat) : Int)) ⟨by omega, by omega⟩ hS1.1 ⟨kd, nd⟩ (show j < cn by omega)).mono (fun x59 M58 q => ?_)⟩⟩
        rw [q.1, kd, nd]
        refine ⟨m_b32 q.2, o, fun _ => ⟨rfl, ⟨by omega, by omega⟩⟩, fun v64 e64 M65 e65 => ?_⟩
        by_cases cx : x59 = 0
        · rw [if_pos cx] at e64 e65
          rw [e64, e65]
          exact ⟨o, ih2 (j + 1) l3 M1 (by omega) (by omega) hl' hI'⟩
        · rw [if_neg cx] at e64 e65
          have I2 := st hI' (show i32 ((rn : Nat) : Int) from ⟨by omega, by omega⟩) M65 e65
          rw [e64]
          exact ⟨I2.1, ih2 (j + 1) 1 M65 (by omega) (by omega) (Or.inr rfl) I2⟩
  suffices HH : ∀ (t j : Nat) (M1 : mM), cn ≤ j + t → j ≤ cn → frI L W s g a R k cn cc bc fd M M1 → h_So_fillRanks_2 G (d + 2) s a fd j M1 (frI L W s g a R k cn cc bc fd M) from HH cn 0 M (by omega) (by omega) ⟨h.1.1, FI.refl, h⟩
  intro t
  induction t with
  | zero =>
    intro j M1 h1 h2 hI
    obtain ⟨-, -, ⟨⟨o, ⟨⟨s0, -⟩, ⟨-, -, -, r3, -⟩, -⟩, ⟨g0, -⟩, -, hT⟩, -⟩⟩ := id hI
    have hc1 := hT.1.1
    refine k_So_fillRanks_2 o ⟨by omega, by omega⟩ ?_
    rw [r3, hT.2.2.2]
    exact ⟨s0, g0, fun _ => R45 512 1 1 M1 (by omega) (by omega) (by omega) (Or.inr rfl) hI, fun u => absurd (by omega) u⟩
  | succ t ih =>
    intro j M1 h1 h2 hI
    obtain ⟨-, -, ⟨⟨o, ⟨⟨s0, -⟩, ⟨-, -, -, r3, -⟩, -⟩, ⟨g0, ⟨q2, -⟩, gk, ⟨m2, -⟩⟩, -, hT⟩, -⟩⟩ := id hI
    have hc1 := hT.1.1
    obtain ⟨kd, nd⟩ := kf hI.2.2
    refine k_So_fillRanks_2 o ⟨by omega, by omega⟩ ?_
    rw [r3, hT.2.2.2, q2, m2, kd, nd, Int.toNat_natCast, show ((j : Int) + 1) = ((j + 1 : Nat) : Int) by omega]
    refine ⟨s0, g0, fun _ => R45 512 1 1 M1 (by omega) (by omega) (by omega) (Or.inr rfl) hI, fun u => ⟨gk 2 (by decide) (by decide), ⟨by omega, by omega⟩, fun v10 e10 => ⟨rfl, ⟨by omega, by omega⟩, fun M16 e16 => ?_⟩⟩⟩
    have vi' : i32 v10 := by rw [e10]; split <;> exact ⟨by decide, by decide⟩
    exact ih (j + 1) M16 (by omega) (by omega) (st hI vi' M16 e16)
end NBV
