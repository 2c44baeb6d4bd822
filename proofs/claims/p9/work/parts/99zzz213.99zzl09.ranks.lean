section
/-! The class's Solver: ranks. -/
section NBV
variable {G : mG} {d s g a R cn cc bc i k n c un x y fd : Nat} {M M0 M' M1 M2 M3 : mM} {L : List Nat} {W : Nat → Nat}
theorem s_So_leadsBelow {rd : Int} (hrd : i32 rd) (h : SG M s g cn cc bc) (hf : mK M fd = 30 ∧ mN M fd = 512) (hc : c < cc) : Ci G y_So_leadsBelow d [vr s, vi c, vi rd, vr fd] M (fun x M' => M' = M ∧ (x = 0 ∨ x = 1)) := by
  obtain ⟨o, ⟨⟨s0, -⟩, ⟨-, -, -, r3, -⟩, -⟩, ⟨g0, ⟨-, -, -, q7, q8, -⟩, gk, ⟨-, -, -, m7, m8, -⟩⟩, -, hT⟩ := id h
  obtain ⟨hc1, hc2, hc3⟩ := hT.1
  obtain ⟨x, y, mu, e1, e2, ⟨xy, -⟩, yb, br, -⟩ := hT.2.1 c hc
  refine k_So_leadsBelow o ⟨by omega, by omega⟩ hrd ?_
  rw [r3, q7, m7, Int.toNat_natCast, e1]
  refine ⟨s0, g0, gk 7 (by decide) (by decide), ⟨by omega, by omega⟩, ?_⟩
  suffices HH : ∀ (t i : Nat), y ≤ i + t → x ≤ i → i ≤ y → h_So_leadsBelow_11 G d s c rd fd i M (fun x M' => M' = M ∧ (x = 0 ∨ x = 1)) from HH (y - x) x (by omega) (Nat.le_refl _) (by omega)
  intro t
  induction t with
  | zero =>
    intro i h1 h2 h3
    refine k_So_leadsBelow_11 o ⟨by omega, by omega⟩ hrd ⟨by omega, by omega⟩ ?_
    rw [r3, q7, m7, show Int.toNat ((c : Int) + 1) = c + 1 by omega, e2]
    exact ⟨s0, g0, gk 7 (by decide) (by decide), ⟨by omega, by omega⟩, fun _ => ⟨rfl, Or.inl rfl⟩, fun u => absurd (by omega) u⟩
  | succ t ih =>
    intro i h1 h2 h3
    refine k_So_leadsBelow_11 o ⟨by omega, by omega⟩ hrd ⟨by omega, by omega⟩ ?_
    rw [r3, q7, m7, show Int.toNat ((c : Int) + 1) = c + 1 by omega, e2]
    refine ⟨s0, g0, gk 7 (by decide) (by decide), ⟨by omega, by omega⟩, fun _ => ⟨rfl, Or.inl rfl⟩, fun u => ?_⟩
    obtain ⟨b1, b2, b3⟩ := br i h2 (by omega)
    rw [q8, m8, hf.2, Int.toNat_natCast, show ((i : Int) + 1) = ((i + 1 : Nat) : Int) by omega]
    exact ⟨gk 8 (by decide) (by decide), ⟨by omega, by omega⟩, hf.1, ⟨by omega, by omega⟩, fun _ => ih (i + 1) (by omega) (by omega) (by omega), fun _ => ⟨rfl, Or.inr rfl⟩⟩
theorem s_So_earns {rd : Int} (hrd : i32 rd) (h : SG M s g cn cc bc) (hf : mK M fd = 30 ∧ mN M fd = 512) (hk : k < cn) : Ci G y_So_earns (d + 1) [vr s, vi k, vi rd, vr fd] M (fun x M' => M' = M ∧ (x = 0 ∨ x = 1)) := by
  obtain ⟨o, ⟨⟨s0, -⟩, ⟨-, -, -, r3, -, -, -, -, -, -, r11, -⟩, ⟨-, -, -, -, -, -, -, k11, -⟩, ⟨-, -, -, -, -, -, -, n11, -⟩⟩, ⟨g0, ⟨q2, q4, -⟩, gk, ⟨m2, m4, -⟩⟩, -, hT⟩ := id h
  obtain ⟨hc1, hc2, hc3⟩ := hT.1
  obtain ⟨x, y, e1, e2, xy, yc⟩ := hT.2.2.1 k hk
  refine k_So_earns o ⟨by omega, by omega⟩ hrd ?_
  rw [r3, q2, m2, q4, m4, Int.toNat_natCast, e1]
  refine ⟨s0, g0, gk 2 (by decide) (by decide), ⟨by omega, by omega⟩, fun v6 e6 => ⟨gk 4 (by decide) (by decide), ⟨by omega, by omega⟩, ?_⟩⟩
  have v01 : v6 = 0 ∨ v6 = 1 := by rw [e6]; split <;> omega
  suffices HH : ∀ (t c : Nat), y ≤ c + t → x ≤ c → c ≤ y → h_So_earns_31 G d s k rd fd v6 c M (fun x M' => M' = M ∧ (x = 0 ∨ x = 1)) from HH (y - x) x (by omega) (Nat.le_refl _) (by omega)
  have fin : ∀ v27 : Int, v27 = (if (v6 = 0) then 1 else 0) → M = M ∧ (v27 = 0 ∨ v27 = 1) := fun v27 e => ⟨rfl, by rw [e]; split <;> omega⟩
  intro t
  induction t with
  | zero =>
    intro c h1 h2 h3
    refine k_So_earns_31 o ⟨by omega, by omega⟩ hrd (m_b32 v01) ⟨by omega, by omega⟩ ?_
    rw [r3, q4, m4, show Int.toNat ((k : Int) + 1) = k + 1 by omega, e2]
    exact ⟨s0, g0, gk 4 (by decide) (by decide), ⟨by omega, by omega⟩, fun _ => fin, fun u => absurd (by omega) u⟩
  | succ t ih =>
    intro c h1 h2 h3
    refine k_So_earns_31 o ⟨by omega, by omega⟩ hrd (m_b32 v01) ⟨by omega, by omega⟩ ?_
    rw [r3, q4, m4, show Int.toNat ((k : Int) + 1) = k + 1 by omega, e2]
    refine ⟨s0, g0, gk 4 (by decide) (by decide), ⟨by omega, by omega⟩, fun _ => fin, fun u => ?_⟩
    rw [r11, n11, Int.toNat_natCast, show ((c : Int) + 1) = ((c + 1 : Nat) : Int) by omega]
    refine ⟨k11, ⟨by omega, by omega⟩, fun _ => ih (c + 1) (by omega) (by omega) (by omega), fun _ => (s_So_leadsBelow (d := d) hrd h hf (show c < cc by omega)).mono (fun x38 M37 q => ?_)⟩
    rw [q.1]
    exact ⟨m_b32 q.2, o, fun _ => ⟨v01, rfl, v01⟩, fun _ => ih (c + 1) (by omega) (by omega) (by omega)⟩
/-- ranks are filled in -/
def frI (L : List Nat) (W : Nat → Nat) (s g a R k cn cc bc fd : Nat) (M0 M : mM) : Prop := mOk M ∧ FI (fun z => z = fd) M0 M ∧ Sva L W s g a R k cn cc bc M
theorem fr_mk (h : Sva L W s g a R k cn cc bc M0) (hcn : cn ≤ k) (hfd : Stb s fd ∧ fd ≠ s) (o : mOk M) (f : FI (fun z => z = fd) M0 M) : frI L W s g a R k cn cc bc fd M0 M := by
  have hF := h.2.1.1
  obtain ⟨x, -⟩ := f.nx (T := Tso s M0 R cn) (r := False) (z := s + 1) o hF (h.tl hcn) (fun x u => by rw [u]; exact h.2.2.1 fd hfd.1) h.z9
  have x' : NX L W (Tso s M0 R cn) (Cso s M0 R cn) False (s + 1) M0 M := x.mono hF (fun _ u => u) (h.tl hcn) (fun x u => Or.inr (Or.inl (by rw [u]; exact hfd.1))) (h.cl hcn) (fun u => u)
  exact ⟨o, f, (h.nx hcn x' (x.sk hF h.2.1.2.1)).1⟩
theorem s_So_fillRanks (h : Sva L W s g a R k cn cc bc M) (hcn : cn ≤ k) (hk : k ≤ 512) (hfd : fd = s + 29 ∨ fd = s + 128) : Cv G y_So_fillRanks (d + 3) [vr s, vr a, vr fd] M (frI L W s g a R k cn cc bc fd M) := by
  have hSt : Stb s fd ∧ fd ≠ s := by
    unfold Stb
    omega
  have kf : ∀ {M1 : mM}, Sva L W s g a R k cn cc bc M1 → mK M1 fd = 30 ∧ mN M1 fd = 512 := fun h => by
    obtain ⟨⟨-, ⟨-, -, ⟨k1, -, -, -, -, -, -, -, k12⟩, ⟨n1, -, -, -, -, -, -, -, n12⟩⟩, -⟩, -⟩ := h
    rcases hfd with e | e <;> rw [e]
    · exact ⟨k1, n1⟩
    · exact ⟨k12, n12⟩
  have st : ∀ {M1 : mM} {j : Nat} {v : Int}, frI L W s g a R k cn cc bc fd M M1 → i32 v → ∀ M2, M2 = mUI M1 fd j v → frI L W s g a R k cn cc bc fd M M2 := fun hI hv M2 e => fr_mk h hcn hSt (by rw [e]; exact mOk_UI hI.1 hv) (hI.2.1.trans (by rw [e]; exact FI.ui rfl))
  refine k_So_fillRanks h.1.1 ?_
  -- the rounds
  have R45 : ∀ (t rn : Nat) (l3 : Int) (M1 : mM), 513 ≤ rn + t → 1 ≤ rn → rn ≤ 513 → (l3 = 0 ∨ l3 = 1) → frI L W s g a R k cn cc bc fd M M1 → h_So_fillRanks_45 G (d + 2) s a fd l3 rn M1 (frI L W s g a R k cn cc bc fd M) := by
    intro t
    induction t with
    | zero =>
      intro rn l3 M1 h1 h2 h3 hl hI
      exact k_So_fillRanks_45 hI.1 (m_b32 hl) ⟨by omega, by omega⟩ ⟨fun _ => hI, fun u => absurd (Or.inl (by omega)) u⟩
    | succ t ih =>
      intro rn l3 M1 h1 h2 h3 hl hI
      refine k_So_fillRanks_45 hI.1 (m_b32 hl) ⟨by omega, by omega⟩ ⟨fun _ => hI, fun u => ?_⟩
      have rl : rn ≤ 512 := by
        by_cases c : (512 : Int) < rn
        · exact absurd (Or.inl c) u
        · omega
      suffices HH : ∀ (t j : Nat) (l3 : Int) (M1 : mM), cn ≤ j + t → j ≤ cn → (l3 = 0 ∨ l3 = 1) → frI L W s g a R k cn cc bc fd M M1 → h_So_fillRanks_62 G (d + 2) s a fd l3 rn j M1 (frI L W s g a R k cn cc bc fd M) from HH cn 0 0 M1 (by omega) (by omega) (Or.inl rfl) hI
      intro t2
      induction t2 with
      | zero =>
        intro j l3 M1 h1' h2' hl' hI'
        obtain ⟨-, -, ⟨⟨o, ⟨⟨s0, -⟩, ⟨-, -, -, r3, -⟩, -⟩, ⟨g0, -⟩, -, hT⟩, -⟩⟩ := id hI'
        have hc1 := hT.1.1
        refine k_So_fillRanks_62 o (m_b32 hl') ⟨by omega, by omega⟩ ⟨by omega, by omega⟩ ?_
        rw [r3, hT.2.2.2, show ((rn : Int) + 1) = ((rn + 1 : Nat) : Int) by omega]
        exact ⟨s0, g0, fun _ => ih (rn + 1) l3 M1 (by omega) (by omega) (by omega) hl' hI', fun u => absurd (by omega) u⟩
      | succ t2 ih2 =>
        intro j l3 M1 h1' h2' hl' hI'
        by_cases ej : j = cn
        · exact ih2 j l3 M1 (by omega) h2' hl' hI'
        have hS1 := hI'.2.2
        obtain ⟨⟨o, ⟨⟨s0, -⟩, ⟨-, -, -, r3, -⟩, -⟩, ⟨g0, -⟩, -, hT⟩, ⟨hF, -⟩, -, -, ⟨t1, t2', t3, t4, -, t7⟩, -, -⟩ := id hS1
        have hc1 := hT.1.1
        obtain ⟨kd, nd⟩ := kf hS1
        have fr := t7 j (by omega)
        refine k_So_fillRanks_62 o (m_b32 hl') ⟨by omega, by omega⟩ ⟨by omega, by omega⟩ ?_
        rw [r3, hT.2.2.2, kd, nd, t2', t4, Int.toNat_natCast, fr.1.2.1.1, show ((j : Int) + 1) = ((j + 1 : Nat) : Int) by omega]
        refine ⟨s0, g0, fun u => absurd u (by omega), fun _ => ⟨rfl, ⟨by omega, by omega⟩, fun _ => ⟨t1, t3, ⟨by omega, by omega⟩, fr.1.1, hF.kd fr.2.1⟩, fun _ => ih2 (j + 1) l3 M1 (by omega) (by omega) hl' hI', fun _ => (s_So_earns (d := d + 1) (rd := ((rn : Nat) : Int)) ⟨by omega, by omega⟩ hS1.1 ⟨kd, nd⟩ (show j < cn by omega)).mono (fun x59 M58 q => ?_)⟩⟩
        rw [q.1, kd, nd]
        refine ⟨m_b32 q.2, o, fun _ => ⟨rfl, ⟨by omega, by omega⟩⟩, fun v64 e64 M65 e65 => ?_⟩
        by_cases cx : x59 = 0
        · rw [if_pos cx] at e64 e65
          rw [e64, e65]
          exact ⟨o, ih2 (j + 1) l3 M1 (by omega) (by omega) hl' hI'⟩
        · rw [if_neg cx] at e64 e65
          have I2 := st hI' (show i32 ((rn : Nat) : Int) from ⟨by omega, by omega⟩) M65 e65
          rw [e64]
          exact ⟨I2.1, ih2 (j + 1) 1 M65 (by omega) (by omega) (Or.inr rfl) I2⟩
  suffices HH : ∀ (t j : Nat) (M1 : mM), cn ≤ j + t → j ≤ cn → frI L W s g a R k cn cc bc fd M M1 → h_So_fillRanks_2 G (d + 2) s a fd j M1 (frI L W s g a R k cn cc bc fd M) from HH cn 0 M (by omega) (by omega) ⟨h.1.1, FI.refl, h⟩
  intro t
  induction t with
  | zero =>
    intro j M1 h1 h2 hI
    obtain ⟨-, -, ⟨⟨o, ⟨⟨s0, -⟩, ⟨-, -, -, r3, -⟩, -⟩, ⟨g0, -⟩, -, hT⟩, -⟩⟩ := id hI
    have hc1 := hT.1.1
    refine k_So_fillRanks_2 o ⟨by omega, by omega⟩ ?_
    rw [r3, hT.2.2.2]
    exact ⟨s0, g0, fun _ => R45 512 1 1 M1 (by omega) (by omega) (by omega) (Or.inr rfl) hI, fun u => absurd (by omega) u⟩
  | succ t ih =>
    intro j M1 h1 h2 hI
    obtain ⟨-, -, ⟨⟨o, ⟨⟨s0, -⟩, ⟨-, -, -, r3, -⟩, -⟩, ⟨g0, ⟨q2, -⟩, gk, ⟨m2, -⟩⟩, -, hT⟩, -⟩⟩ := id hI
    have hc1 := hT.1.1
    obtain ⟨kd, nd⟩ := kf hI.2.2
    refine k_So_fillRanks_2 o ⟨by omega, by omega⟩ ?_
    rw [r3, hT.2.2.2, q2, m2, kd, nd, Int.toNat_natCast, show ((j : Int) + 1) = ((j + 1 : Nat) : Int) by omega]
    refine ⟨s0, g0, fun _ => R45 512 1 1 M1 (by omega) (by omega) (by omega) (Or.inr rfl) hI, fun u => ⟨gk 2 (by decide) (by decide), ⟨by omega, by omega⟩, fun v10 e10 => ⟨rfl, ⟨by omega, by omega⟩, fun M16 e16 => ?_⟩⟩⟩
    have vi' : i32 v10 := by rw [e10]; split <;> exact ⟨by decide, by decide⟩
    exact ih (j + 1) M16 (by omega) (by omega) (st hI vi' M16 e16)
end NBV
end
section
/-! The class's Solver: commands that attain. -/
section NBW
variable {G : mG} {d s g a R cn cc bc i k n c un x y fd B : Nat} {M M0 M' M1 M2 M3 : mM} {L : List Nat} {W : Nat → Nat}
theorem and01 {x y : Int} (hx : x = 0 ∨ x = 1) (hy : y = 0 ∨ y = 1) : andI x y = 0 ∨ andI x y = 1 := by
  rcases hx with e | e <;> rcases hy with e' | e' <;> rw [e, e'] <;> decide
theorem or01 {x y : Int} (hx : x = 0 ∨ x = 1) (hy : y = 0 ∨ y = 1) : orI x y = 0 ∨ orI x y = 1 := by
  rcases hx with e | e <;> rcases hy with e' | e' <;> rw [e, e'] <;> decide
def Tat (s x : Nat) : Prop := Tpk (s + 1) x ∨ T2 (s + 129) x
def Cat (s x : Nat) : Prop := x = s + 129 ∨ x = s + 127
theorem Cat.so {R' : Nat} (h : Cat s x) : Cso s M R' n x := h.elim (fun u => Or.inr (Or.inr (Or.inr (Or.inr (Or.inl u))))) (fun u => Or.inr (Or.inl (Or.inr (Or.inr (Or.inr (Or.inr (Or.inr (Or.inr (Or.inr (Or.inr (Or.inl u)))))))))))
/-- while commands are marked -/
def atI (L : List Nat) (W : Nat → Nat) (s g a R k cn cc bc : Nat) (M0 M : mM) : Prop := NX L W (Tat s) (Cat s) False (s + 1) M0 M ∧ Sva L W s g a R k cn cc bc M ∧ mR M R = mR M0 R ∧ (∀ x, Stb s x → x ≠ s + 127 → mI M x = mI M0 x) ∧ (Rsm M R cn 17 ∧ Rt1 M R cn) ∧ ∀ i, i ≤ 9 → mI M (g + i) = mI M0 (g + i)
theorem at_mk (h : Sva L W s g a R k cn cc bc M0) (hcn : cn ≤ k) (hr : Rsm M0 R cn 17 ∧ Rt1 M0 R cn) (q : NX L W (Tat s) (Cat s) False (s + 1) M0 M) : atI L W s g a R k cn cc bc M0 M := by
  have hF := h.2.1.1
  have q' : NX L W (Tso s M0 R cn) (Cso s M0 R cn) False (s + 1) M0 M := q.mono hF (fun _ u => u.elim Or.inl (fun u => Or.inr (Or.inr (Or.inl u)))) (h.tl hcn) (fun x u => u.so) (h.cl hcn) (fun u => u)
  obtain ⟨e1, e2, e3⟩ := h.nx hcn q' (q.sk hF h.2.1.2.1)
  have rv : ∀ i, i < cn → nv M (mR M0 R i + 1) = nv M0 (mR M0 R i + 1) ∧ nv M (mR M0 R i + 3) = nv M0 (mR M0 R i + 3) ∧ mI M (mR M0 R i) = mI M0 (mR M0 R i) := fun i hi => by
    have f := h.2.2.2.2.1.2.2.2.2.2 i (by omega)
    have ap := h.te.2.2.2.1 i (by omega)
    have hb := h.2.2.2.2.2.1 i (by omega)
    refine ⟨(q.num hF f.2.1 (fun u => u.elim ap.1 (fun u => by unfold T2 at u; omega))).2.2, (q.num hF f.2.2 (fun u => u.elim ap.2.1 (fun u => by unfold T2 at u; omega))).2.2, (q.frl hF f).2 (fun u => ?_)⟩
    unfold Cat at u
    omega
  refine ⟨q, e1, e3, fun x hx nx => ?_, ⟨fun i hi => ?_, fun i hi => ?_⟩, e2⟩
  · have ne : x ≠ s + 1 := by unfold Stb at hx; omega
    refine (q.oth (h.2.2.1 x hx) ne).2.2.2 (fun u => ?_)
    unfold Cat at u
    unfold Stb at hx
    omega
  · rw [e3, (rv i hi).1, (rv i hi).2.1]; exact hr.1 i hi
  · rw [e3, (rv i hi).2.2]; exact hr.2 i hi
theorem Sva.we (h : Sva L W s g a R k cn cc bc M) (hcn : cn ≤ k) : We L W (s + 1) (s + 129) g a R cn M := by
  obtain ⟨⟨h1, h2, h3⟩, h4, h5, -⟩ := h.te
  refine ⟨⟨h1, h2, h3, h.2.1.2.2.2⟩, h4, h5.ws hcn, fun i hi => ?_⟩
  have := h.2.2.2.2.2.1 i (by omega)
  unfold Dwg Twg T4
  omega
theorem tw_at {z : Nat} (h : Twg (s + 1) (s + 129) z) : Tat s z := by
  rcases h with u | u | u | u | u | u
  · exact Or.inl (Or.inl u)
  · exact Or.inl (Or.inr (Or.inl (Or.inr u)))
  · exact Or.inl (Or.inr (Or.inr (Or.inl (Or.inl u))))
  · exact Or.inl (Or.inr (Or.inr (Or.inl (Or.inr u))))
  · exact Or.inr (Or.inl u)
  · exact Or.inr (Or.inr u)
theorem Sva.tat (h : Sva L W s g a R k cn cc bc M) : ∀ t, Tat s t → t ∈ L := fun t ht => ht.elim (h.2.1.2.1.tpk t) (h.2.1.2.2.2.t2 t)
theorem Sva.cat (h : Sva L W s g a R k cn cc bc M) (hcn : cn ≤ k) : ∀ x, Cat s x → Oc L M x := fun x u => h.cl (n := cn) hcn x u.so
/-- the worth against a row -/
theorem s_atOrder {Q : Int → mM → Prop} (h0 : Sva L W s g a R k cn cc bc M0) (hcn : cn ≤ k) (hr : Rsm M0 R cn 17 ∧ Rt1 M0 R cn) (hI : atI L W s g a R k cn cc bc M0 M) (hw : Osz M (s + 129) 139) (hi : i < cn) (hW : ∀ x, Tat s x → B ≤ W x) (b1 : 300 ≤ B)
    (hQ : ∀ x M', (x = -1 ∨ x = 0 ∨ x = 1) → atI L W s g a R k cn cc bc M0 M' → Q x M') : mK M s = 8 ∧ mK M (mR M s 0) = 9 ∧ Ci G y_Sc_order (d + 5) [vr (mR M s 0), vr (mR M s 13), vr (mR M0 R i)] M (fun x M' => i32 x ∧ mOk M' ∧ Q x M') := by
  obtain ⟨hN, hS, eR, st, ⟨hrs, ht1⟩, -⟩ := id hI
  obtain ⟨⟨o, ⟨⟨s0, -⟩, ⟨r0, -, -, -, -, -, -, -, -, -, -, -, r13⟩, -⟩, -⟩, ⟨hF, hSK, -, hfw⟩, -, -, ⟨-, -, -, -, -, t7⟩, hrow, -⟩ := id hS
  have fr := t7 i (by omega)
  have hb := hrow i (by omega)
  have ap := hS.te.2.2.2.1 i (by omega)
  have sm := hrs i hi
  have a1 := hF.szv fr.2.1 sm.2.2
  have a2 := hF.szv fr.2.2 sm.2.1
  have a3 := ht1 i hi
  rw [r0, r13, ← eR]
  refine ⟨s0, hSK.1.1, (f_Sc_order (d := d) (s := 139) ⟨o, hF, hSK, hfw, fr⟩ hw ⟨by omega, by omega, by omega, by omega⟩ (by unfold Tor; omega) ⟨fun u => ap.1 (Or.inr (Or.inl u)), fun u => ap.2.1 (Or.inr (Or.inl u))⟩ (by have := hW _ (Or.inl (Or.inr (Or.inl (Or.inl rfl)))); omega) (by have := hW _ (Or.inl (Or.inr (Or.inl (Or.inr rfl)))); omega)).mono (fun x M' q => ?_)⟩
  obtain ⟨n1, xx⟩ := q
  have x1 : NX L W (Tat s) (Cat s) False (s + 1) M M' := (n1.nx hF).mono hF (fun _ u => Or.inl (Or.inr (Or.inl u))) hS.tat (fun _ u => u.elim) (hS.cat hcn) (fun u => u)
  exact ⟨by rcases xx with e | e | e <;> rw [e] <;> exact ⟨by decide, by decide⟩, n1.ok, hQ x M' xx (at_mk h0 hcn hr (hN.trans x1))⟩
theorem s_at138 {v60 : Int} (h60 : v60 = 1 ∨ v60 = -1) (h0 : Sva L W s g a R k cn cc bc M0) (hcn : cn ≤ k) (hk : k ≤ 512) (hr : Rsm M0 R cn 17 ∧ Rt1 M0 R cn) (hi : i < cn) (ex : mI M0 (g + 4) i = ((x : Nat) : Int)) (ey : mI M0 (g + 4) (i + 1) = ((y : Nat) : Int)) (xy : x ≤ y ∧ y ≤ cc) (hW : ∀ x, Tat s x → B ≤ W x) (b1 : 300 ≤ B) (hB : B ≤ 16000)
    (hQ : ∀ (rt : Int) (M' : mM), (rt = 0 ∨ rt = 1) → atI L W s g a R k cn cc bc M0 M' → h_So_attain_4 G (d + 5) s a rt ((i : Int) + 1) M' (fun x M' => (x = 0 ∨ x = 1) ∧ atI L W s g a R k cn cc bc M0 M')) : ∀ (t c : Nat) (rt mt : Int) (M : mM), y ≤ c + t → x ≤ c → c ≤ y → (rt = 0 ∨ rt = 1) → (mt = 0 ∨ mt = 1) → atI L W s g a R k cn cc bc M0 M → h_So_attain_138 G (d + 5) s a rt i (mR M0 R i) mt v60 c M (fun x M' => (x = 0 ∨ x = 1) ∧ atI L W s g a R k cn cc bc M0 M') := by
  have i60 : i32 v60 := by rcases h60 with e | e <;> rw [e] <;> exact ⟨by decide, by decide⟩
  obtain ⟨hc1, hc2, hc3⟩ := h0.1.2.2.2.2.1
  intro t
  induction t with
  | zero =>
    intro c rt mt M h1 h2 h3 hrt hmt hI
    obtain ⟨-, ⟨⟨o, ⟨⟨s0, -⟩, ⟨-, -, -, r3, -⟩, -⟩, ⟨g0, ⟨-, q4, -⟩, gk, ⟨-, m4, -⟩⟩, -⟩, -⟩, -, -, -, gi⟩ := id hI
    refine k_So_attain_138 o (m_b32 hrt) ⟨by omega, by omega⟩ (m_b32 hmt) i60 ⟨by omega, by omega⟩ ?_
    rw [r3, q4, m4, show Int.toNat ((i : Int) + 1) = i + 1 by omega, gi 4 (by decide), ey]
    exact ⟨s0, g0, gk 4 (by decide) (by decide), ⟨by omega, by omega⟩, fun _ => hQ _ M (and01 hrt hmt) hI, fun u => absurd (by omega) u⟩
  | succ t ih =>
    intro c rt mt M h1 h2 h3 hrt hmt hI
    obtain ⟨hN, hS, eR, st, ⟨hrs, ht1⟩, gi⟩ := id hI
    obtain ⟨⟨o, ⟨⟨s0, -⟩, ⟨r0, -, -, r3, -, -, -, -, -, -, -, -, r13⟩, -⟩, ⟨g0, ⟨-, q4, -⟩, gk, ⟨-, m4, -⟩⟩, -, hT⟩, ⟨hF, hSK, -, hfw⟩, -⟩ := id hS
    refine k_So_attain_138 o (m_b32 hrt) ⟨by omega, by omega⟩ (m_b32 hmt) i60 ⟨by omega, by omega⟩ ?_
    rw [r3, q4, m4, show Int.toNat ((i : Int) + 1) = i + 1 by omega, gi 4 (by decide), ey, r0, r13]
    refine ⟨s0, g0, gk 4 (by decide) (by decide), ⟨by omega, by omega⟩, fun _ => hQ _ M (and01 hrt hmt) hI, fun u => ⟨hSK.1.1, ?_⟩⟩
    obtain ⟨mu, hm, kw⟩ := f_weigh (G := G) (d := d) (B := B) (S := 17) (hS.we hcn) hrs (fun z hz => hW z (tw_at hz)) (by omega) hB (show c < 4096 by omega) hc1 hc3 (hT.2.1 c (by omega))
    refine kw.mono (fun M74 q => ?_)
    obtain ⟨n1, u1, u2, u3, -⟩ := q
    have x1 : NX L W (Tat s) (Cat s) False (s + 1) M M74 := (n1.nx hF).mono hF (fun _ z => tw_at z) hS.tat (fun _ z => Or.inl z) (hS.cat hcn) (fun z => z)
    have I1 := at_mk h0 hcn hr (hN.trans x1)
    have F1 := n1.nf
    have ow : Osz M74 (s + 129) 139 := ⟨F1.szv hfw.2.1 u2, F1.szv hfw.2.2 (Int.lt_of_lt_of_le u1.2 (p30m (by decide))), by rw [u3]; omega, by rw [u3]; omega⟩
    have key : ∀ (x80 : Int) (M79 : mM), (x80 = -1 ∨ x80 = 0 ∨ x80 = 1) → atI L W s g a R k cn cc bc M0 M79 → (mK M79 s = 8 ∧ ∀ v84 : Int, v84 = (if (x80 = 0) then 1 else 0) → mK M79 (mR M79 s 11) = 31 ∧ ((0 : Int) ≤ (c : Int) ∧ (c : Int) < (mN M79 (mR M79 s 11) : Int)) ∧ ∀ M91, M91 = mUI M79 (mR M79 s 11) (Int.toNat c) v84 → ∀ v94 : Int, v94 = (if (x80 = 0) then 1 else 0) → ∀ v100 : Int, v100 = (if (x80 = v60) then 0 else 1) → h_So_attain_138 G (d + 5) s a (andI rt v100) i (mR M0 R i) (orI mt v94) v60 ((c : Int) + 1) M91 (fun x M' => (x = 0 ∨ x = 1) ∧ atI L W s g a R k cn cc bc M0 M')) := by
      intro x80 M79 xx I2
      obtain ⟨hN2, hS2, -, -, -, -⟩ := id I2
      obtain ⟨⟨o2, ⟨⟨s02, -⟩, ⟨-, -, -, -, -, -, -, -, -, -, r11, -⟩, ⟨-, -, -, -, -, -, -, k11, -⟩, ⟨-, -, -, -, -, -, -, n11, -⟩⟩, -⟩, ⟨hF2, -⟩, hSt2, -⟩ := id hS2
      rw [r11, n11, Int.toNat_natCast, show ((c : Int) + 1) = ((c + 1 : Nat) : Int) by omega]
      refine ⟨s02, fun v84 e84 => ⟨k11, ⟨by omega, by omega⟩, fun M91 e91 v94 e94 v100 e100 => ?_⟩⟩
      have b84 : v84 = 0 ∨ v84 = 1 := by rw [e84]; split <;> omega
      have b94 : v94 = 0 ∨ v94 = 1 := by rw [e94]; split <;> omega
      have b100 : v100 = 0 ∨ v100 = 1 := by rw [e100]; split <;> omega
      have f91 : FI (fun z => z = s + 127) M79 M91 := by rw [e91]; exact FI.ui rfl
      have o91 : mOk M91 := by rw [e91]; exact mOk_UI o2 (m_b32 b84)
      obtain ⟨x3, -⟩ := f91.nx (T := Tat s) (r := False) (z := s + 1) o91 hF2 hS2.tat (fun z hz => hS2.cat hcn z (Or.inr hz)) hS2.z9
      have x3' : NX L W (Tat s) (Cat s) False (s + 1) M79 M91 := x3.mono hF2 (fun _ z => z) hS2.tat (fun _ z => Or.inr z) (hS2.cat hcn) (fun z => z)
      exact ih (c + 1) _ _ M91 (by omega) (by omega) (by omega) (and01 hrt b100) (or01 hmt b94) (at_mk h0 hcn hr (hN2.trans x3'))
    obtain ⟨w1, w2, w3⟩ := s_atOrder (G := G) (d := d) (Q := fun x80 M79 => mK M79 s = 8 ∧ ∀ v84 : Int, v84 = (if (x80 = 0) then 1 else 0) → mK M79 (mR M79 s 11) = 31 ∧ ((0 : Int) ≤ (c : Int) ∧ (c : Int) < (mN M79 (mR M79 s 11) : Int)) ∧ ∀ M91, M91 = mUI M79 (mR M79 s 11) (Int.toNat c) v84 → ∀ v94 : Int, v94 = (if (x80 = 0) then 1 else 0) → ∀ v100 : Int, v100 = (if (x80 = v60) then 0 else 1) → h_So_attain_138 G (d + 5) s a (andI rt v100) i (mR M0 R i) (orI mt v94) v60 ((c : Int) + 1) M91 (fun x M' => (x = 0 ∨ x = 1) ∧ atI L W s g a R k cn cc bc M0 M')) h0 hcn hr I1 ow hi hW b1 key
    exact ⟨n1.ok, w1, w2, w3⟩
theorem s_So_attain (h0 : Sva L W s g a R k cn cc bc M) (hcn : cn ≤ k) (hk : k ≤ 512) (hr : Rsm M R cn 17 ∧ Rt1 M R cn) (hW : ∀ x, Tat s x → B ≤ W x) (b1 : 300 ≤ B) (hB : B ≤ 16000) : Ci G y_So_attain (d + 6) [vr s, vr a] M (fun x M' => (x = 0 ∨ x = 1) ∧ atI L W s g a R k cn cc bc M M') := by
  obtain ⟨hc1, hc2, hc3⟩ := h0.1.2.2.2.2.1
  refine k_So_attain h0.1.1 ?_
  suffices HH : ∀ (t i : Nat) (rt : Int) (M1 : mM), cn ≤ i + t → i ≤ cn → (rt = 0 ∨ rt = 1) → atI L W s g a R k cn cc bc M M1 → h_So_attain_4 G (d + 5) s a rt i M1 (fun x M' => (x = 0 ∨ x = 1) ∧ atI L W s g a R k cn cc bc M M') from
    HH cn 0 1 M (by omega) (by omega) (Or.inr rfl) (at_mk h0 hcn hr (NX.refl h0.1.1 h0.2.1.1 h0.tat (h0.cat hcn) h0.z9))
  intro t
  induction t with
  | zero =>
    intro i rt M1 h1 h2 hrt hI
    obtain ⟨-, ⟨⟨o, ⟨⟨s0, -⟩, ⟨-, -, -, r3, -⟩, -⟩, ⟨g0, -⟩, -, hT⟩, -⟩, -⟩ := id hI
    refine k_So_attain_4 o (m_b32 hrt) ⟨by omega, by omega⟩ ?_
    rw [r3, hT.2.2.2]
    exact ⟨s0, g0, fun _ => ⟨hrt, hrt, hI⟩, fun u => absurd (by omega) u⟩
  | succ t ih =>
    intro i rt M1 h1 h2 hrt hI
    by_cases ei : i = cn
    · exact ih i rt M1 (by omega) h2 hrt hI
    have hi : i < cn := by omega
    obtain ⟨hN, hS, eR, st, ⟨hrs, ht1⟩, gi⟩ := id hI
    obtain ⟨⟨o, ⟨⟨s0, -⟩, ⟨r0, -, -, r3, -, -, -, -, -, -, -, -, r13⟩, -⟩, ⟨g0, ⟨q2, q4, -⟩, gk, ⟨m2, m4, -⟩⟩, -, hT⟩, ⟨hF, hSK, -, hfw⟩, -, -, ⟨t1, t2, t3, t4, -, t7⟩, -, -⟩ := id hS
    obtain ⟨x, y, x1, y1, xy, yc⟩ := hT.2.2.1 i hi
    have x1' : mI M (g + 4) i = ((x : Nat) : Int) := by rw [← gi 4 (by decide)]; exact x1
    have y1' : mI M (g + 4) (i + 1) = ((y : Nat) : Int) := by rw [← gi 4 (by decide)]; exact y1
    have nxt : ∀ (rt : Int) (M' : mM), (rt = 0 ∨ rt = 1) → atI L W s g a R k cn cc bc M M' → h_So_attain_4 G (d + 5) s a rt ((i : Int) + 1) M' (fun x M' => (x = 0 ∨ x = 1) ∧ atI L W s g a R k cn cc bc M M') := fun rt' M' hrt' hI' => by
      rw [show ((i : Int) + 1) = ((i + 1 : Nat) : Int) by omega]
      exact ih (i + 1) rt' M' (by omega) (by omega) hrt' hI'
    have s107 : ∀ (rt mt : Int) (M2 : mM), (rt = 0 ∨ rt = 1) → (mt = 0 ∨ mt = 1) → atI L W s g a R k cn cc bc M M2 → h_So_attain_107 G (d + 5) s a rt i (mR M R i) mt M2 (fun x M' => (x = 0 ∨ x = 1) ∧ atI L W s g a R k cn cc bc M M') := fun rt mt M2 hrt' hmt' hI' => by
      obtain ⟨-, ⟨⟨o', ⟨⟨s0', -⟩, ⟨-, -, -, r3', -⟩, -⟩, ⟨g0', ⟨q2', q4', -⟩, gk', ⟨m2', m4', -⟩⟩, -, -⟩, -⟩, -, -, -, gi'⟩ := id hI'
      refine k_So_attain_107 o' (m_b32 hrt') ⟨by omega, by omega⟩ (m_b32 hmt') ?_
      rw [r3', q2', m2', q4', m4', Int.toNat_natCast, gi' 4 (by decide), x1']
      refine ⟨s0', g0', gk' 2 (by decide) (by decide), ⟨by omega, by omega⟩, fun v60 e60 => ⟨gk' 4 (by decide) (by decide), ⟨by omega, by omega⟩, ?_⟩⟩
      have h60 : v60 = 1 ∨ v60 = -1 := by rw [e60]; split <;> omega
      exact s_at138 (d := d) h60 h0 hcn hk hr hi x1' y1' ⟨xy, yc⟩ hW b1 hB nxt (y - x) x rt mt M2 (by omega) (Nat.le_refl _) (by omega) hrt' hmt' hI'
    refine k_So_attain_4 o (m_b32 hrt) ⟨by omega, by omega⟩ ?_
    rw [r3, hT.2.2.2, t2, t4, q4, m4, q2, m2, r13, Int.toNat_natCast, show Int.toNat ((i : Int) + 1) = i + 1 by omega, eR]
    refine ⟨s0, g0, fun u => absurd u (by omega), fun _ => ⟨t1, t3, ⟨by omega, by omega⟩, gk 4 (by decide) (by decide), ⟨by omega, by omega⟩, ⟨by omega, by omega⟩, fun v20 e20 => ?_⟩⟩
    have b20 : v20 = 0 ∨ v20 = 1 := by rw [e20]; split <;> omega
    refine ⟨fun _ => s107 rt v20 M1 hrt b20 hI, fun _ => ⟨gk 2 (by decide) (by decide), ⟨by omega, by omega⟩, fun v32 e32 => ⟨hfw.1.1, ?_⟩⟩⟩
    have b32 : 0 ≤ v32 ∧ v32 < 1073741824 := by rw [e32]; split <;> omega
    refine (f_Fr_put0 (d := d + 4) b32 o hF hfw hSK.z9).mono (fun M38 q => ?_)
    obtain ⟨n1, p1, p3, p2⟩ := q
    have x38 : NX L W (Tat s) (Cat s) False (s + 1) M1 M38 := (n1.nx hF).mono hF (fun _ z => Or.inr z) hS.tat (fun _ z => Or.inl z) (hS.cat hcn) (fun z => z)
    have I1 := at_mk h0 hcn hr (hN.trans x38)
    have F1 := n1.nf
    have ow : Osz M38 (s + 129) 139 := ⟨F1.szv hfw.2.1 (by rw [p1]; exact Int.lt_of_lt_of_le b32.2 (by rw [show (1073741824 : Int) = 2 ^ (30 * 1) by decide]; exact p30m (by decide))), F1.szv hfw.2.2 (by rw [p3]; exact Int.lt_of_lt_of_le (show (1 : Int) < 2 ^ (30 * 1) by decide) (p30m (by decide))), by rw [p2]; decide, by rw [p2]; decide⟩
    obtain ⟨w1, w2, w3⟩ := s_atOrder (G := G) (d := d) (Q := fun x44 M43 => ∀ v47 : Int, v47 = (if (x44 = 0) then 1 else 0) → h_So_attain_107 G (d + 5) s a (andI rt v47) i (mR M R i) v20 M43 (fun x M' => (x = 0 ∨ x = 1) ∧ atI L W s g a R k cn cc bc M M')) h0 hcn hr I1 ow hi hW b1 (fun x44 M43 xx I2 v47 e47 => s107 _ _ M43 (and01 hrt (by rw [e47]; split <;> omega)) b20 I2)
    exact ⟨n1.ok, w1, w2, w3⟩
end NBW
end
section
/-! The class's Solver: ranks and choices; whether told values hold. -/
section NBX
variable {G : mG} {d s g a R cn cc bc i k n c un x y fd B : Nat} {M M0 M' M1 M2 M3 : mM} {L : List Nat} {W : Nat → Nat}
/-- the choices stand among the commands -/
def Chs (M : mM) (s g n : Nat) : Prop := ∀ k, k < n → ∀ x y : Nat, mI M (g + 4) k = ((x : Nat) : Int) → mI M (g + 4) (k + 1) = ((y : Nat) : Int) → (x = y ∧ mI M (s + 30) k = -1) ∨ (x ≠ y ∧ 0 ≤ mI M (s + 30) k ∧ mI M (s + 30) k < ((y : Nat) : Int) - ((x : Nat) : Int))
/-- what the Solver leaves, its rows as they were -/
def svQ (L : List Nat) (W : Nat → Nat) (s g a R k cn cc bc : Nat) (M0 M : mM) : Prop := NX L W (Tso s M0 R cn) (Cso s M0 R cn) True (s + 1) M0 M ∧ Sva L W s g a R k cn cc bc M ∧ mR M R = mR M0 R ∧ (Rsm M R cn 17 ∧ Rt1 M R cn) ∧ ∀ i, i ≤ 9 → mI M (g + i) = mI M0 (g + i)
theorem atI.sv (hI : atI L W s g a R k cn cc bc M0 M) (h : Sva L W s g a R k cn cc bc M0) (hcn : cn ≤ k) : svQ L W s g a R k cn cc bc M0 M := by
  obtain ⟨q, h1, h2, -, h4, h5⟩ := hI
  exact ⟨q.mono h.2.1.1 (fun _ u => u.elim Or.inl (fun u => Or.inr (Or.inr (Or.inl u)))) (h.tl hcn) (fun x u => u.so) (h.cl hcn) (fun u => u.elim), h1, h2, h4, h5⟩
/-- a table of the Solver's is written -/
theorem svQ.fi {S : Nat → Prop} (hI : svQ L W s g a R k cn cc bc M0 M) (h : Sva L W s g a R k cn cc bc M0) (hcn : cn ≤ k) (f : FI S M M') (o : mOk M') (hS : ∀ x, S x → Stb s x) : svQ L W s g a R k cn cc bc M0 M' := by
  obtain ⟨q, h1, h2, ⟨h4, h4'⟩, h5⟩ := hI
  have hF := h1.2.1.1
  obtain ⟨x, v⟩ := f.nx (T := Tso s M R cn) (r := False) (z := s + 1) o hF (h1.tl hcn) (fun x u => h1.2.2.1 x (hS x u)) h1.z9
  have x' : NX L W (Tso s M R cn) (Cso s M R cn) False (s + 1) M M' := x.mono hF (fun _ u => u) (h1.tl hcn) (fun x u => Or.inr (Or.inl (hS x u))) (h1.cl hcn) (fun u => u)
  obtain ⟨e1, e2, e3⟩ := h1.nx hcn x' (x.sk hF h1.2.1.2.1)
  have x2 : NX L W (Tso s M0 R cn) (Cso s M0 R cn) True (s + 1) M M' := by
    have e : Tso s M R cn = Tso s M0 R cn := by
      funext z
      unfold Tso Trw
      rw [h2]
    have e' : Cso s M R cn = Cso s M0 R cn := by
      funext z
      unfold Cso Irw
      rw [h2]
    rw [e, e'] at x'
    exact x'.mono hF (fun _ u => u) q.2.1.1 (fun _ u => u) x'.2.1.2.1 (fun u => u.elim)
  have rows : ∀ i, i < cn → FrL L M (mR M R i) := fun i hi => h1.2.2.2.2.1.2.2.2.2.2 i (by omega)
  refine ⟨q.trans x2, e1, by rw [e3, h2], ⟨fun i hi => ?_, fun i hi => ?_⟩, fun i hi => by rw [e2 i hi, h5 i hi]⟩
  · rw [e3, v _ (rows i hi).2.1, v _ (rows i hi).2.2]; exact h4 i hi
  · rw [e3, f.2.2.2.2.2.2 _ (fun u => by
      have := hS _ u
      have hb := h1.2.2.2.2.2.1 i (by omega)
      unfold Stb at this
      omega)]
    exact h4' i hi
theorem s_rc119 {Q : mM → Prop} {b4 : Int} (h4 : b4 = 0 ∨ b4 = 1) (h0 : Sva L W s g a R k cn cc bc M0) (hcn : cn ≤ k) (hi : i < cn) (ex : mI M0 (g + 4) i = ((x : Nat) : Int)) (ey : mI M0 (g + 4) (i + 1) = ((y : Nat) : Int)) (xy : x ≤ y ∧ y ≤ cc)
    (hQ : ∀ M', svQ L W s g a R k cn cc bc M0 M' → Chs M' s g (i + 1) → h_So_rankAndChoose_17 G d s ((i : Int) + 1) M' Q) : ∀ (t c : Nat) (fo : Int) (M : mM), y ≤ c + t → x ≤ c → c ≤ y → (fo = 0 ∨ fo = 1) → svQ L W s g a R k cn cc bc M0 M → Chs M s g (i + 1) → h_So_rankAndChoose_119 G d s i x b4 fo c M Q := by
  obtain ⟨hc1, hc2, hc3⟩ := h0.1.2.2.2.2.1
  intro t
  induction t with
  | zero =>
    intro c fo M h1 h2 h3 hf hI hC
    obtain ⟨-, ⟨⟨o, ⟨⟨s0, -⟩, ⟨-, -, -, r3, -⟩, -⟩, ⟨g0, ⟨-, q4, -⟩, gk, ⟨-, m4, -⟩⟩, -, -⟩, -⟩, -, -, gi⟩ := id hI
    refine k_So_rankAndChoose_119 o ⟨by omega, by omega⟩ ⟨by omega, by omega⟩ (m_b32 h4) (m_b32 hf) ⟨by omega, by omega⟩ ?_
    rw [r3, q4, m4, show Int.toNat ((i : Int) + 1) = i + 1 by omega, gi 4 (by decide), ey]
    exact ⟨s0, g0, gk 4 (by decide) (by decide), ⟨by omega, by omega⟩, fun _ => hQ M hI hC, fun u => absurd (Or.inl (by omega)) u⟩
  | succ t ih =>
    intro c fo M h1 h2 h3 hf hI hC
    obtain ⟨-, hS, -, -, gi⟩ := id hI
    obtain ⟨⟨o, ⟨⟨s0, -⟩, ⟨-, r1, r2, r3, -, -, -, -, -, -, r11, -⟩, ⟨k1, k2, -, -, -, -, -, k11, -⟩, ⟨n1, n2, -, -, -, -, -, n11, -⟩⟩, ⟨g0, ⟨-, q4, -⟩, gk, ⟨-, m4, -⟩⟩, -, -⟩, -⟩ := id hS
    have e1 := gi 4 (by decide)
    refine k_So_rankAndChoose_119 o ⟨by omega, by omega⟩ ⟨by omega, by omega⟩ (m_b32 h4) (m_b32 hf) ⟨by omega, by omega⟩ ?_
    rw [r3, q4, m4, show Int.toNat ((i : Int) + 1) = i + 1 by omega, e1, ey, r11, n11, r1, n1, Int.toNat_natCast, Int.toNat_natCast]
    refine ⟨s0, g0, gk 4 (by decide) (by decide), ⟨by omega, by omega⟩, fun _ => hQ M hI hC, fun u => ?_⟩
    have cy : c < y := by
      by_cases cc' : ((y : Nat) : Int) ≤ c
      · exact absurd (Or.inl cc') u
      · omega
    have s179 : ∀ (k0 : Int), (k0 = 0 ∨ k0 = 1) → h_So_rankAndChoose_179 G d s i x b4 c k0 M Q := fun k0 hk0 => by
      refine k_So_rankAndChoose_179 o ⟨by omega, by omega⟩ ⟨by omega, by omega⟩ (m_b32 h4) ⟨by omega, by omega⟩ (m_b32 hk0) ?_
      rw [r2, n2, Int.toNat_natCast, show ((c : Int) + 1) = ((c + 1 : Nat) : Int) by omega]
      refine ⟨s0, k2, ⟨by omega, by omega⟩, ⟨by omega, by omega⟩, fun M91 e91 => ?_⟩
      have f91 : FI (fun z => z = s + 30) M M91 := by rw [e91]; exact FI.ui rfl
      have o91 : mOk M91 := by rw [e91]; exact mOk_UI o ⟨by omega, by omega⟩
      have I2 := hI.fi h0 hcn f91 o91 (fun z u => by rw [u]; exact Or.inr (Or.inr (Or.inl rfl)))
      refine ih (c + 1) k0 M91 (by omega) (by omega) (by omega) hk0 I2 (fun j hj x' y' f1 f2 => ?_)
      rw [I2.2.2.2.2 4 (by decide)] at f1 f2
      rw [mI_ui _ j e91]
      by_cases cj : j = i
      · rw [if_pos ⟨rfl, cj⟩]
        rw [cj] at f1 f2
        exact Or.inr ⟨by omega, by omega, by omega⟩
      · rw [if_neg (fun u => cj u.2)]
        exact hC j hj x' y' (by rw [e1]; exact f1) (by rw [e1]; exact f2)
    refine ⟨k11, ⟨by omega, by omega⟩, fun _ => s179 0 (Or.inl rfl), fun _ => ⟨fun _ => s179 1 (Or.inr rfl), fun _ => ⟨k1, ⟨by omega, by omega⟩, (s_So_leadsBelow (d := d) (o _ _).1 hS.1 ⟨k1, n1⟩ (show c < cc by omega)).mono (fun x81 M80 q => ?_)⟩⟩⟩
    rw [q.1]
    exact ⟨m_b32 q.2, o, fun _ => s179 0 (Or.inl rfl), fun _ => s179 1 (Or.inr rfl)⟩
theorem s_So_rankAndChoose (h0 : Sva L W s g a R k cn cc bc M) (hcn : cn ≤ k) (hk : k ≤ 512) (hr : Rsm M R cn 17 ∧ Rt1 M R cn) (hW : ∀ x, Tat s x → B ≤ W x) (b1 : 300 ≤ B) (hB : B ≤ 16000) : Cv G y_So_rankAndChoose (d + 7) [vr s, vr a] M (fun M' => svQ L W s g a R k cn cc bc M M' ∧ Chs M' s g cn) := by
  obtain ⟨hc1, hc2, hc3⟩ := h0.1.2.2.2.2.1
  refine k_So_rankAndChoose h0.1.1 ⟨h0.1.2.1.1.1, (s_So_attain (d := d) h0 hcn hk hr hW b1 hB).mono (fun x3 M2 q => ?_)⟩
  obtain ⟨x01, hI2⟩ := q
  have V2 := hI2.sv h0 hcn
  have S2 := hI2.2.1
  have r1 : mR M2 s 1 = s + 29 := S2.1.2.1.2.1.2.1
  rw [r1]
  refine ⟨m_b32 x01, S2.1.1, S2.1.2.1.1.1, (s_So_fillRanks (d := d + 3) S2 hcn hk (Or.inl rfl)).mono (fun M6 q => ?_)⟩
  obtain ⟨o6, f6, S6⟩ := q
  have V6 := V2.fi h0 hcn f6 o6 (fun z u => by rw [u]; exact Or.inr (Or.inl rfl))
  refine ⟨o6, ?_⟩
  suffices HH : ∀ (t i : Nat) (M1 : mM), cn ≤ i + t → i ≤ cn → svQ L W s g a R k cn cc bc M M1 → Chs M1 s g i → h_So_rankAndChoose_17 G (d + 6) s i M1 (fun M' => svQ L W s g a R k cn cc bc M M' ∧ Chs M' s g cn) from HH cn 0 M6 (by omega) (by omega) V6 (fun j hj => absurd hj (by omega))
  intro t
  induction t with
  | zero =>
    intro i M1 h1 h2 hI hC
    have ei : i = cn := by omega
    subst ei
    obtain ⟨-, ⟨⟨o, ⟨⟨s0, -⟩, ⟨-, -, -, r3, -⟩, -⟩, ⟨g0, -⟩, -, hT⟩, -⟩, -⟩ := id hI
    refine k_So_rankAndChoose_17 o ⟨by omega, by omega⟩ ?_
    rw [r3, hT.2.2.2]
    exact ⟨s0, g0, fun _ => ⟨hI, hC⟩, fun u => absurd (by omega) u⟩
  | succ t ih =>
    intro i M1 h1 h2 hI hC
    by_cases ei : i = cn
    · exact ih i M1 (by omega) h2 hI hC
    have hi : i < cn := by omega
    obtain ⟨-, hS, -, -, gi⟩ := id hI
    obtain ⟨⟨o, ⟨⟨s0, -⟩, ⟨-, r1, r2, r3, -⟩, ⟨k1, k2, -⟩, ⟨n1, n2, -⟩⟩, ⟨g0, ⟨q2, q4, -⟩, gk, ⟨m2, m4, -⟩⟩, -, hT⟩, -⟩ := id hS
    obtain ⟨x, y, x1, y1, xy, yc⟩ := hT.2.2.1 i hi
    have e4 := gi 4 (by decide)
    have x1' : mI M (g + 4) i = ((x : Nat) : Int) := by rw [← e4]; exact x1
    have y1' : mI M (g + 4) (i + 1) = ((y : Nat) : Int) := by rw [← e4]; exact y1
    refine k_So_rankAndChoose_17 o ⟨by omega, by omega⟩ ?_
    rw [r3, hT.2.2.2, q4, m4, r2, n2, Int.toNat_natCast, show Int.toNat ((i : Int) + 1) = i + 1 by omega, x1, y1]
    refine ⟨s0, g0, fun u => absurd u (by omega), fun _ => ⟨gk 4 (by decide) (by decide), ⟨by omega, by omega⟩, ⟨by omega, by omega⟩, fun v20 e20 => ⟨k2, ⟨by omega, by omega⟩, fun M26 e26 => ?_⟩⟩⟩
    have i20 : i32 v20 := by rw [e20]; split <;> exact ⟨by decide, by decide⟩
    have f26 : FI (fun z => z = s + 30) M1 M26 := by rw [e26]; exact FI.ui rfl
    have o26 : mOk M26 := by rw [e26]; exact mOk_UI o i20
    have I26 := hI.fi h0 hcn f26 o26 (fun z u => by rw [u]; exact Or.inr (Or.inr (Or.inl rfl)))
    rw [f26.1, f26.2.1, f26.2.2.1, r3, q2, m2, r2, n2, r1, n1]
    refine ⟨g0, gk 2 (by decide) (by decide), ⟨by omega, by omega⟩, fun v32 e32 => ⟨k2, ⟨by omega, by omega⟩, fun _ _ => ⟨k1, ⟨by omega, by omega⟩⟩, fun v44 e44 => ?_⟩⟩
    have b32 : v32 = 0 ∨ v32 = 1 := by rw [e32]; split <;> omega
    have b44 : v44 = 0 ∨ v44 = 1 := by rw [e44]; split <;> omega
    refine s_rc119 b32 h0 hcn hi x1' y1' ⟨xy, yc⟩ (fun M' hI' hC' => ?_) (y - x) x v44 M26 (by omega) (Nat.le_refl _) (by omega) b44 I26 (fun j hj x' y' f1 f2 => ?_)
    · rw [show ((i : Int) + 1) = ((i + 1 : Nat) : Int) by omega]
      exact ih (i + 1) M' (by omega) (by omega) hI' hC'
    · rw [I26.2.2.2.2 4 (by decide)] at f1 f2
      rw [mI_ui _ j e26]
      by_cases cj : j = i
      · rw [if_pos ⟨rfl, cj⟩]
        rw [cj] at f1 f2
        by_cases ce : x = y
        · rw [if_pos (by omega)] at e20
          exact Or.inl ⟨by omega, e20⟩
        · rw [if_neg (by omega)] at e20
          exact Or.inr ⟨by omega, by omega, by omega⟩
      · rw [if_neg (fun u => cj u.2)]
        exact hC j (by omega) x' y' (by rw [e4]; exact f1) (by rw [e4]; exact f2)
/-- whether values are what they must be -/
theorem s_So_holds (h0 : Sva L W s g a R k cn cc bc M) (hcn : cn ≤ k) (hk : k ≤ 512) (hr : Rsm M R cn 17 ∧ Rt1 M R cn) (hW : ∀ x, Tat s x → B ≤ W x) (b1 : 300 ≤ B) (hB : B ≤ 16000) : Ci G y_So_holds (d + 7) [vr s, vr a] M (fun x M' => (x = 0 ∨ x = 1) ∧ svQ L W s g a R k cn cc bc M M' ∧ mI M' (s + 30) = mI M (s + 30)) := by
  obtain ⟨hc1, hc2, hc3⟩ := h0.1.2.2.2.2.1
  refine k_So_holds h0.1.1 ⟨h0.1.2.1.1.1, (s_So_attain (d := d) h0 hcn hk hr hW b1 hB).mono (fun x3 M2 q => ?_)⟩
  obtain ⟨x01, hI2⟩ := q
  have V2 := hI2.sv h0 hcn
  have S2 := hI2.2.1
  have r12 : mR M2 s 12 = s + 128 := S2.1.2.1.2.1.2.2.2.2.2.2.2.2.2.2.2.1
  rw [r12]
  refine ⟨m_b32 x01, S2.1.1, S2.1.2.1.1.1, (s_So_fillRanks (d := d + 3) S2 hcn hk (Or.inr rfl)).mono (fun M6 q => ?_)⟩
  obtain ⟨o6, f6, S6⟩ := q
  have V6 := V2.fi h0 hcn f6 o6 (fun z u => by rw [u]; exact Or.inr (Or.inr (Or.inr (Or.inr (Or.inr (Or.inr (Or.inr (Or.inr (Or.inr rfl)))))))))
  refine ⟨o6, ?_⟩
  obtain ⟨⟨o, ⟨⟨s0, -⟩, ⟨-, r1, -, r3, -, -, -, -, -, -, -, r12', -⟩, ⟨k1, -, -, -, -, -, -, -, k12⟩, ⟨n1, -, -, -, -, -, -, -, n12⟩⟩, ⟨g0, -⟩, -, hT⟩, ⟨hF, -⟩, -, -, ⟨t1, t2, t3, t4, -, t7⟩, -, -⟩ := id V6.2.1
  have e30 : mI M6 (s + 30) = mI M (s + 30) := by rw [f6.2.2.2.2.2.2 (s + 30) (show ¬ s + 30 = s + 128 by omega), hI2.2.2.2.1 (s + 30) (Or.inr (Or.inr (Or.inl rfl))) (by omega)]
  suffices HH : ∀ (t i : Nat) (l2 : Int), cn ≤ i + t → i ≤ cn → (l2 = 0 ∨ l2 = 1) → h_So_holds_17 G (d + 6) s a l2 i M6 (fun x M' => (x = 0 ∨ x = 1) ∧ svQ L W s g a R k cn cc bc M M' ∧ mI M' (s + 30) = mI M (s + 30)) from HH cn 0 x3 (by omega) (by omega) x01
  intro t
  induction t with
  | zero =>
    intro i l2 h1 h2 hl
    refine k_So_holds_17 o (m_b32 hl) ⟨by omega, by omega⟩ ?_
    rw [r3, hT.2.2.2]
    exact ⟨s0, g0, fun _ => ⟨hl, hl, V6, e30⟩, fun u => absurd (by omega) u⟩
  | succ t ih =>
    intro i l2 h1 h2 hl
    by_cases ei : i = cn
    · exact ih i l2 (by omega) h2 hl
    have fr := t7 i (by omega)
    refine k_So_holds_17 o (m_b32 hl) ⟨by omega, by omega⟩ ?_
    rw [r3, hT.2.2.2, t2, t4, r12', n12, r1, n1, Int.toNat_natCast, fr.1.2.1.1, show ((i : Int) + 1) = ((i + 1 : Nat) : Int) by omega]
    refine ⟨s0, g0, fun u => absurd u (by omega), fun _ => ⟨t1, t3, ⟨by omega, by omega⟩, fr.1.1, hF.kd fr.2.1, fun _ => ⟨k12, ⟨by omega, by omega⟩⟩, fun v33 e33 => ⟨fun _ => ⟨k12, ⟨by omega, by omega⟩, k1, ⟨by omega, by omega⟩⟩, fun v44 e44 => ?_⟩⟩⟩
    exact ih (i + 1) _ (by omega) (by omega) (and01 hl (by rw [e44]; split <;> omega))
end NBX
end
