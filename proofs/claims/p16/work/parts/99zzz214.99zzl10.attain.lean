/-! The class's Solver: commands that attain. -/
section NBW
variable {G : mG} {d s g a R cn cc bc i k n c un x y fd B : Nat} {M M0 M' M1 M2 M3 : mM} {L : List Nat} {W : Nat → Nat}
theorem and01 {x y : Int} (hx : x = 0 ∨ x = 1) (hy : y = 0 ∨ y = 1) : andI x y = 0 ∨ andI x y = 1 := by
  rcases hx with e | e <;> rcases hy with e' | e' <;> rw [e, e'] <;> decide
theorem or01 {x y : Int} (hx : x = 0 ∨ x = 1) (hy : y = 0 ∨ y = 1) : orI x y = 0 ∨ orI x y = 1 := by
  rcases hx with e | e <;> rcases hy with e' | e' <;> rw [e, e'] <;> decide
def Tat (s x : Nat) : Prop := Tpk (s + 1) x ∨ T2 (s + 130) x
def Cat (s x : Nat) : Prop := x = s + 130 ∨ x = s + 128
theorem Cat.so {R' : Nat} (h : Cat s x) : Cso s M R' n x := h.elim (fun u => Or.inr (Or.inr (Or.inr (Or.inr (Or.inl u))))) (fun u => Or.inr (Or.inl (Or.inr (Or.inr (Or.inr (Or.inr (Or.inr (Or.inr (Or.inr (Or.inr (Or.inl u)))))))))))
/-- while commands are marked -/
def atI (L : List Nat) (W : Nat → Nat) (s g a R k cn cc bc : Nat) (M0 M : mM) : Prop := NX L W (Tat s) (Cat s) False (s + 1) M0 M ∧ Sva L W s g a R k cn cc bc M ∧ mR M R = mR M0 R ∧ (∀ x, Stb s x → x ≠ s + 128 → mI M x = mI M0 x) ∧ (Rsm M R cn 17 ∧ Rt1 M R cn) ∧ ∀ i, i ≤ 9 → mI M (g + i) = mI M0 (g + i)
theorem at_mk (h : Sva L W s g a R k cn cc bc M0) (hcn : cn ≤ k) (hr : Rsm M0 R cn 17 ∧ Rt1 M0 R cn) (q : NX L W (Tat s) (Cat s) False (s + 1) M0 M) : atI L W s g a R k cn cc bc M0 M := by
  have hF := h.2.1.1
  have q' : NX L W (Tso s M0 R cn) (Cso s M0 R cn) False (s + 1) M0 M := q.mono hF (fun _ u => u.elim Or.inl (fun u => Or.inr (Or.inr (Or.inl u)))) (h.tl hcn) (fun x u => u.so) (h.cl hcn) (fun u => u)
  obtain ⟨e1, e2, e3⟩ := h.nx hcn q' (q.sk hF h.2.1.2.1)
  have rv : ∀ i, i < cn → nv M (mR M0 R i + 1) = nv M0 (mR M0 R i + 1) ∧ nv M (mR M0 R i + 3) = nv M0 (mR M0 R i + 3) ∧ mI M (mR M0 R i) = mI M0 (mR M0 R i) := fun i hi => by
    have f := h.2.2.2.2.1.2.2.2.2.2 i (by omega)
    have ap := h.te.2.2.2.1 i (by omega)
    have hb := h.2.2.2.2.2.1 i (by omega)
    refine ⟨(q.num hF f.2.1 (fun u => u.elim ap.1 (fun u => by unfold T2 at u; omega))).2.2, (q.num hF f.2.2 (fun u => u.elim ap.2.1 (fun u => by unfold T2 at u; omega))).2.2, (q.frl hF f).2 (fun u => ?_)⟩
    unfold Cat at u
    omega
  refine ⟨q, e1, e3, fun x hx nx => ?_, ⟨fun i hi => ?_, fun i hi => ?_⟩, e2⟩
  · have ne : x ≠ s + 1 := by unfold Stb at hx; omega
    refine (q.oth (h.2.2.1 x hx) ne).2.2.2 (fun u => ?_)
    unfold Cat at u
    unfold Stb at hx
    omega
  · rw [e3, (rv i hi).1, (rv i hi).2.1]; exact hr.1 i hi
  · rw [e3, (rv i hi).2.2]; exact hr.2 i hi
theorem Sva.we (h : Sva L W s g a R k cn cc bc M) (hcn : cn ≤ k) : We L W (s + 1) (s + 130) g a R cn M := by
  obtain ⟨⟨h1, h2, h3⟩, h4, h5, -⟩ := h.te
  refine ⟨⟨h1, h2, h3, h.2.1.2.2.2⟩, h4, h5.ws hcn, fun i hi => ?_⟩
  have := h.2.2.2.2.2.1 i (by omega)
  unfold Dwg Twg T4
  omega
theorem tw_at {z : Nat} (h : Twg (s + 1) (s + 130) z) : Tat s z := by
  rcases h with u | u | u | u | u | u
  · exact Or.inl (Or.inl u)
  · exact Or.inl (Or.inr (Or.inl (Or.inr u)))
  · exact Or.inl (Or.inr (Or.inr (Or.inl (Or.inl u))))
  · exact Or.inl (Or.inr (Or.inr (Or.inl (Or.inr u))))
  · exact Or.inr (Or.inl u)
  · exact Or.inr (Or.inr u)
theorem Sva.tat (h : Sva L W s g a R k cn cc bc M) : ∀ t, Tat s t → t ∈ L := fun t ht => ht.elim (h.2.1.2.1.tpk t) (h.2.1.2.2.2.t2 t)
theorem Sva.cat (h : Sva L W s g a R k cn cc bc M) (hcn : cn ≤ k) : ∀ x, Cat s x → Oc L M x := fun x u => h.cl (n := cn) hcn x u.so
/-- the worth against a row -/
theorem s_atOrder {Q : Int → mM → Prop} (h0 : Sva L W s g a R k cn cc bc M0) (hcn : cn ≤ k) (hr : Rsm M0 R cn 17 ∧ Rt1 M0 R cn) (hI : atI L W s g a R k cn cc bc M0 M) (hw : Osz M (s + 130) 139) (hi : i < cn) (hW : ∀ x, Tat s x → B ≤ W x) (b1 : 300 ≤ B)
    (hQ : ∀ x M', (x = -1 ∨ x = 0 ∨ x = 1) → atI L W s g a R k cn cc bc M0 M' → Q x M') : mK M s = 8 ∧ mK M (mR M s 0) = 9 ∧ Ci G y_Sc_order (d + 5) [vr (mR M s 0), vr (mR M s 17), vr (mR M0 R i)] M (fun x M' => i32 x ∧ mOk M' ∧ Q x M') := by
  obtain ⟨hN, hS, eR, st, ⟨hrs, ht1⟩, -⟩ := id hI
  obtain ⟨⟨o, ⟨⟨s0, -⟩, ⟨r0, -, -, -, -, -, -, -, -, -, -, -, r13⟩, -⟩, -⟩, ⟨hF, hSK, -, hfw⟩, -, -, ⟨-, -, -, -, -, t7⟩, hrow, -⟩ := id hS
  have fr := t7 i (by omega)
  have hb := hrow i (by omega)
  have ap := hS.te.2.2.2.1 i (by omega)
  have sm := hrs i hi
  have a1 := hF.szv fr.2.1 sm.2.2
  have a2 := hF.szv fr.2.2 sm.2.1
  have a3 := ht1 i hi
  rw [r0, r13, ← eR]
  refine ⟨s0, hSK.1.1, (f_Sc_order (d := d) (s := 139) ⟨o, hF, hSK, hfw, fr⟩ hw ⟨by omega, by omega, by omega, by omega⟩ (by unfold Tor; omega) ⟨fun u => ap.1 (Or.inr (Or.inl u)), fun u => ap.2.1 (Or.inr (Or.inl u))⟩ (by have := hW _ (Or.inl (Or.inr (Or.inl (Or.inl rfl)))); omega) (by have := hW _ (Or.inl (Or.inr (Or.inl (Or.inr rfl)))); omega)).mono (fun x M' q => ?_)⟩
  obtain ⟨n1, xx⟩ := q
  have x1 : NX L W (Tat s) (Cat s) False (s + 1) M M' := (n1.nx hF).mono hF (fun _ u => Or.inl (Or.inr (Or.inl u))) hS.tat (fun _ u => u.elim) (hS.cat hcn) (fun u => u)
  exact ⟨by rcases xx with e | e | e <;> rw [e] <;> exact ⟨by decide, by decide⟩, n1.ok, hQ x M' xx (at_mk h0 hcn hr (hN.trans x1))⟩
theorem s_at138 {v60 : Int} (h60 : v60 = 1 ∨ v60 = -1) (h0 : Sva L W s g a R k cn cc bc M0) (hcn : cn ≤ k) (hk : k ≤ 512) (hr : Rsm M0 R cn 17 ∧ Rt1 M0 R cn) (hi : i < cn) (ex : mI M0 (g + 4) i = ((x : Nat) : Int)) (ey : mI M0 (g + 4) (i + 1) = ((y : Nat) : Int)) (xy : x ≤ y ∧ y ≤ cc) (hW : ∀ x, Tat s x → B ≤ W x) (b1 : 300 ≤ B) (hB : B ≤ 16000)
    (hQ : ∀ (rt : Int) (M' : mM), (rt = 0 ∨ rt = 1) → atI L W s g a R k cn cc bc M0 M' → h_So_attain_4 G (d + 5) s a rt ((i : Int) + 1) M' (fun x M' => (x = 0 ∨ x = 1) ∧ atI L W s g a R k cn cc bc M0 M')) : ∀ (t c : Nat) (rt mt : Int) (M : mM), y ≤ c + t → x ≤ c → c ≤ y → (rt = 0 ∨ rt = 1) → (mt = 0 ∨ mt = 1) → atI L W s g a R k cn cc bc M0 M → h_So_attain_138 G (d + 5) s a rt i (mR M0 R i) mt v60 c M (fun x M' => (x = 0 ∨ x = 1) ∧ atI L W s g a R k cn cc bc M0 M') := by
  have i60 : i32 v60 := by rcases h60 with e | e <;> rw [e] <;> exact ⟨by decide, by decide⟩
  obtain ⟨hc1, hc2, hc3⟩ := h0.1.2.2.2.2.1
  intro t
  induction t with
  | zero =>
    intro c rt mt M h1 h2 h3 hrt hmt hI
    obtain ⟨-, ⟨⟨o, ⟨⟨s0, -⟩, ⟨-, -, -, r3, -⟩, -⟩, ⟨g0, ⟨-, q4, -⟩, gk, ⟨-, m4, -⟩⟩, -⟩, -⟩, -, -, -, gi⟩ := id hI
    refine k_So_attain_138 o (m_b32 hrt) ⟨by omega, by omega⟩ (m_b32 hmt) i60 ⟨by omega, by omega⟩ ?_
    rw [r3, q4, m4, show Int.toNat ((i : Int) + 1) = i + 1 by omega, gi 4 (by decide), ey]
    exact ⟨s0, g0, gk 4 (by decide) (by decide), ⟨by omega, by omega⟩, fun _ => hQ _ M (and01 hrt hmt) hI, fun u => absurd (by omega) u⟩
  | succ t ih =>
    intro c rt mt M h1 h2 h3 hrt hmt hI
    obtain ⟨hN, hS, eR, st, ⟨hrs, ht1⟩, gi⟩ := id hI
    obtain ⟨⟨o, ⟨⟨s0, -⟩, ⟨r0, -, -, r3, -, -, -, -, -, -, -, -, r13⟩, -⟩, ⟨g0, ⟨-, q4, -⟩, gk, ⟨-, m4, -⟩⟩, -, hT⟩, ⟨hF, hSK, -, hfw⟩, -⟩ := id hS
    refine k_So_attain_138 o (m_b32 hrt) ⟨by omega, by omega⟩ (m_b32 hmt) i60 ⟨by omega, by omega⟩ ?_
    rw [r3, q4, m4, show Int.toNat ((i : Int) + 1) = i + 1 by omega, gi 4 (by decide), ey, r0, r13]
    refine ⟨s0, g0, gk 4 (by decide) (by decide), ⟨by omega, by omega⟩, fun _ => hQ _ M (and01 hrt hmt) hI, fun u => ⟨hSK.1.1, ?_⟩⟩
    obtain ⟨mu, hm, kw⟩ := f_weigh (G := G) (d := d) (B := B) (S := 17) (hS.we hcn) hrs (fun z hz => hW z (tw_at hz)) (by omega) hB (show c < 4096 by omega) hc1 hc3 (hT.2.1 c (by omega))
    refine kw.mono (fun M74 q => ?_)
    obtain ⟨n1, u1, u2, u3, -⟩ := q
    have x1 : NX L W (Tat s) (Cat s) False (s + 1) M M74 := (n1.nx hF).mono hF (fun _ z => tw_at z) hS.tat (fun _ z => Or.inl z) (hS.cat hcn) (fun z => z)
    have I1 := at_mk h0 hcn hr (hN.trans x1)
    have F1 := n1.nf
    have ow : Osz M74 (s + 130) 139 := ⟨F1.szv hfw.2.1 u2, F1.szv hfw.2.2 (Int.lt_of_lt_of_le u1.2 (p30m (by decide))), by rw [u3]; omega, by rw [u3]; omega⟩
    have key : ∀ (x80 : Int) (M79 : mM), (x80 = -1 ∨ x80 = 0 ∨ x80 = 1) → atI L W s g a R k cn cc bc M0 M79 → (mK M79 s = 8 ∧ ∀ v84 : Int, v84 = (if (x80 = 0) then 1 else 0) → mK M79 (mR M79 s 15) = 31 ∧ ((0 : Int) ≤ (c : Int) ∧ (c : Int) < (mN M79 (mR M79 s 15) : Int)) ∧ ∀ M91, M91 = mUI M79 (mR M79 s 15) (Int.toNat c) v84 → ∀ v94 : Int, v94 = (if (x80 = 0) then 1 else 0) → ∀ v100 : Int, v100 = (if (x80 = v60) then 0 else 1) → h_So_attain_138 G (d + 5) s a (andI rt v100) i (mR M0 R i) (orI mt v94) v60 ((c : Int) + 1) M91 (fun x M' => (x = 0 ∨ x = 1) ∧ atI L W s g a R k cn cc bc M0 M')) := by
      intro x80 M79 xx I2
      obtain ⟨hN2, hS2, -, -, -, -⟩ := id I2
      obtain ⟨⟨o2, ⟨⟨s02, -⟩, ⟨-, -, -, -, -, -, -, -, -, -, r11, -⟩, ⟨-, -, -, -, -, -, -, k11, -⟩, ⟨-, -, -, -, -, -, -, n11, -⟩⟩, -⟩, ⟨hF2, -⟩, hSt2, -⟩ := id hS2
      rw [r11, n11, Int.toNat_natCast, show ((c : Int) + 1) = ((c + 1 : Nat) : Int) by omega]
      refine ⟨s02, fun v84 e84 => ⟨k11, ⟨by omega, by omega⟩, fun M91 e91 v94 e94 v100 e100 => ?_⟩⟩
      have b84 : v84 = 0 ∨ v84 = 1 := by rw [e84]; split <;> omega
      have b94 : v94 = 0 ∨ v94 = 1 := by rw [e94]; split <;> omega
      have b100 : v100 = 0 ∨ v100 = 1 := by rw [e100]; split <;> omega
      have f91 : FI (fun z => z = s + 128) M79 M91 := by rw [e91]; exact FI.ui rfl
      have o91 : mOk M91 := by rw [e91]; exact mOk_UI o2 (m_b32 b84)
      obtain ⟨x3, -⟩ := f91.nx (T := Tat s) (r := False) (z := s + 1) o91 hF2 hS2.tat (fun z hz => hS2.cat hcn z (Or.inr hz)) hS2.z9
      have x3' : NX L W (Tat s) (Cat s) False (s + 1) M79 M91 := x3.mono hF2 (fun _ z => z) hS2.tat (fun _ z => Or.inr z) (hS2.cat hcn) (fun z => z)
      exact ih (c + 1) _ _ M91 (by omega) (by omega) (by omega) (and01 hrt b100) (or01 hmt b94) (at_mk h0 hcn hr (hN2.trans x3'))
    obtain ⟨w1, w2, w3⟩ := s_atOrder (G := G) (d := d) (Q := fun x80 M79 => mK M79 s = 8 ∧ ∀ v84 : Int, v84 = (if (x80 = 0) then 1 else 0) → mK M79 (mR M79 s 15) = 31 ∧ ((0 : Int) ≤ (c : Int) ∧ (c : Int) < (mN M79 (mR M79 s 15) : Int)) ∧ ∀ M91, M91 = mUI M79 (mR M79 s 15) (Int.toNat c) v84 → ∀ v94 : Int, v94 = (if (x80 = 0) then 1 else 0) → ∀ v100 : Int, v100 = (if (x80 = v60) then 0 else 1) → h_So_attain_138 G (d + 5) s a (andI rt v100) i (mR M0 R i) (orI mt v94) v60 ((c : Int) + 1) M91 (fun x M' => (x = 0 ∨ x = 1) ∧ atI L W s g a R k cn cc bc M0 M')) h0 hcn hr I1 ow hi hW b1 key
    exact ⟨n1.ok, w1, w2, w3⟩
theorem s_So_attain (h0 : Sva L W s g a R k cn cc bc M) (hcn : cn ≤ k) (hk : k ≤ 512) (hr : Rsm M R cn 17 ∧ Rt1 M R cn) (hW : ∀ x, Tat s x → B ≤ W x) (b1 : 300 ≤ B) (hB : B ≤ 16000) : Ci G y_So_attain (d + 6) [vr s, vr a] M (fun x M' => (x = 0 ∨ x = 1) ∧ atI L W s g a R k cn cc bc M M') := by
  obtain ⟨hc1, hc2, hc3⟩ := h0.1.2.2.2.2.1
  refine k_So_attain h0.1.1 ?_
  suffices HH : ∀ (t i : Nat) (rt : Int) (M1 : mM), cn ≤ i + t → i ≤ cn → (rt = 0 ∨ rt = 1) → atI L W s g a R k cn cc bc M M1 → h_So_attain_4 G (d + 5) s a rt i M1 (fun x M' => (x = 0 ∨ x = 1) ∧ atI L W s g a R k cn cc bc M M') from
    HH cn 0 1 M (by omega) (by omega) (Or.inr rfl) (at_mk h0 hcn hr (NX.refl h0.1.1 h0.2.1.1 h0.tat (h0.cat hcn) h0.z9))
  intro t
  induction t with
  | zero =>
    intro i rt M1 h1 h2 hrt hI
    obtain ⟨-, ⟨⟨o, ⟨⟨s0, -⟩, ⟨-, -, -, r3, -⟩, -⟩, ⟨g0, -⟩, -, hT⟩, -⟩, -⟩ := id hI
    refine k_So_attain_4 o (m_b32 hrt) ⟨by omega, by omega⟩ ?_
    rw [r3, hT.2.2.2]
    exact ⟨s0, g0, fun _ => ⟨hrt, hrt, hI⟩, fun u => absurd (by omega) u⟩
  | succ t ih =>
    intro i rt M1 h1 h2 hrt hI
    by_cases ei : i = cn
    · exact ih i rt M1 (by omega) h2 hrt hI
    have hi : i < cn := by omega
    obtain ⟨hN, hS, eR, st, ⟨hrs, ht1⟩, gi⟩ := id hI
    obtain ⟨⟨o, ⟨⟨s0, -⟩, ⟨r0, -, -, r3, -, -, -, -, -, -, -, -, r13⟩, -⟩, ⟨g0, ⟨q2, q4, -⟩, gk, ⟨m2, m4, -⟩⟩, -, hT⟩, ⟨hF, hSK, -, hfw⟩, -, -, ⟨t1, t2, t3, t4, -, t7⟩, -, -⟩ := id hS
    obtain ⟨x, y, x1, y1, xy, yc⟩ := hT.2.2.1 i hi
    have x1' : mI M (g + 4) i = ((x : Nat) : Int) := by rw [← gi 4 (by decide)]; exact x1
    have y1' : mI M (g + 4) (i + 1) = ((y : Nat) : Int) := by rw [← gi 4 (by decide)]; exact y1
    have nxt : ∀ (rt : Int) (M' : mM), (rt = 0 ∨ rt = 1) → atI L W s g a R k cn cc bc M M' → h_So_attain_4 G (d + 5) s a rt ((i : Int) + 1) M' (fun x M' => (x = 0 ∨ x = 1) ∧ atI L W s g a R k cn cc bc M M') := fun rt' M' hrt' hI' => by
      rw [show ((i : Int) + 1) = ((i + 1 : Nat) : Int) by omega]
      exact ih (i + 1) rt' M' (by omega) (by omega) hrt' hI'
    have s107 : ∀ (rt mt : Int) (M2 : mM), (rt = 0 ∨ rt = 1) → (mt = 0 ∨ mt = 1) → atI L W s g a R k cn cc bc M M2 → h_So_attain_107 G (d + 5) s a rt i (mR M R i) mt M2 (fun x M' => (x = 0 ∨ x = 1) ∧ atI L W s g a R k cn cc bc M M') := fun rt mt M2 hrt' hmt' hI' => by
      obtain ⟨-, ⟨⟨o', ⟨⟨s0', -⟩, ⟨-, -, -, r3', -⟩, -⟩, ⟨g0', ⟨q2', q4', -⟩, gk', ⟨m2', m4', -⟩⟩, -, -⟩, -⟩, -, -, -, gi'⟩ := id hI'
      refine k_So_attain_107 o' (m_b32 hrt') ⟨by omega, by omega⟩ (m_b32 hmt') ?_
      rw [r3', q2', m2', q4', m4', Int.toNat_natCast, gi' 4 (by decide), x1']
      refine ⟨s0', g0', gk' 2 (by decide) (by decide), ⟨by omega, by omega⟩, fun v60 e60 => ⟨gk' 4 (by decide) (by decide), ⟨by omega, by omega⟩, ?_⟩⟩
      have h60 : v60 = 1 ∨ v60 = -1 := by rw [e60]; split <;> omega
      exact s_at138 (d := d) h60 h0 hcn hk hr hi x1' y1' ⟨xy, yc.1⟩ hW b1 hB nxt (y - x) x rt mt M2 (by omega) (Nat.le_refl _) (by omega) hrt' hmt' hI'
    refine k_So_attain_4 o (m_b32 hrt) ⟨by omega, by omega⟩ ?_
    rw [r3, hT.2.2.2, t2, t4, q4, m4, q2, m2, r13, Int.toNat_natCast, show Int.toNat ((i : Int) + 1) = i + 1 by omega, eR]
    refine ⟨s0, g0, fun u => absurd u (by omega), fun _ => ⟨t1, t3, ⟨by omega, by omega⟩, gk 4 (by decide) (by decide), ⟨by omega, by omega⟩, ⟨by omega, by omega⟩, fun v20 e20 => ?_⟩⟩
    have b20 : v20 = 0 ∨ v20 = 1 := by rw [e20]; split <;> omega
    refine ⟨fun _ => s107 rt v20 M1 hrt b20 hI, fun _ => ⟨gk 2 (by decide) (by decide), ⟨by omega, by omega⟩, fun v32 e32 => ⟨hfw.1.1, ?_⟩⟩⟩
    have b32 : 0 ≤ v32 ∧ v32 < 1073741824 := by rw [e32]; split <;> omega
    refine (f_Fr_put0 (d := d + 4) b32 o hF hfw hSK.z9).mono (fun M38 q => ?_)
    obtain ⟨n1, p1, p3, p2⟩ := q
    have x38 : NX L W (Tat s) (Cat s) False (s + 1) M1 M38 := (n1.nx hF).mono hF (fun _ z => Or.inr z) hS.tat (fun _ z => Or.inl z) (hS.cat hcn) (fun z => z)
    have I1 := at_mk h0 hcn hr (hN.trans x38)
    have F1 := n1.nf
    have ow : Osz M38 (s + 130) 139 := ⟨F1.szv hfw.2.1 (by rw [p1]; exact Int.lt_of_lt_of_le b32.2 (by rw [show (1073741824 : Int) = 2 ^ (30 * 1) by decide]; exact p30m (by decide))), F1.szv hfw.2.2 (by rw [p3]; exact Int.lt_of_lt_of_le (show (1 : Int) < 2 ^ (30 * 1) by decide) (p30m (by decide))), by rw [p2]; decide, by rw [p2]; decide⟩
    obtain ⟨w1, w2, w3⟩ := s_atOrder (G := G) (d := d) (Q := fun x44 M43 => ∀ v47 : Int, v47 = (if (x44 = 0) then 1 else 0) → h_So_attain_107 G (d + 5) s a (andI rt v47) i (mR M R i) v20 M43 (fun x M' => (x = 0 ∨ x = 1) ∧ atI L W s g a R k cn cc bc M M')) h0 hcn hr I1 ow hi hW b1 (fun x44 M43 xx I2 v47 e47 => s107 _ _ M43 (and01 hrt (by rw [e47]; split <;> omega)) b20 I2)
    exact ⟨n1.ok, w1, w2, w3⟩
end NBW
