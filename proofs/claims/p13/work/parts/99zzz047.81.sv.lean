/-! The solver at rest; solve and judge. -/
abbrev eL (e : Nat) : Prop := e = 68 ∨ e = 73 ∨ e = 78 ∨ e = 83 ∨ e = 88
/-- the values told are there -/
def Hs (M : mM) (s n w : Nat) : Prop := (mI M (s + 30) w = 0 ∨ mI M (s + 30) w = 1) ∧ (mI M (s + 30) w = 1 → ∃ x : Nat → Rat, Xt M s (68 + 5 * w) n x ∧ ∀ k, k < n → Smp 21 (x k) ∧ 0 ≤ x k)
def Sv (M : mM) (s n : Nat) : Prop := Vk M s ∧ GW M s ∧ GB M s ∧ mI M s 1 = n ∧ TW M s ∧ Wk M s ∧ Ct M s ∧ (∀ e, eL e → Rm M s e) ∧ (∀ w, w < 3 → Hs M s n w) ∧ (mI M (s + 30) 0 = 1 → CHo M s n)
abbrev vF (s : Nat) : Nat → Prop := fun y => s ≤ y ∧ y ≤ s + 21067
/-- all its cells but the game's tables -/
abbrev vH (s : Nat) : Nat → Prop := fun y => s ≤ y ∧ y ≤ s + 21067 ∧ (y < s + 22 ∨ s + 28 < y)
/-- and whether values are there -/
abbrev vK (s : Nat) : Nat → Prop := fun y => s ≤ y ∧ y ≤ s + 21067 ∧ (y < s + 22 ∨ s + 28 < y) ∧ y ≠ s + 30
theorem fi_vk {M M' : mM} {s : Nat} (f : FI (vK s) M M') : FI (vH s) M M' ∧ mI M' (s + 30) 0 = mI M (s + 30) 0 := ⟨f.mono (fun y q => ⟨q.1, q.2.1, q.2.2.1⟩), by rw [f.2.2.2.2.2.2 (s + 30) (fun q => q.2.2.2 rfl)]⟩
theorem kS_far {s w e i y : Nat} (hw : w < 3) (he : eL e) (hne : e ≠ 68 + 5 * w) (h8 : e ≠ 88) (hi : i < 512) (q : kS s w y) : y < s + e + 25 * i ∨ s + e + 25 * i + 4 < y := by
  have hw' : w = 0 ∨ w = 1 ∨ w = 2 := by omega
  rcases hw' with z | z | z <;> subst z <;> rcases he with z | z | z | z | z <;> subst z <;> first | omega | exact absurd rfl hne | exact absurd rfl h8
theorem kS_vH {s w y : Nat} (hw : w < 3) (q : kS s w y) : vH s y := by
  have hw' : w = 0 ∨ w = 1 ∨ w = 2 := by omega
  rcases hw' with z | z | z <;> subst z <;> omega
theorem TW.out {M M' : mM} {s : Nat} (h : TW M s) (g : sameG M M' s) (e : mI M' (s + 32) = mI M (s + 32)) : TW M' s := by
  unfold TW at h ⊢
  rw [g.1, g.hm, e]
  exact h
theorem CHo.out {M M' : mM} {s n : Nat} (h : CHo M s n) (g : sameG M M' s) (e : mI M' (s + 33) = mI M (s + 33)) : CHo M' s n := by
  unfold CHo at h ⊢
  rw [g.hm, e]
  exact h
section SV
variable {G : mG} {d s n : Nat} {M : mM} {F : Int}
theorem Sv.n5 (h : Sv M s n) : n ≤ 512 := by
  have := h.2.1.2.1
  have := h.2.2.2.1
  omega
/-- after work, all but the choices -/
theorem wk_sv {M' : mM} {w : Nat} {r : Int} (hw : w < 3) (h : Sv M s n) (k : wkQ M s n w r M') : Vk M' s ∧ GW M' s ∧ GB M' s ∧ mI M' s 1 = n ∧ TW M' s ∧ Wk M' s ∧ Ct M' s ∧ (∀ e, eL e → Rm M' s e) ∧ (∀ w, w < 3 → Hs M' s n w) ∧ (CHo M s n → CHo M' s n) := by
  have hn5 := h.n5
  obtain ⟨V, g, c, e, t, W, T, R, H, -⟩ := h
  obtain ⟨o', f', k1, W', T', R8, Rw, k30, kr⟩ := k
  have fe := f'.2.2.2.2.2.2
  have sg : sameG M M' s := ⟨k1 1 (by omega) (by omega), k1 2 (by omega) (by omega), k1 3 (by omega) (by omega), fun y a b => fe y (fun q => by rcases q with q | q | q; omega; omega; have := q.1; omega)⟩
  have low : ∀ y, s + 31 ≤ y → y ≤ s + 34 → mI M' y = mI M y := fun y a b => fe y (fun q => by rcases q with q | q | q; omega; omega; have := q.1; omega)
  refine ⟨V.fi f', sg.gw g, sg.gb c, by rw [sg.1]; exact e, t.out sg (low _ (by omega) (by omega)), W', T', fun e he => ?_, fun w' hw' => ?_, fun hc => hc.out sg (low _ (by omega) (by omega))⟩
  · by_cases z : e = 88
    · rw [z]; exact R8
    · by_cases z2 : e = 68 + 5 * w
      · rw [z2]; exact Rw
      · exact (R e he).out2 f' (fun i y hi q => kS_far hw he z2 z hi q)
  · by_cases z : w' = w
    · subst z
      rcases kr with ⟨r0, r1, x, X, v, -⟩ | ⟨r0, r1⟩
      · exact ⟨Or.inr r1, fun _ => ⟨x, X, v⟩⟩
      · exact ⟨Or.inl r1, fun q => by omega⟩
    · obtain ⟨a1, a2⟩ := H w' hw'
      unfold Hs
      rw [k30 w' z]
      refine ⟨a1, fun q => ?_⟩
      obtain ⟨x, X, v⟩ := a2 q
      exact ⟨x, X.out2 f' (fun i y hi q => kS_far hw (by omega) (by omega) (by omega) (by omega) q), v⟩
theorem s_MS_judge {q : Int} (hF : Fall F) (hq : q = 1 ∨ q = 2) (hO : mOk M) (h : Sv M s n) : Ci G y_MS_judge (d + 10) [vr s, vi q] M (fun r M' => (mOk M' ∧ FI (vH s) M M' ∧ Sv M' s n ∧ (r = 0 ∨ r = 5 ∨ r = 6)) ∧ mI M' (s + 30) 0 = mI M (s + 30) 0) := by
  obtain ⟨V, g, c, e, t, W, T, R, H, hc⟩ := id h
  refine k_MS_judge hO ⟨by omega, by omega⟩ ⟨V.k0, (s_MS_work (d := d) (w := 2) hF (by omega) (Or.inr rfl) hO V g c e t W T (R 88 (by omega)) (R 78 (by omega)) (P := fun _ => True) (fun _ _ _ _ _ _ _ _ _ => trivial)).mono (fun r M' k => ?_)⟩
  replace k := k.1
  have a := wk_sv (by omega) h k
  have hr : r = 0 ∨ r = 5 ∨ r = 6 := by
    rcases k.2.2.2.2.2.2.2.2 with z | z
    · exact Or.inl z.1
    · exact Or.inr z.1
  have e30 := k.2.2.2.2.2.2.2.1 0 (by omega)
  obtain ⟨a1, a2, a3, a4, a5, a6, a7, a8, a9, a10⟩ := a
  exact ⟨⟨by omega, by omega⟩, k.1, ⟨k.1, k.2.1.mono (fun y q => kS_vH (by omega) q), ⟨a1, a2, a3, a4, a5, a6, a7, a8, a9, fun q => a10 (hc (by rw [← e30]; exact q))⟩, hr⟩, e30⟩
theorem s_MS_solve (hF : Fall F) (hO : mOk M) (h : Sv M s n) : Ci G y_MS_solve (d + 10) [vr s] M (fun r M' => (mOk M' ∧ FI (vH s) M M' ∧ Sv M' s n ∧ (r = 0 ∨ r = 5 ∨ r = 6)) ∧ (∀ T : xt9, SvT M s T → kdT T → svA9 T r) ∧ mI M' (s + 30) 0 = if r = 0 then 1 else 0) := by
  have hn5 := h.n5
  obtain ⟨V, g, c, e, t, W, T, R, H, hc⟩ := id h
  refine k_MS_solve hO ⟨V.k0, (s_MS_work (d := d) (w := 0) hF (by omega) (Or.inl rfl) hO V g c e t W T (R 88 (by omega)) (R 68 (by omega)) (P := fun r => ∀ T : xt9, SvT M s T → kdT T → svA9 T r) (fun M3 M8 y h1 h2 h3 h4 h5 h6 T hT hk => ref_sv (M := M3) (hT.sv (h3 1 (by decide)) (fun i a b => h4 _ (by omega) (by omega))) h1 h2 (fun k x hx e => ((hk x (List.mem_of_getElem? hx)).resolve_left (by rw [e]; decide)).resolve_left (by rw [e]; decide)) h5 h6)).mono (fun r M' k => ?_)⟩
  have pT := k.2
  replace k := k.1
  have a := wk_sv (by omega) h k
  obtain ⟨a1, a2, a3, a4, a5, a6, a7, a8, a9, a10⟩ := a
  obtain ⟨k1, k2, -, -, -, -, -, -, kr⟩ := k
  have kv : FI (vH s) M M' := k2.mono (fun y q => kS_vH (by omega) q)
  rcases kr with ⟨r0, r1, x, X, v, -⟩ | ⟨r0, r1⟩
  · subst r0
    refine ⟨⟨by omega, by omega⟩, k1, fun _ => ⟨a1.k0, (s_MS_rank (d := d + 1) k1 (x := x) ⟨a1, a2, a3, a4, a6, X, fun k hk => ⟨(v k hk).2, (smp_b (v k hk).1).1⟩⟩).mono (fun M2 h2 => ?_)⟩, fun q => absurd rfl q⟩
    obtain ⟨⟨o2, f2, A2⟩, c2⟩ := h2
    obtain ⟨b1, b2, b3, b4, b5, b6, b7⟩ := A2
    have sg : sameG M' M2 s := sameG.of f2 (by omega) (fun y _ _ => by omega)
    have fe := f2.2.2.2.2.2.2
    refine ⟨o2, ⟨o2, kv.trans (f2.mono (fun y q => by omega)), ⟨b1, b2, b3, b4, a5.out sg (fe _ (by omega)), b5, a7.out f2 (fun y q => by omega), fun e he => (a8 e he).out f2 (fun y q => by omega), fun w hw => ?_, fun _ => c2⟩, Or.inl rfl⟩, pT, by rw [if_pos rfl, fe (s + 30) (by omega)]; exact r1⟩
    obtain ⟨z1, z2⟩ := a9 w hw
    unfold Hs
    rw [fe (s + 30) (by omega)]
    refine ⟨z1, fun q => ?_⟩
    obtain ⟨x', X', v'⟩ := z2 q
    exact ⟨x', X'.out f2 (fun y q => by omega), v'⟩
  · exact ⟨⟨by omega, by omega⟩, k1, fun q => by omega, fun _ => ⟨⟨k1, kv, ⟨a1, a2, a3, a4, a5, a6, a7, a8, a9, fun q => by omega⟩, Or.inr r0⟩, pT, by rw [if_neg (by omega)]; exact r1⟩⟩
end SV
