section
section
variable {G : mG} {d u a b ra rb : Nat} {M : mM}
theorem sums_164 {Q : mM → Prop} (hO : mOk M) (hZ : Sz M u) (hx : W3 M (u + 11) 900) (hz : W3 M (u + 15) 900) (sx : mI M (u + 11) 1 < 900) (sz : mI M (u + 15) 1 < 900) (hz0 : 0 < wv M (u + 15)) (hf : mI M (u + 1) 2 = 0 ∨ mI M (u + 1) 2 = 1)
    (hQ : ∀ M', suQ M u (if mI M (u + 1) 2 = 1 then - wv M (u + 11) else wv M (u + 11)) (wv M (u + 15)) M' → Q M') :
    h_MU_add_164 G (d + 3) u M Q := by
  refine k_MU_add_164 hO ?_
  rw [hZ.1.2.1, hZ.bt, hZ.1.2.2.2.2.2.1]
  refine ⟨hZ.1.1, hZ.2.1.1, (hZ.wh 4 (by decide)).1, (s_MW_copy hO (hZ.wh 4 (by decide)) hz (by omega) hz.1.2.2.2.2.2.2).mono (fun M1 h1 => ?_)⟩
  obtain ⟨g1, g2, g3, g4⟩ := h1
  have Z1 := hZ.step (c := 4) (by decide) rfl g2 g3.1
  obtain ⟨x1, vx1⟩ := hx.out g2 (by omega) (by omega)
  refine ⟨g1, Z1.1.1, ?_⟩
  rw [Z1.1.2.1, Z1.tp, Z1.1.2.2.2.1]
  refine ⟨Z1.2.1.1, (Z1.wh 2 (by decide)).1, (s_MW_copy g1 (Z1.wh 2 (by decide)) x1 (by omega) x1.1.2.2.2.2.2.2).mono (fun M2 h2 => ?_)⟩
  obtain ⟨k1, k2, k3, k4⟩ := h2
  have Z2 := Z1.step (c := 2) (by decide) rfl k2 k3.1
  obtain ⟨b2, vb2⟩ := g3.out k2 (by omega) (by omega)
  have e2 : mI M2 (u + 1) = mI M (u + 1) := (k2.2.2.2.2.2.2 (u + 1) (by omega)).trans (g2.2.2.2.2.2.2 (u + 1) (by omega))
  have z1 : mI M2 (u + 2) 1 < 900 := by have := k3.le hx (by omega); omega
  have z2 : mI M2 (u + 4) 1 < 900 := by have := b2.le hz (by omega); omega
  have F2 : Fq M2 (u + 1) 900 := ⟨Z2.2.1, k3, b2, by rw [e2]; exact hf, by show 0 < wv M2 (u + 4); omega⟩
  refine ⟨k1, Z2.1.1, (s_MU_settle k1 Z2 F2 z1 z2).mono (fun M3 h3 => ?_)⟩
  obtain ⟨m1, m2, m3, m4, m5, m6⟩ := h3
  refine ⟨m1, hQ M3 ⟨m1, ((g2.mono (fun x q => by omega)).trans (k2.mono (fun x q => by omega))).trans m2, m3, m4, m5, ?_⟩⟩
  unfold sn sd at m6
  rw [e2, show wv M2 (u + 1 + 1) = wv M (u + 11) from k4.trans vx1, show wv M2 (u + 1 + 3) = wv M (u + 15) from vb2.trans g4] at m6
  exact m6
/-- the last steps of a sum: the sign is written, then 164 -/
theorem sums_sign {Q : mM → Prop} {v : Int} (hO : mOk M) (hZ : Sz M u) (hx : W3 M (u + 11) 900) (hz : W3 M (u + 15) 900) (sx : mI M (u + 11) 1 < 900) (sz : mI M (u + 15) 1 < 900) (hz0 : 0 < wv M (u + 15)) (hf : v = 0 ∨ v = 1)
    (hQ : ∀ M', suQ M u (if v = 1 then - wv M (u + 11) else wv M (u + 11)) (wv M (u + 15)) M' → Q M') :
    ∀ M1, M1 = mUI M (mR M u 0) 2 v → h_MU_add_164 G (d + 3) u M1 Q := by
  intro M3 e3
  rw [hZ.1.2.1] at e3
  have Z3 : Sz M3 u := by rw [e3]; exact hZ.flag
  have f3 : FI (fun x => x = u + 1) M M3 := by rw [e3]; exact FI.ui rfl
  have o3 : mOk M3 := by rw [e3]; exact mOk_UI hO ⟨by omega, by omega⟩
  have v3 : mI M3 (u + 1) 2 = v := by rw [e3, mI_UI, if_pos ⟨rfl, rfl⟩]
  obtain ⟨x3, vx3⟩ := hx.out f3 (by omega) (by omega)
  obtain ⟨y3, vy3⟩ := hz.out f3 (by omega) (by omega)
  have zx3 : mI M3 (u + 11) 1 < 900 := by have := x3.le hx (by omega); omega
  have zy3 : mI M3 (u + 15) 1 < 900 := by have := y3.le hz (by omega); omega
  refine sums_164 o3 Z3 x3 y3 zx3 zy3 (by omega) (by omega) (fun M' h' => hQ M' ?_)
  obtain ⟨n1, n2, n3, n4, n5, n6⟩ := h'
  rw [v3, vx3, vy3] at n6
  exact ⟨n1, (f3.mono (fun x q => by omega)).trans n2, n3, n4, n5, n6⟩
end
end
