section
section
variable {G : mG} {d a : Nat} {M M2 : mM} {st : List Int} {lv nx : Int}
theorem x_MM_set0 (hn : i32 nx) (hO : mOk M) (h : Wd M a) (hs : St M (a + 11) st) (hl : st.length ≤ 700) (h1 : -900 ≤ mI M a 7) (h2 : mI M a 7 ≤ 900) : Ci G y_MM_set0 (d + 2) [vr a, vi nx] M (pQx M a st 59 nx) := by
  have s0 := SI.start hO h hs
  have e0 : ex 59 nx = ex59 nx := rfl
  unfold ex59 at e0
  refine k_MM_set0 hO hn ⟨fun w => ⟨s0.k, (s0.levelx (by omega) (by omega)).mono (fun r M2 h2 => ?_)⟩, fun w => s0.fail0 (by rw [if_neg w] at e0; exact e0)⟩
  obtain ⟨h2, r1, r2, r3⟩ := h2
  rw [if_pos w] at e0
  refine ⟨⟨by omega, by omega⟩, h2.ok, fun q => h2.fail1 e0 (by decide) (r3 q), fun q => ?_⟩
  rw [h2.r6]
  refine ⟨h2.k, h2.k6, (h2.push (by omega) (i32s (by omega) (by omega))).mono (fun M3 h3 => ?_)⟩
  rw [h3.r6]
  refine ⟨h3.ok, h3.k, h3.k6, (h3.push (by simp only [List.length_cons]; omega) (i32s (by omega) (by omega))).mono (fun M4 h4 => ?_)⟩
  rw [h4.r6]
  refine ⟨h4.ok, h4.k, h4.k6, (h4.push (by simp only [List.length_cons]; omega) (i32s (by omega) (by omega))).mono (fun M5 h5 => ⟨h5.ok, h5.k, (s_MM_want (d := d) h5 (by simp only [List.length_cons]; omega) (i32s (by omega) (by omega)) (i32s (by omega) (by omega)) (i32s (by omega) (by omega))).mono (fun M6 h6 => ?_)⟩)⟩
  exact ⟨h6.ok, h6.donex (ys := [1, 38, 23, 61, 37, 75]) (t := 1) e0 (dl1 (by decide) (by decide) (by omega)) (Or.inr (r2 q))⟩

theorem ag_donex {x u v g r : Int} {M3 : mM} (s0 : SI M a st (mI M a 7) M) (hx : x ≠ 76) (hv : c75 [v, u] = 0 ∧ c76 [v, u] = 0) (e1 : g ≠ 0 → ex x nx = some ([v, u], 1)) (e2 : g = 0 → ex x nx = some ([], 0)) (h : (g = 0 ∧ r = 0 ∧ M3 = M) ∨ (g ≠ 0 ∧ r = 1 ∧ SI M a (v :: u :: st) (mI M a 7) M3)) : i32 r ∧ mOk M3 ∧ pQx M a st x nx r M3 := by
  rcases h with ⟨h1, h2, h3⟩ | ⟨h1, h2, h3⟩
  · subst h2 h3
    exact ⟨i32s (by omega) (by omega), s0.ok, s0.donex (ys := []) (t := 0) (e2 h1) (dl0 rfl rfl hx) (Or.inl rfl)⟩
  · subst h2
    exact ⟨i32s (by omega) (by omega), h3.ok, h3.donex (ys := [v, u]) (t := 1) (e1 h1) (dl0 hv.1 hv.2 hx) (Or.inl rfl)⟩

end
end
