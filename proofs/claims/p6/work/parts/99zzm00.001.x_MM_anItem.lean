section
section
variable {G : mG} {d a : Nat} {M M2 : mM} {st : List Int} {lv nx : Int}
theorem SI.donex {x nx : Int} {ys : List Int} {t : Nat} (h : SI M a (ys ++ st) lv M2) (he : ex x nx = some (ys, t)) (hl : lv = mI M a 7 + dlv x ys) (h4 : lv = mI M a 7 ∨ lv ≤ 40) : pQx M a st x nx (t : Int) M2 := ⟨h.done he hl h4, fun q => by omega⟩
theorem SI.fail0 {x nx : Int} {st' : List Int} (h : SI M a st' lv M2) (he : ex x nx = none) : pQx M a st x nx (-1) M2 := ⟨h.fail, fun _ => Or.inl he⟩
theorem SI.fail1 {x nx : Int} {st' ys : List Int} {t : Nat} (h : SI M a st' lv M2) (he : ex x nx = some (ys, t)) (hd : dlv x ys = 1) (h4 : 40 ≤ mI M a 7) : pQx M a st x nx (-1) M2 := ⟨h.fail, fun _ => Or.inr ⟨ys, t, he, hd, h4⟩⟩
theorem SI.levelx (h : SI M a st lv M2) (h1 : -1000000 ≤ lv) (h2 : lv ≤ 1000000) : Ci G y_MM_level d [vr a] M2 (fun r M3 => SI M a st (lv + 1) M3 ∧ (r = 0 ∨ r = 1) ∧ (r ≠ 0 → lv + 1 ≤ 40) ∧ (r = 0 → 40 ≤ lv)) := by
  have hk := h.k
  obtain ⟨m, f, s, l⟩ := h
  have w := m.2.1
  refine k_MM_level m.1 ?_
  rw [l]
  refine ⟨hk, ⟨by omega, by omega⟩, fun M3 e3 v hv => ?_⟩
  obtain ⟨m3, f3⟩ := mv_fld ⟨by omega, by omega⟩ m.1 w e3
  have l3 : mI M3 a 7 = lv + 1 := by rw [f3, if_pos rfl]
  rw [l3] at hv
  have s3 := m3.2.2.2.2 _ q11 (fun hq => hq)
  exact ⟨⟨m.trans (m3.mono (fun q hq => hq.elim) (fun x hx => hx) (fun q hq => by rw [hq]; exact w.lt q11)), fun j hj => by rw [f3, if_neg hj]; exact f j hj, s.same s3, l3⟩, by split at hv <;> omega, fun q => by split at hv <;> omega, fun q => by split at hv <;> omega⟩

theorem x_MM_ask (h : SI M a st lv M2) (hl : st.length ≤ 800) (h1 : -1000 ≤ lv) (h2 : lv ≤ 1000) : Ci G y_MM_ask (d + 2) [vr a] M2 (fun r M3 => SI M a (61 :: 33 :: 61 :: 75 :: st) (lv + 1) M3 ∧ ((r = -1 ∧ 40 ≤ lv) ∨ (r = 1 ∧ lv + 1 ≤ 40))) := by
  refine k_MM_ask h.ok ?_
  rw [h.r6]
  refine ⟨h.k, h.k6, (h.push (by omega) ⟨by omega, by omega⟩).mono (fun M3 h3 => ⟨h3.ok, h3.k, (s_MM_want (d := d) h3 (by rw [List.length_cons]; omega) ⟨by omega, by omega⟩ ⟨by omega, by omega⟩ ⟨by omega, by omega⟩).mono (fun M4 h4 => ⟨h4.ok, h4.k, (h4.levelx (by omega) (by omega)).mono (fun r M5 h5 => ?_)⟩)⟩)⟩
  obtain ⟨h5, r1, r2, r3⟩ := h5
  refine ⟨⟨by omega, by omega⟩, h5.ok, fun v hv => ⟨h5, ?_⟩⟩
  by_cases q : r = 0
  · rw [if_pos q] at hv; exact Or.inl ⟨hv, r3 q⟩
  · rw [if_neg q] at hv; exact Or.inr ⟨hv, r2 q⟩

theorem x_MM_anItem (hn : i32 nx) (hO : mOk M) (h : Wd M a) (hs : St M (a + 11) st) (hl : st.length ≤ 700) : Ci G y_MM_anItem (d + 2) [vr a, vi nx] M (pQx M a st 50 nx) := by
  have s0 := SI.start hO h hs
  have e50 : ex 50 nx = ex50 nx := rfl
  unfold ex50 at e50
  refine k_MM_anItem hO hn ⟨fun w => ?_, fun w => ?_⟩
  · rw [if_pos w] at e50
    exact s0.donex (ys := []) (t := 1) e50 (dl0 rfl rfl (by omega)) (Or.inl rfl)
  · rw [if_neg w] at e50
    rw [s0.r6]
    refine ⟨s0.k, s0.k6, s0.two (by omega) (i32s (by omega) (by omega)) (i32s (by omega) (by omega)) (fun M3 h3 => ?_)⟩
    rw [h3.r6]
    have hz : ∀ ys, c75 ys = 0 → c76 ys = 0 → mI M a 7 = mI M a 7 + dlv 50 ys := fun ys h1 h2 => by unfold dlv; rw [h1, h2, if_neg (by omega)]; omega
    refine ⟨fun w1 => ⟨h3.k, h3.k6, (h3.push (by simp only [List.length_cons]; omega) (i32s (by omega) (by omega))).mono (fun M4 h4 => ?_)⟩, fun w1 => ⟨fun w2 => ⟨h3.k, h3.k6, (h3.push (by simp only [List.length_cons]; omega) (i32s (by omega) (by omega))).mono (fun M4 h4 => ⟨h4.ok, h4.k, (s_MM_want (d := d) h4 (by simp only [List.length_cons]; omega) (i32s (by omega) (by omega)) (i32s (by omega) (by omega)) (i32s (by omega) (by omega))).mono (fun M5 h5 => ?_)⟩)⟩, fun w2 => ⟨fun w3 => ⟨h3.k, h3.k6, (h3.push (by simp only [List.length_cons]; omega) (i32s (by omega) (by omega))).mono (fun M4 h4 => ⟨h4.ok, h4.k, (s_MM_want (d := d) h4 (by simp only [List.length_cons]; omega) (i32s (by omega) (by omega)) (i32s (by omega) (by omega)) (i32s (by omega) (by omega))).mono (fun M5 h5 => ?_)⟩)⟩, fun w3 => ⟨fun w4 => ⟨h3.k, h3.k6, (h3.push (by simp only [List.length_cons]; omega) (i32s (by omega) (by omega))).mono (fun M4 h4 => ?_)⟩, fun w4 => ?_⟩⟩⟩⟩
    · rw [if_pos w1] at e50
      exact ⟨h4.ok, h4.donex (ys := [51, 34, 50]) (t := 1) e50 (hz _ (by decide) (by decide)) (Or.inl rfl)⟩
    · rw [if_neg w1, if_pos w2] at e50
      exact ⟨h5.ok, h5.donex (ys := [1, 33, 53, 54, 34, 50]) (t := 1) e50 (hz _ (by decide) (by decide)) (Or.inl rfl)⟩
    · rw [if_neg w1, if_neg w2, if_pos w3] at e50
      exact ⟨h5.ok, h5.donex (ys := [61, 17, 56, 57, 34, 50]) (t := 1) e50 (hz _ (by decide) (by decide)) (Or.inl rfl)⟩
    · rw [if_neg w1, if_neg w2, if_neg w3, if_pos w4] at e50
      exact ⟨h4.ok, h4.donex (ys := [61, 34, 50]) (t := 1) e50 (hz _ (by decide) (by decide)) (Or.inl rfl)⟩
    · rw [if_neg w1, if_neg w2, if_neg w3, if_neg w4] at e50
      exact h3.fail0 e50

end
end
