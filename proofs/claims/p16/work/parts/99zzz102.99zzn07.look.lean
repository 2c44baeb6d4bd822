/-! The reference's look, exactly: the whole. -/
section LWX
variable {G : mG} {d a N g T K : Nat} {M : mM} {nm : Int → Prop} {co : Int} {E rv : Nat → Int}
/-- the fault, or the kind; the names are resolved -/
def lkX (co : Int) (M : mM) (a g N T K : Nat) (E rv : Nat → Int) (i j n e : Nat) (r : Int) (M3 : mM) : Prop := lkQ co M a g N T K n e r M3 ∧ (mI M a 16 ≠ 0 ∨ (mI M3 a 16 ≠ 0 ∧ fpw M3 a (fl (wk M a) E (nt M (a + 7)) 0 i j)) ∨ (mI M3 a 16 = 0 ∧ (fl (wk M a) E (nt M (a + 7)) 0 i j).1 = 0 ∧ r = kdq (wk M a) E 0 i j ∧ ∀ k, n ≤ k → k < e → va M3 g k = rsw M g rv k))
theorem x_MM_look {n e i j : Nat} (hU : URq M a g N K co E rv) (hco : i32 co) (hnm : ∀ v, nm v → (0 ≤ v ∧ v < N) ∧ wk M a v.toNat = 1) (eo : Eo (wk M a) 6 i j) (tm : Tm M M a g 0 0 i j n e) (h : Lc M a g N T K) (ht : To nm M g 0 n e) (he : e ≤ T) : Ci G y_MM_look (d + 6) [vr a, vi n, vi co] M (lkX co M a g N T K E rv i j n e) := by
  obtain ⟨hO, hw, -, -, -, hg, -, hT⟩ := id h
  have w := hw.1.1
  obtain ⟨f, ht⟩ := ht
  have hlt := ht.lt
  have r19 : ∀ {M3 : mM}, Wd M3 a → mR M3 a 19 = a + 93 := fun w => w.1.2.2.2.2.1.2.2.2.2.1
  have h0 := LO.refl h
  refine k_MM_look hO (i32s (by omega) (by omega)) hco ?_
  rw [r20w w]
  refine ⟨w.1.1, (w.nu n95).1, fun M3 e3 => ?_⟩
  have b95 : 0 ≤ ln M (a + 95) := (w.nu n95).2.2.2.1.1
  obtain ⟨m3, l3, -, -⟩ := mv_set hO w n95 (v := 0) (by omega) b95 e3
  have k3 := kp.mk h0 m3 (fun _ z => z)
  have w3 := k3.1.2.1.2.1.1.1
  rw [r19 w3]
  refine ⟨(w3.nu n93).1, fun M6 e6 => ?_⟩
  have b93 : 0 ≤ ln M3 (a + 93) := (w3.nu n93).2.2.2.1.1
  obtain ⟨m6, l6, -, -⟩ := mv_set m3.1 w3 n93 (v := 0) (by omega) b93 e6
  have w6 := m6.2.1
  have f6 := (m6.fld w3 (fun q hq => by rw [hq]; exact n93) (fun hq => hq)).1
  have s7 := m6.lst (tL_in (a := a) (q := g + 7) hg (tLk7 g)) (by omega)
  have L6 : LO M a g N T K M6 := k3.1.step m6 (fun q hq => Or.inl hq) (fun x hx => hx.elim) s7.1 (fun i _ _ => by rw [f6])
  have v6 : ∀ k, va M6 g k = va M g k := fun k => (s7.2.1 k).trans (k3.2.2.1 k)
  have x6 : ln M6 (a + 95) = ((0 : Nat) : Int) := by rw [(m6.lst n95 (by omega)).1, l3]; rfl
  rw [r20w w6]
  refine ⟨(w6.nu n95).1, (s_lk_push (i32s (by omega) (by omega)) L6 x6 (by omega)).mono (fun M7 h7 => ?_)⟩
  obtain ⟨o7, k7, l7, t7, v7⟩ := h7
  have w7 := k7.1.2.1.2.1.1.1
  rw [r20w w7]
  refine ⟨o7, w7.1.1, (w7.nu n95).1, (s_lk_push (i32s (by omega) (by omega)) k7.1 l7 (by omega)).mono (fun M8 h8 => ?_)⟩
  obtain ⟨o8, k8, l8, t8, v8⟩ := h8
  have w8 := k8.1.2.1.2.1.1.1
  have k68 := k7.trans k8
  have va8 : ∀ k, va M8 g k = va M g k := fun k => (k68.2.2.1 k).trans (v6 k)
  refine ⟨o8, ?_⟩
  have fl1 : flr (wk M a) E (nt M (a + 7)) [(i, j)] = fl (wk M a) E (nt M (a + 7)) 0 i j := by
    show fst9 (fl (wk M a) E (nt M (a + 7)) 0 i j) (0, 0) = _
    unfold fst9
    split
    · rename_i h0; exact (fl_z eo h0).symm
    · rfl
  have f16 : mI M8 a 16 = mI M a 16 := by rw [k68.2.1, f6, k3.2.1]
  by_cases z : mI M8 a 16 = 0
  · refine x_look_run (nm := nm) hU hco w hnm f 0 n e 0 0 1 M8 [(i, j)] rfl (ht.lo h0 k8.1 (fun k _ _ => va8 k)) ⟨fun r hr => by rw [List.mem_singleton.1 hr]; exact eo, by rw [if_pos rfl]; exact ⟨i, j, rfl, tm⟩⟩ (fun k _ _ => va8 k) he k8.1 z l8 (fun j hj => ?_) (by rw [k68.2.2.2.1, l6]; rfl) (by omega) (by omega) (fun M3 h3 p3 z3 => ⟨⟨h3, Or.inl rfl, Or.inl z3⟩, Or.inr (Or.inl ⟨z3, by rw [← fl1]; exact p3⟩)⟩) (fun M9 h9 x9 => ?_)
    · have : j = 0 := by omega
      subst this
      exact ⟨(t8 0 (by omega)).trans v7, v8⟩
    · obtain ⟨g1, g2, g3, g4, g5, g6, ⟨u, gu, g7, g8⟩, g9⟩ := h9
      have w9 := g1.2.1.2.1.1.1
      have g3' : mI M9 (a + 95) 1 = 0 := g3
      refine k_MM_look_32 g1.2.1.1 hco ?_
      rw [r20w w9, r19 w9, g3', g2]
      refine ⟨w9.1.1, (w9.nu n95).1, fun _ => ⟨fun _ => ⟨(w9.nu n93).1, (s_MN_last g1.2.1.1 (w9.nu n93) (by rw [g5]; omega)).mono (fun x M10 h10 => ?_)⟩, fun q => absurd rfl q⟩, fun q => absurd (Or.inl (by omega)) q⟩
      obtain ⟨e10, hx⟩ := h10
      subst e10
      refine ⟨by rw [hx]; exact (g1.2.1.1 _ _).1, g1.2.1.1, fun v hv => ⟨⟨g1, by split at hv <;> omega, Or.inr ⟨g2, ⟨f, g8.cg (fun j hj => ?_)⟩, fun j hj => (g9 j hj).trans (va8 j)⟩⟩, Or.inr (Or.inr ⟨g2, by rw [← fl1]; exact x9.1, ?_, x9.2.2⟩)⟩⟩
      rotate_left
      · have q0 := x9.2.1 0 (by simp)
        rw [g5] at hx
        have hx' : x = kdq (wk M a) E 0 i j := hx.trans q0
        rw [← hx']
        have u0 := gu 0 (by omega)
        have u1 := g7 0 (by omega)
        have hx2 : x = u 0 := hx.trans u0
        split at hv <;> omega
      have u0 := gu 0 (by omega)
      have u1 := g7 0 (by omega)
      rw [g5] at hx
      have hx' : x = u 0 := hx.trans u0
      rw [show j = 0 by omega]
      split at hv <;> omega
  · refine k_MM_look_32 o8 hco ?_
    rw [r20w w8]
    exact ⟨w8.1.1, (w8.nu n95).1, fun _ => ⟨fun q => absurd q z, fun _ => ⟨⟨k8.1, Or.inl rfl, Or.inl z⟩, Or.inl (by rw [← f16]; exact z)⟩⟩, fun q => absurd (Or.inr z) q⟩
end LWX
