/-! The solver: work. -/
abbrev kS (s w : Nat) : Nat → Prop := fun x => aS s x ∨ x = s + 30 ∨ eS s (68 + 5 * w) x
def wkQ (M : mM) (s n w : Nat) (r : Int) (M' : mM) : Prop := mOk M' ∧ FI (kS s w) M M' ∧ (∀ j, j ≠ 17 → j ≠ 24 → mI M' s j = mI M s j) ∧ Wk M' s ∧ Ct M' s ∧ Rm M' s 88 ∧ Rm M' s (68 + 5 * w) ∧ (∀ j, j ≠ w → mI M' (s + 30) j = mI M (s + 30) j) ∧ ((r = 0 ∧ mI M' (s + 30) w = 1 ∧ ∃ x : Nat → Rat, Xt M' s (68 + 5 * w) n x ∧ (∀ k, k < n → Smp 21 (x k) ∧ 0 ≤ x k) ∧ (∀ k, k < n → mI M (s + 22) k = 3 → x k = 1)) ∨ ((r = 5 ∨ r = 6) ∧ mI M' (s + 30) w = 0))
theorem Xt.out2 {S : Nat → Prop} {M M' : mM} {s e n : Nat} {x : Nat → Rat} (h : Xt M s e n x) (k : FI S M M') (hs : ∀ i y, i < n → S y → y < s + e + 25 * i ∨ s + e + 25 * i + 4 < y) : Xt M' s e n x := by
  intro i hi
  obtain ⟨h1, h2, h3⟩ := h i hi
  exact ⟨(h1.out k (fun y q => hs i y hi q)).1, h2.out h1 k (fun y q => hs i y hi q), by rw [fv_out h1 k (fun y q => hs i y hi q), h3]⟩
theorem Rm.out2 {S : Nat → Prop} {M M' : mM} {s e : Nat} (h : Rm M s e) (k : FI S M M') (hs : ∀ i y, i < 512 → S y → y < s + e + 25 * i ∨ s + e + 25 * i + 4 < y) : Rm M' s e :=
  fun i hi => (h i hi).out k (fun y q => hs i y hi q)
theorem wk_f1 {s w i y : Nat} (hw : w = 0 ∨ w = 2) (hi : i < 512) (q : aS s y) : y < s + (68 + 5 * w) + 25 * i ∨ s + (68 + 5 * w) + 25 * i + 4 < y := by
  rcases hw with z | z <;> subst z <;> omega
theorem wk_f2 {s w y : Nat} (hw : w = 0 ∨ w = 2) (q : y = s + 30 ∨ eS s (68 + 5 * w) y) : y < s + 12868 := by
  rcases hw with z | z <;> subst z <;> omega
theorem wk_f3 {s w i y : Nat} (hw : w = 0 ∨ w = 2) (hi : i < 512) (q : y = s + 30 ∨ eS s (68 + 5 * w) y) : y < s + 88 + 25 * i ∨ s + 88 + 25 * i + 4 < y := by
  rcases hw with z | z <;> subst z <;> omega
theorem wk_f4 {s w y : Nat} (q : y = s + 30 ∨ eS s (68 + 5 * w) y) : y = s + 30 ∨ s + 68 ≤ y := by
  rcases q with q | q
  · exact Or.inl q
  · exact Or.inr (by have := q.1; omega)
section WO
variable {G : mG} {d s n w : Nat} {M : mM} {F : Int}
theorem s_wk107 {M9 : mM} {x : Nat → Rat} {Q : Int → mM → Prop} (hw : w = 0 ∨ w = 2) (hn5 : n ≤ 512) (hn : mI M9 s 1 = n) (o9 : mOk M9) (V9 : Vk M9 s) (X9 : Xt M9 s 88 n x) (R9 : Rm M9 s (68 + 5 * w))
    (hQ : ∀ M', mOk M' → FI (fun y => y = s + 30 ∨ eS s (68 + 5 * w) y) M9 M' → Xt M' s (68 + 5 * w) n x → Rm M' s (68 + 5 * w) → (∀ j, mI M' (s + 30) j = if j = w then 1 else mI M9 (s + 30) j) → Q 0 M') : h_MS_work_107 G (d + 8) s w 0 M9 Q := by
  suffices H : ∀ (c k : Nat) (M1 : mM), k + c = n → mOk M1 → FI (eS s (68 + 5 * w)) M9 M1 → Xt M1 s (68 + 5 * w) k x → Rm M1 s (68 + 5 * w) → h_MS_work_107 G (d + 8) s w k M1 Q from
    H n 0 M9 (by omega) o9 FI.refl (fun k hk => by omega) R9
  intro c
  induction c with
  | zero =>
    intro k M1 hk o1 f1 X1 R1
    have ek : k = n := by omega
    subst ek
    have V1 := V9.fi f1
    have fe := f1.2.2.2.2.2.2
    refine k_MS_work_107 o1 ⟨by omega, by omega⟩ ⟨by omega, by omega⟩ ?_
    rw [fe s (fun q => by have := q.1; omega), hn, V1.r12, V1.n30, Int.toNat_natCast]
    refine ⟨V1.k0, fun _ => ⟨V1.k30, by omega, fun M2 e2 => ?_⟩, fun q => by omega⟩
    have f2 : FI (fun y => y = s + 30) M1 M2 := by rw [e2]; exact FI.ui rfl
    have o2 : mOk M2 := by rw [e2]; exact mOk_UI o1 ⟨by omega, by omega⟩
    refine hQ M2 o2 ((f1.mono (fun y q => Or.inr q)).trans (f2.mono (fun y q => Or.inl q))) (X1.out f2 (fun y q => by omega)) (R1.out f2 (fun y q => by omega)) (fun j => ?_)
    rw [e2, mI_UI, fe (s + 30) (fun q => by have := q.1; omega)]
    by_cases z : j = w
    · rw [if_pos ⟨rfl, z⟩, if_pos z]
    · rw [if_neg (fun q => z q.2), if_neg z]
  | succ c ih =>
    intro k M1 hk o1 f1 X1 R1
    have V1 := V9.fi f1
    have fe := f1.2.2.2.2.2.2
    have xk : Fq M1 (s + 88 + 25 * k) 56 ∧ Fc M1 (s + 88 + 25 * k) ∧ fv M1 (s + 88 + 25 * k) = x k := (X9.out2 f1 (fun i y hi q => by rcases hw with z | z <;> subst z <;> omega)) k (by omega)
    have rk := R1 k (by omega)
    have ea : mR M1 (s + 29) (3 * (k : Int) + (w : Int)).toNat = s + (68 + 5 * w) + 25 * k := by
      rw [show (3 * (k : Int) + (w : Int)).toNat = 3 * k + w by omega, V1.f29 k w (by omega) (by omega)]
      omega
    refine k_MS_work_107 o1 ⟨by omega, by omega⟩ ⟨by omega, by omega⟩ ?_
    rw [fe s (fun q => by have := q.1; omega), hn, V1.r11, V1.r21, V1.n29, V1.n38, Int.toNat_natCast, ea, Int.toNat_natCast, V1.f38 k (by omega)]
    refine ⟨V1.k0, fun q => by omega, fun _ => ⟨V1.k29, by omega, V1.k38, by omega, rk.1.1, (s_MF_copy o1 rk xk.1 (by rcases hw with z | z <;> subst z <;> omega) xk.1.2.1.1.2.2.2.2.2.2 xk.1.2.2.1.1.2.2.2.2.2.2).mono (fun M2 h2 => ?_)⟩⟩
    obtain ⟨o2, f2, F2, w4, w5, w6⟩ := h2
    have C2 := fc_copy xk.2.1 w4 w5 w6
    have f2' : FI (eS s (68 + 5 * w)) M1 M2 := f2.mono (fun y q => by have q' : s + (68 + 5 * w) + 25 * k ≤ y ∧ y ≤ s + (68 + 5 * w) + 25 * k + 4 := q; omega)
    exact ⟨o2, ih (k + 1) M2 (by omega) o2 (f1.trans f2') (X1.put (x' := x) f2 F2 C2.1 (C2.2.trans xk.2.2) (fun j hj => by
      by_cases z : j = k
      · exact Or.inl z
      · exact Or.inr ⟨by omega, rfl⟩)) (R1.put (by omega) f2 F2.ft)⟩
theorem s_MS_work {q : Int} (hF : Fall F) (hq : 0 ≤ q ∧ q ≤ 2) (hw : w = 0 ∨ w = 2) (hO : mOk M) (hV : Vk M s) (hG : GW M s) (hC : GB M s) (hn : mI M s 1 = n) (hT : TW M s) (hW : Wk M s) (hCt : Ct M s) (hR : Rm M s 88) (hRw : Rm M s (68 + 5 * w))
    {P : Int → Prop} (hP : ∀ (M3 M8 : mM) (y : Int), GW M3 s → mI M3 s 17 = q → (∀ j, j ≠ 17 → mI M3 s j = mI M s j) → (∀ y, y ≠ s → y ≠ s + 30 → mI M3 y = mI M y) → gvQ M3 s 0 M8 → lokX M8 s y → P y) :
    Ci G y_MS_work (d + 9) [vr s, vi q, vi w] M (fun r M' => wkQ M s n w r M' ∧ P r) := by
  have hn5 := hG.2.1
  refine k_MS_work hO ⟨by omega, by omega⟩ ⟨by omega, by omega⟩ ⟨hV.k0, fun M2 e2 => ?_⟩
  have f2 : FI (fun y => y = s) M M2 := by rw [e2]; exact FI.ui rfl
  have o2 : mOk M2 := by rw [e2]; exact mOk_UI hO ⟨by omega, by omega⟩
  have V2 := hV.fi f2
  have s2 : ∀ j, j ≠ 17 → mI M2 s j = mI M s j := fun j hj => by rw [e2, mI_UI, if_neg (fun w => hj w.2)]
  rw [V2.r12, V2.n30, Int.toNat_natCast]
  refine ⟨V2.k30, by omega, fun M3 e3 => ?_⟩
  have f3 : FI (fun y => y = s + 30) M2 M3 := by rw [e3]; exact FI.ui rfl
  have o3 : mOk M3 := by rw [e3]; exact mOk_UI o2 ⟨by omega, by omega⟩
  have V3 := V2.fi f3
  have h30 : ∀ j, mI M3 (s + 30) j = if j = w then 0 else mI M (s + 30) j := fun j => by
    rw [e3, mI_UI, f2.2.2.2.2.2.2 (s + 30) (by omega)]
    by_cases z : j = w
    · rw [if_pos ⟨rfl, z⟩, if_pos z]
    · rw [if_neg (fun q => z q.2), if_neg z]
  have s3 : ∀ j, j ≠ 17 → mI M3 s j = mI M s j := fun j hj => by rw [f3.2.2.2.2.2.2 s (by omega)]; exact s2 j hj
  have g3 : ∀ y, y ≠ s → y ≠ s + 30 → mI M3 y = mI M y := fun y a b => by rw [f3.2.2.2.2.2.2 y b, f2.2.2.2.2.2.2 y a]
  have G3 : sameG M M3 s := ⟨s3 1 (by omega), s3 2 (by omega), s3 3 (by omega), fun y a b => g3 y (by omega) (by omega)⟩
  refine (x_MS_look (d := d + 5) o3 V3 (G3.gw hG)).mono (fun y M8 h8 => ?_)
  obtain ⟨h8, hlx⟩ := h8
  have hgv := h8
  have pY : P y := hP M3 M8 y (G3.gw hG) (by rw [f3.2.2.2.2.2.2 s (by omega), e2, mI_UI, if_pos ⟨rfl, rfl⟩]) s3 g3 hgv hlx
  obtain ⟨hy, hy0⟩ := hlx.q (by obtain ⟨⟨ρ, t, o, -⟩, -⟩ := hgv; exact o)
  clear hlx
  obtain ⟨⟨ρ, t, o8, f8, -⟩, -⟩ := h8
  have V8 := V3.fi f8
  have hw8 : sameW M3 M8 s := sameW.of f8 (by omega) (fun x _ _ => by omega) (by omega)
  have g8 : ∀ y, y ≠ s → y ≠ s + 30 → y ≠ s + 36 → mI M8 y = mI M y := fun y a b c => by rw [f8.2.2.2.2.2.2 y c, g3 y a b]
  have s8 : ∀ j, j ≠ 17 → mI M8 s j = mI M s j := fun j hj => by rw [f8.2.2.2.2.2.2 s (by omega)]; exact s3 j hj
  have h308 : ∀ j, mI M8 (s + 30) j = if j = w then 0 else mI M (s + 30) j := fun j => by rw [f8.2.2.2.2.2.2 (s + 30) (by omega)]; exact h30 j
  have W8 : Wk M8 s := ((hW.far f2 (fun y q => by omega)).far f3 (fun y q => by omega)).far f8 (fun y q => by omega)
  have C8 : Ct M8 s := ((hCt.out f2 (fun y q => by omega)).out f3 (fun y q => by omega)).out f8 (fun y q => by omega)
  have R8 : ∀ e, 68 ≤ e → Rm M s e → Rm M8 s e := fun e he h => ((h.out f2 (fun y q => by omega)).out f3 (fun y q => by omega)).out f8 (fun y q => by omega)
  have f08 : FI (kS s w) M M8 := ((f2.mono (fun y q => by omega)).trans (f3.mono (fun y q => by omega))).trans (f8.mono (fun y q => by omega))
  refine ⟨⟨by omega, by omega⟩, o8, fun y0 => ?_, fun y0 => ⟨⟨o8, f08, fun j a b => s8 j a, W8, C8, R8 88 (by omega) hR, R8 _ (by omega) hRw, fun j hj => by rw [h308, if_neg hj], Or.inr ⟨by omega, by rw [h308, if_pos rfl]⟩⟩, pY⟩⟩
  rw [y0] at pY
  have hL8 := look_lq (G3.gw hG) (by rw [G3.1]; exact hn) hgv (hy0 y0)
  have G8 : sameG M M8 s := G3.trans hw8.1
  suffices H : ∀ (c k : Nat) (M9 : mM), k + c = n → mOk M9 → FI (fun y => y = s + 35) M8 M9 → (∀ j, j < k → mI M9 (s + 35) j = if mI M8 s 17 = mI M8 (s + 22) j then mI M8 (s + 32) j else 0) → h_MS_work_26 G (d + 8) s w k M9 (fun r M' => wkQ M s n w r M' ∧ P r) from
    H n 0 M8 (by omega) o8 FI.refl (fun j hj => by omega)
  intro c
  induction c with
  | zero =>
    intro k M9 hk o9 f9 p9
    have ek : k = n := by omega
    subst ek
    have V9 := V8.fi f9
    have fe9 := f9.2.2.2.2.2.2
    have hw9 : sameW M8 M9 s := sameW.of f9 (by omega) (fun x _ _ => by omega) (by omega)
    have G9 : sameG M M9 s := G8.trans hw9.1
    have n9 : mI M9 s 1 = k := by rw [G9.1]; exact hn
    have i22 : mI M9 (s + 22) = mI M (s + 22) := G9.2.2.2 _ (by omega) (by omega)
    have P9 : PLo M9 s := by
      intro j hj hp
      rw [G9.hm] at hp ⊢
      have a := hT j (by omega)
      have b := p9 j (by omega)
      have e32 : mI M8 (s + 32) = mI M (s + 32) := g8 _ (by omega) (by omega) (by omega)
      have e22 : mI M8 (s + 22) = mI M (s + 22) := g8 _ (by omega) (by omega) (by omega)
      rw [e32, e22] at b
      rw [hw9.may]
      unfold mayP pl
      rw [e32, e22]
      by_cases z : mI M8 s 17 = mI M (s + 22) j
      · rw [if_pos z] at b
        exact ⟨by omega, by have := a.2 hp; omega, Or.inr (by omega)⟩
      · rw [if_neg z] at b
        exact ⟨by omega, by omega, Or.inl z⟩
    have GW9 := G9.gw hG
    have GB9 := G9.gb hC
    have L9 := hw9.lq hL8
    have W9 : WH M9 s M9 := ⟨o9, V9, FI.refl, fun j _ => rfl, W8.far f9 (fun y q => by omega), C8.out f9 (fun y q => by omega), (R8 88 (by omega) hR).out f9 (fun y q => by omega), P9⟩
    have f09 : FI (kS s w) M M9 := f08.trans (f9.mono (fun y q => by omega))
    refine k_MS_work_26 o9 ⟨by omega, by omega⟩ ⟨by omega, by omega⟩ ?_
    rw [n9]
    refine ⟨V9.k0, fun _ => ?_, fun z => by omega⟩
    have hl : i32 (w : Int) := ⟨by omega, by omega⟩
    refine wk_answer hF GW9 GB9 n9 L9 hl W9 (fun M6 x A ρ h6 X6 _ r6 => ?_)
    obtain ⟨t', ht'⟩ := ms_ex (x := fun k => 1 - x k) hF k (fun j hj => smp_co (r6.1 j hj).1 (r6.1 j hj).2)
    refine s_wk72 hF GW9 GB9 n9 L9 hl (fun M7 x7 h7 X7 v7 v7' => ?_) t' x A ρ M6 h6 X6 r6 ht'
    have hs7 := h7.sw
    obtain ⟨o7, V7, f7, k7, W7, C7, R7, -⟩ := h7
    have R79 : Rm M9 s (68 + 5 * w) := (R8 _ (by omega) hRw).out f9 (fun y q => by omega)
    refine s_wk107 hw (by omega) (by rw [hs7.1.1]; exact n9) o7 V7 X7 (R79.out2 f7 (fun i y hi q => wk_f1 hw hi q)) (fun M' o' f' X' R' h' => ?_)
    have fk : ∀ y, (y = s + 30 ∨ eS s (68 + 5 * w) y) → kS s w y := fun y q => Or.inr q
    have hlow : ∀ y, y < s + 68 → y ≠ s + 30 → mI M' y = mI M7 y := fun y a b => f'.2.2.2.2.2.2 y (fun q => by rcases q with q | q; exact b q; have := q.1; omega)
    refine ⟨⟨o', f09.trans ((f7.mono (fun y q => Or.inl q)).trans (f'.mono fk)), fun j a b => ?_, W7.far f' (fun y q => by have := wk_f4 q; omega), C7.out f' (fun y q => wk_f2 hw q), R7.out2 f' (fun i y hi q => wk_f3 hw hi q), R', fun j hj => ?_, Or.inl ⟨rfl, ?_, x7, X', v7, fun j hj c => v7' j hj (by rw [i22]; exact c)⟩⟩, pY⟩
    · rw [hlow s (by omega) (by omega), k7 j b, fe9 s (by omega), s8 j a]
    · rw [h' j, if_neg hj, f7.2.2.2.2.2.2 (s + 30) (by omega), fe9 (s + 30) (by omega), h308, if_neg hj]
    · rw [h' w, if_pos rfl]
  | succ c ih =>
    intro k M9 hk o9 f9 p9
    have V9 := V8.fi f9
    have fe9 := f9.2.2.2.2.2.2
    have hw9 : sameW M8 M9 s := sameW.of f9 (by omega) (fun x _ _ => by omega) (by omega)
    have G9 : sameG M M9 s := G8.trans hw9.1
    have n9 : mI M9 s 1 = n := by rw [G9.1]; exact hn
    refine k_MS_work_26 o9 ⟨by omega, by omega⟩ ⟨by omega, by omega⟩ ?_
    rw [n9]
    refine ⟨V9.k0, fun z => by omega, fun _ => ?_⟩
    refine k_MS_firstThatMay o9 ⟨by omega, by omega⟩ ?_
    rw [V9.r4, V9.r14, V9.n22, V9.n32, V9.r18, fe9 s (by omega), fe9 (s + 22) (by omega), fe9 (s + 32) (by omega), Int.toNat_natCast]
    have e32 : mI M8 (s + 32) = mI M (s + 32) := g8 _ (by omega) (by omega) (by omega)
    have a := hT k (by omega)
    have i32v : i32 (mI M8 (s + 32) k) := by rw [e32]; exact (hO _ _).1
    refine ⟨V9.k0, V9.k22, by omega, fun _ => ⟨V9.k32, by omega⟩, fun v hv => ?_⟩
    have hv32 : i32 v := by
      split at hv
      · rw [hv]; exact i32v
      · rw [hv]; exact ⟨by omega, by omega⟩
    refine ⟨hv32, o9, V9.k35, by rw [V9.n35]; omega, fun M1 e1 => ?_⟩
    have f1 : FI (fun y => y = s + 35) M9 M1 := by rw [e1]; exact FI.ui rfl
    have o1 : mOk M1 := by rw [e1]; exact mOk_UI o9 hv32
    refine ih (k + 1) M1 (by omega) o1 (f9.trans f1) (fun j hj => ?_)
    rw [e1, mI_UI]
    by_cases z : j = k
    · rw [if_pos ⟨rfl, z⟩, z]
      exact hv
    · rw [if_neg (fun q => z q.2)]
      exact p9 j (by omega)
end WO
