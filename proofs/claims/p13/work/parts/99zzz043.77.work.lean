/-! The solver: max's choices are bettered until none is better. -/
theorem sameW.symm {M M' : mM} {s : Nat} (h : sameW M M' s) : sameW M' M s :=
  ⟨⟨h.1.1.symm, h.1.2.1.symm, h.1.2.2.1.symm, fun x a b => (h.1.2.2.2 x a b).symm⟩, h.2.1.symm, h.2.2.symm⟩
def WH (M : mM) (s : Nat) (M2 : mM) : Prop := mOk M2 ∧ Vk M2 s ∧ FI (aS s) M M2 ∧ (∀ j, j ≠ 24 → mI M2 s j = mI M s j) ∧ Wk M2 s ∧ Ct M2 s ∧ Rm M2 s 88 ∧ PLo M2 s
theorem WH.sw {M M2 : mM} {s : Nat} (h : WH M s M2) : sameW M M2 s := by
  obtain ⟨-, -, f, k, -⟩ := h
  have fe := f.2.2.2.2.2.2
  exact ⟨⟨k 1 (by omega), k 2 (by omega), k 3 (by omega), fun x a b => fe x (by omega)⟩, k 17 (by omega), fe _ (by omega)⟩
section WO
variable {G : mG} {d s n : Nat} {M : mM} {F l2 : Int} {Q : Int → mM → Prop}
theorem wk_answer {M5 : mM} (hF : Fall F) (hG : GW M s) (hC : GB M s) (hn : mI M s 1 = n) (hL : LQ M s n) (hl : i32 l2) (h : WH M s M5)
    (hQ : ∀ M6 x A ρ, WH M s M6 → Xt M6 s 88 n x → Res M s n A ρ (pl M5 s) x → Res M s n A ρ (pl M6 s) x → h_MS_work_72 G (d + 8) s l2 0 0 M6 Q) : h_MS_work_57 G (d + 8) s l2 1 M5 Q := by
  have hw := h.sw
  obtain ⟨o5, V5, f5, k5, W5, T5, R5, P5⟩ := h
  refine k_MS_work_57 o5 hl ⟨by omega, by omega⟩ ⟨fun w => by omega, fun _ => ⟨V5.k0, (s_MS_answer (d := d) (n := n) hF o5 V5 (hw.1.gw hG) (hw.1.gb hC) (by rw [hw.1.1]; exact hn) W5 T5 R5 P5 (hw.lq hL)).mono (fun M6 h6 => ?_)⟩⟩
  obtain ⟨o6, f6, k6, W6, T6, R6, P6, p6, A, ρ, x, X6, r6⟩ := h6
  have hr := r6.sw hw.symm
  have i22 : mI M5 (s + 22) = mI M (s + 22) := hw.1.2.2.2 _ (by omega) (by omega)
  exact ⟨o6, hQ M6 x A ρ ⟨o6, V5.fi f6, f5.trans f6, fun j hj => (k6 j hj).trans (k5 j hj), W6, T6, R6, P6⟩ X6 hr (hr.sig (fun k hk => by unfold pl; rw [p6 k (by rw [i22]; omega)]))⟩
theorem s_wk72 (hF : Fall F) (hG : GW M s) (hC : GB M s) (hn : mI M s 1 = n) (hL : LQ M s n) (hl : i32 l2)
    (hQ : ∀ M' x, WH M s M' → Xt M' s 88 n x → (∀ k, k < n → Smp 21 (x k) ∧ 0 ≤ x k) → (∀ k, k < n → mI M (s + 22) k = 3 → x k = 1) → h_MS_work_107 G (d + 8) s l2 0 M' Q) : ∀ (t : Nat) (x : Nat → Rat) (A : Nat → Prop) (ρ : Nat → Nat) (M2 : mM), WH M s M2 → Xt M2 s 88 n x → Res M s n A ρ (pl M2 s) x → sr (fun k => 1 - x k) n * (F : Rat) = ((t : Int) : Rat) → h_MS_work_72 G (d + 8) s l2 0 0 M2 Q := by
  have hn5 := hG.2.1
  intro t
  induction t using Nat.strongRecOn with
  | ind t ih =>
    intro x A ρ M2 h2 X2 r2 ht
    have h01 : ∀ t, t < n → 0 ≤ x t ∧ x t ≤ 1 := fun t ht => ⟨(r2.1 t ht).2, (smp_b (r2.1 t ht).1).1⟩
    suffices H : ∀ (c k : Nat) (M5 : mM), k + c = n → WH M s M5 → Xt M5 s 88 n x → mI M5 (s + 35) = mI M2 (s + 35) → h_MS_work_72 G (d + 8) s l2 0 k M5 Q from
      H n 0 M2 (by omega) h2 X2 rfl
    intro c
    induction c with
    | zero =>
      intro k M5 hk h5 X5 e5
      have ek : k = n := by omega
      subst ek
      have hw5 := h5.sw
      refine k_MS_work_72 h5.1 hl ⟨by omega, by omega⟩ ⟨by omega, by omega⟩ ?_
      rw [hw5.1.1, hn]
      refine ⟨h5.2.1.k0, fun _ => k_MS_work_57 h5.1 hl ⟨by omega, by omega⟩ ⟨fun _ => hQ M5 x h5 X5 r2.1 r2.2.1, fun w => absurd rfl w⟩, fun w => absurd (Or.inl (by omega)) w⟩
    | succ c ihc =>
      intro k M5 hk h5 X5 e5
      have hw5 := h5.sw
      obtain ⟨o5, V5, f5, k5, W5, T5, R5, P5⟩ := id h5
      refine k_MS_work_72 o5 hl ⟨by omega, by omega⟩ ⟨by omega, by omega⟩ ?_
      rw [hw5.1.1, hn]
      refine ⟨V5.k0, fun w => by rcases w with w | w; omega; exact absurd rfl w, fun _ => (s_MS_improve (d := d + 2) (Or.inl rfl) o5 V5 (hw5.1.gw hG) (hw5.1.gb hC) (by rw [hw5.1.1]; exact hn) (by rw [hw5.1.1]; omega) W5 X5 h01).mono (fun y M6 h6 => ?_)⟩
      obtain ⟨o6, W6, f6, hy⟩ := h6
      have w56 : sameW M5 M6 s := sameW.of f6 (by omega) (fun x _ _ => by omega) (by omega)
      have i22' : mI M5 (s + 22) = mI M (s + 22) := hw5.1.2.2.2 _ (by omega) (by omega)
      rw [i22', hw5.1.hm, hw5.may] at hy
      have s6 : ∀ j, j ≠ 24 → mI M6 s j = mI M s j := fun j hj => by rw [f6.2.2.2.2.2.2 s (by omega)]; exact k5 j hj
      rcases hy with ⟨y1, y2, y3⟩ | ⟨y1, y2, i, y3, y4, y5, y6⟩
      · subst y1
        exact ⟨⟨by omega, by omega⟩, o6, ihc (k + 1) M6 (by omega) ⟨o6, V5.fi f6, f5.trans (f6.mono (fun y q => by omega)), s6, W6, T5.out f6 (fun y q => by omega), R5.out f6 (fun y q => by omega), P5.out w56 y2⟩ (X5.out f6 (fun y q => by omega)) (y2.trans e5)⟩
      · subst y1
        have hlt : x k < cw M s (cx M s k i) x := by
          unfold betP at y5
          rw [if_pos rfl, hw5.1.hw, hw5.1.hx] at y5
          exact y5
        have epl : ∀ j, pl M6 s j = if j = k then i else pl M5 s j := fun j => by
          unfold pl
          rw [y6]
          by_cases z : j = k
          · rw [if_pos z, if_pos z]; omega
          · rw [if_neg z, if_neg z]
        have P6 : PLo M6 s := by
          intro j hj1 hj2
          rw [w56.1.1] at hj1
          rw [w56.1.hm] at hj2 ⊢
          rw [w56.may, epl, y6]
          by_cases z : j = k
          · rw [if_pos z, if_pos z, z, hw5.1.hm, hw5.may]
            exact ⟨by omega, y3, y4⟩
          · rw [if_neg z, if_neg z]
            exact P5 j hj1 hj2
        have h6 : WH M s M6 := ⟨o6, V5.fi f6, f5.trans (f6.mono (fun y q => by omega)), s6, W6, T5.out f6 (fun y q => by omega), R5.out f6 (fun y q => by omega), P6⟩
        have hw6 := h6.sw
        refine ⟨⟨by omega, by omega⟩, o6, k_MS_work_72 o6 hl ⟨by omega, by omega⟩ ⟨by omega, by omega⟩ ⟨h6.2.1.k0, fun _ => wk_answer hF hG hC hn hL hl h6 (fun M7 y' A' ρ' h7 X7 r7 r7' => ?_), fun w => absurd (Or.inr (fun z => by omega)) w⟩⟩
        obtain ⟨t', ht'⟩ := ms_ex (x := fun k => 1 - y' k) hF n (fun j hj => smp_co (r7.1 j hj).1 (r7.1 j hj).2)
        have e52 : pl M5 s = pl M2 s := by funext j; unfold pl; rw [e5]
        have hup := res_up hG hC hn r2 r7 (k := k) (by omega) y2 (by rw [epl, if_pos rfl]; exact y3) (by rw [epl, if_pos rfl]; exact hlt) (fun j hj hjk => by rw [epl, if_neg hjk, e52])
        exact ih t' (ms_lt hF ht ht' (sr_co_lt hup.1 (k := k) (by omega) hup.2)) y' A' ρ' M7 h7 X7 r7' ht'
end WO
