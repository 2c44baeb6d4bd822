/-! The solver: answer. -/
def anQ (M : mM) (s n : Nat) (M' : mM) : Prop := mOk M' ∧ FI (aS s) M M' ∧ (∀ j, j ≠ 24 → mI M' s j = mI M s j) ∧ Wk M' s ∧ Ct M' s ∧ Rm M' s 88 ∧ PLo M' s ∧ (∀ k, mI M (s + 22) k ≠ 2 → mI M' (s + 35) k = mI M (s + 35) k) ∧ ∃ (A : Nat → Prop) (ρ : Nat → Nat) (x : Nat → Rat), Xt M' s 88 n x ∧ Res M s n A ρ (pl M s) x
theorem PLo.out {M M' : mM} {s : Nat} (h : PLo M s) (w : sameW M M' s) (e : mI M' (s + 35) = mI M (s + 35)) : PLo M' s := by
  unfold PLo pl at h ⊢
  rw [w.1.hm, w.may, w.1.1, e]
  exact h
section AN
variable {G : mG} {d s n m : Nat} {M M3 : mM} {ρ : Nat → Nat} {F : Int}
theorem an_settle {M5 : mM} {Q : mM → Prop} (hA : AC M s n m ρ M3) (h : AH M s M3 M5) (hQ : ∀ M6 x, AH M s M3 M6 → Xt M6 s 88 n x → VL M s n (mkd M3 s) (pl M6 s) x → pl M6 s = pl M5 s → h_MS_answer_89 G (d + 7) s 0 0 M6 Q) : h_MS_answer_77 G (d + 7) s 1 M5 Q := by
  have hw := AH.sw hA h
  have hv := AH.vl hA h
  obtain ⟨hE, hS⟩ := AH.sy hA h
  obtain ⟨hG, hC, hn, hm, -, -, -, -, -, h24, -⟩ := hA
  obtain ⟨o2, V2, f2, W2, T2, R2, P2, h2⟩ := h
  have hG2 := hw.1.gw hG
  have hn2 : mI M5 s 1 = n := by rw [hw.1.1]; exact hn
  have h24' : mI M5 s 24 = m := by rw [f2.2.2.2.2.2.2 s (by omega)]; exact h24
  refine k_MS_answer_77 o2 ⟨by omega, by omega⟩ ⟨fun w => by omega, fun _ => ⟨V2.k0, (s_MS_settle (d := d) hm o2 V2 hG2 (hw.1.gb hC) hn2 h24' hE hS W2 T2 R2).mono (fun M6 h6 => ?_)⟩⟩
  obtain ⟨o6, f6, W6, T6, R6, X6⟩ := h6
  have e35 : mI M6 (s + 35) = mI M5 (s + 35) := f6.2.2.2.2.2.2 _ (by omega)
  have ep : pl M6 s = pl M5 s := by funext k; unfold pl; rw [e35]
  refine ⟨o6, hQ M6 _ ⟨o6, V2.fi f6, f2.trans (f6.mono (fun y q => by omega)), W6, T6, R6, P2.out (sameW.of f6 (by omega) (fun x _ _ => by omega) (by omega)) e35, fun k hk => by rw [e35]; exact h2 k hk⟩ X6 (by rw [ep]; exact hv) ep⟩
theorem s_an89 {Q : mM → Prop} (hF : Fall F) (hA : AC M s n m ρ M3) (hQ : ∀ M' x, AH M s M3 M' → Xt M' s 88 n x → Res M s n (mkd M3 s) ρ (pl M s) x → Q M') : ∀ (t : Nat) (x : Nat → Rat) (M2 : mM), AH M s M3 M2 → Xt M2 s 88 n x → VL M s n (mkd M3 s) (pl M2 s) x → sr x n * (F : Rat) = ((t : Int) : Rat) → h_MS_answer_89 G (d + 7) s 0 0 M2 Q := by
  have hAC := hA
  obtain ⟨hG, hC, hn, hm, hL, hR, hFx, hP, hw3, h24, e1, e2, e3⟩ := hA
  have hn5 := hG.2.1
  have i22 : mI M3 (s + 22) = mI M (s + 22) := hw3.1.2.2.2 _ (by omega) (by omega)
  intro t
  induction t using Nat.strongRecOn with
  | ind t ih =>
    intro x M2 h2 X2 v2 ht
    have h01 : ∀ t, t < n → 0 ≤ x t ∧ x t ≤ 1 := fun t ht => ⟨(v2.1 t ht).2, (smp_b (v2.1 t ht).1).1⟩
    suffices H : ∀ (c r : Nat) (f : Int) (M5 : mM), r + c = m → AH M s M3 M5 → Xt M5 s 88 n x → ((f = 0 ∧ mI M5 (s + 35) = mI M2 (s + 35) ∧ ∀ r', r' < r → mI M (s + 22) (uu M3 s r') = 2 → ∀ i : Nat, (i : Int) < mny M s (uu M3 s r') → mayP M s (uu M3 s r') i → ¬ cw M s (cx M s (uu M3 s r') i) x < x (uu M3 s r')) ∨ (f = 1 ∧ (∀ k, k < n → mkd M3 s k → mI M (s + 22) k ≠ 3 → cw M s (cx M s k (pl M5 s k)) x ≤ x k) ∧ ∃ k, k < n ∧ mkd M3 s k ∧ mI M (s + 22) k ≠ 3 ∧ cw M s (cx M s k (pl M5 s k)) x < x k)) → h_MS_answer_89 G (d + 7) s f r M5 Q from
      H m 0 0 M2 (by omega) h2 X2 (Or.inl ⟨rfl, rfl, fun r' hr' => by omega⟩)
    intro c
    induction c with
    | zero =>
      intro r f M5 hr h5 X5 hf
      have er : r = m := by omega
      subst er
      have hf01 : f = 0 ∨ f = 1 := by rcases hf with q | q; exact Or.inl q.1; exact Or.inr q.1
      have e24 : mI M5 s 24 = r := by rw [h5.2.2.1.2.2.2.2.2.2 s (by omega)]; exact h24
      refine k_MS_answer_89 h5.1 ⟨by omega, by omega⟩ ⟨by omega, by omega⟩ ?_
      rw [e24]
      refine ⟨h5.2.1.k0, fun _ => ?_, fun w => by omega⟩
      rcases hf with ⟨q1, q2, q3⟩ | ⟨q1, q2, k, q3, q4, q5, q6⟩
      · subst q1
        refine k_MS_answer_77 h5.1 ⟨by omega, by omega⟩ ⟨fun _ => hQ M5 x h5 X5 ?_, fun w => absurd rfl w⟩
        obtain ⟨v1, v3, v4, v5, v6, -⟩ := v2
        have ep : pl M5 s = pl M2 s := by funext k; unfold pl; rw [q2]
        have hmax : ∀ k, mI M (s + 22) k = 1 → pl M2 s k = pl M s k := fun k hk => by unfold pl; rw [h2.2.2.2.2.2.2.2 k (by omega)]
        have hP2 : ∀ k, k < n → 0 < mny M s k → (pl M2 s k : Int) < mny M s k ∧ mayP M s k (pl M2 s k) := fun k hk hp => by
          have hw2 := AH.sw hAC h2
          have a := h2.2.2.2.2.2.2.1 k (by rw [hw2.1.1]; omega) (by rw [hw2.1.hm]; exact hp)
          rw [hw2.1.hm, hw2.may] at a
          exact ⟨by unfold pl; omega, a.2.2⟩
        refine ⟨v1, v3, v4, fun k hk hk2 hk1 => ?_, fun k hk hk2 hk1 i hi hmi => ?_, hR, hFx, fun z z1 z2 z3 z4 => v6 z (fun k hk hk2 hk3 => ?_) (fun k hk hk2 => ?_)⟩
        · rw [← hmax k hk1]
          exact v5 k hk hk2 (by omega)
        · obtain ⟨b1, b2, b3⟩ := e2 k hk ⟨hk2, by rw [i22]; omega⟩
          have euj : uu M3 s (mI M3 (s + 40) k).toNat = k := by unfold uu; omega
          have a := q3 (mI M3 (s + 40) k).toNat (by omega)
          rw [euj] at a
          have b := a hk1 i hi hmi
          grind
        · rcases hR k hk hk2 hk3 with ⟨c1, c2, -⟩ | ⟨c1, c2, -⟩
          · rw [hmax k c1]
            exact z1 k hk hk2 c1
          · have p := hP2 k hk c2
            exact z2 k hk hk2 c1 _ p.1 p.2
        · by_cases w3 : mI M (s + 22) k = 3
          · rw [v3 k hk w3]
            exact z4 k hk w3
          · have hnA : ¬ mkd M3 s k := fun w => hk2 ⟨w, w3⟩
            rw [v4 k hk hnA w3]
            exact z3 k hk hnA
      · subst q1
        refine an_settle hAC h5 (fun M6 x' h6 X6 v6 ep => ?_)
        obtain ⟨t', ht'⟩ := ms_ex hF n v6.1
        have hle : ∀ k, k < n → x' k ≤ x k := v6.2.2.2.2.2 x (fun j hj hj2 hj3 => by rw [ep]; exact q2 j hj hj2 hj3) (fun j hj hj2 => by
          by_cases w3 : mI M (s + 22) j = 3
          · rw [v6.2.1 j hj w3, v2.2.1 j hj w3]
            exact Rat.le_refl
          · have hnA : ¬ mkd M3 s j := fun w => hj2 ⟨w, w3⟩
            rw [v6.2.2.1 j hj hnA w3, v2.2.2.1 j hj hnA w3]
            exact Rat.le_refl)
        have hlt : x' k < x k := by
          have a := v6.2.2.2.1 k q3 q4 q5
          rw [ep] at a
          have hk5 := h5.2.2.2.2.2.2.1
          have hw5 := AH.sw hAC h5
          have hpos : 0 < mny M s k := by
            rcases hR k q3 q4 q5 with ⟨c1, c2, -⟩ | ⟨c1, c2, -⟩
            · omega
            · exact c2
          have p := hk5 k (by rw [hw5.1.1]; omega) (by rw [hw5.1.hm]; exact hpos)
          rw [hw5.1.hm] at p
          have hcx := cx_lt hG (k := k) (i := pl M5 s k) (by omega) (by unfold pl; omega)
          have b := cw_le hC hcx (f := x') (g := x) (fun b hb => hle _ (by have := tg_lt hG hcx hb; omega))
          grind
        have hs : sr x' n < sr x n := sr_lt n hle ⟨k, q3, hlt⟩
        exact ih t' (ms_lt hF ht ht' hs) x' M6 h6 X6 v6 ht'
    | succ c ihc =>
      intro r f M5 hr h5 X5 hf
      have hrm : r < m := by omega
      have hf01 : f = 0 ∨ f = 1 := by rcases hf with q | q; exact Or.inl q.1; exact Or.inr q.1
      have hw5 := AH.sw hAC h5
      obtain ⟨o5, V5, f5, W5, T5, R5, P5, k5⟩ := id h5
      have fe5 := f5.2.2.2.2.2.2
      have e24 : mI M5 s 24 = m := by rw [fe5 s (by omega)]; exact h24
      obtain ⟨a1, a2, a3, a4⟩ := e1 r hrm
      have huu : (uu M3 s r : Int) = mI M3 (s + 39) r := by unfold uu; omega
      refine k_MS_answer_89 o5 ⟨by omega, by omega⟩ ⟨by omega, by omega⟩ ?_
      rw [e24, V5.r22, V5.n39, fe5 (s + 39) (by omega), Int.toNat_natCast, ← huu]
      refine ⟨V5.k0, fun w => by omega, fun _ => ⟨V5.k39, by omega, (s_MS_improve (d := d + 1) (Or.inr rfl) o5 V5 (hw5.1.gw hG) (hw5.1.gb hC) (by rw [hw5.1.1]; exact hn) (by rw [hw5.1.1]; omega) W5 X5 h01).mono (fun y M6 h6 => ?_)⟩⟩
      obtain ⟨o6, W6, f6, hy⟩ := h6
      have w56 : sameW M5 M6 s := sameW.of f6 (by omega) (fun x _ _ => by omega) (by omega)
      have i22' : mI M5 (s + 22) = mI M (s + 22) := hw5.1.2.2.2 _ (by omega) (by omega)
      rw [i22', hw5.1.hm, hw5.may] at hy
      have hbet : ∀ k i, betP M5 s x 2 k i ↔ cw M s (cx M s k i) x < x k := fun k i => by
        unfold betP
        rw [if_neg (by omega), hw5.1.hw, hw5.1.hx]
      have hk : uu M3 s r < n := by omega
      have a3' : mI M (s + 22) (uu M3 s r) ≠ 3 := by rw [← i22]; exact a3.2
      rcases hy with ⟨y1, y2, y3⟩ | ⟨y1, y2, i, y3, y4, y5, y6⟩
      · subst y1
        have ep : pl M6 s = pl M5 s := by funext k; unfold pl; rw [y2]
        refine ⟨⟨by omega, by omega⟩, o6, fun v hv => ?_⟩
        have hvf : v = f := by split at hv <;> omega
        subst hvf
        refine ihc (r + 1) v M6 (by omega) ⟨o6, V5.fi f6, f5.trans (f6.mono (fun y q => by omega)), W6, T5.out f6 (fun y q => by omega), R5.out f6 (fun y q => by omega), P5.out w56 y2, fun k hk => by rw [y2]; exact k5 k hk⟩ (X5.out f6 (fun y q => by omega)) ?_
        rcases hf with ⟨q1, q2, q3⟩ | ⟨q1, q2, q3⟩
        · left
          refine ⟨q1, y2.trans q2, fun r' hr' c2 i hi hmi => ?_⟩
          by_cases z : r' = r
          · subst z
            exact fun w => y3 c2 i hi hmi ((hbet _ _).2 w)
          · exact q3 r' (by omega) c2 i hi hmi
        · right
          rw [ep]
          exact ⟨q1, q2, q3⟩
      · subst y1
        have hlt := (hbet _ _).1 y5
        have epl : ∀ k, pl M6 s k = if k = uu M3 s r then i else pl M5 s k := fun k => by
          unfold pl
          rw [y6]
          by_cases z : k = uu M3 s r
          · rw [if_pos z, if_pos z]; omega
          · rw [if_neg z, if_neg z]
        refine ⟨⟨by omega, by omega⟩, o6, fun v hv => ?_⟩
        have hv1 : v = 1 := by split at hv <;> omega
        subst hv1
        have P6 : PLo M6 s := by
          intro k hk1 hk2
          rw [w56.1.1] at hk1
          rw [w56.1.hm] at hk2 ⊢
          rw [w56.may, epl, y6]
          by_cases z : k = uu M3 s r
          · rw [if_pos z, if_pos z, z, hw5.1.hm, hw5.may]
            exact ⟨by omega, y3, y4⟩
          · rw [if_neg z, if_neg z]
            exact P5 k hk1 hk2
        refine ihc (r + 1) 1 M6 (by omega) ⟨o6, V5.fi f6, f5.trans (f6.mono (fun y q => by omega)), W6, T5.out f6 (fun y q => by omega), R5.out f6 (fun y q => by omega), P6, fun k hk => by
          rw [y6, if_neg (fun z => hk (by rw [z]; exact y2))]
          exact k5 k hk⟩ (X5.out f6 (fun y q => by omega)) (Or.inr ⟨rfl, fun k hk hk2 hk3 => ?_, uu M3 s r, hk, a3.1, a3', ?_⟩)
        · rw [epl]
          by_cases z : k = uu M3 s r
          · rw [if_pos z, z]
            grind
          · rw [if_neg z]
            rcases hf with ⟨q1, q2, q3⟩ | ⟨q1, q2, q3⟩
            · have ep : pl M5 s = pl M2 s := by funext k; unfold pl; rw [q2]
              rw [ep, ← v2.2.2.2.1 k hk hk2 hk3]
              exact Rat.le_refl
            · exact q2 k hk hk2 hk3
        · rw [epl, if_pos rfl]
          exact hlt
end AN
