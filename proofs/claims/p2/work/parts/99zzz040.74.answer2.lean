section
/-! The solver: answer. -/
def anQ (M : mM) (s n : Nat) (M' : mM) : Prop := mOk M' ∧ FI (aS s) M M' ∧ (∀ j, j ≠ 24 → mI M' s j = mI M s j) ∧ Wk M' s ∧ Ct M' s ∧ Rm M' s 88 ∧ PLo M' s ∧ (∀ k, mI M (s + 22) k ≠ 2 → mI M' (s + 35) k = mI M (s + 35) k) ∧ ∃ (A : Nat → Prop) (ρ : Nat → Nat) (x : Nat → Rat), Xt M' s 88 n x ∧ Res M s n A ρ (pl M s) x
theorem PLo.out {M M' : mM} {s : Nat} (h : PLo M s) (w : sameW M M' s) (e : mI M' (s + 35) = mI M (s + 35)) : PLo M' s := by
  unfold PLo pl at h ⊢
  rw [w.1.hm, w.may, w.1.1, e]
  exact h
section AN
variable {G : mG} {d s n m : Nat} {M M3 : mM} {ρ : Nat → Nat} {F : Int}
theorem an_settle {M5 : mM} {Q : mM → Prop} (hA : AC M s n m ρ M3) (h : AH M s M3 M5) (hQ : ∀ M6 x, AH M s M3 M6 → Xt M6 s 88 n x → VL M s n (mkd M3 s) (pl M6 s) x → pl M6 s = pl M5 s → h_MS_answer_89 G (d + 7) s 0 0 M6 Q) : h_MS_answer_77 G (d + 7) s 1 M5 Q := by
  have hw := AH.sw hA h
  have hv := AH.vl hA h
  obtain ⟨hE, hS⟩ := AH.sy hA h
  obtain ⟨hG, hC, hn, hm, -, -, -, -, -, h24, -⟩ := hA
  obtain ⟨o2, V2, f2, W2, T2, R2, P2, h2⟩ := h
  have hG2 := hw.1.gw hG
  have hn2 : mI M5 s 1 = n := by rw [hw.1.1]; exact hn
  have h24' : mI M5 s 24 = m := by rw [f2.2.2.2.2.2.2 s (by omega)]; exact h24
  refine k_MS_answer_77 o2 ⟨by omega, by omega⟩ ⟨fun w => by omega, fun _ => ⟨V2.k0, (s_MS_settle (d := d) hm o2 V2 hG2 (hw.1.gb hC) hn2 h24' hE hS W2 T2 R2).mono (fun M6 h6 => ?_)⟩⟩
  obtain ⟨o6, f6, W6, T6, R6, X6⟩ := h6
  have e35 : mI M6 (s + 35) = mI M5 (s + 35) := f6.2.2.2.2.2.2 _ (by omega)
  have ep : pl M6 s = pl M5 s := by funext k; unfold pl; rw [e35]
  refine ⟨o6, hQ M6 _ ⟨o6, V2.fi f6, f2.trans (f6.mono (fun y q => by omega)), W6, T6, R6, P2.out (sameW.of f6 (by omega) (fun x _ _ => by omega) (by omega)) e35, fun k hk => by rw [e35]; exact h2 k hk⟩ X6 (by rw [ep]; exact hv) ep⟩
theorem s_an89 {Q : mM → Prop} (hF : Fall F) (hA : AC M s n m ρ M3) (hQ : ∀ M' x, AH M s M3 M' → Xt M' s 88 n x → Res M s n (mkd M3 s) ρ (pl M s) x → Q M') : ∀ (t : Nat) (x : Nat → Rat) (M2 : mM), AH M s M3 M2 → Xt M2 s 88 n x → VL M s n (mkd M3 s) (pl M2 s) x → sr x n * (F : Rat) = ((t : Int) : Rat) → h_MS_answer_89 G (d + 7) s 0 0 M2 Q := by
  have hAC := hA
  obtain ⟨hG, hC, hn, hm, hL, hR, hFx, hP, hw3, h24, e1, e2, e3⟩ := hA
  have hn5 := hG.2.1
  have i22 : mI M3 (s + 22) = mI M (s + 22) := hw3.1.2.2.2 _ (by omega) (by omega)
  intro t
  induction t using Nat.strongRecOn with
  | ind t ih =>
    intro x M2 h2 X2 v2 ht
    have h01 : ∀ t, t < n → 0 ≤ x t ∧ x t ≤ 1 := fun t ht => ⟨(v2.1 t ht).2, (smp_b (v2.1 t ht).1).1⟩
    suffices H : ∀ (c r : Nat) (f : Int) (M5 : mM), r + c = m → AH M s M3 M5 → Xt M5 s 88 n x → ((f = 0 ∧ mI M5 (s + 35) = mI M2 (s + 35) ∧ ∀ r', r' < r → mI M (s + 22) (uu M3 s r') = 2 → ∀ i : Nat, (i : Int) < mny M s (uu M3 s r') → mayP M s (uu M3 s r') i → ¬ cw M s (cx M s (uu M3 s r') i) x < x (uu M3 s r')) ∨ (f = 1 ∧ (∀ k, k < n → mkd M3 s k → mI M (s + 22) k ≠ 3 → cw M s (cx M s k (pl M5 s k)) x ≤ x k) ∧ ∃ k, k < n ∧ mkd M3 s k ∧ mI M (s + 22) k ≠ 3 ∧ cw M s (cx M s k (pl M5 s k)) x < x k)) → h_MS_answer_89 G (d + 7) s f r M5 Q from
      H m 0 0 M2 (by omega) h2 X2 (Or.inl ⟨rfl, rfl, fun r' hr' => by omega⟩)
    intro c
    induction c with
    | zero =>
      intro r f M5 hr h5 X5 hf
      have er : r = m := by omega
      subst er
      have hf01 : f = 0 ∨ f = 1 := by rcases hf with q | q; exact Or.inl q.1; exact Or.inr q.1
      have e24 : mI M5 s 24 = r := by rw [h5.2.2.1.2.2.2.2.2.2 s (by omega)]; exact h24
      refine k_MS_answer_89 h5.1 ⟨by omega, by omega⟩ ⟨by omega, by omega⟩ ?_
      rw [e24]
      refine ⟨h5.2.1.k0, fun _ => ?_, fun w => by omega⟩
      rcases hf with ⟨q1, q2, q3⟩ | ⟨q1, q2, k, q3, q4, q5, q6⟩
      · subst q1
        refine k_MS_answer_77 h5.1 ⟨by omega, by omega⟩ ⟨fun _ => hQ M5 x h5 X5 ?_, fun w => absurd rfl w⟩
        obtain ⟨v1, v3, v4, v5, v6, -⟩ := v2
        have ep : pl M5 s = pl M2 s := by funext k; unfold pl; rw [q2]
        have hmax : ∀ k, mI M (s + 22) k = 1 → pl M2 s k = pl M s k := fun k hk => by unfold pl; rw [h2.2.2.2.2.2.2.2 k (by omega)]
        have hP2 : ∀ k, k < n → 0 < mny M s k → (pl M2 s k : Int) < mny M s k ∧ mayP M s k (pl M2 s k) := fun k hk hp => by
          have hw2 := AH.sw hAC h2
          have a := h2.2.2.2.2.2.2.1 k (by rw [hw2.1.1]; omega) (by rw [hw2.1.hm]; exact hp)
          rw [hw2.1.hm, hw2.may] at a
          exact ⟨by unfold pl; omega, a.2.2⟩
        refine ⟨v1, v3, v4, fun k hk hk2 hk1 => ?_, fun k hk hk2 hk1 i hi hmi => ?_, hR, hFx, fun z z1 z2 z3 z4 => v6 z (fun k hk hk2 hk3 => ?_) (fun k hk hk2 => ?_)⟩
        · rw [← hmax k hk1]
          exact v5 k hk hk2 (by omega)
        · obtain ⟨b1, b2, b3⟩ := e2 k hk ⟨hk2, by rw [i22]; omega⟩
          have euj : uu M3 s (mI M3 (s + 40) k).toNat = k := by unfold uu; omega
          have a := q3 (mI M3 (s + 40) k).toNat (by omega)
          rw [euj] at a
          have b := a hk1 i hi hmi
          grind
        · rcases hR k hk hk2 hk3 with ⟨c1, c2, -⟩ | ⟨c1, c2, -⟩
          · rw [hmax k c1]
            exact z1 k hk hk2 c1
          · have p := hP2 k hk c2
            exact z2 k hk hk2 c1 _ p.1 p.2
        · by_cases w3 : mI M (s + 22) k = 3
          · rw [v3 k hk w3]
            exact z4 k hk w3
          · have hnA : ¬ mkd M3 s k := fun w => hk2 ⟨w, w3⟩
            rw [v4 k hk hnA w3]
            exact z3 k hk hnA
      · subst q1
        refine an_settle hAC h5 (fun M6 x' h6 X6 v6 ep => ?_)
        obtain ⟨t', ht'⟩ := ms_ex hF n v6.1
        have hle : ∀ k, k < n → x' k ≤ x k := v6.2.2.2.2.2 x (fun j hj hj2 hj3 => by rw [ep]; exact q2 j hj hj2 hj3) (fun j hj hj2 => by
          by_cases w3 : mI M (s + 22) j = 3
          · rw [v6.2.1 j hj w3, v2.2.1 j hj w3]
            exact Rat.le_refl
          · have hnA : ¬ mkd M3 s j := fun w => hj2 ⟨w, w3⟩
            rw [v6.2.2.1 j hj hnA w3, v2.2.2.1 j hj hnA w3]
            exact Rat.le_refl)
        have hlt : x' k < x k := by
          have a := v6.2.2.2.1 k q3 q4 q5
          rw [ep] at a
          have hk5 := h5.2.2.2.2.2.2.1
          have hw5 := AH.sw hAC h5
          have hpos : 0 < mny M s k := by
            rcases hR k q3 q4 q5 with ⟨c1, c2, -⟩ | ⟨c1, c2, -⟩
            · omega
            · exact c2
          have p := hk5 k (by rw [hw5.1.1]; omega) (by rw [hw5.1.hm]; exact hpos)
          rw [hw5.1.hm] at p
          have hcx := cx_lt hG (k := k) (i := pl M5 s k) (by omega) (by unfold pl; omega)
          have b := cw_le hC hcx (f := x') (g := x) (fun b hb => hle _ (by have := tg_lt hG hcx hb; omega))
          grind
        have hs : sr x' n < sr x n := sr_lt n hle ⟨k, q3, hlt⟩
        exact ih t' (ms_lt hF ht ht' hs) x' M6 h6 X6 v6 ht'
    | succ c ihc =>
      intro r f M5 hr h5 X5 hf
      have hrm : r < m := by omega
      have hf01 : f = 0 ∨ f = 1 := by rcases hf with q | q; exact Or.inl q.1; exact Or.inr q.1
      have hw5 := AH.sw hAC h5
      obtain ⟨o5, V5, f5, W5, T5, R5, P5, k5⟩ := id h5
      have fe5 := f5.2.2.2.2.2.2
      have e24 : mI M5 s 24 = m := by rw [fe5 s (by omega)]; exact h24
      obtain ⟨a1, a2, a3, a4⟩ := e1 r hrm
      have huu : (uu M3 s r : Int) = mI M3 (s + 39) r := by unfold uu; omega
      refine k_MS_answer_89 o5 ⟨by omega, by omega⟩ ⟨by omega, by omega⟩ ?_
      rw [e24, V5.r22, V5.n39, fe5 (s + 39) (by omega), Int.toNat_natCast, ← huu]
      refine ⟨V5.k0, fun w => by omega, fun _ => ⟨V5.k39, by omega, (s_MS_improve (d := d + 1) (Or.inr rfl) o5 V5 (hw5.1.gw hG) (hw5.1.gb hC) (by rw [hw5.1.1]; exact hn) (by rw [hw5.1.1]; omega) W5 X5 h01).mono (fun y M6 h6 => ?_)⟩⟩
      obtain ⟨o6, W6, f6, hy⟩ := h6
      have w56 : sameW M5 M6 s := sameW.of f6 (by omega) (fun x _ _ => by omega) (by omega)
      have i22' : mI M5 (s + 22) = mI M (s + 22) := hw5.1.2.2.2 _ (by omega) (by omega)
      rw [i22', hw5.1.hm, hw5.may] at hy
      have hbet : ∀ k i, betP M5 s x 2 k i ↔ cw M s (cx M s k i) x < x k := fun k i => by
        unfold betP
        rw [if_neg (by omega), hw5.1.hw, hw5.1.hx]
      have hk : uu M3 s r < n := by omega
      have a3' : mI M (s + 22) (uu M3 s r) ≠ 3 := by rw [← i22]; exact a3.2
      rcases hy with ⟨y1, y2, y3⟩ | ⟨y1, y2, i, y3, y4, y5, y6⟩
      · subst y1
        have ep : pl M6 s = pl M5 s := by funext k; unfold pl; rw [y2]
        refine ⟨⟨by omega, by omega⟩, o6, fun v hv => ?_⟩
        have hvf : v = f := by split at hv <;> omega
        subst hvf
        refine ihc (r + 1) v M6 (by omega) ⟨o6, V5.fi f6, f5.trans (f6.mono (fun y q => by omega)), W6, T5.out f6 (fun y q => by omega), R5.out f6 (fun y q => by omega), P5.out w56 y2, fun k hk => by rw [y2]; exact k5 k hk⟩ (X5.out f6 (fun y q => by omega)) ?_
        rcases hf with ⟨q1, q2, q3⟩ | ⟨q1, q2, q3⟩
        · left
          refine ⟨q1, y2.trans q2, fun r' hr' c2 i hi hmi => ?_⟩
          by_cases z : r' = r
          · subst z
            exact fun w => y3 c2 i hi hmi ((hbet _ _).2 w)
          · exact q3 r' (by omega) c2 i hi hmi
        · right
          rw [ep]
          exact ⟨q1, q2, q3⟩
      · subst y1
        have hlt := (hbet _ _).1 y5
        have epl : ∀ k, pl M6 s k = if k = uu M3 s r then i else pl M5 s k := fun k => by
          unfold pl
          rw [y6]
          by_cases z : k = uu M3 s r
          · rw [if_pos z, if_pos z]; omega
          · rw [if_neg z, if_neg z]
        refine ⟨⟨by omega, by omega⟩, o6, fun v hv => ?_⟩
        have hv1 : v = 1 := by split at hv <;> omega
        subst hv1
        have P6 : PLo M6 s := by
          intro k hk1 hk2
          rw [w56.1.1] at hk1
          rw [w56.1.hm] at hk2 ⊢
          rw [w56.may, epl, y6]
          by_cases z : k = uu M3 s r
          · rw [if_pos z, if_pos z, z, hw5.1.hm, hw5.may]
            exact ⟨by omega, y3, y4⟩
          · rw [if_neg z, if_neg z]
            exact P5 k hk1 hk2
        refine ihc (r + 1) 1 M6 (by omega) ⟨o6, V5.fi f6, f5.trans (f6.mono (fun y q => by omega)), W6, T5.out f6 (fun y q => by omega), R5.out f6 (fun y q => by omega), P6, fun k hk => by
          rw [y6, if_neg (fun z => hk (by rw [z]; exact y2))]
          exact k5 k hk⟩ (X5.out f6 (fun y q => by omega)) (Or.inr ⟨rfl, fun k hk hk2 hk3 => ?_, uu M3 s r, hk, a3.1, a3', ?_⟩)
        · rw [epl]
          by_cases z : k = uu M3 s r
          · rw [if_pos z, z]
            grind
          · rw [if_neg z]
            rcases hf with ⟨q1, q2, q3⟩ | ⟨q1, q2, q3⟩
            · have ep : pl M5 s = pl M2 s := by funext k; unfold pl; rw [q2]
              rw [ep, ← v2.2.2.2.1 k hk hk2 hk3]
              exact Rat.le_refl
            · exact q2 k hk hk2 hk3
        · rw [epl, if_pos rfl]
          exact hlt
end AN
end
section
/-! The solver: answer, the whole. -/
section AN
variable {G : mG} {d s n : Nat} {M : mM} {F : Int}
theorem s_MS_answer (hF : Fall F) (hO : mOk M) (hV : Vk M s) (hG : GW M s) (hC : GB M s) (hn : mI M s 1 = n) (hW : Wk M s) (hT : Ct M s) (hR : Rm M s 88) (hP : PLo M s) (hL : LQ M s n) :
    Cv G y_MS_answer (d + 8) [vr s] M (anQ M s n) := by
  have h2 := hG.2.1
  refine k_MS_answer hO ⟨hV.k0, (s_MS_grow (d := d + 5) ⟨by omega, by omega⟩ hO hV hG).mono (fun M1 h1 => ?_)⟩
  have hfx := gv_fix hG hn hP h1
  obtain ⟨⟨ρ, t, g1⟩, -⟩ := h1
  have hrk := gv_rnk hG hn g1
  obtain ⟨o1, f1, -⟩ := g1
  have V1 := hV.fi f1
  have fe1 := f1.2.2.2.2.2.2
  refine ⟨o1, V1.k0, fun M2 e2 => ?_⟩
  have f2 : FI (fun x => x = s) M1 M2 := by rw [e2]; exact FI.ui rfl
  have fe2 := f2.2.2.2.2.2.2
  have o2 : mOk M2 := by rw [e2]; exact mOk_UI o1 ⟨by omega, by omega⟩
  have V2 := V1.fi f2
  have s2 : ∀ j, j ≠ 24 → mI M2 s j = mI M s j := fun j hj => by rw [e2, mI_UI, if_neg (fun w => hj w.2), fe1 s (by omega)]
  have s24 : mI M2 s 24 = 0 := by rw [e2, mI_UI, if_pos ⟨rfl, rfl⟩]
  have i36 : mI M2 (s + 36) = mI M1 (s + 36) := fe2 _ (by omega)
  have i22 : mI M2 (s + 22) = mI M (s + 22) := by rw [fe2 _ (by omega), fe1 _ (by omega)]
  have hn2 : mI M2 s 1 = n := by rw [s2 1 (by omega)]; exact hn
  have h40 : sm (fun k => if unk M2 s k then 1 else 0) n ≤ 40 := by
    obtain ⟨τ, w, l1, l2, l3, l4, l5, l6⟩ := hL
    have hsub := ins_sub hG hn hP hrk l1 l2
    refine Int.le_trans (sm_le n (fun k hk => ?_)) l6
    by_cases q : unk M2 s k
    · have q1 : mkd M1 s k := by have := q.1; rw [i36] at this; exact this
      have q2 : mI M (s + 22) k ≠ 3 := by have := q.2; rw [i22] at this; exact this
      rw [if_pos q, if_pos ⟨hsub k hk q1, q2⟩]
      omega
    · rw [if_neg q]
      split <;> omega
  refine s_an12 (G := G) (d := d + 7) V2 hn2 (by omega) h40 (fun m M3 hm h3 => ?_) n 0 0 M2 (by omega) ⟨⟨o2, FI.refl, fun j _ => rfl, s24⟩, fun r hr => by omega, fun k hk => by omega, fun f => rfl⟩
  obtain ⟨⟨o3, f3, s3, s34⟩, e1, e3, e4⟩ := h3
  have fe3 := f3.2.2.2.2.2.2
  have V3 := V2.fi f3
  have j36 : mI M3 (s + 36) = mI M1 (s + 36) := by rw [fe3 _ (by omega), i36]
  have j22 : mI M3 (s + 22) = mI M (s + 22) := by rw [fe3 _ (by omega), i22]
  have hmk : mkd M3 s = mkd M1 s := by funext k; unfold mkd; rw [j36]
  have hu : ∀ k, unk M2 s k ↔ unk M3 s k := fun k => by unfold unk; rw [j36, j22, i36, i22]
  have hfar : ∀ x, x ≠ s → x ≠ s + 36 → x ≠ s + 39 → x ≠ s + 40 → mI M3 x = mI M x := fun x w1 w2 w3 w4 => by rw [fe3 x (by omega), fe2 x w1, fe1 x w2]
  have hs3 : ∀ j, j ≠ 24 → mI M3 s j = mI M s j := fun j hj => (s3 j hj).trans (s2 j hj)
  have hsw : sameW M M3 s := ⟨⟨hs3 1 (by omega), hs3 2 (by omega), hs3 3 (by omega), fun x a b => hfar x (by omega) (by omega) (by omega) (by omega)⟩, hs3 17 (by omega), hfar _ (by omega) (by omega) (by omega) (by omega)⟩
  have f03 : FI (aS s) M M3 := ((f1.mono (fun y q => by omega)).trans (f2.mono (fun y q => by omega))).trans (f3.mono (fun y q => by omega))
  have hAC : AC M s n m ρ M3 := by
    refine ⟨hG, hC, hn, hm, hL, by rw [hmk]; exact hrk, by rw [hmk]; exact hfx, hP, hsw, s34, fun r hr => ?_, fun k hk hk2 => e3 k hk ((hu k).2 hk2), fun f => ?_⟩
    · obtain ⟨a1, a2, a3, a4⟩ := e1 r hr
      exact ⟨a1, a2, (hu _).1 a3, a4⟩
    · have a := e4 f
      have b : sm (fun r => f (uu M3 s r)) m = sm (fun r => f (mI M3 (s + 39) r).toNat) m := rfl
      rw [b, a]
      refine sm_congr n (fun k hk => ?_)
      by_cases q : unk M2 s k
      · rw [if_pos q, if_pos ((hu k).1 q)]
      · rw [if_neg q, if_neg (fun w => q ((hu k).2 w))]
  have e35 : mI M3 (s + 35) = mI M (s + 35) := hfar _ (by omega) (by omega) (by omega) (by omega)
  have hAH : AH M s M3 M3 := by
    refine ⟨o3, V3, FI.refl, ?_, ?_, ?_, hP.out hsw e35, fun k _ => by rw [e35]⟩
    · exact ((hW.far f1 (fun y q => by omega)).far f2 (fun y q => by omega)).far f3 (fun y q => by omega)
    · exact ((hT.out f1 (fun y q => by omega)).out f2 (fun y q => by omega)).out f3 (fun y q => by omega)
    · exact ((hR.out f1 (fun y q => by omega)).out f2 (fun y q => by omega)).out f3 (fun y q => by omega)
  refine an_settle hAC hAH (fun M6 x h6 X6 v6 _ => ?_)
  obtain ⟨t', ht'⟩ := ms_ex hF n v6.1
  refine s_an89 hF hAC (fun M' x' h' X' r' => ?_) t' x M6 h6 X6 v6 ht'
  obtain ⟨o7, V7, f7, W7, T7, R7, P7, k7⟩ := h'
  have fe7 := f7.2.2.2.2.2.2
  exact ⟨o7, f03.trans (f7.mono (fun y q => by omega)), fun j hj => by rw [fe7 s (by omega)]; exact hs3 j hj, W7, T7, R7, P7, k7, _, ρ, x', X', r'⟩
end AN
end
section
/-! The solver: a better choice of max raises the values. -/
section RU
variable {M M' : mM} {s n : Nat} {A A' : Nat → Prop} {ρ ρ' σ σ' : Nat → Nat} {x y : Nat → Rat}
theorem Res.sw (h : Res M s n A ρ σ x) (w : sameW M M' s) : Res M' s n A ρ σ x := by
  unfold Res Rnk Fix at h ⊢
  rw [w.1.hm, w.may, w.1.hld, w.1.hx, w.1.hw, w.1.2.2.2 (s + 22) (by omega) (by omega)]
  exact h
theorem Res.sig (h : Res M s n A ρ σ x) (w : ∀ k, mI M (s + 22) k = 1 → σ' k = σ k) : Res M s n A ρ σ' x := by
  obtain ⟨h1, h2, h3, h4, h5, h6, h7, h8⟩ := h
  refine ⟨h1, h2, h3, fun k hk hA h => by rw [w k h]; exact h4 k hk hA h, h5, fun k hk hA h => ?_, ⟨h7.1, fun k hk hA => ⟨fun c => by rw [w k c]; exact (h7.2 k hk hA).1 c, (h7.2 k hk hA).2⟩⟩, fun z z1 z2 z3 z4 => h8 z (fun k hk hA c => by rw [← w k c]; exact z1 k hk hA c) z2 z3 z4⟩
  rcases h6 k hk hA h with c | c
  · left
    rw [w k c.1]
    exact c
  · exact Or.inr c
theorem res_up (hG : GW M s) (hC : GB M s) (hn : mI M s 1 = n) (h : Res M s n A ρ σ x) (h' : Res M s n A' ρ' σ' y) {k : Nat} (hk : k < n) (h1 : mI M (s + 22) k = 1) (hi : (σ' k : Int) < mny M s k) (hb : x k < cw M s (cx M s k (σ' k)) x) (hs : ∀ j, mI M (s + 22) j = 1 → j ≠ k → σ' j = σ j) : (∀ j, j < n → x j ≤ y j) ∧ x k < y k := by
  obtain ⟨a1, a2, a3, a4, a5, a6, a7, a8⟩ := h
  obtain ⟨b1, b2, b3, b4, b5, b6, b7, b8⟩ := h'
  have u0 := up0 hG hC hn (x := x) a6 b7.1 b7.2 a3 a4 a5 (fun j hj c => by
    by_cases z : j = k
    · subst z; exact Or.inr ⟨hi, hb⟩
    · exact Or.inl (hs j c z))
  have hnn : ∀ (j i : Nat), j < n → (i : Int) < mny M s j → 0 ≤ cw M s (cx M s j i) x := fun j i hj hi => by
    have hcx := cx_lt hG (k := j) (i := i) (by omega) hi
    have a := cw_le hC hcx (f := fun _ => 0) (g := x) (fun b hb => (a1 _ (by have := tg_lt hG hcx hb; omega)).2)
    rw [cw_const hC hcx] at a
    exact a
  have hle : ∀ j, j < n → x j ≤ y j := by
    refine b8 x (fun j hj hA c => ?_) (fun j hj hA c i hi hm => ?_) u0 (fun j hj c => by rw [a2 j hj c]; exact Rat.le_refl)
    · by_cases z : j = k
      · subst z
        exact Rat.le_of_lt hb
      · rw [hs j c z]
        by_cases w : A j
        · rw [← a4 j hj w c]
          exact Rat.le_refl
        · rw [a3 j hj w (by omega)]
          have hin : (σ j : Int) < mny M s j := by
            rcases b6 j hj hA (by omega) with q | q
            · rw [← hs j c z]; exact q.2.1
            · omega
          exact hnn j (σ j) hj hin
    · by_cases w : A j
      · exact a5 j hj w c i hi hm
      · rw [a3 j hj w (by omega)]
        exact hnn j i hj hi
  refine ⟨hle, ?_⟩
  have hkI : (k : Int) < mI M s 1 := by omega
  have hA' : A' k := by
    refine Classical.byContradiction (fun w => ?_)
    have l := (b7.2 k hk w).1 h1 hi
    have c := cw_below (x := x) hG hC hkI hi (c := 0) (T := fun t => ¬ A' t) (fun t ht ha => u0 t (by omega) ha) (fun ⟨b, w1, w2⟩ => l ⟨b, w1, Classical.byContradiction (fun w3 => w2 w3)⟩)
    have d := (a1 k hk).2
    have e := c.1
    grind
  have hcx := cx_lt hG hkI hi
  have e := cw_le hC hcx (f := x) (g := y) (fun b hb => hle _ (by have := tg_lt hG hcx hb; omega))
  rw [b4 k hk hA' h1]
  grind
end RU
/-- how far the values are from one -/
theorem smp_co {x : Rat} (h : Smp 21 x) (h0 : 0 ≤ x) : Smp 21 (1 - x) ∧ 0 ≤ 1 - x := by
  obtain ⟨E, z, e0, e1, e2, e3, e4⟩ := h
  refine ⟨⟨E, E - z, e0, e1, ?_, by grind, by grind⟩, by grind⟩
  rw [Rat.intCast_sub, ← e2]
  grind
theorem sr_co_lt {n : Nat} {x y : Nat → Rat} (h : ∀ j, j < n → x j ≤ y j) {k : Nat} (hk : k < n) (hl : x k < y k) : sr (fun j => 1 - y j) n < sr (fun j => 1 - x j) n := by
  refine sr_lt n (fun j hj => ?_) ⟨k, hk, ?_⟩
  · have := h j hj
    grind
  · show 1 - y k < 1 - x k
    grind
/-- told commands are commands -/
def TW (M : mM) (s : Nat) : Prop := ∀ k : Nat, (k : Int) < mI M s 1 → 0 ≤ mI M (s + 32) k ∧ (0 < mny M s k → mI M (s + 32) k < mny M s k)
section LK
variable {M M1 : mM} {s n : Nat}
theorem look_lq (hG : GW M s) (hn : mI M s 1 = n) (h : gvQ M s 0 M1) (hl : lokQ M1 s) : LQ M1 s n := by
  obtain ⟨⟨ρ, t, h1⟩, h2⟩ := h
  have f1 := h1.2.1
  have hw : sameW M M1 s := sameW.of f1 (by omega) (fun x _ _ => by omega) (by omega)
  have i22 : mI M1 (s + 22) = mI M (s + 22) := hw.1.2.2.2 _ (by omega) (by omega)
  obtain ⟨w, l1, l2, l3⟩ := hl
  have hn1 : mI M1 s 1 = n := by rw [hw.1.1]; exact hn
  rw [hn1, Int.toNat_natCast] at l2 l3
  refine ⟨mI M1 (s + 36), w, fun k hk c => ?_, fun k hk h0 => ⟨fun c i hi hm hld => ?_, fun c hp => ?_⟩, fun k hk hk2 hk3 => ?_, fun k hk => ?_, l2, ?_⟩
  · have a := (h1.2.2 k (by omega)).2.1 (by rw [← i22]; exact c)
    omega
  · rw [hw.1.hm] at hi
    rw [hw.may] at hm
    rw [hw.1.hld] at hld
    rw [i22] at c
    exact h2 k (by omega) h0 (Or.inl ⟨c, i, hi, Or.inl ⟨Or.inr rfl, hm⟩, (leadQ_LD hG (by omega) hi).2 hld⟩)
  · rw [hw.1.hm] at hp ⊢
    rw [hw.may, hw.1.hld]
    rw [i22] at c
    refine Classical.byContradiction (fun q => ?_)
    refine h2 k (by omega) h0 (Or.inr ⟨c, hp, fun i hi hu => ?_⟩)
    have hm : mayP M s k i := by
      rcases hu with u | u
      · exact u.2
      · exact absurd (Or.inl (by omega)) u.1
    exact (leadQ_LD hG (by omega) hi).2 (Classical.byContradiction (fun q2 => q ⟨i, hi, hm, q2⟩))
  · obtain ⟨a1, a2, D, a3, a4, a5⟩ := (l1 k (by omega)).1 ⟨hk2, hk3⟩
    refine ⟨a1, fun i hi hm => ?_⟩
    have := a5 i hi hm
    have e : cx M1 s k i = (mI M1 (s + 23) k).toNat + i := rfl
    rw [e]
    omega
  · by_cases q : unk M1 s k
    · exact ((l1 k (by omega)).1 q).1
    · rw [(l1 k (by omega)).2 q]
      omega
  · exact l3
end LK
end
section
/-! The solver: max's choices are bettered until none is better. -/
theorem sameW.symm {M M' : mM} {s : Nat} (h : sameW M M' s) : sameW M' M s :=
  ⟨⟨h.1.1.symm, h.1.2.1.symm, h.1.2.2.1.symm, fun x a b => (h.1.2.2.2 x a b).symm⟩, h.2.1.symm, h.2.2.symm⟩
def WH (M : mM) (s : Nat) (M2 : mM) : Prop := mOk M2 ∧ Vk M2 s ∧ FI (aS s) M M2 ∧ (∀ j, j ≠ 24 → mI M2 s j = mI M s j) ∧ Wk M2 s ∧ Ct M2 s ∧ Rm M2 s 88 ∧ PLo M2 s
theorem WH.sw {M M2 : mM} {s : Nat} (h : WH M s M2) : sameW M M2 s := by
  obtain ⟨-, -, f, k, -⟩ := h
  have fe := f.2.2.2.2.2.2
  exact ⟨⟨k 1 (by omega), k 2 (by omega), k 3 (by omega), fun x a b => fe x (by omega)⟩, k 17 (by omega), fe _ (by omega)⟩
section WO
variable {G : mG} {d s n : Nat} {M : mM} {F l2 : Int} {Q : Int → mM → Prop}
theorem wk_answer {M5 : mM} (hF : Fall F) (hG : GW M s) (hC : GB M s) (hn : mI M s 1 = n) (hL : LQ M s n) (hl : i32 l2) (h : WH M s M5)
    (hQ : ∀ M6 x A ρ, WH M s M6 → Xt M6 s 88 n x → Res M s n A ρ (pl M5 s) x → Res M s n A ρ (pl M6 s) x → h_MS_work_72 G (d + 8) s l2 0 0 M6 Q) : h_MS_work_57 G (d + 8) s l2 1 M5 Q := by
  have hw := h.sw
  obtain ⟨o5, V5, f5, k5, W5, T5, R5, P5⟩ := h
  refine k_MS_work_57 o5 hl ⟨by omega, by omega⟩ ⟨fun w => by omega, fun _ => ⟨V5.k0, (s_MS_answer (d := d) (n := n) hF o5 V5 (hw.1.gw hG) (hw.1.gb hC) (by rw [hw.1.1]; exact hn) W5 T5 R5 P5 (hw.lq hL)).mono (fun M6 h6 => ?_)⟩⟩
  obtain ⟨o6, f6, k6, W6, T6, R6, P6, p6, A, ρ, x, X6, r6⟩ := h6
  have hr := r6.sw hw.symm
  have i22 : mI M5 (s + 22) = mI M (s + 22) := hw.1.2.2.2 _ (by omega) (by omega)
  exact ⟨o6, hQ M6 x A ρ ⟨o6, V5.fi f6, f5.trans f6, fun j hj => (k6 j hj).trans (k5 j hj), W6, T6, R6, P6⟩ X6 hr (hr.sig (fun k hk => by unfold pl; rw [p6 k (by rw [i22]; omega)]))⟩
theorem s_wk72 (hF : Fall F) (hG : GW M s) (hC : GB M s) (hn : mI M s 1 = n) (hL : LQ M s n) (hl : i32 l2)
    (hQ : ∀ M' x, WH M s M' → Xt M' s 88 n x → (∀ k, k < n → Smp 21 (x k) ∧ 0 ≤ x k) → (∀ k, k < n → mI M (s + 22) k = 3 → x k = 1) → h_MS_work_107 G (d + 8) s l2 0 M' Q) : ∀ (t : Nat) (x : Nat → Rat) (A : Nat → Prop) (ρ : Nat → Nat) (M2 : mM), WH M s M2 → Xt M2 s 88 n x → Res M s n A ρ (pl M2 s) x → sr (fun k => 1 - x k) n * (F : Rat) = ((t : Int) : Rat) → h_MS_work_72 G (d + 8) s l2 0 0 M2 Q := by
  have hn5 := hG.2.1
  intro t
  induction t using Nat.strongRecOn with
  | ind t ih =>
    intro x A ρ M2 h2 X2 r2 ht
    have h01 : ∀ t, t < n → 0 ≤ x t ∧ x t ≤ 1 := fun t ht => ⟨(r2.1 t ht).2, (smp_b (r2.1 t ht).1).1⟩
    suffices H : ∀ (c k : Nat) (M5 : mM), k + c = n → WH M s M5 → Xt M5 s 88 n x → mI M5 (s + 35) = mI M2 (s + 35) → h_MS_work_72 G (d + 8) s l2 0 k M5 Q from
      H n 0 M2 (by omega) h2 X2 rfl
    intro c
    induction c with
    | zero =>
      intro k M5 hk h5 X5 e5
      have ek : k = n := by omega
      subst ek
      have hw5 := h5.sw
      refine k_MS_work_72 h5.1 hl ⟨by omega, by omega⟩ ⟨by omega, by omega⟩ ?_
      rw [hw5.1.1, hn]
      refine ⟨h5.2.1.k0, fun _ => k_MS_work_57 h5.1 hl ⟨by omega, by omega⟩ ⟨fun _ => hQ M5 x h5 X5 r2.1 r2.2.1, fun w => absurd rfl w⟩, fun w => absurd (Or.inl (by omega)) w⟩
    | succ c ihc =>
      intro k M5 hk h5 X5 e5
      have hw5 := h5.sw
      obtain ⟨o5, V5, f5, k5, W5, T5, R5, P5⟩ := id h5
      refine k_MS_work_72 o5 hl ⟨by omega, by omega⟩ ⟨by omega, by omega⟩ ?_
      rw [hw5.1.1, hn]
      refine ⟨V5.k0, fun w => by rcases w with w | w; omega; exact absurd rfl w, fun _ => (s_MS_improve (d := d + 2) (Or.inl rfl) o5 V5 (hw5.1.gw hG) (hw5.1.gb hC) (by rw [hw5.1.1]; exact hn) (by rw [hw5.1.1]; omega) W5 X5 h01).mono (fun y M6 h6 => ?_)⟩
      obtain ⟨o6, W6, f6, hy⟩ := h6
      have w56 : sameW M5 M6 s := sameW.of f6 (by omega) (fun x _ _ => by omega) (by omega)
      have i22' : mI M5 (s + 22) = mI M (s + 22) := hw5.1.2.2.2 _ (by omega) (by omega)
      rw [i22', hw5.1.hm, hw5.may] at hy
      have s6 : ∀ j, j ≠ 24 → mI M6 s j = mI M s j := fun j hj => by rw [f6.2.2.2.2.2.2 s (by omega)]; exact k5 j hj
      rcases hy with ⟨y1, y2, y3⟩ | ⟨y1, y2, i, y3, y4, y5, y6⟩
      · subst y1
        exact ⟨⟨by omega, by omega⟩, o6, ihc (k + 1) M6 (by omega) ⟨o6, V5.fi f6, f5.trans (f6.mono (fun y q => by omega)), s6, W6, T5.out f6 (fun y q => by omega), R5.out f6 (fun y q => by omega), P5.out w56 y2⟩ (X5.out f6 (fun y q => by omega)) (y2.trans e5)⟩
      · subst y1
        have hlt : x k < cw M s (cx M s k i) x := by
          unfold betP at y5
          rw [if_pos rfl, hw5.1.hw, hw5.1.hx] at y5
          exact y5
        have epl : ∀ j, pl M6 s j = if j = k then i else pl M5 s j := fun j => by
          unfold pl
          rw [y6]
          by_cases z : j = k
          · rw [if_pos z, if_pos z]; omega
          · rw [if_neg z, if_neg z]
        have P6 : PLo M6 s := by
          intro j hj1 hj2
          rw [w56.1.1] at hj1
          rw [w56.1.hm] at hj2 ⊢
          rw [w56.may, epl, y6]
          by_cases z : j = k
          · rw [if_pos z, if_pos z, z, hw5.1.hm, hw5.may]
            exact ⟨by omega, y3, y4⟩
          · rw [if_neg z, if_neg z]
            exact P5 j hj1 hj2
        have h6 : WH M s M6 := ⟨o6, V5.fi f6, f5.trans (f6.mono (fun y q => by omega)), s6, W6, T5.out f6 (fun y q => by omega), R5.out f6 (fun y q => by omega), P6⟩
        have hw6 := h6.sw
        refine ⟨⟨by omega, by omega⟩, o6, k_MS_work_72 o6 hl ⟨by omega, by omega⟩ ⟨by omega, by omega⟩ ⟨h6.2.1.k0, fun _ => wk_answer hF hG hC hn hL hl h6 (fun M7 y' A' ρ' h7 X7 r7 r7' => ?_), fun w => absurd (Or.inr (fun z => by omega)) w⟩⟩
        obtain ⟨t', ht'⟩ := ms_ex (x := fun k => 1 - y' k) hF n (fun j hj => smp_co (r7.1 j hj).1 (r7.1 j hj).2)
        have e52 : pl M5 s = pl M2 s := by funext j; unfold pl; rw [e5]
        have hup := res_up hG hC hn r2 r7 (k := k) (by omega) y2 (by rw [epl, if_pos rfl]; exact y3) (by rw [epl, if_pos rfl]; exact hlt) (fun j hj hjk => by rw [epl, if_neg hjk, e52])
        exact ih t' (ms_lt hF ht ht' (sr_co_lt hup.1 (k := k) (by omega) hup.2)) y' A' ρ' M7 h7 X7 r7' ht'
end WO
end
section
/-! The solver: work. -/
abbrev kS (s w : Nat) : Nat → Prop := fun x => aS s x ∨ x = s + 30 ∨ eS s (68 + 5 * w) x
def wkQ (M : mM) (s n w : Nat) (r : Int) (M' : mM) : Prop := mOk M' ∧ FI (kS s w) M M' ∧ (∀ j, j ≠ 17 → j ≠ 24 → mI M' s j = mI M s j) ∧ Wk M' s ∧ Ct M' s ∧ Rm M' s 88 ∧ Rm M' s (68 + 5 * w) ∧ (∀ j, j ≠ w → mI M' (s + 30) j = mI M (s + 30) j) ∧ ((r = 0 ∧ mI M' (s + 30) w = 1 ∧ ∃ x : Nat → Rat, Xt M' s (68 + 5 * w) n x ∧ (∀ k, k < n → Smp 21 (x k) ∧ 0 ≤ x k) ∧ (∀ k, k < n → mI M (s + 22) k = 3 → x k = 1)) ∨ ((r = 5 ∨ r = 6) ∧ mI M' (s + 30) w = 0))
theorem Xt.out2 {S : Nat → Prop} {M M' : mM} {s e n : Nat} {x : Nat → Rat} (h : Xt M s e n x) (k : FI S M M') (hs : ∀ i y, i < n → S y → y < s + e + 25 * i ∨ s + e + 25 * i + 4 < y) : Xt M' s e n x := by
  intro i hi
  obtain ⟨h1, h2, h3⟩ := h i hi
  exact ⟨(h1.out k (fun y q => hs i y hi q)).1, h2.out h1 k (fun y q => hs i y hi q), by rw [fv_out h1 k (fun y q => hs i y hi q), h3]⟩
theorem Rm.out2 {S : Nat → Prop} {M M' : mM} {s e : Nat} (h : Rm M s e) (k : FI S M M') (hs : ∀ i y, i < 512 → S y → y < s + e + 25 * i ∨ s + e + 25 * i + 4 < y) : Rm M' s e :=
  fun i hi => (h i hi).out k (fun y q => hs i y hi q)
theorem wk_f1 {s w i y : Nat} (hw : w = 0 ∨ w = 2) (hi : i < 512) (q : aS s y) : y < s + (68 + 5 * w) + 25 * i ∨ s + (68 + 5 * w) + 25 * i + 4 < y := by
  rcases hw with z | z <;> subst z <;> omega
theorem wk_f2 {s w y : Nat} (hw : w = 0 ∨ w = 2) (q : y = s + 30 ∨ eS s (68 + 5 * w) y) : y < s + 12868 := by
  rcases hw with z | z <;> subst z <;> omega
theorem wk_f3 {s w i y : Nat} (hw : w = 0 ∨ w = 2) (hi : i < 512) (q : y = s + 30 ∨ eS s (68 + 5 * w) y) : y < s + 88 + 25 * i ∨ s + 88 + 25 * i + 4 < y := by
  rcases hw with z | z <;> subst z <;> omega
theorem wk_f4 {s w y : Nat} (q : y = s + 30 ∨ eS s (68 + 5 * w) y) : y = s + 30 ∨ s + 68 ≤ y := by
  rcases q with q | q
  · exact Or.inl q
  · exact Or.inr (by have := q.1; omega)
section WO
variable {G : mG} {d s n w : Nat} {M : mM} {F : Int}
theorem s_wk107 {M9 : mM} {x : Nat → Rat} {Q : Int → mM → Prop} (hw : w = 0 ∨ w = 2) (hn5 : n ≤ 512) (hn : mI M9 s 1 = n) (o9 : mOk M9) (V9 : Vk M9 s) (X9 : Xt M9 s 88 n x) (R9 : Rm M9 s (68 + 5 * w))
    (hQ : ∀ M', mOk M' → FI (fun y => y = s + 30 ∨ eS s (68 + 5 * w) y) M9 M' → Xt M' s (68 + 5 * w) n x → Rm M' s (68 + 5 * w) → (∀ j, mI M' (s + 30) j = if j = w then 1 else mI M9 (s + 30) j) → Q 0 M') : h_MS_work_107 G (d + 8) s w 0 M9 Q := by
  suffices H : ∀ (c k : Nat) (M1 : mM), k + c = n → mOk M1 → FI (eS s (68 + 5 * w)) M9 M1 → Xt M1 s (68 + 5 * w) k x → Rm M1 s (68 + 5 * w) → h_MS_work_107 G (d + 8) s w k M1 Q from
    H n 0 M9 (by omega) o9 FI.refl (fun k hk => by omega) R9
  intro c
  induction c with
  | zero =>
    intro k M1 hk o1 f1 X1 R1
    have ek : k = n := by omega
    subst ek
    have V1 := V9.fi f1
    have fe := f1.2.2.2.2.2.2
    refine k_MS_work_107 o1 ⟨by omega, by omega⟩ ⟨by omega, by omega⟩ ?_
    rw [fe s (fun q => by have := q.1; omega), hn, V1.r12, V1.n30, Int.toNat_natCast]
    refine ⟨V1.k0, fun _ => ⟨V1.k30, by omega, fun M2 e2 => ?_⟩, fun q => by omega⟩
    have f2 : FI (fun y => y = s + 30) M1 M2 := by rw [e2]; exact FI.ui rfl
    have o2 : mOk M2 := by rw [e2]; exact mOk_UI o1 ⟨by omega, by omega⟩
    refine hQ M2 o2 ((f1.mono (fun y q => Or.inr q)).trans (f2.mono (fun y q => Or.inl q))) (X1.out f2 (fun y q => by omega)) (R1.out f2 (fun y q => by omega)) (fun j => ?_)
    rw [e2, mI_UI, fe (s + 30) (fun q => by have := q.1; omega)]
    by_cases z : j = w
    · rw [if_pos ⟨rfl, z⟩, if_pos z]
    · rw [if_neg (fun q => z q.2), if_neg z]
  | succ c ih =>
    intro k M1 hk o1 f1 X1 R1
    have V1 := V9.fi f1
    have fe := f1.2.2.2.2.2.2
    have xk : Fq M1 (s + 88 + 25 * k) 56 ∧ Fc M1 (s + 88 + 25 * k) ∧ fv M1 (s + 88 + 25 * k) = x k := (X9.out2 f1 (fun i y hi q => by rcases hw with z | z <;> subst z <;> omega)) k (by omega)
    have rk := R1 k (by omega)
    have ea : mR M1 (s + 29) (3 * (k : Int) + (w : Int)).toNat = s + (68 + 5 * w) + 25 * k := by
      rw [show (3 * (k : Int) + (w : Int)).toNat = 3 * k + w by omega, V1.f29 k w (by omega) (by omega)]
      omega
    refine k_MS_work_107 o1 ⟨by omega, by omega⟩ ⟨by omega, by omega⟩ ?_
    rw [fe s (fun q => by have := q.1; omega), hn, V1.r11, V1.r21, V1.n29, V1.n38, Int.toNat_natCast, ea, Int.toNat_natCast, V1.f38 k (by omega)]
    refine ⟨V1.k0, fun q => by omega, fun _ => ⟨V1.k29, by omega, V1.k38, by omega, rk.1.1, (s_MF_copy o1 rk xk.1 (by rcases hw with z | z <;> subst z <;> omega) xk.1.2.1.1.2.2.2.2.2.2 xk.1.2.2.1.1.2.2.2.2.2.2).mono (fun M2 h2 => ?_)⟩⟩
    obtain ⟨o2, f2, F2, w4, w5, w6⟩ := h2
    have C2 := fc_copy xk.2.1 w4 w5 w6
    have f2' : FI (eS s (68 + 5 * w)) M1 M2 := f2.mono (fun y q => by have q' : s + (68 + 5 * w) + 25 * k ≤ y ∧ y ≤ s + (68 + 5 * w) + 25 * k + 4 := q; omega)
    exact ⟨o2, ih (k + 1) M2 (by omega) o2 (f1.trans f2') (X1.put (x' := x) f2 F2 C2.1 (C2.2.trans xk.2.2) (fun j hj => by
      by_cases z : j = k
      · exact Or.inl z
      · exact Or.inr ⟨by omega, rfl⟩)) (R1.put (by omega) f2 F2.ft)⟩
theorem s_MS_work {q : Int} (hF : Fall F) (hq : 0 ≤ q ∧ q ≤ 2) (hw : w = 0 ∨ w = 2) (hO : mOk M) (hV : Vk M s) (hG : GW M s) (hC : GB M s) (hn : mI M s 1 = n) (hT : TW M s) (hW : Wk M s) (hCt : Ct M s) (hR : Rm M s 88) (hRw : Rm M s (68 + 5 * w))
    {P : Int → Prop} (hP : ∀ (M3 M8 : mM) (y : Int), GW M3 s → mI M3 s 17 = q → (∀ j, j ≠ 17 → mI M3 s j = mI M s j) → (∀ y, y ≠ s → y ≠ s + 30 → mI M3 y = mI M y) → gvQ M3 s 0 M8 → lokX M8 s y → P y) :
    Ci G y_MS_work (d + 9) [vr s, vi q, vi w] M (fun r M' => wkQ M s n w r M' ∧ P r) := by
  have hn5 := hG.2.1
  refine k_MS_work hO ⟨by omega, by omega⟩ ⟨by omega, by omega⟩ ⟨hV.k0, fun M2 e2 => ?_⟩
  have f2 : FI (fun y => y = s) M M2 := by rw [e2]; exact FI.ui rfl
  have o2 : mOk M2 := by rw [e2]; exact mOk_UI hO ⟨by omega, by omega⟩
  have V2 := hV.fi f2
  have s2 : ∀ j, j ≠ 17 → mI M2 s j = mI M s j := fun j hj => by rw [e2, mI_UI, if_neg (fun w => hj w.2)]
  rw [V2.r12, V2.n30, Int.toNat_natCast]
  refine ⟨V2.k30, by omega, fun M3 e3 => ?_⟩
  have f3 : FI (fun y => y = s + 30) M2 M3 := by rw [e3]; exact FI.ui rfl
  have o3 : mOk M3 := by rw [e3]; exact mOk_UI o2 ⟨by omega, by omega⟩
  have V3 := V2.fi f3
  have h30 : ∀ j, mI M3 (s + 30) j = if j = w then 0 else mI M (s + 30) j := fun j => by
    rw [e3, mI_UI, f2.2.2.2.2.2.2 (s + 30) (by omega)]
    by_cases z : j = w
    · rw [if_pos ⟨rfl, z⟩, if_pos z]
    · rw [if_neg (fun q => z q.2), if_neg z]
  have s3 : ∀ j, j ≠ 17 → mI M3 s j = mI M s j := fun j hj => by rw [f3.2.2.2.2.2.2 s (by omega)]; exact s2 j hj
  have g3 : ∀ y, y ≠ s → y ≠ s + 30 → mI M3 y = mI M y := fun y a b => by rw [f3.2.2.2.2.2.2 y b, f2.2.2.2.2.2.2 y a]
  have G3 : sameG M M3 s := ⟨s3 1 (by omega), s3 2 (by omega), s3 3 (by omega), fun y a b => g3 y (by omega) (by omega)⟩
  refine (x_MS_look (d := d + 5) o3 V3 (G3.gw hG)).mono (fun y M8 h8 => ?_)
  obtain ⟨h8, hlx⟩ := h8
  have hgv := h8
  have pY : P y := hP M3 M8 y (G3.gw hG) (by rw [f3.2.2.2.2.2.2 s (by omega), e2, mI_UI, if_pos ⟨rfl, rfl⟩]) s3 g3 hgv hlx
  obtain ⟨hy, hy0⟩ := hlx.q (by obtain ⟨⟨ρ, t, o, -⟩, -⟩ := hgv; exact o)
  clear hlx
  obtain ⟨⟨ρ, t, o8, f8, -⟩, -⟩ := h8
  have V8 := V3.fi f8
  have hw8 : sameW M3 M8 s := sameW.of f8 (by omega) (fun x _ _ => by omega) (by omega)
  have g8 : ∀ y, y ≠ s → y ≠ s + 30 → y ≠ s + 36 → mI M8 y = mI M y := fun y a b c => by rw [f8.2.2.2.2.2.2 y c, g3 y a b]
  have s8 : ∀ j, j ≠ 17 → mI M8 s j = mI M s j := fun j hj => by rw [f8.2.2.2.2.2.2 s (by omega)]; exact s3 j hj
  have h308 : ∀ j, mI M8 (s + 30) j = if j = w then 0 else mI M (s + 30) j := fun j => by rw [f8.2.2.2.2.2.2 (s + 30) (by omega)]; exact h30 j
  have W8 : Wk M8 s := ((hW.far f2 (fun y q => by omega)).far f3 (fun y q => by omega)).far f8 (fun y q => by omega)
  have C8 : Ct M8 s := ((hCt.out f2 (fun y q => by omega)).out f3 (fun y q => by omega)).out f8 (fun y q => by omega)
  have R8 : ∀ e, 68 ≤ e → Rm M s e → Rm M8 s e := fun e he h => ((h.out f2 (fun y q => by omega)).out f3 (fun y q => by omega)).out f8 (fun y q => by omega)
  have f08 : FI (kS s w) M M8 := ((f2.mono (fun y q => by omega)).trans (f3.mono (fun y q => by omega))).trans (f8.mono (fun y q => by omega))
  refine ⟨⟨by omega, by omega⟩, o8, fun y0 => ?_, fun y0 => ⟨⟨o8, f08, fun j a b => s8 j a, W8, C8, R8 88 (by omega) hR, R8 _ (by omega) hRw, fun j hj => by rw [h308, if_neg hj], Or.inr ⟨by omega, by rw [h308, if_pos rfl]⟩⟩, pY⟩⟩
  rw [y0] at pY
  have hL8 := look_lq (G3.gw hG) (by rw [G3.1]; exact hn) hgv (hy0 y0)
  have G8 : sameG M M8 s := G3.trans hw8.1
  suffices H : ∀ (c k : Nat) (M9 : mM), k + c = n → mOk M9 → FI (fun y => y = s + 35) M8 M9 → (∀ j, j < k → mI M9 (s + 35) j = if mI M8 s 17 = mI M8 (s + 22) j then mI M8 (s + 32) j else 0) → h_MS_work_26 G (d + 8) s w k M9 (fun r M' => wkQ M s n w r M' ∧ P r) from
    H n 0 M8 (by omega) o8 FI.refl (fun j hj => by omega)
  intro c
  induction c with
  | zero =>
    intro k M9 hk o9 f9 p9
    have ek : k = n := by omega
    subst ek
    have V9 := V8.fi f9
    have fe9 := f9.2.2.2.2.2.2
    have hw9 : sameW M8 M9 s := sameW.of f9 (by omega) (fun x _ _ => by omega) (by omega)
    have G9 : sameG M M9 s := G8.trans hw9.1
    have n9 : mI M9 s 1 = k := by rw [G9.1]; exact hn
    have i22 : mI M9 (s + 22) = mI M (s + 22) := G9.2.2.2 _ (by omega) (by omega)
    have P9 : PLo M9 s := by
      intro j hj hp
      rw [G9.hm] at hp ⊢
      have a := hT j (by omega)
      have b := p9 j (by omega)
      have e32 : mI M8 (s + 32) = mI M (s + 32) := g8 _ (by omega) (by omega) (by omega)
      have e22 : mI M8 (s + 22) = mI M (s + 22) := g8 _ (by omega) (by omega) (by omega)
      rw [e32, e22] at b
      rw [hw9.may]
      unfold mayP pl
      rw [e32, e22]
      by_cases z : mI M8 s 17 = mI M (s + 22) j
      · rw [if_pos z] at b
        exact ⟨by omega, by have := a.2 hp; omega, Or.inr (by omega)⟩
      · rw [if_neg z] at b
        exact ⟨by omega, by omega, Or.inl z⟩
    have GW9 := G9.gw hG
    have GB9 := G9.gb hC
    have L9 := hw9.lq hL8
    have W9 : WH M9 s M9 := ⟨o9, V9, FI.refl, fun j _ => rfl, W8.far f9 (fun y q => by omega), C8.out f9 (fun y q => by omega), (R8 88 (by omega) hR).out f9 (fun y q => by omega), P9⟩
    have f09 : FI (kS s w) M M9 := f08.trans (f9.mono (fun y q => by omega))
    refine k_MS_work_26 o9 ⟨by omega, by omega⟩ ⟨by omega, by omega⟩ ?_
    rw [n9]
    refine ⟨V9.k0, fun _ => ?_, fun z => by omega⟩
    have hl : i32 (w : Int) := ⟨by omega, by omega⟩
    refine wk_answer hF GW9 GB9 n9 L9 hl W9 (fun M6 x A ρ h6 X6 _ r6 => ?_)
    obtain ⟨t', ht'⟩ := ms_ex (x := fun k => 1 - x k) hF k (fun j hj => smp_co (r6.1 j hj).1 (r6.1 j hj).2)
    refine s_wk72 hF GW9 GB9 n9 L9 hl (fun M7 x7 h7 X7 v7 v7' => ?_) t' x A ρ M6 h6 X6 r6 ht'
    have hs7 := h7.sw
    obtain ⟨o7, V7, f7, k7, W7, C7, R7, -⟩ := h7
    have R79 : Rm M9 s (68 + 5 * w) := (R8 _ (by omega) hRw).out f9 (fun y q => by omega)
    refine s_wk107 hw (by omega) (by rw [hs7.1.1]; exact n9) o7 V7 X7 (R79.out2 f7 (fun i y hi q => wk_f1 hw hi q)) (fun M' o' f' X' R' h' => ?_)
    have fk : ∀ y, (y = s + 30 ∨ eS s (68 + 5 * w) y) → kS s w y := fun y q => Or.inr q
    have hlow : ∀ y, y < s + 68 → y ≠ s + 30 → mI M' y = mI M7 y := fun y a b => f'.2.2.2.2.2.2 y (fun q => by rcases q with q | q; exact b q; have := q.1; omega)
    refine ⟨⟨o', f09.trans ((f7.mono (fun y q => Or.inl q)).trans (f'.mono fk)), fun j a b => ?_, W7.far f' (fun y q => by have := wk_f4 q; omega), C7.out f' (fun y q => wk_f2 hw q), R7.out2 f' (fun i y hi q => wk_f3 hw hi q), R', fun j hj => ?_, Or.inl ⟨rfl, ?_, x7, X', v7, fun j hj c => v7' j hj (by rw [i22]; exact c)⟩⟩, pY⟩
    · rw [hlow s (by omega) (by omega), k7 j b, fe9 s (by omega), s8 j a]
    · rw [h' j, if_neg hj, f7.2.2.2.2.2.2 (s + 30) (by omega), fe9 (s + 30) (by omega), h308, if_neg hj]
    · rw [h' w, if_pos rfl]
  | succ c ih =>
    intro k M9 hk o9 f9 p9
    have V9 := V8.fi f9
    have fe9 := f9.2.2.2.2.2.2
    have hw9 : sameW M8 M9 s := sameW.of f9 (by omega) (fun x _ _ => by omega) (by omega)
    have G9 : sameG M M9 s := G8.trans hw9.1
    have n9 : mI M9 s 1 = n := by rw [G9.1]; exact hn
    refine k_MS_work_26 o9 ⟨by omega, by omega⟩ ⟨by omega, by omega⟩ ?_
    rw [n9]
    refine ⟨V9.k0, fun z => by omega, fun _ => ?_⟩
    refine k_MS_firstThatMay o9 ⟨by omega, by omega⟩ ?_
    rw [V9.r4, V9.r14, V9.n22, V9.n32, V9.r18, fe9 s (by omega), fe9 (s + 22) (by omega), fe9 (s + 32) (by omega), Int.toNat_natCast]
    have e32 : mI M8 (s + 32) = mI M (s + 32) := g8 _ (by omega) (by omega) (by omega)
    have a := hT k (by omega)
    have i32v : i32 (mI M8 (s + 32) k) := by rw [e32]; exact (hO _ _).1
    refine ⟨V9.k0, V9.k22, by omega, fun _ => ⟨V9.k32, by omega⟩, fun v hv => ?_⟩
    have hv32 : i32 v := by
      split at hv
      · rw [hv]; exact i32v
      · rw [hv]; exact ⟨by omega, by omega⟩
    refine ⟨hv32, o9, V9.k35, by rw [V9.n35]; omega, fun M1 e1 => ?_⟩
    have f1 : FI (fun y => y = s + 35) M9 M1 := by rw [e1]; exact FI.ui rfl
    have o1 : mOk M1 := by rw [e1]; exact mOk_UI o9 hv32
    refine ih (k + 1) M1 (by omega) o1 (f9.trans f1) (fun j hj => ?_)
    rw [e1, mI_UI]
    by_cases z : j = k
    · rw [if_pos ⟨rfl, z⟩, z]
      exact hv
    · rw [if_neg (fun q => z q.2)]
      exact p9 j (by omega)
end WO
end
section
/-! The solver: ranks and choices. -/
def At (M : mM) (s n : Nat) (x : Nat → Rat) : Prop := Vk M s ∧ GW M s ∧ GB M s ∧ mI M s 1 = n ∧ Wk M s ∧ Xt M s 68 n x ∧ ∀ k, k < n → 0 ≤ x k ∧ x k ≤ 1
theorem At.out {S : Nat → Prop} {M M' : mM} {s n : Nat} {x : Nat → Rat} (h : At M s n x) (f : FI S M M') (hs : ∀ y, S y → (s < y ∧ y < s + 22) ∨ (s + 28 < y ∧ y < s + 68)) (hW : Wk M' s) : At M' s n x := by
  obtain ⟨V, g, c, e, -, X, b⟩ := h
  have G : sameG M M' s := sameG.of f (fun q => by have := hs s q; omega) (fun y a b q => by have := hs y q; omega)
  exact ⟨V.fi f, G.gw g, G.gb c, by rw [G.1]; exact e, hW, X.out f (fun y q => by have := hs y q; omega), b⟩
theorem At.wout {M M' : mM} {s n : Nat} {x : Nat → Rat} (h : At M s n x) (f : FI (wS s) M M') (hW : Wk M' s) : At M' s n x := h.out f (fun y q => by omega) hW
abbrev atQ (M : mM) (s : Nat) : Int → mM → Prop := fun r M' => mOk M' ∧ FI (wS s) M M' ∧ Wk M' s ∧ (r = 0 ∨ r = 1)
section RA
variable {G : mG} {d s n : Nat} {M : mM} {x : Nat → Rat}
theorem s_MS_attains {k i : Nat} (hO : mOk M) (hA : At M s n x) (hk : k < n) (hi : (i : Int) < mny M s k) : Ci G y_MS_attains (d + 6) [vr s, vi k, vi i] M (atQ M s) := by
  obtain ⟨hV, hG, hC, hn, hW, hX, h01⟩ := hA
  have h2 := hG.2.1
  have h3 := hG.2.2.1
  have hc := hG.cmd (i := k) (by omega)
  have hm0 : mny M s k ≤ 4200 := by unfold mny; omega
  refine k_MS_attains hO ⟨by omega, by omega⟩ ⟨by omega, by omega⟩ ?_
  rw [hV.r11]
  refine ⟨hV.k0, (s_MS_worthOf (d := d) (n := n) (Or.inr ⟨rfl, rfl, rfl⟩) hO hV hG hC hn (by omega) hi hW hX h01).mono (fun M2 h2' => ?_)⟩
  obtain ⟨o2, f2, W2, F2, C2, v2, s2⟩ := h2'
  have V2 := hV.fi f2
  have X2 := hX.out f2 (fun y q => by omega)
  have xk := X2 k hk
  have sz := smp_size F2 C2 (by rw [v2]; exact s2)
  have z3 := xk.1.2.1.1.2.2.2.2.2.2
  have z4 := xk.1.2.2.1.1.2.2.2.2.2.2
  rw [V2.r11, V2.r0, V2.r28, V2.n29, show (3 * (k : Int)).toNat = 3 * k + 0 by omega, V2.f29 k 0 (by omega) (by omega)]
  refine ⟨o2, V2.k0, V2.k29, by omega, W2.1.1.1, (s_MU_compare (d := d + 3) o2 W2.1 F2 xk.1 (by unfold suO; omega) (by unfold suO; omega) (by omega) (by omega)).mono (fun c M3 h3' => ?_)⟩
  obtain ⟨o3, f3, Z3, hcv⟩ := h3'
  have hc3 : c = -1 ∨ c = 0 ∨ c = 1 := by split at hcv <;> (try split at hcv) <;> omega
  exact ⟨⟨by omega, by omega⟩, o3, fun v hv => ⟨o3, f2.trans (f3.mono (fun y q => by omega)), W2.out f3 Z3 (fun y q => by omega), by split at hv <;> omega⟩⟩
theorem s_MS_leadsBelow {k i : Nat} {l : Int} (hl : i32 l) (hO : mOk M) (hV : Vk M s) (hG : GW M s) (hk : (k : Int) < mI M s 1) (hi : (i : Int) < mny M s k) : Ci G y_MS_leadsBelow d [vr s, vi k, vi i, vi l] M (fun r M' => M' = M ∧ (r = 0 ∨ r = 1)) := by
  have hc := hG.cmd hk
  unfold mny at hi
  have hb := hG.brn (c := (mI M (s + 23) k).toNat + i) (by omega)
  have h2 := hG.2.1
  have h3 := hG.2.2.1
  have h4 := hG.2.2.2.1
  have ht := hG.2.2.2.2.2.2.2.2.2.2
  refine k_MS_leadsBelow hO ⟨by omega, by omega⟩ ⟨by omega, by omega⟩ hl ?_
  rw [hV.r5, hV.r7, hV.n23, hV.n25, Int.toNat_natCast]
  have ec : (mI M (s + 23) k + (i : Int)).toNat = (mI M (s + 23) k).toNat + i := by omega
  have ec1 : (mI M (s + 23) k + (i : Int) + 1).toNat = (mI M (s + 23) k).toNat + i + 1 := by omega
  rw [ec]
  refine ⟨hV.k0, hV.k23, by omega, hV.k25, by omega, ?_⟩
  suffices H : ∀ (n : Nat) (f l6 : Int), mI M (s + 25) ((mI M (s + 23) k).toNat + i + 1) - l6 = n → mI M (s + 25) ((mI M (s + 23) k).toNat + i) ≤ l6 → (f = 0 ∨ f = 1) → h_MS_leadsBelow_22 G d s l (mI M (s + 23) k + i) f l6 M (fun r M' => M' = M ∧ (r = 0 ∨ r = 1)) from
    H _ 0 _ (Int.toNat_of_nonneg (by omega)).symm (by omega) (Or.inl rfl)
  intro n
  induction n with
  | zero =>
    intro f l6 hn hl6 hf
    refine k_MS_leadsBelow_22 hO hl ⟨by omega, by omega⟩ ⟨by omega, by omega⟩ ⟨by omega, by omega⟩ ?_
    rw [hV.r7, hV.n25, ec1]
    exact ⟨hV.k0, hV.k25, by omega, fun _ => ⟨hf, rfl, hf⟩, fun c => by omega⟩
  | succ n ih =>
    intro f l6 hn hl6 hf
    have htl := ht l6.toNat (by omega)
    refine k_MS_leadsBelow_22 hO hl ⟨by omega, by omega⟩ ⟨by omega, by omega⟩ ⟨by omega, by omega⟩ ?_
    rw [hV.r7, hV.r8, hV.r16, hV.n25, hV.n26, hV.n34, ec1]
    exact ⟨hV.k0, hV.k25, by omega, fun c => by omega, fun _ => ⟨hV.k26, by omega, hV.k34, by omega, fun v hv => ih v (l6 + 1) (by omega) (by omega) (by split at hv <;> omega)⟩⟩
theorem s_MS_isUnknown {k : Nat} (hO : mOk M) (hA : At M s n x) (hk : k < n) : Ci G y_MS_isUnknown (d + 2) [vr s, vi k] M (fun r M' => M' = M ∧ (r = 0 ∨ r = 1)) := by
  obtain ⟨hV, hG, hC, hn, hW, hX, h01⟩ := hA
  have h2 := hG.2.1
  have xk := hX k hk
  refine k_MS_isUnknown hO ⟨by omega, by omega⟩ ?_
  rw [hV.r4, hV.r11, hV.n22, hV.n29, show (3 * (k : Int)).toNat = 3 * k + 0 by omega, hV.f29 k 0 (by omega) (by omega)]
  refine ⟨hV.k0, hV.k22, by omega, fun _ => ⟨rfl, Or.inl rfl⟩, fun _ => ⟨hV.k29, by omega, xk.1.1.1, (s_MF_isZero hO xk.1).mono (fun y M2 h2' => ?_)⟩⟩
  obtain ⟨e2, hy⟩ := h2'
  subst e2
  exact ⟨⟨by split at hy <;> omega, by split at hy <;> omega⟩, hO, fun v hv => ⟨rfl, by split at hv <;> omega⟩⟩
theorem s_MS_getsRank {k : Nat} {l : Int} (hl : i32 l) (hO : mOk M) (hA : At M s n x) (hk : k < n) : Ci G y_MS_getsRank (d + 7) [vr s, vi k, vi l] M (atQ M s) := by
  have hA0 := hA
  obtain ⟨hV, hG, hC, hn, hW, hX, h01⟩ := hA
  have h2 := hG.2.1
  have h3 := hG.2.2.1
  have hc := hG.cmd (i := k) (by omega)
  have hm0 : 0 ≤ mny M s k ∧ mny M s k ≤ 4200 := by unfold mny; omega
  refine k_MS_getsRank hO ⟨by omega, by omega⟩ hl ?_
  suffices H : ∀ (c i : Nat) (e a : Int) (M2 : mM), i + c = (mny M s k).toNat → (e = 0 ∨ e = 1) → (a = 0 ∨ a = 1) → mOk M2 → FI (wS s) M M2 → Wk M2 s → h_MS_getsRank_8 G (d + 6) s k l e a i M2 (atQ M s) from
    H (mny M s k).toNat 0 0 1 M (by omega) (Or.inl rfl) (Or.inr rfl) hO FI.refl hW
  intro c
  induction c with
  | zero =>
    intro i e a M2 hi he ha o2 f2 W2
    have A2 := hA0.wout f2 W2
    obtain ⟨V2, G2, C2, n2, -, X2, -⟩ := A2
    have sg : sameG M M2 s := sameG.of f2 (by omega) (fun y _ _ => by omega)
    refine k_MS_getsRank_8 o2 ⟨by omega, by omega⟩ hl ⟨by omega, by omega⟩ ⟨by omega, by omega⟩ ⟨by omega, by omega⟩ ⟨V2.k0, (s_MS_many o2 V2 G2 (by omega)).mono (fun y M3 h3' => ?_)⟩
    obtain ⟨e3, hy⟩ := h3'
    subst e3
    rw [sg.hm] at hy
    rw [V2.r4, V2.n22]
    refine ⟨⟨by omega, by omega⟩, o2, fun _ => ⟨V2.k0, V2.k22, by omega, fun v hv => ?_⟩, fun q => by omega⟩
    have hv01 : v = 0 ∨ v = 1 := by split at hv <;> omega
    exact ⟨hv01, o2, f2, W2, hv01⟩
  | succ c ih =>
    intro i e a M2 hi he ha o2 f2 W2
    have A2 := hA0.wout f2 W2
    obtain ⟨V2, G2, C2, n2, -, X2, -⟩ := id A2
    have sg : sameG M M2 s := sameG.of f2 (by omega) (fun y _ _ => by omega)
    have him : (i : Int) < mny M2 s k := by rw [sg.hm]; omega
    refine k_MS_getsRank_8 o2 ⟨by omega, by omega⟩ hl ⟨by omega, by omega⟩ ⟨by omega, by omega⟩ ⟨by omega, by omega⟩ ⟨V2.k0, (s_MS_many o2 V2 G2 (by omega)).mono (fun y M3 h3' => ?_)⟩
    obtain ⟨e3, hy⟩ := h3'
    subst e3
    rw [sg.hm] at hy
    refine ⟨⟨by omega, by omega⟩, o2, fun q => by omega, fun _ => ⟨V2.k0, (s_MS_attains (d := d) o2 A2 hk him).mono (fun z M4 h4 => ?_)⟩⟩
    obtain ⟨o4, f4, W4, hz⟩ := h4
    have A4 := A2.wout f4 W4
    refine ⟨⟨by omega, by omega⟩, o4, fun q => ih (i + 1) e a M4 (by omega) he ha o4 (f2.trans f4) W4, fun q => ?_⟩
    have sg4 : sameG M3 M4 s := sameG.of f4 (by omega) (fun y _ _ => by omega)
    refine ⟨A4.1.k0, (s_MS_leadsBelow hl o4 A4.1 A4.2.1 (by rw [A4.2.2.2.1]; omega) (by rw [sg4.hm]; exact him)).mono (fun u M5 h5 => ?_)⟩
    obtain ⟨e5, hu⟩ := h5
    subst e5
    exact ⟨⟨by omega, by omega⟩, o4, fun v hv w hw => ih (i + 1) v w M5 (by omega) (by split at hv <;> omega) (by split at hw <;> omega) o4 (f2.trans f4) W4⟩
theorem s_MS_choose {k : Nat} (hO : mOk M) (hA : At M s n x) (hk : k < n) : Ci G y_MS_choose (d + 7) [vr s, vi k] M (fun r M' => mOk M' ∧ FI (wS s) M M' ∧ Wk M' s ∧ 0 ≤ r ∧ (0 < mny M s k → r < mny M s k)) := by
  have hA0 := hA
  obtain ⟨hV, hG, hC, hn, hW, hX, h01⟩ := hA
  have h2 := hG.2.1
  have h3 := hG.2.2.1
  have hc := hG.cmd (i := k) (by omega)
  have hm0 : 0 ≤ mny M s k ∧ mny M s k ≤ 4200 := by unfold mny; omega
  refine k_MS_choose hO ⟨by omega, by omega⟩ ?_
  suffices H : ∀ (c i : Nat) (M2 : mM), i + c = (mny M s k).toNat → mOk M2 → FI (wS s) M M2 → Wk M2 s → h_MS_choose_2 G (d + 6) s k i M2 (fun r M' => mOk M' ∧ FI (wS s) M M' ∧ Wk M' s ∧ 0 ≤ r ∧ (0 < mny M s k → r < mny M s k)) from
    H (mny M s k).toNat 0 M (by omega) hO FI.refl hW
  intro c
  induction c with
  | zero =>
    intro i M2 hi o2 f2 W2
    have A2 := hA0.wout f2 W2
    obtain ⟨V2, G2, C2, n2, -, X2, -⟩ := A2
    have sg : sameG M M2 s := sameG.of f2 (by omega) (fun y _ _ => by omega)
    refine k_MS_choose_2 o2 ⟨by omega, by omega⟩ ⟨by omega, by omega⟩ ⟨V2.k0, (s_MS_many o2 V2 G2 (by omega)).mono (fun y M3 h3' => ?_)⟩
    obtain ⟨e3, hy⟩ := h3'
    subst e3
    rw [sg.hm] at hy
    exact ⟨⟨by omega, by omega⟩, o2, fun _ => ⟨o2, f2, W2, by omega, fun q => q⟩, fun q => by omega⟩
  | succ c ih =>
    intro i M2 hi o2 f2 W2
    have A2 := hA0.wout f2 W2
    obtain ⟨V2, G2, C2, n2, -, X2, -⟩ := id A2
    have sg : sameG M M2 s := sameG.of f2 (by omega) (fun y _ _ => by omega)
    have him : (i : Int) < mny M2 s k := by rw [sg.hm]; omega
    have hfin : ∀ M4, mOk M4 → FI (wS s) M M4 → Wk M4 s → (mOk M4 ∧ FI (wS s) M M4 ∧ Wk M4 s ∧ 0 ≤ (i : Int) ∧ (0 < mny M s k → (i : Int) < mny M s k)) := fun M4 a b c => ⟨a, b, c, by omega, fun _ => by omega⟩
    refine k_MS_choose_2 o2 ⟨by omega, by omega⟩ ⟨by omega, by omega⟩ ⟨V2.k0, (s_MS_many o2 V2 G2 (by omega)).mono (fun y M3 h3' => ?_)⟩
    obtain ⟨e3, hy⟩ := h3'
    subst e3
    rw [sg.hm] at hy
    rw [V2.r4, V2.n22]
    refine ⟨⟨by omega, by omega⟩, o2, fun q => by omega, fun _ => ⟨V2.k0, V2.k22, by omega, fun _ => (s_MS_attains (d := d) o2 A2 hk him).mono (fun z M4 h4 => ?_), fun _ => (s_MS_isUnknown (d := d + 4) o2 A2 hk).mono (fun z M4 h4 => ?_)⟩⟩
    · obtain ⟨o4, f4, W4, hz⟩ := h4
      exact ⟨⟨by omega, by omega⟩, o4, fun _ => ih (i + 1) M4 (by omega) o4 (f2.trans f4) W4, fun _ => hfin M4 o4 (f2.trans f4) W4⟩
    · obtain ⟨e4, hz⟩ := h4
      subst e4
      refine ⟨⟨by omega, by omega⟩, o2, fun _ => ⟨fun _ => ih (i + 1) M4 (by omega) o2 f2 W2, fun q => absurd rfl q⟩, fun _ => ⟨V2.k0, (s_MS_attains (d := d) o2 A2 hk him).mono (fun u M5 h5 => ?_)⟩⟩
      obtain ⟨o5, f5, W5, hu⟩ := h5
      have A5 := A2.wout f5 W5
      have V5 := A5.1
      have sg5 : sameG M4 M5 s := sameG.of f5 (by omega) (fun y _ _ => by omega)
      rw [V5.r16, V5.n34]
      refine ⟨⟨by omega, by omega⟩, o5, fun _ => ⟨fun _ => ih (i + 1) M5 (by omega) o5 (f2.trans f5) W5, fun q => absurd rfl q⟩, fun _ => ⟨V5.k0, V5.k34, by omega, (s_MS_leadsBelow (o5 _ _).1 o5 V5 A5.2.1 (by rw [A5.2.2.2.1]; omega) (by rw [sg5.hm]; exact him)).mono (fun t M6 h6 => ?_)⟩⟩
      obtain ⟨e6, ht⟩ := h6
      subst e6
      exact ⟨⟨by omega, by omega⟩, o5, fun v hv => ⟨fun _ => ih (i + 1) M6 (by omega) o5 (f2.trans f5) W5, fun _ => hfin M6 o5 (f2.trans f5) W5⟩⟩
end RA
end
section
/-! The solver: rank, solve, judge. -/
def cng (f : Nat → Int) : Nat → Nat
  | 0 => 0
  | n + 1 => cng f n + (if f n < 0 then 1 else 0)
theorem cng_congr {f g : Nat → Int} : ∀ (n : Nat), (∀ j, j < n → f j = g j) → cng f n = cng g n
  | 0, _ => rfl
  | n + 1, h => by rw [cng, cng, cng_congr n (fun j hj => h j (by omega)), h n (by omega)]
theorem cng_set {f g : Nat → Int} {i : Nat} (h0 : f i < 0) (h1 : 0 ≤ g i) (h : ∀ j, j ≠ i → g j = f j) : ∀ (n : Nat), i < n → cng g n + 1 = cng f n
  | 0, hi => by omega
  | n + 1, hi => by
    rw [cng, cng]
    by_cases c : i = n
    · rw [← c, cng_congr i (fun j hj => h j (by omega)), if_neg (by omega), if_pos h0]
    · have := cng_set h0 h1 h n (by omega)
      rw [h n (by omega)]
      omega
theorem cng_le {f : Nat → Int} : ∀ (n : Nat), cng f n ≤ n
  | 0 => Nat.le_refl _
  | n + 1 => by
    have := cng_le (f := f) n
    rw [cng]
    split <;> omega
abbrev raS (s : Nat) : Nat → Prop := fun x => wS s x ∨ x = s + 33 ∨ x = s + 34
def CHo (M : mM) (s n : Nat) : Prop := ∀ k, k < n → 0 < mny M s k → 0 ≤ mI M (s + 33) k ∧ mI M (s + 33) k < mny M s k
def rkI (M : mM) (s n : Nat) (x : Nat → Rat) (M2 : mM) : Prop := mOk M2 ∧ FI (raS s) M M2 ∧ At M2 s n x
section RA
variable {G : mG} {d s n : Nat} {M : mM} {x : Nat → Rat}
theorem rkI.w {M2 M3 : mM} (h : rkI M s n x M2) (o : mOk M3) (f : FI (wS s) M2 M3) (hW : Wk M3 s) : rkI M s n x M3 :=
  ⟨o, h.2.1.trans (f.mono (fun y q => Or.inl q)), h.2.2.wout f hW⟩
theorem rkI.p {M2 M3 : mM} {a : Nat} (h : rkI M s n x M2) (o : mOk M3) (f : FI (fun y => y = a) M2 M3) (ha : a = s + 33 ∨ a = s + 34) : rkI M s n x M3 :=
  ⟨o, h.2.1.trans (f.mono (fun y q => by subst q; rcases ha with z | z <;> subst z <;> omega)), h.2.2.out f (fun y q => by omega) (h.2.2.2.2.2.2.1.far f (fun y q => by omega))⟩
theorem s_rk106 : ∀ (c k : Nat) (M2 : mM), k + c = n → rkI M s n x M2 → (∀ j, j < k → 0 < mny M s j → 0 ≤ mI M2 (s + 33) j ∧ mI M2 (s + 33) j < mny M s j) → h_MS_rank_106 G (d + 7) s k M2 (fun M' => rkI M s n x M' ∧ CHo M' s n) := by
  intro c
  induction c with
  | zero =>
    intro k M2 hk h hc
    have ek : k = n := by omega
    subst ek
    obtain ⟨o2, f2, A2⟩ := id h
    have sg : sameG M M2 s := sameG.of f2 (by omega) (fun y _ _ => by omega)
    have h5 := A2.2.1.2.1
    have hn2 := A2.2.2.2.1
    refine k_MS_rank_106 o2 ⟨by omega, by omega⟩ ?_
    rw [hn2]
    exact ⟨A2.1.k0, fun _ => ⟨h, fun j hj hp => by rw [sg.hm] at hp ⊢; exact hc j hj hp⟩, fun q => by omega⟩
  | succ c ih =>
    intro k M2 hk h hc
    obtain ⟨o2, f2, A2⟩ := id h
    have sg : sameG M M2 s := sameG.of f2 (by omega) (fun y _ _ => by omega)
    have V2 := A2.1
    have h5 := A2.2.1.2.1
    have hn2 := A2.2.2.2.1
    have h3 := A2.2.1.2.2.1
    have hcm := A2.2.1.cmd (i := k) (by omega)
    have hm0 : 0 ≤ mny M2 s k ∧ mny M2 s k ≤ 4200 := by unfold mny; omega
    refine k_MS_rank_106 o2 ⟨by omega, by omega⟩ ?_
    rw [hn2, V2.r15, Int.toNat_natCast]
    refine ⟨V2.k0, fun q => by omega, fun _ => (s_MS_many o2 V2 A2.2.1 (by omega)).mono (fun y M3 h3' => ?_)⟩
    obtain ⟨e3, hy⟩ := h3'
    subst e3
    rw [V2.n33]
    refine ⟨⟨by omega, by omega⟩, o2, fun y0 => ⟨V2.k33, by omega, fun M4 e4 => ?_⟩, fun y0 => ⟨V2.k0, (s_MS_choose (d := d) o2 A2 (by omega)).mono (fun z M4 h4 => ?_)⟩⟩
    · have f4 : FI (fun y => y = s + 33) M3 M4 := by rw [e4]; exact FI.ui rfl
      have o4 : mOk M4 := by rw [e4]; exact mOk_UI o2 ⟨by omega, by omega⟩
      refine ih (k + 1) M4 (by omega) (h.p o4 f4 (Or.inl rfl)) (fun j hj hp => ?_)
      rw [e4, mI_UI]
      by_cases z : j = k
      · subst z
        rw [← sg.hm] at hp
        omega
      · rw [if_neg (fun w => z w.2)]
        exact hc j (by omega) hp
    · obtain ⟨o4, f4, W4, z0, z1⟩ := h4
      have V4 := V2.fi f4
      have h4 := h.w o4 f4 W4
      have z1' := z1 (by omega)
      refine ⟨⟨by omega, by omega⟩, o4, V4.k33, by rw [V4.n33]; omega, fun M5 e5 => ?_⟩
      have f5 : FI (fun y => y = s + 33) M4 M5 := by rw [e5]; exact FI.ui rfl
      have o5 : mOk M5 := by rw [e5]; exact mOk_UI o4 ⟨by omega, by omega⟩
      refine ih (k + 1) M5 (by omega) (h4.p o5 f5 (Or.inl rfl)) (fun j hj hp => ?_)
      rw [e5, mI_UI]
      by_cases z : j = k
      · subst z
        rw [if_pos ⟨rfl, rfl⟩, ← sg.hm]
        omega
      · rw [if_neg (fun w => z w.2), f4.2.2.2.2.2.2 (s + 33) (by omega)]
        exact hc j (by omega) hp
theorem s_rk41 : ∀ (Z : Nat) (l : Int) (M2 : mM), rkI M s n x M2 → cng (mI M2 (s + 34)) n ≤ Z → 1 ≤ l → l + Z ≤ 600 → h_MS_rank_41 G (d + 7) s 1 l M2 (fun M' => rkI M s n x M' ∧ CHo M' s n) := by
  intro Z
  induction Z with
  | zero =>
    intro l M2 h hz l1 l2
    have hnn : ∀ j, j < n → 0 ≤ mI M2 (s + 34) j := by
      have aux : ∀ (n : Nat), cng (mI M2 (s + 34)) n = 0 → ∀ j, j < n → 0 ≤ mI M2 (s + 34) j := by
        intro n
        induction n with
        | zero => intro _ j hj; omega
        | succ n ih =>
          intro hc j hj
          rw [cng] at hc
          by_cases q : j = n
          · subst q
            refine Classical.byContradiction (fun w => ?_)
            rw [if_pos (by omega)] at hc
            omega
          · exact ih (by omega) j (by omega)
      exact aux n (by omega)
    obtain ⟨o2, f2, A2⟩ := id h
    have V2 := A2.1
    have h5 := A2.2.1.2.1
    have hn2 := A2.2.2.2.1
    refine k_MS_rank_41 o2 ⟨by omega, by omega⟩ ⟨by omega, by omega⟩ ⟨fun q => by omega, fun _ => ?_⟩
    suffices H : ∀ (c k : Nat), k + c = n → h_MS_rank_49 G (d + 7) s 0 l k M2 (fun M' => rkI M s n x M' ∧ CHo M' s n) from H n 0 (by omega)
    intro c
    induction c with
    | zero =>
      intro k hk
      refine k_MS_rank_49 o2 ⟨by omega, by omega⟩ ⟨by omega, by omega⟩ ⟨by omega, by omega⟩ ?_
      rw [hn2]
      exact ⟨V2.k0, fun _ => k_MS_rank_41 o2 ⟨by omega, by omega⟩ ⟨by omega, by omega⟩ ⟨fun _ => s_rk106 n 0 M2 (by omega) h (fun j hj => by omega), fun q => absurd rfl q⟩, fun q => by omega⟩
    | succ c ih =>
      intro k hk
      refine k_MS_rank_49 o2 ⟨by omega, by omega⟩ ⟨by omega, by omega⟩ ⟨by omega, by omega⟩ ?_
      rw [hn2, V2.r16, V2.n34, Int.toNat_natCast]
      exact ⟨V2.k0, fun q => by omega, fun _ => ⟨V2.k34, by omega, fun _ => ih (k + 1) (by omega), fun q => absurd (hnn k (by omega)) q⟩⟩
  | succ Z ihZ =>
    intro l M2 h hz l1 l2
    refine k_MS_rank_41 h.1 ⟨by omega, by omega⟩ ⟨by omega, by omega⟩ ⟨fun q => by omega, fun _ => ?_⟩
    suffices H : ∀ (c k : Nat) (f : Int) (M3 : mM), k + c = n → rkI M s n x M3 → ((f = 0 ∧ cng (mI M3 (s + 34)) n ≤ Z + 1) ∨ (f = 1 ∧ cng (mI M3 (s + 34)) n ≤ Z)) → h_MS_rank_49 G (d + 7) s f l k M3 (fun M' => rkI M s n x M' ∧ CHo M' s n) from H n 0 0 M2 (by omega) h (Or.inl ⟨rfl, hz⟩)
    clear h hz M2
    intro c
    induction c with
    | zero =>
      intro k f M3 hk h hf
      have A3 := h.2.2
      have h5 := A3.2.1.2.1
      have hn2 := A3.2.2.2.1
      refine k_MS_rank_49 h.1 ⟨by omega, by omega⟩ ⟨by omega, by omega⟩ ⟨by omega, by omega⟩ ?_
      rw [hn2]
      refine ⟨A3.1.k0, fun _ => ?_, fun q => by omega⟩
      rcases hf with ⟨q1, q2⟩ | ⟨q1, q2⟩
      · subst q1
        exact k_MS_rank_41 h.1 ⟨by omega, by omega⟩ ⟨by omega, by omega⟩ ⟨fun _ => s_rk106 n 0 M3 (by omega) h (fun j hj => by omega), fun q => absurd rfl q⟩
      · subst q1
        exact ihZ (l + 1) M3 h q2 (by omega) (by omega)
    | succ c ih =>
      intro k f M3 hk h hf
      have hf01 : f = 0 ∨ f = 1 := by omega
      obtain ⟨o3, f3, A3⟩ := id h
      have V3 := A3.1
      have h5 := A3.2.1.2.1
      have hn3 := A3.2.2.2.1
      refine k_MS_rank_49 o3 ⟨by omega, by omega⟩ ⟨by omega, by omega⟩ ⟨by omega, by omega⟩ ?_
      rw [hn3, V3.r16, V3.n34, Int.toNat_natCast]
      refine ⟨V3.k0, fun q => by omega, fun _ => ⟨V3.k34, by omega, fun _ => ih (k + 1) f M3 (by omega) h hf, fun q => (s_MS_isUnknown (d := d + 5) o3 A3 (by omega)).mono (fun y M4 h4 => ?_)⟩⟩
      obtain ⟨e4, hy⟩ := h4
      subst e4
      refine ⟨⟨by omega, by omega⟩, o3, fun _ => ih (k + 1) f M4 (by omega) h hf, fun _ => ⟨V3.k0, (s_MS_getsRank (d := d) (l := l) ⟨by omega, by omega⟩ o3 A3 (by omega)).mono (fun z M5 h5' => ?_)⟩⟩
      obtain ⟨o5, f5, W5, hz⟩ := h5'
      have h5'' := h.w o5 f5 W5
      have V5 := V3.fi f5
      have e34 : mI M5 (s + 34) = mI M4 (s + 34) := f5.2.2.2.2.2.2 _ (by omega)
      rw [V5.r16, V5.n34]
      refine ⟨⟨by omega, by omega⟩, o5, fun _ => ⟨V5.k0, V5.k34, by omega⟩, fun v hv M6 e6 => ?_⟩
      by_cases w : z = 0
      · rw [if_pos w] at hv e6
        subst e6 hv
        exact ⟨o5, ih (k + 1) v M6 (by omega) h5'' (by rw [e34]; exact hf)⟩
      · rw [if_neg w] at hv e6
        subst hv
        have f6 : FI (fun y => y = s + 34) M5 M6 := by rw [e6]; exact FI.ui rfl
        have o6 : mOk M6 := by rw [e6]; exact mOk_UI o5 ⟨by omega, by omega⟩
        refine ⟨o6, ih (k + 1) 1 M6 (by omega) (h5''.p o6 f6 (Or.inr rfl)) (Or.inr ⟨rfl, ?_⟩)⟩
        have a := cng_set (f := mI M4 (s + 34)) (g := mI M6 (s + 34)) (i := k) (by omega) (by rw [e6, mI_UI, if_pos ⟨rfl, rfl⟩]; omega) (fun j hj => by rw [e6, mI_UI, if_neg (fun w => hj w.2), e34]) n (by omega)
        omega
theorem s_MS_rank (hO : mOk M) (hA : At M s n x) : Cv G y_MS_rank (d + 8) [vr s] M (fun M' => rkI M s n x M' ∧ CHo M' s n) := by
  have h5 := hA.2.1.2.1
  have hn := hA.2.2.2.1
  refine k_MS_rank hO ?_
  suffices H : ∀ (c k : Nat) (M2 : mM), k + c = n → rkI M s n x M2 → h_MS_rank_2 G (d + 7) s k M2 (fun M' => rkI M s n x M' ∧ CHo M' s n) from H n 0 M (by omega) ⟨hO, FI.refl, hA⟩
  intro c
  induction c with
  | zero =>
    intro k M2 hk h
    have A2 := h.2.2
    have hn2 := A2.2.2.2.1
    refine k_MS_rank_2 h.1 ⟨by omega, by omega⟩ ?_
    rw [hn2]
    have := cng_le (f := mI M2 (s + 34)) n
    exact ⟨A2.1.k0, fun _ => s_rk41 n 1 M2 h this (by omega) (by omega), fun q => by omega⟩
  | succ c ih =>
    intro k M2 hk h
    have A2 := h.2.2
    have V2 := A2.1
    have hn2 := A2.2.2.2.1
    refine k_MS_rank_2 h.1 ⟨by omega, by omega⟩ ?_
    rw [hn2, V2.r4, V2.r16, V2.n22, V2.n34, Int.toNat_natCast]
    refine ⟨V2.k0, fun q => by omega, fun _ => ⟨V2.k22, by omega, fun v hv => ⟨V2.k34, by omega, fun M3 e3 => ?_⟩⟩⟩
    have f3 : FI (fun y => y = s + 34) M2 M3 := by rw [e3]; exact FI.ui rfl
    have o3 : mOk M3 := by rw [e3]; exact mOk_UI h.1 ⟨by split at hv <;> omega, by split at hv <;> omega⟩
    exact ih (k + 1) M3 (by omega) (h.p o3 f3 (Or.inr rfl))
end RA
end
section
/-! The solver at rest; solve and judge. -/
abbrev eL (e : Nat) : Prop := e = 68 ∨ e = 73 ∨ e = 78 ∨ e = 83 ∨ e = 88
/-- the values told are there -/
def Hs (M : mM) (s n w : Nat) : Prop := (mI M (s + 30) w = 0 ∨ mI M (s + 30) w = 1) ∧ (mI M (s + 30) w = 1 → ∃ x : Nat → Rat, Xt M s (68 + 5 * w) n x ∧ ∀ k, k < n → Smp 21 (x k) ∧ 0 ≤ x k)
def Sv (M : mM) (s n : Nat) : Prop := Vk M s ∧ GW M s ∧ GB M s ∧ mI M s 1 = n ∧ TW M s ∧ Wk M s ∧ Ct M s ∧ (∀ e, eL e → Rm M s e) ∧ (∀ w, w < 3 → Hs M s n w) ∧ (mI M (s + 30) 0 = 1 → CHo M s n)
abbrev vF (s : Nat) : Nat → Prop := fun y => s ≤ y ∧ y ≤ s + 21067
/-- all its cells but the game's tables -/
abbrev vH (s : Nat) : Nat → Prop := fun y => s ≤ y ∧ y ≤ s + 21067 ∧ (y < s + 22 ∨ s + 28 < y)
/-- and whether values are there -/
abbrev vK (s : Nat) : Nat → Prop := fun y => s ≤ y ∧ y ≤ s + 21067 ∧ (y < s + 22 ∨ s + 28 < y) ∧ y ≠ s + 30
theorem fi_vk {M M' : mM} {s : Nat} (f : FI (vK s) M M') : FI (vH s) M M' ∧ mI M' (s + 30) 0 = mI M (s + 30) 0 := ⟨f.mono (fun y q => ⟨q.1, q.2.1, q.2.2.1⟩), by rw [f.2.2.2.2.2.2 (s + 30) (fun q => q.2.2.2 rfl)]⟩
theorem kS_far {s w e i y : Nat} (hw : w < 3) (he : eL e) (hne : e ≠ 68 + 5 * w) (h8 : e ≠ 88) (hi : i < 512) (q : kS s w y) : y < s + e + 25 * i ∨ s + e + 25 * i + 4 < y := by
  have hw' : w = 0 ∨ w = 1 ∨ w = 2 := by omega
  rcases hw' with z | z | z <;> subst z <;> rcases he with z | z | z | z | z <;> subst z <;> first | omega | exact absurd rfl hne | exact absurd rfl h8
theorem kS_vH {s w y : Nat} (hw : w < 3) (q : kS s w y) : vH s y := by
  have hw' : w = 0 ∨ w = 1 ∨ w = 2 := by omega
  rcases hw' with z | z | z <;> subst z <;> omega
theorem TW.out {M M' : mM} {s : Nat} (h : TW M s) (g : sameG M M' s) (e : mI M' (s + 32) = mI M (s + 32)) : TW M' s := by
  unfold TW at h ⊢
  rw [g.1, g.hm, e]
  exact h
theorem CHo.out {M M' : mM} {s n : Nat} (h : CHo M s n) (g : sameG M M' s) (e : mI M' (s + 33) = mI M (s + 33)) : CHo M' s n := by
  unfold CHo at h ⊢
  rw [g.hm, e]
  exact h
section SV
variable {G : mG} {d s n : Nat} {M : mM} {F : Int}
theorem Sv.n5 (h : Sv M s n) : n ≤ 512 := by
  have := h.2.1.2.1
  have := h.2.2.2.1
  omega
/-- after work, all but the choices -/
theorem wk_sv {M' : mM} {w : Nat} {r : Int} (hw : w < 3) (h : Sv M s n) (k : wkQ M s n w r M') : Vk M' s ∧ GW M' s ∧ GB M' s ∧ mI M' s 1 = n ∧ TW M' s ∧ Wk M' s ∧ Ct M' s ∧ (∀ e, eL e → Rm M' s e) ∧ (∀ w, w < 3 → Hs M' s n w) ∧ (CHo M s n → CHo M' s n) := by
  have hn5 := h.n5
  obtain ⟨V, g, c, e, t, W, T, R, H, -⟩ := h
  obtain ⟨o', f', k1, W', T', R8, Rw, k30, kr⟩ := k
  have fe := f'.2.2.2.2.2.2
  have sg : sameG M M' s := ⟨k1 1 (by omega) (by omega), k1 2 (by omega) (by omega), k1 3 (by omega) (by omega), fun y a b => fe y (fun q => by rcases q with q | q | q; omega; omega; have := q.1; omega)⟩
  have low : ∀ y, s + 31 ≤ y → y ≤ s + 34 → mI M' y = mI M y := fun y a b => fe y (fun q => by rcases q with q | q | q; omega; omega; have := q.1; omega)
  refine ⟨V.fi f', sg.gw g, sg.gb c, by rw [sg.1]; exact e, t.out sg (low _ (by omega) (by omega)), W', T', fun e he => ?_, fun w' hw' => ?_, fun hc => hc.out sg (low _ (by omega) (by omega))⟩
  · by_cases z : e = 88
    · rw [z]; exact R8
    · by_cases z2 : e = 68 + 5 * w
      · rw [z2]; exact Rw
      · exact (R e he).out2 f' (fun i y hi q => kS_far hw he z2 z hi q)
  · by_cases z : w' = w
    · subst z
      rcases kr with ⟨r0, r1, x, X, v, -⟩ | ⟨r0, r1⟩
      · exact ⟨Or.inr r1, fun _ => ⟨x, X, v⟩⟩
      · exact ⟨Or.inl r1, fun q => by omega⟩
    · obtain ⟨a1, a2⟩ := H w' hw'
      unfold Hs
      rw [k30 w' z]
      refine ⟨a1, fun q => ?_⟩
      obtain ⟨x, X, v⟩ := a2 q
      exact ⟨x, X.out2 f' (fun i y hi q => kS_far hw (by omega) (by omega) (by omega) (by omega) q), v⟩
theorem s_MS_judge {q : Int} (hF : Fall F) (hq : q = 1 ∨ q = 2) (hO : mOk M) (h : Sv M s n) : Ci G y_MS_judge (d + 10) [vr s, vi q] M (fun r M' => (mOk M' ∧ FI (vH s) M M' ∧ Sv M' s n ∧ (r = 0 ∨ r = 5 ∨ r = 6)) ∧ mI M' (s + 30) 0 = mI M (s + 30) 0) := by
  obtain ⟨V, g, c, e, t, W, T, R, H, hc⟩ := id h
  refine k_MS_judge hO ⟨by omega, by omega⟩ ⟨V.k0, (s_MS_work (d := d) (w := 2) hF (by omega) (Or.inr rfl) hO V g c e t W T (R 88 (by omega)) (R 78 (by omega)) (P := fun _ => True) (fun _ _ _ _ _ _ _ _ _ => trivial)).mono (fun r M' k => ?_)⟩
  replace k := k.1
  have a := wk_sv (by omega) h k
  have hr : r = 0 ∨ r = 5 ∨ r = 6 := by
    rcases k.2.2.2.2.2.2.2.2 with z | z
    · exact Or.inl z.1
    · exact Or.inr z.1
  have e30 := k.2.2.2.2.2.2.2.1 0 (by omega)
  obtain ⟨a1, a2, a3, a4, a5, a6, a7, a8, a9, a10⟩ := a
  exact ⟨⟨by omega, by omega⟩, k.1, ⟨k.1, k.2.1.mono (fun y q => kS_vH (by omega) q), ⟨a1, a2, a3, a4, a5, a6, a7, a8, a9, fun q => a10 (hc (by rw [← e30]; exact q))⟩, hr⟩, e30⟩
theorem s_MS_solve (hF : Fall F) (hO : mOk M) (h : Sv M s n) : Ci G y_MS_solve (d + 10) [vr s] M (fun r M' => (mOk M' ∧ FI (vH s) M M' ∧ Sv M' s n ∧ (r = 0 ∨ r = 5 ∨ r = 6)) ∧ (∀ T : xt9, SvT M s T → kdT T → svA9 T r) ∧ mI M' (s + 30) 0 = if r = 0 then 1 else 0) := by
  have hn5 := h.n5
  obtain ⟨V, g, c, e, t, W, T, R, H, hc⟩ := id h
  refine k_MS_solve hO ⟨V.k0, (s_MS_work (d := d) (w := 0) hF (by omega) (Or.inl rfl) hO V g c e t W T (R 88 (by omega)) (R 68 (by omega)) (P := fun r => ∀ T : xt9, SvT M s T → kdT T → svA9 T r) (fun M3 M8 y h1 h2 h3 h4 h5 h6 T hT hk => ref_sv (M := M3) (hT.sv (h3 1 (by decide)) (fun i a b => h4 _ (by omega) (by omega))) h1 h2 (fun k x hx e => ((hk x (List.mem_of_getElem? hx)).resolve_left (by rw [e]; decide)).resolve_left (by rw [e]; decide)) h5 h6)).mono (fun r M' k => ?_)⟩
  have pT := k.2
  replace k := k.1
  have a := wk_sv (by omega) h k
  obtain ⟨a1, a2, a3, a4, a5, a6, a7, a8, a9, a10⟩ := a
  obtain ⟨k1, k2, -, -, -, -, -, -, kr⟩ := k
  have kv : FI (vH s) M M' := k2.mono (fun y q => kS_vH (by omega) q)
  rcases kr with ⟨r0, r1, x, X, v, -⟩ | ⟨r0, r1⟩
  · subst r0
    refine ⟨⟨by omega, by omega⟩, k1, fun _ => ⟨a1.k0, (s_MS_rank (d := d + 1) k1 (x := x) ⟨a1, a2, a3, a4, a6, X, fun k hk => ⟨(v k hk).2, (smp_b (v k hk).1).1⟩⟩).mono (fun M2 h2 => ?_)⟩, fun q => absurd rfl q⟩
    obtain ⟨⟨o2, f2, A2⟩, c2⟩ := h2
    obtain ⟨b1, b2, b3, b4, b5, b6, b7⟩ := A2
    have sg : sameG M' M2 s := sameG.of f2 (by omega) (fun y _ _ => by omega)
    have fe := f2.2.2.2.2.2.2
    refine ⟨o2, ⟨o2, kv.trans (f2.mono (fun y q => by omega)), ⟨b1, b2, b3, b4, a5.out sg (fe _ (by omega)), b5, a7.out f2 (fun y q => by omega), fun e he => (a8 e he).out f2 (fun y q => by omega), fun w hw => ?_, fun _ => c2⟩, Or.inl rfl⟩, pT, by rw [if_pos rfl, fe (s + 30) (by omega)]; exact r1⟩
    obtain ⟨z1, z2⟩ := a9 w hw
    unfold Hs
    rw [fe (s + 30) (by omega)]
    refine ⟨z1, fun q => ?_⟩
    obtain ⟨x', X', v'⟩ := z2 q
    exact ⟨x', X'.out f2 (fun y q => by omega), v'⟩
  · exact ⟨⟨by omega, by omega⟩, k1, fun q => by omega, fun _ => ⟨⟨k1, kv, ⟨a1, a2, a3, a4, a5, a6, a7, a8, a9, fun q => by omega⟩, Or.inr r0⟩, pT, by rw [if_neg (by omega)]; exact r1⟩⟩
end SV
end
