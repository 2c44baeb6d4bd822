/-! The solver: answer, the whole. -/
section AN
variable {G : mG} {d s n : Nat} {M : mM} {F : Int}
theorem s_MS_answer (hF : Fall F) (hO : mOk M) (hV : Vk M s) (hG : GW M s) (hC : GB M s) (hn : mI M s 1 = n) (hW : Wk M s) (hT : Ct M s) (hR : Rm M s 88) (hP : PLo M s) (hL : LQ M s n) :
    Cv G y_MS_answer (d + 8) [vr s] M (anQ M s n) := by
  have h2 := hG.2.1
  refine k_MS_answer hO ⟨hV.k0, (s_MS_grow (d := d + 5) ⟨by omega, by omega⟩ hO hV hG).mono (fun M1 h1 => ?_)⟩
  have hfx := gv_fix hG hn hP h1
  obtain ⟨⟨ρ, t, g1⟩, -⟩ := h1
  have hrk := gv_rnk hG hn g1
  obtain ⟨o1, f1, -⟩ := g1
  have V1 := hV.fi f1
  have fe1 := f1.2.2.2.2.2.2
  refine ⟨o1, V1.k0, fun M2 e2 => ?_⟩
  have f2 : FI (fun x => x = s) M1 M2 := by rw [e2]; exact FI.ui rfl
  have fe2 := f2.2.2.2.2.2.2
  have o2 : mOk M2 := by rw [e2]; exact mOk_UI o1 ⟨by omega, by omega⟩
  have V2 := V1.fi f2
  have s2 : ∀ j, j ≠ 24 → mI M2 s j = mI M s j := fun j hj => by rw [e2, mI_UI, if_neg (fun w => hj w.2), fe1 s (by omega)]
  have s24 : mI M2 s 24 = 0 := by rw [e2, mI_UI, if_pos ⟨rfl, rfl⟩]
  have i36 : mI M2 (s + 36) = mI M1 (s + 36) := fe2 _ (by omega)
  have i22 : mI M2 (s + 22) = mI M (s + 22) := by rw [fe2 _ (by omega), fe1 _ (by omega)]
  have hn2 : mI M2 s 1 = n := by rw [s2 1 (by omega)]; exact hn
  have h40 : sm (fun k => if unk M2 s k then 1 else 0) n ≤ 40 := by
    obtain ⟨τ, w, l1, l2, l3, l4, l5, l6⟩ := hL
    have hsub := ins_sub hG hn hP hrk l1 l2
    refine Int.le_trans (sm_le n (fun k hk => ?_)) l6
    by_cases q : unk M2 s k
    · have q1 : mkd M1 s k := by have := q.1; rw [i36] at this; exact this
      have q2 : mI M (s + 22) k ≠ 3 := by have := q.2; rw [i22] at this; exact this
      rw [if_pos q, if_pos ⟨hsub k hk q1, q2⟩]
      omega
    · rw [if_neg q]
      split <;> omega
  refine s_an12 (G := G) (d := d + 7) V2 hn2 (by omega) h40 (fun m M3 hm h3 => ?_) n 0 0 M2 (by omega) ⟨⟨o2, FI.refl, fun j _ => rfl, s24⟩, fun r hr => by omega, fun k hk => by omega, fun f => rfl⟩
  obtain ⟨⟨o3, f3, s3, s34⟩, e1, e3, e4⟩ := h3
  have fe3 := f3.2.2.2.2.2.2
  have V3 := V2.fi f3
  have j36 : mI M3 (s + 36) = mI M1 (s + 36) := by rw [fe3 _ (by omega), i36]
  have j22 : mI M3 (s + 22) = mI M (s + 22) := by rw [fe3 _ (by omega), i22]
  have hmk : mkd M3 s = mkd M1 s := by funext k; unfold mkd; rw [j36]
  have hu : ∀ k, unk M2 s k ↔ unk M3 s k := fun k => by unfold unk; rw [j36, j22, i36, i22]
  have hfar : ∀ x, x ≠ s → x ≠ s + 36 → x ≠ s + 39 → x ≠ s + 40 → mI M3 x = mI M x := fun x w1 w2 w3 w4 => by rw [fe3 x (by omega), fe2 x w1, fe1 x w2]
  have hs3 : ∀ j, j ≠ 24 → mI M3 s j = mI M s j := fun j hj => (s3 j hj).trans (s2 j hj)
  have hsw : sameW M M3 s := ⟨⟨hs3 1 (by omega), hs3 2 (by omega), hs3 3 (by omega), fun x a b => hfar x (by omega) (by omega) (by omega) (by omega)⟩, hs3 17 (by omega), hfar _ (by omega) (by omega) (by omega) (by omega)⟩
  have f03 : FI (aS s) M M3 := ((f1.mono (fun y q => by omega)).trans (f2.mono (fun y q => by omega))).trans (f3.mono (fun y q => by omega))
  have hAC : AC M s n m ρ M3 := by
    refine ⟨hG, hC, hn, hm, hL, by rw [hmk]; exact hrk, by rw [hmk]; exact hfx, hP, hsw, s34, fun r hr => ?_, fun k hk hk2 => e3 k hk ((hu k).2 hk2), fun f => ?_⟩
    · obtain ⟨a1, a2, a3, a4⟩ := e1 r hr
      exact ⟨a1, a2, (hu _).1 a3, a4⟩
    · have a := e4 f
      have b : sm (fun r => f (uu M3 s r)) m = sm (fun r => f (mI M3 (s + 39) r).toNat) m := rfl
      rw [b, a]
      refine sm_congr n (fun k hk => ?_)
      by_cases q : unk M2 s k
      · rw [if_pos q, if_pos ((hu k).1 q)]
      · rw [if_neg q, if_neg (fun w => q ((hu k).2 w))]
  have e35 : mI M3 (s + 35) = mI M (s + 35) := hfar _ (by omega) (by omega) (by omega) (by omega)
  have hAH : AH M s M3 M3 := by
    refine ⟨o3, V3, FI.refl, ?_, ?_, ?_, hP.out hsw e35, fun k _ => by rw [e35]⟩
    · exact ((hW.far f1 (fun y q => by omega)).far f2 (fun y q => by omega)).far f3 (fun y q => by omega)
    · exact ((hT.out f1 (fun y q => by omega)).out f2 (fun y q => by omega)).out f3 (fun y q => by omega)
    · exact ((hR.out f1 (fun y q => by omega)).out f2 (fun y q => by omega)).out f3 (fun y q => by omega)
  refine an_settle hAC hAH (fun M6 x h6 X6 v6 _ => ?_)
  obtain ⟨t', ht'⟩ := ms_ex hF n v6.1
  refine s_an89 hF hAC (fun M' x' h' X' r' => ?_) t' x M6 h6 X6 v6 ht'
  obtain ⟨o7, V7, f7, W7, T7, R7, P7, k7⟩ := h'
  have fe7 := f7.2.2.2.2.2.2
  exact ⟨o7, f03.trans (f7.mono (fun y q => by omega)), fun j hj => by rw [fe7 s (by omega)]; exact hs3 j hj, W7, T7, R7, P7, k7, _, ρ, x', X', r'⟩
end AN
