section
section
variable {G : mG} {d z q w T A B D N C n p O P K Ab Be Cm V F c s L L' cnt Bn a d0 V1 F1 nw : Nat} {M0 M M' M1 M2 : mM} {ns ns' ns1 : Nat → Int} {sf ef sf' ef' : Nat → Nat} {H : Nat → Nat} {S R : Nat → Prop} {W pl nq : Nat → Int} {sm : Nat → Nat → Prop} {nms : List nm9} {ft : Int × Int} {zz zr : List Int}
theorem x_nd_tail {l1 : Int} (f0 : FI (txS q p O P) M0 M) (h : TX M z q w T A B D N C n p O P K Ab Be Cm V F ns sf ef c cnt L) (ha : mI M (q + 1) 2 = ((a : Nat) : Int)) (han : a ≤ n) (hs : mI M p 2 = ((L : Nat) : Int)) (hsa : L ≤ a) (hd : mI M (q + 1) 5 = ((0 : Nat) : Int)) (nk : NK M (q + 1) A n (vco l1 V) F (nco l1 ns) c) (hn : mI M q 3 = ((nw : Nat) : Int) ∧ nw < n ∧ mI M A nw = 2) (hY : 60 ≤ F → mI M (q + 1) 3 ≠ 0) (wt : WTq M T A B D n W pl nq sm) (hF : FT M (q + 1) ft) (hR : Rc W [50] 0 [61, 34, 50] a) : Ci G y_TR_readItemRule (d + 5) [vr q, vi 0, vi 0] M (fun x32 M31 => i32 x32 ∧ mOk M31 ∧ (((x32 = 0) → (ndQ M0 z q w T A B D N C n p O P K Ab Be Cm V F ns sf ef c cnt L l1 0 M31 ∧ ndV W pl nq sm M q p O P n c L a nms (mI M (q + 1) 6) ft 0 M31)) ∧ (¬ (x32 = 0) → (mK M31 q = 3 ∧ mK M31 (mR M31 q 0) = 4 ∧ Ci G y_RR_isTruth (d + 5) [vr (mR M31 q 0)] M31 (fun x39 M38 => i32 x39 ∧ mOk M38 ∧ (mK M38 q = 3 ∧ (x39 = 0 ∨ x39 = 1) ∧ ∀ M43, M43 = mUI M38 q 8 x39 → mK M43 (mR M43 q 0) = 4 ∧ Ci G y_RR_accept (d + 5) [vr (mR M43 q 0), vi 35] M43 (fun x47 M46 => i32 x47 ∧ mOk M46 ∧ ((x47 = 0 ∨ x47 = 1) ∧ ndQ M0 z q w T A B D N C n p O P K Ab Be Cm V F ns sf ef c cnt L l1 x47 M46 ∧ ndV W pl nq sm M q p O P n c L a nms (mI M (q + 1) 6) ft x47 M46)))))))) := by
  obtain ⟨⟨np0, np1, -, -⟩, ⟨nO0, nO1, -, -, -⟩, nP0, nP1, -, -, -⟩ := h.1.ne
  obtain ⟨q01, q10, q210, q211, -⟩ := q_ne q
  refine (x_TR_readItemRule (k := 0) (d0 := 0) (nms := nms) (ft := ft) (zz := [34, 50]) (by omega) (i32s (by omega) (by omega)) h ha han hs (Nat.le_refl _) hsa hd (by omega) nk wt hF (by rw [hd]; rfl) hz34 hR).mono (fun x32 M31 k => ?_)
  clear nk
  obtain ⟨⟨h31, x31, ⟨-, q31, t31⟩, k31⟩, -, E, Cf, ec, a9, ea9, iv⟩ := k
  have i32' : i32 x32 := by
    clear h h31 x31 t31
    rcases k31 with u | u <;> rw [u.1] <;> exact ⟨by decide, by decide⟩
  refine ⟨i32', h31.1.1.1, fun y => ?_, fun y => ?_⟩
  · obtain ⟨-, u⟩ := k31.resolve_right (fun u => by rw [y] at u; exact absurd u.1 (by decide))
    refine ⟨⟨f0.trans x31.1, Or.inl ⟨rfl, h31, u⟩⟩, a9, ea9, Or.inl ⟨rfl, ?_⟩⟩
    rcases iv with ⟨-, iv⟩ | ⟨iv, -⟩
    · exact iv
    · rw [y] at iv; exact absurd iv (by decide)
  obtain ⟨-, e, H, a', cd, p31, a31, aa, an, ea, d31⟩ := k31.resolve_left (fun u => y u.1)
  clear k31
  obtain ⟨-, L9, v1, v2, v3, v4, v5, v6, v7⟩ := iv.resolve_left (fun u => y u.1)
  have ea9' : a' = a9 := by rw [a31] at ea9; omega
  subst ea9'
  have v5 : FT M31 (q + 1) (fst9 ft (fl W E pl 0 a a')) := by
    unfold kft at v5
    rw [if_pos (Or.inl rfl)] at v5
    exact v5.un
  have wt31 : WTq M31 T A B D n W pl nq sm := wt.fi h.1 x31.1
  rw [h31.1.2.1.2.1]
  refine ⟨h31.1.2.1.1, h31.1.1.2.1.1, (x_RR_isTruth h31.1.1 h31.2.1.2.2.2).mono (fun x39 M38 k => ?_)⟩
  obtain ⟨e38, hx39, ex39⟩ := k
  subst e38
  have i39 : i32 x39 := m_b32 hx39
  refine ⟨i39, h31.1.1.1, h31.1.2.1.1, hx39, fun M43 e43 => ?_⟩
  obtain ⟨h43, x43, g43⟩ := tx_ui h31 i39 e43 (Or.inl rfl)
  have gg : ∀ b, b ≠ q → mI M43 b = mI M38 b := fun b hb => by
    funext i
    rw [g43, if_neg (fun u => hb u.1)]
  rw [h43.1.2.1.2.1]
  refine ⟨h43.1.1.2.1.1, (x_tx_accept (x := 35) (i32s (by omega) (by omega)) (by omega) h43 (by rw [gg _ q10]; exact a31) an).mono (fun x47 M46 k => ?_)⟩
  obtain ⟨i47, o46, hx47, h46, x46, k46, r46, b46, n46⟩ := k
  have wt43 : WTq M43 T A B D n W pl nq sm := wt31.fi h31.1 x43.1
  refine ⟨i47, o46, hx47, ?_⟩
  rcases k46 with ⟨e1, eA, a46, an46⟩ | ⟨e1, e2⟩
  · have w34 : W a' = 34 := (wt43.is (by omega) (by omega) (by omega)).mp eA
    have rc := rc_t v7 w34 (by decide)
    have key : ndV W pl nq sm M q p O P n c L a nms (mI M (q + 1) 6) ft x47 M46 := by
      refine ⟨a' + 1, a46, Or.inr ⟨e1, a', E, Cf, L9, rfl, v3, w34, rc, ec, ?_, ?_, ?_, ?_, ?_, (x31.trans x43).trans x46, by rw [b46 q q01, g43, if_neg (fun u => absurd u.2 (by decide)), q31]⟩⟩
      · rw [b46 q q01, g43, if_pos ⟨rfl, rfl⟩, ex39]; exact v4
      · exact v5.same (by rw [r46 3 (by decide), gg _ q10]) (by rw [r46 4 (by decide), gg _ q10])
      · rw [b46 p np1, gg p np0]; exact v1
      · rw [b46 O nO1, gg O nO0]; exact v2
      · exact v6.cg (fun t _ _ => ⟨by rw [b46 O nO1, gg O nO0], by rw [b46 P nP1, gg P nP0]⟩)
    refine ⟨?_, key⟩
    refine ⟨((f0.trans x31.1).trans x43.1).trans x46.1, Or.inr ⟨e1, h46, fun y60 => x46.2.2.1 (x43.2.2.1 (x31.2.2.1 (hY y60))), e, a' + 1, nw, H, ?_, ?_, a46, an46, Nat.succ_le_succ ea, ?_, ?_, hn.2.1, ?_, ?_, ?_⟩⟩
    · exact cd.cg (fun i _ => by rw [b46 O nO1, gg O nO0]) (fun i _ => by rw [b46 P nP1, gg P nP0])
    · rw [b46 p np1, gg p np0]; exact p31
    · rw [r46 5 (by decide), gg _ q10, d31]; exact hd
    · rw [b46 q q01, g43, if_neg (fun u => absurd u.2 (by decide)), q31]; exact hn.1
    · rw [(h43.1.words x46.1).1, (h31.1.words x43.1).1, (h.1.words x31.1).1]; exact hn.2.2
    · rw [b46 q q01, g43, if_pos ⟨rfl, rfl⟩]; exact hx39
    · rw [b46 _ q211, gg _ q210, t31, if_pos rfl]
  · rw [e2]
    exact ⟨⟨(f0.trans x31.1).trans x43.1, Or.inl ⟨e1, h43, a', by rw [gg _ q10]; exact a31, an⟩⟩, a', by rw [gg _ q10]; exact a31, Or.inl ⟨e1, rf_t v7 (fun u => n46 e1 ((wt43.is (by omega) (by omega) (by omega)).mpr u)) (by decide)⟩⟩
end
end
