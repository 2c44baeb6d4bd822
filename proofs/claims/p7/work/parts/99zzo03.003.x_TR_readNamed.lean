section
section
variable {G : mG} {d z q w T A B D N C n p O P K Ab Be Cm V F c s L L' cnt Bn a d0 V1 F1 nw : Nat} {M0 M M' M1 M2 : mM} {ns ns' ns1 : Nat → Int} {sf ef sf' ef' : Nat → Nat} {H : Nat → Nat} {S R : Nat → Prop} {W pl nq : Nat → Int} {sm : Nat → Nat → Prop} {nms : List nm9} {ft : Int × Int} {zz zr : List Int}
theorem x_TR_readNamed {l1 : Int} (h4 : l1 = 4 ∨ l1 = 7) (h : TX M z q w T A B D N C n p O P K Ab Be Cm V F ns sf ef c cnt L) (ha : mI M (q + 1) 2 = a) (han : a < n) (hs : mI M p 2 = L) (hsa : L ≤ a) (hd : mI M (q + 1) 5 = 0) (wt : WTq M T A B D n W pl nq sm) (hF : FT M (q + 1) ft) (hW : W a = 3 ∨ W a = 6) (hR : Rc W [50] 0 [50] a) : Ci G y_TR_readNamed (d + 6) [vr q, vi l1] M (fun x M' => ndQ M z q w T A B D N C n p O P K Ab Be Cm V F ns sf ef c cnt L l1 x M' ∧ nmV W pl nq sm M q p O P n c F L a nms (if l1 = 4 then 1 else 0) ft x M') := by
  obtain ⟨⟨np0, np1, -, -⟩, -, -⟩ := h.1.ne
  obtain ⟨q01, q10, q210, q211, -⟩ := q_ne q
  have ok := h.1.1.1
  have rc1 : Rc W [50] 0 [1, 23, 61, 34, 50] (a + 1) := by
    refine (hR.trans (Rc.one (mst_n (by decide) (by decide) (ys := [51, 34, 50]) (t := 1) ?_ (Or.inl (by decide))))).trans (Rc.one (mst_n (r := [34, 50]) (by decide) (by decide) (ys := [1, 23, 61]) (t := 0) rfl (Or.inl (by decide))))
    rw [ex_50]
    unfold ex50
    rw [if_neg (by omega), if_pos hW]
  obtain ⟨t0, t1, t2, t3, t4, t5⟩ := h.1.2.1
  refine k_TR_readNamed ok (i32s (by omega) (by omega)) ⟨t0, fun v3 e3 => ?_⟩
  have b3 : v3 = 0 ∨ v3 = 1 := by rw [e3]; split <;> omega
  rw [t1]
  refine ⟨h.1.1.2.1.1, fun M9 e9 => ?_⟩
  obtain ⟨h9, x9, g9⟩ := tx_ui h (m_b32 b3) e9 (Or.inr (Or.inr (Or.inr (Or.inl ⟨rfl, Or.inr (Or.inr rfl)⟩))))
  rw [h9.1.2.1.2.2.2.1]
  refine ⟨h9.1.1.2.2.2.2.1.1, fun v13 e13 => ?_⟩
  have b13 : v13 = 0 ∨ v13 = 1 := by rw [e13]; split <;> omega
  have f9 := h9.2.1.2.1.1
  have y13 : 60 ≤ F → v13 ≠ 0 := fun y => by rw [e13, if_neg (by omega)]; decide
  refine (x_TR_readName (a := a) (nms := nms) (m_b32 b13) h9 (by rw [g9, if_neg (fun u => absurd u.2 (by decide))]; exact ha) han (wt.fi h.1 x9.1) (hF.same (by rw [g9, if_neg (fun u => absurd u.2 (by decide))]) (by rw [g9, if_neg (fun u => absurd u.2 (by decide))])) rc1).mono (fun x19 M18 k => ?_)
  obtain ⟨⟨h18, x18, n18, y18, k18⟩, a9, ea9, rv⟩ := k
  have wt18 : WTq M18 T A B D n W pl nq sm := (wt.fi h.1 x9.1).fi h9.1 x18.1
  have ev13 : (if v13 = 0 then ((0 : Int), (0 : Int)) else (5, pl a)) = if F < 60 then (0, 0) else (5, pl a) := by
    rw [e13, f9]
    by_cases u : F < 60
    · rw [if_pos u, if_pos (by omega)]
    · rw [if_neg u, if_neg (by omega)]
  rw [ev13] at rv
  have i19 : i32 x19 := by rcases k18 with u | u <;> rw [u.1] <;> exact ⟨by decide, by decide⟩
  refine ⟨i19, h18.1.1.1, fun y => ?_, fun y => ?_⟩
  · obtain ⟨-, u⟩ := k18.resolve_right (fun u => by rw [y] at u; exact absurd u.1 (by decide))
    refine ⟨⟨x9.1.trans x18.1, Or.inl ⟨rfl, h18, u⟩⟩, a9, ea9, Or.inl ⟨rfl, ?_⟩⟩
    rcases rv with ⟨-, rv⟩ | ⟨rv, -⟩
    · exact rv
    · rw [y] at rv; exact absurd rv (by decide)
  obtain ⟨-, a18, a2n, q18, A18⟩ := k18.resolve_left (fun u => y u.1)
  clear k18
  obtain ⟨-, ea2, w1, rc2, f2, F18, kn⟩ := rv.resolve_left (fun u => y u.1)
  have kn : CT M (q + 1) p nms → nms.length = c → knf sm pl nms (a + 1) f2 := fun ct hl => kn (ct.tx x9.2) hl
  rw [h18.1.2.1.2.1]
  refine ⟨h18.1.2.1.1, h18.1.1.2.1.1, (x_tx_accept (x := 24) (i32s (by omega) (by omega)) (by omega) h18 a18 a2n).mono (fun x26 M25 k => ?_)⟩
  obtain ⟨i26, o25, -, h25, x25, k25, r25, b25, n25⟩ := k
  refine ⟨i26, o25, fun y => ?_, fun y => ?_⟩
  · have e := (k25.resolve_left (fun u => by rw [y] at u; exact absurd u.1 (by decide))).2
    rw [e]
    exact ⟨⟨x9.1.trans x18.1, Or.inl ⟨rfl, h18, _, a18, a2n⟩⟩, a + 2, a18, Or.inl ⟨rfl, rf_t rc2 (fun u => n25 y ((wt18.is (by omega) (by omega) (by omega)).mpr u)) (by decide)⟩⟩
  obtain ⟨-, eA, a25, a3n⟩ := k25.resolve_right (fun u => y u.1)
  clear k25
  have w23 : W (a + 2) = 23 := (wt18.is (by omega) (by omega) (by omega)).mp eA
  have rc3 := rc_t rc2 w23 (by decide)
  have wt25 : WTq M25 T A B D n W pl nq sm := wt18.fi h18.1 x25.1
  have F25 : FT M25 (q + 1) (fst9 (fst9 ft (if F < 60 then (0, 0) else (5, pl a))) f2) := F18.same (r25 3 (by decide)) (r25 4 (by decide))
  have c25 : mI M25 (q + 1) 6 = v3 := by rw [r25 6 (by decide), n18.1 6 (by decide) (by decide) (by decide), g9, if_pos ⟨rfl, rfl⟩]
  have p25 : mI M25 p 2 = L := by rw [b25 p np1, n18.2.2 p np0 np1, g9, if_neg (fun u => np1 u.1)]; exact hs
  have d25 : mI M25 (q + 1) 5 = ((0 : Nat) : Int) := by rw [r25 5 (by decide), n18.1 5 (by decide) (by decide) (by decide), g9, if_neg (fun u => absurd u.2 (by decide))]; exact hd
  have nk : NK M25 (q + 1) A n (vco l1 V) F (nco l1 ns) c := by
    unfold vco nco
    by_cases y4 : l1 = 4
    · rw [if_pos y4, if_pos y4]
      rw [if_pos y4] at e3
      exact h25.2.1.2.2.1.nkc (by rw [c25, e3]; decide)
    · rw [if_neg y4, if_neg y4]
      exact h25.2.1.2.2.1.nk
  refine ⟨h25.1.2.1.1, (x_nd_tail (nms := nms) ((x9.1.trans x18.1).trans x25.1) h25 a25 a3n p25 (by omega) d25 nk ⟨by rw [b25 q q01]; exact q18, by omega, by rw [(h18.1.words x25.1).1]; exact A18⟩ (fun y => x25.2.2.1 (y18 (y13 y))) wt25 F25 rc3).mono (fun x32 M31 k => ?_)⟩
  have e6 : mI M25 (q + 1) 6 = if l1 = 4 then 1 else 0 := by rw [c25, e3]
  rw [e6] at k
  have up : ∀ {x : Int} {M9 : mM}, ndV W pl nq sm M25 q p O P n c L (a + 3) nms (if l1 = 4 then 1 else 0) (fst9 (fst9 ft (if F < 60 then (0, 0) else (5, pl a))) f2) x M9 → nmV W pl nq sm M q p O P n c F L a nms (if l1 = 4 then 1 else 0) ft x M9 := fun {x M9} hv => by
    obtain ⟨a', e1, hv⟩ := hv
    refine ⟨a', e1, ?_⟩
    rcases hv with hv | ⟨hx, e, E, Cf, L9, j1, j2, j3, j4, j5, j6, j7, j8, j9, j10, j11, j12⟩
    · exact Or.inl hv
    · exact Or.inr ⟨hx, ⟨w1, w23⟩, e, E, Cf, L9, f2, j1, j2, j3, j4, ((j5.to x25.2).to x18.2).to x9.2, j6, kn, j7, j8, j9, j10, ((x9.trans x18).trans x25).trans j11, by rw [j12, b25 q q01]; exact q18⟩
  refine ⟨k.1, k.2.1, fun y => ?_, fun y => ?_⟩
  · obtain ⟨q1, q2⟩ := k.2.2.1 y
    exact ⟨q1, up q2⟩
  · obtain ⟨q1, q2, q3⟩ := k.2.2.2 y
    refine ⟨q1, q2, q3.mono (fun x39 M38 u => ⟨u.1, u.2.1, u.2.2.1, u.2.2.2.1, fun M43 e43 => ?_⟩)⟩
    obtain ⟨z1, z2⟩ := u.2.2.2.2 M43 e43
    exact ⟨z1, z2.mono (fun x47 M46 v => ⟨v.1, v.2.1, v.2.2.1, v.2.2.2.1, up v.2.2.2.2⟩)⟩
end
end
