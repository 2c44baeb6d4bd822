section
variable {G : mG} {d z g p O P K V F L cnt U Ab Be C Ab0 Be0 C0 n N c cn k u v cc bc bc0 mu cn0 fc : Nat} {M0 M M' MB : mM} {ns : Nat → Int} {sf ef : Nat → Nat} {F1 : Nat} {ns1 : Nat → Int} {sf1 ef1 : Nat → Nat} {W pl nq : Nat → Int} {sm : Nat → Nat → Prop} {nms : List nm9} {sgL : List Int} {R : sl9} {T : xt9} {zl : List (br9 × (Int × Int))} {S0 : List (List Int)} {cms : List sc9} {pr : Int}
theorem x_tc146 (hF : FMx G) (cx : gcx M0 g p O P L V F Ab0 Be0 ns sf ef W pl nq sm N n nms) (vo : VrO nms (mI M0 (p + 3)) (mI M0 (p + 4))) (hzn : zl.length = v - u) (hzl : ∀ b, b < v - u → ∃ x : br9, zl[b]? = some (x, (mI MB (g + 21) b, mI MB (g + 22) b)) ∧ mI M0 (p + 13) (u + b) = x.1 ∧ ∃ s2 : Nat, mI M0 (p + 15) (u + b) = ((s2 : Nat) : Int) ∧ SeC M0 O P L V W pl nq sm n ns ef nms x.2.2 s2) (hR0 : ∀ S B, flq9 (stpq W pl nq sm N nms V (mI M0 (p + 3)) (mI M0 (p + 4))) sgL (mI M0 (p + 10) c) ((mu : Nat) : Int) bc0 zl S0 [] = ((0, 0), S, B) → R = ((0, 0), S, pr, cms ++ [(c, ((mu : Nat) : Int), B)])) (hR1 : (flq9 (stpq W pl nq sm N nms V (mI M0 (p + 3)) (mI M0 (p + 4))) sgL (mI M0 (p + 10) c) ((mu : Nat) : Int) bc0 zl S0 []).1.1 ≠ 0 → R.1 = (flq9 (stpq W pl nq sm N nms V (mI M0 (p + 3)) (mI M0 (p + 4))) sgL (mI M0 (p + 10) c) ((mu : Nat) : Int) bc0 zl S0 []).1) (hpr : mI MB (g + 2) k = pr) (hxt : xtm MB g k = T) (hfc4 : mI MB (g + 4) k = ((fc : Nat) : Int)) (hfcc : fc ≤ cc) (hcml : cml MB g fc (cc - fc) = cms) (hnb : nbx9 T + nbq9 cms = bc0) (h5c : mI MB (g + 5) cc = ((c : Nat) : Int)) (hkn : k < cn0) (hc : c < cnt) (hcc2 : cc ≤ 4096) (hk : k < 512) (huv : u ≤ v ∧ v ≤ u + 8 ∧ v ≤ 480) (hmu : 1 ≤ mu ∧ mu < 1000000000) (hch : chz MB g (v - u)) (hd : ∀ b, b < v - u → (mI MB (g + 22) b) ∣ ((mu : Nat) : Int)) (hsum : shS MB g mu (v - u) = ((mu : Nat) : Int)) (h6 : mI MB (g + 6) cc = ((mu : Nat) : Int)) (h7 : mI MB (g + 7) cc = ((bc0 : Nat) : Int)) (hcc : mI MB g 12 = ((cc : Nat) : Int)) (h5t : 0 ≤ mI MB (g + 5) cc ∧ mI MB (g + 5) cc < 60) (hu : mI MB (p + 12) c = ((u : Nat) : Int)) (hv : mI MB (p + 12) (c + 1) = ((v : Nat) : Int)) (hccb : cc ≤ bc0) (hcm : ∀ j, j < cc → cmdG MB g cn0 bc0 j) (h70 : 0 < cc → mI MB (g + 7) 0 = 0) (h700 : cc = 0 → bc0 = 0) (hfc : ∀ j, j ≤ k → ∃ x y : Nat, mI MB (g + 4) j = ((x : Nat) : Int) ∧ mI MB (g + 4) (j + 1) = ((y : Nat) : Int) ∧ x ≤ y ∧ y ≤ cc) (hf0 : mI MB (g + 4) 0 = 0) (hgs : ∀ j, j < k → GS1 MB g j) (hgk : ∀ x y : Nat, mI MB (g + 4) k = ((x : Nat) : Int) → mI MB (g + 4) (k + 1) = ((y : Nat) : Int) → 0 ≤ mI MB (g + 3) k ∧ (mI MB (g + 3) k < ((y : Nat) : Int) - ((x : Nat) : Int) ∨ mI MB (g + 3) k = 0)) : ∀ (t b : Nat) (M : mM) (Ab Be C cn bc : Nat) (r : Int), v - u ≤ b + t → b ≤ v - u → i32 r → GX M0 z g p O P K V F1 ns1 sf1 ef1 L cnt Ab0 Be0 C0 M Ab Be C → flF MB g p bc0 M → (mI M g 0 = ((cn : Nat) : Int) ∧ cn0 ≤ cn ∧ cn ≤ 512 ∧ SLt M g cn) → mI M g 13 = ((bc : Nat) : Int) → bc0 ≤ bc → (bc ≤ 4096 ∧ bc ≤ bc0 + b) → (r = 0 → ipG M g cn bc0 bc (shS MB g mu b)) → 0 ≤ shS MB g mu b → (r = 0 → ∃ S B, flq9 (stpq W pl nq sm N nms V (mI M0 (p + 3)) (mI M0 (p + 4))) sgL (mI M0 (p + 10) c) ((mu : Nat) : Int) bc0 zl S0 [] = flq9 (stpq W pl nq sm N nms V (mI M0 (p + 3)) (mI M0 (p + 4))) sgL (mI M0 (p + 10) c) ((mu : Nat) : Int) bc0 (zl.drop b) S B ∧ SoO nms S ∧ gxe M g V cn S ∧ B = brl M g bc0 (bc - bc0) ∧ gst9 M g V F ns W pl nq sm N nms k (fun v => sgL.getD v 0)) → (r ≠ 0 → (flq9 (stpq W pl nq sm N nms V (mI M0 (p + 3)) (mI M0 (p + 4))) sgL (mI M0 (p + 10) c) ((mu : Nat) : Int) bc0 zl S0 []).1 = (r, mI M g 10)) → h_Ga_tryCommand_146 G (d + 5) g k c r ((v - u : Nat) : Int) b M (fun r M' => tcQ M0 z g p O P K V F1 ns1 sf1 ef1 L cnt Ab0 Be0 C0 MB k cn0 r M' ∧ tcX R T g V F ns W pl nq sm N nms k sgL r M') := by
  generalize hfq : flq9 (stpq W pl nq sm N nms V (mI M0 (p + 3)) (mI M0 (p + 4))) sgL (mI M0 (p + 10) c) ((mu : Nat) : Int) bc0 = fq at hR0 hR1 ⊢
  intro t
  have fin : ∀ {b : Nat} {M : mM} {Ab Be C cn bc : Nat} {r : Int}, (r = 0 → b = v - u) → i32 r → GX M0 z g p O P K V F1 ns1 sf1 ef1 L cnt Ab0 Be0 C0 M Ab Be C → flF MB g p bc0 M → (mI M g 0 = ((cn : Nat) : Int) ∧ cn0 ≤ cn ∧ cn ≤ 512 ∧ SLt M g cn) → mI M g 13 = ((bc : Nat) : Int) → bc0 ≤ bc → (bc ≤ 4096 ∧ bc ≤ bc0 + b) → (r = 0 → ipG M g cn bc0 bc (shS MB g mu b)) → (r = 0 → ∃ S B, fq zl S0 [] = fq (zl.drop b) S B ∧ SoO nms S ∧ gxe M g V cn S ∧ B = brl M g bc0 (bc - bc0) ∧ gst9 M g V F ns W pl nq sm N nms k (fun v => sgL.getD v 0)) → (r ≠ 0 → (fq zl S0 []).1 = (r, mI M g 10)) → mK M g = 7 ∧ i32 ((mI M g 12) + 1) ∧ ∀ M84, M84 = mUI M g 12 ((mI M g 12) + 1) → mK M84 (mR M84 g 7) = 30 ∧ ((0 : Int) ≤ mI M84 g 12 ∧ mI M84 g 12 < (mN M84 (mR M84 g 7) : Int)) ∧ ∀ M88, M88 = mUI M84 (mR M84 g 7) (Int.toNat (mI M84 g 12)) (mI M84 g 13) → mK M88 (mR M88 g 4) = 30 ∧ ((0 : Int) ≤ (k : Int) + 1 ∧ (k : Int) + 1 < (mN M88 (mR M88 g 4) : Int)) ∧ ∀ M92, M92 = mUI M88 (mR M88 g 4) (Int.toNat ((k : Int) + 1)) (mI M88 g 12) → tcQ M0 z g p O P K V F1 ns1 sf1 ef1 L cnt Ab0 Be0 C0 MB k cn0 r M92 ∧ tcX R T g V F ns W pl nq sm N nms k sgL r M92 := fun {b M Ab Be C cn bc r} hb ir hx fl hcn hbc hb0 hb4 hip hfr hfl => by
    obtain ⟨h1, h2, h3, h4, h5, -⟩ := id hx
    obtain ⟨g0, ⟨-, -, -, g4, -, -, g7, -⟩, ⟨-, -, -, k4, -, -, k7, -⟩, ⟨-, -, -, n4, -, -, n7, -⟩⟩ := id h2
    have V12 := h4.2.2.1.2
    obtain ⟨fl1, fl2, fl3, fl4, fl5, fl6⟩ := fl
    have ccM : mI M g 12 = ((cc : Nat) : Int) := by rw [fl1 12 (by decide) (by decide) (by decide)]; exact hcc
    rw [ccM]
    refine ⟨g0, ⟨by omega, by omega⟩, fun M84 e84 => ?_⟩
    have f84 : FI (fun x => x = g) M M84 := by rw [e84]; exact FI.ui rfl
    have c84 : mI M84 g 12 = ((cc + 1 : Nat) : Int) := by rw [mI_ui g 12 e84, if_pos ⟨rfl, rfl⟩]; omega
    have b84 : mI M84 g 13 = ((bc : Nat) : Int) := by rw [mI_ui g 13 e84, if_neg (fun t => absurd t.2 (by decide))]; exact hbc
    rw [f84.1, f84.2.1, f84.2.2.1, g7, n7, c84, b84, Int.toNat_natCast]
    refine ⟨k7, by omega, fun M88 e88 => ?_⟩
    have f88 : FI (fun x => x = g + 7) M84 M88 := by rw [e88]; exact FI.ui rfl
    rw [f88.1, f88.2.1, f88.2.2.1, f84.1, f84.2.1, f84.2.2.1, g4, n4, f88.2.2.2.2.2.2 g (show ¬ g = g + 7 by omega), c84, show Int.toNat ((k : Int) + 1) = k + 1 by omega]
    refine ⟨k4, by omega, fun M92 e92 => ?_⟩
    have f92 : FI (fun x => x = g + 4) M88 M92 := by rw [e92]; exact FI.ui rfl
    have ff : FI (fun x => x = g ∨ x = g + 7 ∨ x = g + 4) M M92 := ((f84.mono (fun _ y => Or.inl y)).trans (f88.mono (fun _ y => Or.inr (Or.inl y)))).trans (f92.mono (fun _ y => Or.inr (Or.inr y)))
    have o92 : mOk M92 := by rw [e92]; exact mOk_UI (by rw [e88]; exact mOk_UI (by rw [e84]; exact mOk_UI h1 ⟨by omega, by omega⟩) ⟨by omega, by omega⟩) ⟨by omega, by omega⟩
    have nb : ∀ x, x ≠ g → x ≠ g + 7 → x ≠ g + 4 → mI M92 x = mI M x := fun x a b c => ff.2.2.2.2.2.2 x (fun y => y.elim a (fun y => y.elim b c))
    have i92 : ∀ i, mI M92 g i = if i = 12 then ((cc + 1 : Nat) : Int) else mI M g i := fun i => by
      rw [f92.2.2.2.2.2.2 g (show ¬ g = g + 4 by omega), f88.2.2.2.2.2.2 g (show ¬ g = g + 7 by omega)]
      by_cases y : i = 12
      · rw [if_pos y, y]; exact c84
      · rw [if_neg y, mI_ui g i e84, if_neg (fun t => y t.2)]
    have t7 : ∀ i, mI M92 (g + 7) i = if i = cc + 1 then ((bc : Nat) : Int) else mI MB (g + 7) i := fun i => by
      rw [f92.2.2.2.2.2.2 _ (show ¬ g + 7 = g + 4 by omega), mI_ui _ i e88]
      by_cases y : i = cc + 1
      · rw [if_pos ⟨rfl, y⟩, if_pos y]
      · rw [if_neg (fun t => y t.2), if_neg y, f84.2.2.2.2.2.2 _ (show ¬ g + 7 = g by omega), fl2 7 (by omega) (by omega)]
    have t4 : ∀ i, mI M92 (g + 4) i = if i = k + 1 then ((cc + 1 : Nat) : Int) else mI MB (g + 4) i := fun i => by
      rw [mI_ui _ i e92]
      by_cases y : i = k + 1
      · rw [if_pos ⟨rfl, y⟩, if_pos y]
      · rw [if_neg (fun t => y t.2), if_neg y, f88.2.2.2.2.2.2 _ (show ¬ g + 4 = g + 7 by omega), f84.2.2.2.2.2.2 _ (show ¬ g + 4 = g by omega), fl2 4 (by omega) (by omega)]
    have e8 := nb (g + 8) (by omega) (by omega) (by omega)
    have e9 := nb (g + 9) (by omega) (by omega) (by omega)
    have e6 : mI M92 (g + 6) = mI MB (g + 6) := by rw [nb (g + 6) (by omega) (by omega) (by omega), fl2 6 (by omega) (by omega)]
    have e5 : mI M92 (g + 5) = mI MB (g + 5) := by rw [nb (g + 5) (by omega) (by omega) (by omega), fl2 5 (by omega) (by omega)]
    have e2 : mI M92 (g + 2) = mI MB (g + 2) := by rw [nb (g + 2) (by omega) (by omega) (by omega), fl2 2 (by omega) (by omega)]
    have e3 : mI M92 (g + 3) = mI MB (g + 3) := by rw [nb (g + 3) (by omega) (by omega) (by omega), fl2 3 (by omega) (by omega)]
    refine ⟨⟨ir, ⟨Ab, Be, C, hx.fi o92 (ff.mono (fun x y => Or.inl (by have y' : x = g ∨ x = g + 7 ∨ x = g + 4 := y; omega)))⟩, by rw [nb _ (by omega) (by omega) (by omega)]; exact fl4, fun r0 => ?_⟩, ?_⟩
    · obtain ⟨ip1, ip2, ip3, ip4⟩ := hip r0
      rw [hb r0, hsum] at ip4
      have bcb : bc0 < bc := by
        by_cases y : bc0 < bc
        · exact y
        · rw [show bc - bc0 = 0 by omega] at ip4
          have : (0 : Int) = ((mu : Nat) : Int) := ip4
          omega
      have b8 : bc ≤ bc0 + 8 := by
        have t1 := hb r0
        have t2 := hb4.2
        omega
      refine ⟨cn, cc + 1, bc, ⟨by rw [i92, if_neg (by decide)]; exact hcn.1, hcn.2.1, hcn.2.2.1, fun i hi => by rw [nb _ (by omega) (by omega) (by omega)]; exact hcn.2.2.2 i hi⟩, by rw [i92, if_pos rfl], by rw [i92, if_neg (by decide)]; exact hbc, ⟨by omega, hb4.1, fun j hj => ?_, fun _ => ⟨?_, by rw [t7, if_pos rfl]⟩, fun y => absurd y (by omega), fun j hj => ?_, by rw [t4, if_neg (by omega)]; exact hf0, by rw [t4, if_pos rfl]⟩, fun j hj => ?_⟩
      · by_cases y : j = cc
        · subst y
          refine ⟨bc0, bc, mu, by rw [t7, if_neg (by omega)]; exact h7, by rw [t7, if_pos rfl], ⟨bcb, b8⟩, Nat.le_refl _, fun i a b => by rw [e8, e9]; exact ip3 i a b, by rw [e6]; exact h6, hmu.1, hmu.2, by rw [wsm_cg (M := M) _ (fun i _ _ => by rw [e9])]; exact ip4, by rw [e5]; exact h5t⟩
        · exact (hcm j (by omega)).cg ⟨by rw [t7, if_neg (by omega)], by rw [t7, if_neg (by omega)]⟩ (by rw [e6]) (by rw [e5]) (fun i hi => ⟨by rw [e8]; exact (fl6 i hi).1, by rw [e9]; exact (fl6 i hi).2⟩) hcn.2.1 hb0
      · rw [t7, if_neg (by omega)]
        by_cases y : 0 < cc
        · exact h70 y
        · have c0 : cc = 0 := by omega
          rw [c0] at h7
          rw [h7, h700 c0]
          rfl
      · by_cases y : j = k
        · subst y
          obtain ⟨x, y', f1, f2, f3, f4⟩ := hfc j (Nat.le_refl _)
          exact ⟨x, cc + 1, by rw [t4, if_neg (by omega)]; exact f1, by rw [t4, if_pos rfl], by omega, Nat.le_refl _⟩
        · obtain ⟨x, y', f1, f2, f3, f4⟩ := hfc j hj
          exact ⟨x, y', by rw [t4, if_neg (by omega)]; exact f1, by rw [t4, if_neg (by omega)]; exact f2, f3, by omega⟩
      · by_cases y : j = k
        · subst y
          intro x1 y1 q1 q2
          rw [t4, if_neg (by omega)] at q1
          rw [t4, if_pos rfl] at q2
          obtain ⟨x0, y0, f1, f2, f3, f4⟩ := hfc j (Nat.le_refl _)
          have g1 := hgk x0 y0 f1 f2
          rw [f1] at q1
          rw [e3]
          clear hip hgs hgk hfc hcm hch hd hfr hfl hzl hR0 hR1
          exact ⟨⟨g1.1, Or.inl (by omega)⟩, fun _ => by omega⟩
        · exact (hgs j (by omega)).cg (by rw [e2]) (by rw [e3]) (by rw [t4, if_neg (by omega)]) (by rw [t4, if_neg (by omega)])
    · by_cases r0 : r = 0
      · obtain ⟨S, B, q1, q2, q3, q4, q5⟩ := hfr r0
        rw [hb r0, List.drop_eq_nil_of_le (by omega), ← hfq] at q1
        have q1 : fq zl S0 [] = ((0, 0), S, B) := by
          rw [hfq] at q1
          rw [q1, ← hfq]
          rfl
        have cmo : ∀ c', c' < cc → cmm M92 g c' = cmm MB g c' := fun c' hc' => cmm_cg (hcm c' hc') ⟨by rw [t7, if_neg (by omega)], by rw [t7, if_neg (by omega)]⟩ (by rw [e6]) (by rw [e5]) (fun i hi => ⟨by rw [e8]; exact (fl6 i hi).1, by rw [e9]; exact (fl6 i hi).2⟩)
        have cmn : cmm M92 g cc = (c, ((mu : Nat) : Int), B) := by
          unfold cmm
          rw [e5, h5c, e6, h6, t7, if_neg (by omega), t7, if_pos rfl, h7, Int.toNat_natCast, Int.toNat_natCast, Int.toNat_natCast, q4, brl_cg (M' := M92) (M := M) _ (fun i _ _ => ⟨by rw [e8], by rw [e9]⟩)]
        have cle : cml M92 g fc (cc + 1 - fc) = cms ++ [(c, ((mu : Nat) : Int), B)] := by
          rw [show cc + 1 - fc = (cc - fc) + 1 by omega]
          show cml M92 g fc (cc - fc) ++ [cmm M92 g (fc + (cc - fc))] = _
          rw [show fc + (cc - fc) = cc by omega, cmn, cml_cg (M' := M92) (M := MB) _ (fun c' c1 c2 => cmo c' (by omega)), hcml]
        rw [hR0 S B q1]
        refine Or.inr ⟨r0, ⟨rfl, q2, ⟨cn, q3.cg V12 (by rw [i92, if_neg (by decide)]) (nb _ (by omega) (by omega) (by omega)) (nb _ (by omega) (by omega) (by omega))⟩, ?_, by rw [e2]; exact hpr, fc, cc + 1, bc, by rw [t4, if_neg (by omega)]; exact hfc4, by omega, by rw [i92, if_pos rfl], by rw [i92, if_neg (by decide)]; exact hbc, cle, ?_⟩, q5.cg (fun i _ => by rw [nb _ (by omega) (by omega) (by omega)]) (fun v _ => by rw [nb _ (by omega) (by omega) (by omega)]) (nb _ (by omega) (by omega) (by omega)) (nb _ (by omega) (by omega) (by omega)) (nb _ (by omega) (by omega) (by omega))⟩
        · rw [← hxt]
          refine xtm_cg (cc := cc) k (fun j _ => by rw [e2]) (fun j hj => by rw [t4, if_neg (by omega)]) (fun j hj => ?_) cmo
          obtain ⟨x, y', f1, f2, f3, f4⟩ := hfc j (by omega)
          rw [f2, Int.toNat_natCast]
          exact f4
        · show nbx9 T + nbq9 (cms ++ [(c, ((mu : Nat) : Int), B)]) = bc
          rw [nbq_app]
          show nbx9 T + (nbq9 cms + (B.length + 0)) = bc
          rw [q4, brl_len]
          omega
      · refine Or.inl ⟨r0, ?_⟩
        have q := hfl r0
        rw [hR1 (by rw [q]; exact r0), q, i92, if_neg (by decide)]
  induction t with
  | zero =>
    intro b M Ab Be C cn bc r ht hb ir hx fl hcn hbc hb0 hb4 hip hs0 hfr hfl
    have c60 := hx.2.2.2.1.2.2.2.2.1.2
    exact k_Ga_tryCommand_146 hx.1 (i32s (by omega) (by omega)) (i32s (by omega) (by omega)) ir (i32s (by omega) (by omega)) (i32s (by omega) (by omega)) ⟨fun _ => fin (fun _ => by omega) ir hx fl hcn hbc hb0 hb4 hip hfr hfl, fun y => absurd (Or.inl (by omega)) y⟩
  | succ t ih =>
    intro b M Ab Be C cn bc r ht hb ir hx fl hcn hbc hb0 hb4 hip hs0 hfr hfl
    have c60 := hx.2.2.2.1.2.2.2.2.1.2
    refine k_Ga_tryCommand_146 hx.1 (i32s (by omega) (by omega)) (i32s (by omega) (by omega)) ir (i32s (by omega) (by omega)) (i32s (by omega) (by omega)) ⟨fun y => fin (fun r0 => ?_) ir hx fl hcn hbc hb0 hb4 hip hfr hfl, fun y => ?_⟩
    · rcases y with y | y
      · omega
      · exact absurd r0 y
    have r0 : r = 0 := Classical.byContradiction (fun t => y (Or.inr t))
    have bn : b < v - u := by
      by_cases t : ((v - u : Nat) : Int) ≤ b
      · exact absurd (Or.inl t) y
      · omega
    subst r0
    obtain ⟨S, B, z1, z2, z3, z4, z5⟩ := hfr rfl
    obtain ⟨h1, h2, h3, h4, h5, -⟩ := id hx
    obtain ⟨g0, ⟨-, -, -, -, -, g6, -, -, -, -, -, g17, g18⟩, ⟨-, -, -, -, -, k6, -, -, -, -, k21, k22⟩, ⟨-, -, -, -, -, n6, -, -, -, -, n21, n22⟩⟩ := id h2
    have p16 := h4.1.2.2.2.2.2.2.1.2.2.2.2.2.2.2.2.2.1
    have kp16 := h4.1.2.2.2.2.2.2.2.1.2.2.2.2.2.2.2.2.2.1
    have np16 := h4.1.2.2.2.2.2.2.2.2.2.2.2.2.2.2.2.2.2.1
    have fl0 := fl
    obtain ⟨fl1, fl2, ⟨fl3, fl3'⟩, fl4, fl5, fl6⟩ := fl
    have ccM : mI M g 12 = ((cc : Nat) : Int) := by rw [fl1 12 (by decide) (by decide) (by decide)]; exact hcc
    have e1 : shS MB g mu (b + 1) = shS MB g mu b + Int.tdiv mu (mI MB (g + 22) b) * mI MB (g + 21) b := rfl
    obtain ⟨sh1, sh2⟩ := share_ok hch hd hmu.1 bn
    have shm := shS_mono hch hd hmu.1 (v - u - (b + 1)) (b + 1) (by omega) (by rw [e1]; omega)
    rw [hsum, e1] at shm
    obtain ⟨bb1, bb2, bb3, bb4⟩ := hch b bn
    obtain ⟨x, zx1, zx2, s2, zx3, zx4⟩ := hzl b bn
    have hdr : zl.drop b = (x, (mI MB (g + 21) b, mI MB (g + 22) b)) :: zl.drop (b + 1) := by
      rw [List.drop_eq_getElem_cons (by omega)]
      rw [List.getElem?_eq_getElem (by omega)] at zx1
      rw [Option.some.inj zx1]
    rw [hdr] at z1
    rw [g17, n21, Int.toNat_natCast, fl3, h5.1, p16, np16, g6, n6, g18, n22, ccM, Int.toNat_natCast, Int.toNat_natCast, fl2 6 (by omega) (by omega), h6, fl3', fl5 12 (by omega), hu]
    refine ⟨g0, k21, by omega, fun y0 => ?_, fun y0 => ⟨h4.1.1, kp16, by omega, k6, by omega, k22, by omega, by omega, by omega, ?_⟩⟩
    · refine k_Ga_tryCommand_212 h1 (i32s (by omega) (by omega)) (i32s (by omega) (by omega)) ir (i32s (by omega) (by omega)) (i32s (by omega) (by omega)) ?_
      rw [show ((b : Int) + 1) = ((b + 1 : Nat) : Int) by omega]
      have e2 : shS MB g mu (b + 1) = shS MB g mu b := by rw [e1, y0]; omega
      exact ih (b + 1) M Ab Be C cn bc 0 (by omega) (by omega) ir hx fl0 hcn hbc hb0 ⟨hb4.1, by omega⟩ (fun t => by rw [e2]; exact hip t) (by rw [e2]; exact hs0) (fun _ => ⟨S, B, by rw [z1, ← hfq, flq_0 y0], z2, z3, z4, z5⟩) (fun t => absurd rfl t)
    · have h7M : mI M (g + 7) cc = ((bc0 : Nat) : Int) := by rw [fl2 7 (by omega) (by omega)]; exact h7
      rw [show ((u : Nat) : Int) + (b : Int) = ((u + b : Nat) : Int) by omega]
      refine (x_Ga_follow (m := ((mu : Nat) : Int)) (x := (x, (mI MB (g + 21) b, mI MB (g + 22) b))) hF cx vo hx z5 (by omega) z2 z3 z4 hc hcn.2.2.1 hbc (hip rfl) y0 (by rw [Int.tdiv_eq_ediv_of_nonneg (by omega)]) (sh2 y0) (by omega) ccM hcc2 h7M (by omega) zx2 ⟨s2, zx3, zx4⟩).mono (fun r' M' q => ?_)
      rw [hfq] at q
      obtain ⟨⟨w1, w2, ⟨A', B', C', w3⟩, cn', bc', w4, w5, w6, w7, w8⟩, q⟩ := q
      refine ⟨w1, w3.1, k_Ga_tryCommand_212 w3.1 (i32s (by omega) (by omega)) (i32s (by omega) (by omega)) w1 (i32s (by omega) (by omega)) (i32s (by omega) (by omega)) ?_⟩
      rw [show ((b : Int) + 1) = ((b + 1 : Nat) : Int) by omega]
      refine ih (b + 1) M' A' B' C' cn' bc' r' (by omega) (by omega) w1 w3 (fl0.trans w2) ⟨w4.1, by omega, w4.2.2.1, w4.2.2.2⟩ w5 w6 ⟨w7.1, by omega⟩ (fun t => by rw [e1]; exact w8 t) (by rw [e1]; omega) (fun t => ?_) (fun t => ?_)
      · obtain ⟨-, S', B'', cn2, bc2, v1, v2, v3, v4, v5, v6⟩ := q.resolve_left (fun a => a.1 t)
        have ec : cn2 = cn' := by have a := v3.1; rw [w4.1] at a; omega
        have eb : bc2 = bc' := by rw [w5] at v4; omega
        subst ec
        subst eb
        exact ⟨S', B'', by rw [z1, v1], v2, v3, v5.symm, v6⟩
      · obtain ⟨-, v1⟩ := q.resolve_right (fun a => t a.1)
        rw [z1, v1]
end
