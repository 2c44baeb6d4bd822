/-! The class's reader of texts, exactly: an item is settled. -/
section TXX
variable {G : mG} {d z q w T A B D N C n p O P K Ab Be Cm V F c L cnt a nw k e e0 Nn L' : Nat} {M0 M M' M1 M2 : mM} {ns : Nat → Int} {sf ef : Nat → Nat} {H : Nat → Nat} {W pl nq E : Nat → Int} {Cf : Nat → Int × Int} {sm : Nat → Nat → Prop} {s s' : st9} {ft f2 : Int × Int} {g : gm9}
/-- the state behind the item at k -/
noncomputable def sN (W pl nq : Nat → Int) (sm : Nat → Nat → Prop) (Nn k : Nat) (s : st9) : st9 := if s.2.2.1 ≠ 0 then s else ite9 W pl nq sm Nn 60 k s
theorem sN_n (h : s.2.2.1 ≠ 0) : sN W pl nq sm Nn k s = s := if_pos h
theorem sN_r (h : s.2.2.1 = 0) (hW : W k = 3 ∨ W k = 6) (he : nxq W 34 Nn k = e) : sN W pl nq sm Nn k s = itr W pl nq sm k e s := by
  unfold sN
  rw [if_neg (fun u => u h)]
  unfold ite9
  simp only [he]
  rw [if_pos hW]
theorem sN_v (h : s.2.2.1 = 0) (hW : W k = 4) (he : nxq W 34 Nn k = e) : sN W pl nq sm Nn k s = itv W pl nq sm Nn k e s := by
  unfold sN
  rw [if_neg (fun u => u h)]
  unfold ite9
  simp only [he]
  rw [if_neg (by omega), if_pos hW]
theorem sN_t (h : s.2.2.1 = 0) (hW : W k = 11) (he : nxq W 34 Nn k = e) : sN W pl nq sm Nn k s = itt W pl sm k e s := by
  unfold sN
  rw [if_neg (fun u => u h)]
  unfold ite9
  simp only [he]
  rw [if_neg (by omega), if_neg (by omega), if_pos hW]
theorem sN_c (h : s.2.2.1 = 0) (hW : W k = 7 ∨ W k = 8) (he : nxq W 34 Nn k = e) : sN W pl nq sm Nn k s = itc W pl sm Nn 60 k e s := by
  unfold sN
  rw [if_neg (fun u => u h)]
  unfold ite9
  simp only [he]
  rw [if_neg (by omega), if_neg (by omega), if_neg (by omega)]
theorem ECq.fw {nms : List nm9} {co : Int} {s0 : Nat} (h : ECq M (q + 1) p n W nq sm nms c co E Cf) (ct : CT M (q + 1) p nms) (f : txE M q p O P s0 M') : ECq M' (q + 1) p n W nq sm nms c co E Cf := by
  refine ⟨h.1, fun _ hl => ?_⟩
  have k := h.2 ct hl
  rw [f.2.2.1 7 (by decide) (by decide), f.2.2.1 8 (by decide) (by decide)]
  exact k
theorem CSm.tx {s0 : Nat} (cs : CSm M q p s) (f : txE M q p O P s0 M') : CSm M' q p s := by
  obtain ⟨c1, c2, c3, c4, c5, c6⟩ := cs
  have e := f.2.2.2.1
  exact ⟨c1.tx f, by rw [e 3 (by decide)]; exact c2, by rw [e 7 (by decide)]; exact c3, by rw [e 12 (by decide)]; exact c4, by rw [e 11 (by decide)]; exact c5, c6⟩
theorem CSm.len (cs : CSm M q p s) (h : TX M z q w T A B D N C n p O P K Ab Be Cm V F ns sf ef c cnt L) : s.1.length = c ∧ s.2.1.1 = V ∧ s.2.1.2.1 = F ∧ s.2.1.2.2.1 = cnt := by
  obtain ⟨c1, c2, c3, c4, c5, c6⟩ := cs
  have y0 := c1.1
  have y1 := h.2.1.2.2.1.1
  have y2 := h.2.1.1.1
  have y3 := h.2.1.2.1.1
  have y4 := h.2.2.1.1
  refine ⟨?_, ?_, ?_, ?_⟩ <;> omega
theorem cv_eq {x y : Nat} (hy : y ≤ n) (eo : Eo W 6 x y) : vlq W (cvn W nq sm s.1 n) pl 0 0 x y = vlq W (cv9 W nq sm s.1) pl 0 0 x y := by
  refine vl_ci0 (fun k _ k2 => ?_) eo
  unfold cvn
  rw [if_pos (by omega)]
theorem x_TR_settleNamed_bad {Y : mM → Prop} {l1 : Int} (h4 : l1 = 4 ∨ l1 = 7) (h : TX M z q w T A B D N C n p O P K Ab Be Cm V F ns sf ef c cnt L) (hLe : L ≤ e) (hp : mI M p 2 = ((e + 1 : Nat) : Int)) (ha : mI M (q + 1) 2 = ((a : Nat) : Int)) (han : a ≤ n) (hLa : e + 1 ≤ a) (hd : mI M (q + 1) 5 = 0) (hF : FT M (q + 1) ft) (f0 : ft.1 ≠ 0) (es : s'.2.2 = ft) : Cv G y_TR_settleNamed (d + 6) [vr q, vi l1] M (fun M' => itE M z q w T A B D N C n p O P K Ab Be Cm M' ∧ itZ q p s' M' ∧ mI M' (q + 1) 2 = ((a : Nat) : Int) ∧ (s'.2.2.1 = 0 → Y M')) := by
  obtain ⟨t0, t1, t2, t3, t4, t5⟩ := h.1.2.1
  refine k_TR_settleNamed h.1.1.1 (i32s (by omega) (by omega)) ?_
  have f3 : mI M (q + 1) 3 ≠ 0 := by rw [hF.1]; exact f0
  refine ⟨t0, by rw [t1]; exact h.1.1.2.1.1, fun y0 => absurd (by rw [t1] at y0; exact y0) f3, fun y0 => ?_⟩
  exact ⟨⟨Ab, Be, Cm, V, F, ns, sf, ef, c, cnt, e + 1, a, h.any (fun _ => Nat.le_succ_of_le hLe), hp, ha, han, hLa, hd, trF.refl⟩, itZ.bad (by rw [es]; exact hF) (by rw [es]; exact f0), ha, fun t => absurd t (by rw [es]; exact f0)⟩
theorem x_st_named {l1 : Int} (hFx : FMx G) (h4 : l1 = 4 ∨ l1 = 7) (hl1 : l1 = W k + 1) (h0 : TX M z q w T A B D N C n p O P K Ab Be Cm V F ns sf ef c cnt L) (h : TX M1 z q w T A B D N C n p O P K Ab Be Cm V F ns sf ef c cnt L) (y60 : 60 ≤ F → mI M1 (q + 1) 3 ≠ 0) (cd : Cod M1 O P (vco l1 V) F (nco l1 ns) L e H 1) (hp : mI M1 p 2 = ((e + 1 : Nat) : Int)) (ha : mI M1 (q + 1) 2 = ((a : Nat) : Int)) (han : a ≤ n) (hLa : e + 1 ≤ a) (hd : mI M1 (q + 1) 5 = 0) (hn : mI M1 q 3 = ((nw : Nat) : Int) ∧ nw < n ∧ mI M1 A nw = 2) (h8 : mI M1 q 8 = 0 ∨ mI M1 q 8 = 1) (h21 : mI M1 (q + 21) 0 = ((L : Nat) : Int)) (zs : itZ q p s M) (wt : WTq M1 T A B D n W pl nq sm) (hw : W (k + 1) = 1 ∧ W (k + 2) = 23) (eo : Eo W 6 (k + 3) e0) (w34 : W e0 = 34) (e0n : e0 ≤ n) (hNn : n ≤ Nn) (ec : ECq M (q + 1) p n W nq sm s.1 c (if l1 = 4 then 1 else 0) E Cf) (hkd : mI M1 q 8 = kdq W E 0 (k + 3) e0) (kn : CT M (q + 1) p s.1 → s.1.length = c → knf sm pl s.1 (k + 1) f2) (hFT : FT M1 (q + 1) (fst9 (fst9 (fst9 s.2.2 (if F < 60 then (0, 0) else (5, pl k))) f2) (fl W E pl 0 (k + 3) e0))) (pL : mI M1 p 2 = ((L' + 1 : Nat) : Int)) (oL : mI M1 O L' = 0) (hc : Cd W Cf pl (mI M1 O) (mI M1 P) 0 0 0 (k + 3) e0 L L') (tx : txF M q p O P L M1) (q3 : mI M1 q 3 = ((k + 1 : Nat) : Int)) (hp0 : mI M p 2 = ((L : Nat) : Int)) (cg : s.2.2.1 = 0 → CGm M p O P W pl nq sm Nn n s g) : nxq W 34 Nn k = e0 ∧ Cv G y_TR_settleNamed (d + 6) [vr q, vi l1] M1 (fun M' => itE M1 z q w T A B D N C n p O P K Ab Be Cm M' ∧ itZ q p (sN W pl nq sm Nn k s) M' ∧ mI M' (q + 1) 2 = ((a : Nat) : Int) ∧ ((sN W pl nq sm Nn k s).2.2.1 = 0 → CGm M' p O P W pl nq sm Nn n (sN W pl nq sm Nn k s) g)) := by
  have wk : W k = 3 ∨ W k = 6 := by omega
  have ne : no34 W k e0 := (((no34.nil.sc (by omega)).sc (by rw [hw.1]; decide)).sc (by rw [hw.2]; decide)).eo eo
  have nx : nxq W 34 Nn k = e0 := nxq_34 ne w34 (by omega)
  refine ⟨nx, ?_⟩
  have eL : L' = e := by
    rw [hp] at pL
    omega
  subst eL
  have hnw : nw = k + 1 := by
    have := hn.1
    rw [q3] at this
    omega
  by_cases f0 : s.2.2.1 = 0
  · have cs := zs.2 f0
    have ct := cs.1
    obtain ⟨hl, eV, eF, eC⟩ := cs.len h0
    have F60 : F ≤ 60 := h.2.1.2.1.2
    have cs1 := cs.tx tx.2
    have ec1 := ec.fw ct tx.2
    have e9 : E = E9 sm s.1 (if W k = 3 then 1 else 0) := by
      have u := (ec.2 ct hl).1
      by_cases w3 : W k = 3
      · rw [if_pos (show l1 = 4 by omega), if_neg (by decide)] at u
        rw [if_pos w3]
        exact u
      · rw [if_neg (show ¬ l1 = 4 by omega), if_pos rfl] at u
        rw [if_neg w3]
        exact u
    have kn := kn ct hl
    rw [fst9_zr f0] at hFT
    obtain ⟨p1, p2⟩ := itc_r (W := W) (pl := pl) (nq := nq) (sm := sm) (k := k) (e := e0) (s := s) (nF := F) (f := fl W E pl 0 (k + 3) e0) (v := vlq W (cv9 W nq sm s.1) pl 0 0 (k + 3) e0) rfl (by rw [e9]) rfl eF F60 kn
    have es := sN_r (pl := pl) (nq := nq) (sm := sm) f0 wk nx
    rw [← es, ← e9] at p2
    rw [← es] at p1
    generalize sN W pl nq sm Nn k s = s' at p1 p2 ⊢
    have gvd : (fst9 (fst9 (if F < 60 then (0, 0) else (5, pl k)) f2) (fl W E pl 0 (k + 3) e0)).1 = 0 → l1 = 4 → vgd (kdq W E 0 (k + 3) e0) (vlq W (cv9 W nq sm s.1) pl 0 0 (k + 3) e0) := fun u l4 => ?_
    refine (x_TR_settleNamed (k0 := k) (e0 := e0) (s := s) (s' := s') (v := vlq W (cv9 W nq sm s.1) pl 0 0 (k + 3) e0) hFx h4 h y60 cd hp ha han hLa hd hn h8 h21 wt hnw cs1 ec1 hkd eo e0n hc oL hFT (fun u => (fst9_1.mp u).2) rfl gvd p1 (fun u l4 v1 => (p2 u).1 (by omega) v1) (fun u v0 => ?_)).mono (fun M' kk => ⟨kk.1, kk.2.1, kk.2.2.1, fun z => ?_⟩)
    rotate_left 2
    · subst l4
      have h9 : ∀ i, i < c → mI M1 (q + 1 + 9) i = 0 ∨ mI M1 (q + 1 + 9) i = 1 := fun i hi => (h.2.1.2.2.1.2.2 i hi).2.2
      have lf := lf_ex wt ec1 cs1.1 hl h9
      have g := vl_ok (pl := pl) (fun k a b => (lf k a b).1) _ 0 (k + 3) e0 (Nat.le_refl _) (Or.inl ⟨rfl, eo⟩) (fst9_1.mp u).2 (fun u => absurd u (by first | decide | simp)) 0
      rw [cv_eq e0n eo] at g
      exact g
    · by_cases w3 : W k = 3
      · have l4 : l1 = 4 := by omega
        have r := (p2 u).2 (fun _ => v0 l4)
        rw [if_pos w3, if_pos w3] at r
        rw [if_pos l4, if_pos l4]
        exact r
      · have l4 : ¬ l1 = 4 := by omega
        have r := (p2 u).2 (fun x => absurd x w3)
        rw [if_neg w3, if_neg w3] at r
        rw [if_neg l4, if_neg l4]
        exact r
    · have u : (fst9 (fst9 (if F < 60 then (0, 0) else (5, pl k)) f2) (fl W E pl 0 (k + 3) e0)).1 = 0 := Classical.byContradiction (fun u => u (by rw [← p1 u]; exact z))
      have sz := kk.2.2.2 z
      have f0' := (fst9_1.mp u).2
      have nx1 : nxq W 34 Nn (k + 1) = e0 := nxq_34 ⟨by have := eo.pr.1; omega, fun j j1 j2 => ne.2 j (by omega) j2⟩ w34 (by omega)
      have hk01 : kdq W E 0 (k + 3) e0 = 0 ∨ kdq W E 0 (k + 3) e0 = 1 := kd_01
      have hv4 : l1 = 4 → (vlq W (cv9 W nq sm s.1) pl 0 0 (k + 3) e0).1 = 0 := fun l4 => Classical.byContradiction (fun v1 => v1 (by
        have q := (p2 u).1 (by omega) v1
        rw [q] at z
        exact z))
      have res := CGm.named (k := k) (e0 := e0) (kq := kdq W E 0 (k + 3) e0) (Cf := Cf) (cg f0) hp0 tx.2 sz (by rw [cs.2.2.2.2.2.2.2, eF]) h4 eo e0n nx1 hk01 (fun l4 => ⟨gvd u l4, hv4 l4⟩) (fun l7 => by
        have n4 : ¬ l1 = 4 := by omega
        rw [if_neg (show ¬ W k = 3 by omega)] at e9
        rw [if_neg n4] at ec
        rw [e9] at f0' ⊢
        exact ⟨ec.lf ct hl (fun i hi => (h0.2.1.2.2.1.2.2 i hi).2.2), hc, oL, f0', rfl⟩)
      by_cases w3 : W k = 3
      · have l4 : l1 = 4 := by omega
        have r := (p2 u).2 (fun _ => hv4 l4)
        rw [if_pos w3, if_pos w3] at r
        rw [if_pos l4, if_pos l4] at res
        rw [r]
        exact res
      · have l4 : ¬ l1 = 4 := by omega
        have r := (p2 u).2 (fun x => absurd x w3)
        rw [if_neg w3, if_neg w3] at r
        rw [if_neg l4, if_neg l4] at res
        rw [r]
        exact res
  · rw [sN_n f0]
    rw [fst9_n f0, fst9_n f0, fst9_n f0] at hFT
    exact x_TR_settleNamed_bad h4 h cd.2.2.2.2.2 hp ha han hLa hd hFT f0 rfl
end TXX
