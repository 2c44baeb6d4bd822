section
/-! The class's reader of texts, exactly: items, pure. -/
section TXW
variable {W pl nq E : Nat → Int} {sm : Nat → Nat → Prop} {Nn k e i j ar : Nat} {s s' : st9} {f2 X I fB : Int × Int}
theorem no34.nil : no34 W k k := ⟨Nat.le_refl _, fun j j1 j2 => absurd j2 (by omega)⟩
theorem nxq_34 (h : no34 W k e) (w : W e = 34) (hN : e ≤ k + Nn) : nxq W 34 Nn k = e := nxq_at h.1 hN w h.2
theorem vrf_z {tr : Int} {x y : Nat} (h : (vrf W E pl tr x y).1 = 0) : (fl W E pl 0 x y).1 = 0 ∧ kdq W E 0 x y = tr := by
  obtain ⟨h1, h2⟩ := fst9_1.mp h
  refine ⟨h1, Classical.byContradiction (fun u => ?_)⟩
  unfold kft at h2
  rw [if_neg u] at h2
  exact absurd h2 (by first | decide | simp)
/-- a fault that has been found stays -/
theorem fst9_k {a b : Int × Int} (h : a.1 ≠ 0) : fst9 a b = a := if_neg h
/-- a const or formula, its faults -/
theorem itc_r {nF : Nat} {f : Int × Int} {v : vrs} {co : Int} (hco : co = if W k = 3 then 1 else 0) (hf : f = fl W (E9 sm s.1 co) pl 0 (k + 3) e) (hv : v = vlq W (cv9 W nq sm s.1) pl 0 0 (k + 3) e) (hF : s.2.1.2.1 = nF) (h60 : nF ≤ 60) (kn : knf sm pl s.1 (k + 1) f2) : ((fst9 (fst9 (if nF < 60 then (0, 0) else (5, pl k)) f2) f).1 ≠ 0 → (itr W pl nq sm k e s).2.2 = fst9 (fst9 (if nF < 60 then (0, 0) else (5, pl k)) f2) f) ∧ ((fst9 (fst9 (if nF < 60 then (0, 0) else (5, pl k)) f2) f).1 = 0 → (W k = 3 → v.1 ≠ 0 → (itr W pl nq sm k e s).2.2 = (v.1, v.2.1)) ∧ ((W k = 3 → v.1 = 0) → itr W pl nq sm k e s = (s.1 ++ [(k + 1, (if W k = 3 then 1 else 2), kdq W (E9 sm s.1 co) 0 (k + 3) e, if W k = 3 then v else (0, 0, 1))], (s.2.1.1, s.2.1.2.1 + 1, s.2.1.2.2), (0, 0)))) := by
  have e0 : itr W pl nq sm k e s = if s.2.1.2.1 = 60 then (s.1, s.2.1, (5, pl k)) else if fnd9 sm s.1 (k + 1) ≠ none then (s.1, s.2.1, (2, pl (k + 1))) else if f.1 ≠ 0 then (s.1, s.2.1, f) else if (if W k = 3 then v else ((0, 0, 1) : vrs)).1 ≠ 0 then (s.1, s.2.1, ((if W k = 3 then v else ((0, 0, 1) : vrs)).1, (if W k = 3 then v else ((0, 0, 1) : vrs)).2.1)) else (s.1 ++ [(k + 1, (if W k = 3 then 1 else 2), kdq W (E9 sm s.1 co) 0 (k + 3) e, if W k = 3 then v else (0, 0, 1))], (s.2.1.1, s.2.1.2.1 + 1, s.2.1.2.2), (0, 0)) := by
    rw [hf, hv, hco]
    rfl
  rw [e0, hF]
  by_cases c1 : nF = 60
  · rw [if_pos c1, if_neg (show ¬ nF < 60 by omega), fst9_k (show ((((5 : Int), pl k)).1 : Int) ≠ 0 by simp), fst9_k (show ((((5 : Int), pl k)).1 : Int) ≠ 0 by simp)]
    exact ⟨fun _ => rfl, fun u => absurd u (by first | decide | simp)⟩
  · rw [if_neg c1, if_pos (show nF < 60 by omega), fst9_0]
    by_cases c2 : fnd9 sm s.1 (k + 1) = none
    · rw [if_neg (fun u => u c2), kn.1 c2, fst9_0]
      by_cases c3 : f.1 = 0
      · rw [if_neg (fun u => u c3)]
        refine ⟨fun u => absurd c3 u, fun _ => ⟨fun w3 v1 => ?_, fun u => ?_⟩⟩
        · rw [if_pos w3, if_pos v1]
        · rw [if_neg]
          intro u2
          by_cases w3 : W k = 3
          · rw [if_pos w3] at u2
            exact u2 (u w3)
          · rw [if_neg w3] at u2
            exact u2 rfl
      · rw [if_pos c3]
        exact ⟨fun _ => rfl, fun u => absurd u c3⟩
    · rw [if_pos c2, kn.2 c2, fst9_k (show ((((2 : Int), pl (k + 1))).1 : Int) ≠ 0 by simp)]
      exact ⟨fun _ => rfl, fun u => absurd u (by first | decide | simp)⟩
/-- a var -/
theorem itc_v {nV : Nat} {t8 i7 : Int} {lo hi be : vrs} (hV : s.2.1.1 = nV) (h12 : nV ≤ 12) (kn : knf sm pl s.1 (k + 1) f2) (hi9 : (if W (k + 3) = 5 then k + 4 else nxq W 9 (e - (k + 3)) (k + 3)) = i) (hj : W (k + 3) ≠ 5 → nxq W 16 Nn (k + 3) = j) (ht : t8 = if W (k + 3) = 5 then 1 else 0) (h7 : i7 = if W i = 9 then 1 else 0) (hX : X = if W (k + 3) = 5 then (0, 0) else fst9 (rf9 W pl sm s.1 1 0 (k + 3) j) (rf9 W pl sm s.1 1 0 (j + 1) i)) (hI : I = if W i = 9 then rf9 W pl sm s.1 1 t8 (i + 1) e else (0, 0)) (hlo : W (k + 3) ≠ 5 → lo = vlq W (cv9 W nq sm s.1) pl 0 0 (k + 3) j) (hhi : W (k + 3) ≠ 5 → hi = vlq W (cv9 W nq sm s.1) pl 0 0 (j + 1) i) (hbe : W i = 9 → be = vlq W (cv9 W nq sm s.1) pl 0 0 (i + 1) e) : ((fst9 (fst9 (fst9 (if nV < 12 then (0, 0) else (5, pl k)) f2) X) I).1 ≠ 0 → (itv W pl nq sm Nn k e s).2.2 = fst9 (fst9 (fst9 (if nV < 12 then (0, 0) else (5, pl k)) f2) X) I) ∧ ((fst9 (fst9 (fst9 (if nV < 12 then (0, 0) else (5, pl k)) f2) X) I).1 = 0 → ((sv9 t8 i7 lo hi be (pl (k + 3)) (pl (j + 1)) (pl (i + 1))).1 ≠ 0 → (itv W pl nq sm Nn k e s).2.2 = sv9 t8 i7 lo hi be (pl (k + 3)) (pl (j + 1)) (pl (i + 1))) ∧ ((sv9 t8 i7 lo hi be (pl (k + 3)) (pl (j + 1)) (pl (i + 1))).1 = 0 → itv W pl nq sm Nn k e s = svN s (k + 1) t8)) := by
  have eT : W (k + 3) = 5 ↔ t8 = 1 := by
    rw [ht]
    by_cases c : W (k + 3) = 5
    · rw [if_pos c]; exact ⟨fun _ => rfl, fun _ => c⟩
    · rw [if_neg c]; exact ⟨fun u => absurd u c, fun u => absurd u (by first | decide | simp)⟩
  have e7 : i7 = 0 ↔ W i ≠ 9 := by
    rw [h7]
    by_cases c : W i = 9
    · rw [if_pos c]; exact ⟨fun u => absurd u (by first | decide | simp), fun u => absurd c u⟩
    · rw [if_neg c]; exact ⟨fun _ => c, fun _ => rfl⟩
  have evf : vf9 W pl sm s.1 k e (nxq W 16 Nn (k + 3)) i = fst9 (fst9 X I) (0, 0) := by
    unfold vf9
    rw [hX, hI, ht]
    by_cases c : W (k + 3) = 5
    · rw [if_pos c, if_pos c, if_pos c]
    · rw [if_neg c, if_neg c, if_neg c, hj c]
  have evw : vw9 W pl nq sm s.1 k e (nxq W 16 Nn (k + 3)) i = sv9 t8 i7 lo hi be (pl (k + 3)) (pl (j + 1)) (pl (i + 1)) := by
    have e1 : vw9 W pl nq sm s.1 k e (nxq W 16 Nn (k + 3)) i = fst9 (if W (k + 3) = 5 then (0, 0) else fst9 (fst9 (wh9 (vlq W (cv9 W nq sm s.1) pl 0 0 (k + 3) (nxq W 16 Nn (k + 3))) (pl (k + 3))) (wh9 (vlq W (cv9 W nq sm s.1) pl 0 0 (nxq W 16 Nn (k + 3) + 1) i) (pl (nxq W 16 Nn (k + 3) + 1)))) (if (vlq W (cv9 W nq sm s.1) pl 0 0 (k + 3) (nxq W 16 Nn (k + 3))).2.1 ≤ (vlq W (cv9 W nq sm s.1) pl 0 0 (nxq W 16 Nn (k + 3) + 1) i).2.1 ∧ (vlq W (cv9 W nq sm s.1) pl 0 0 (nxq W 16 Nn (k + 3) + 1) i).2.1 - (vlq W (cv9 W nq sm s.1) pl 0 0 (k + 3) (nxq W 16 Nn (k + 3))).2.1 < 10000 then (0, 0) else (9, pl (nxq W 16 Nn (k + 3) + 1)))) (if W i = 9 then (if W (k + 3) = 5 then wh9 (vlq W (cv9 W nq sm s.1) pl 0 0 (i + 1) e) (pl (i + 1)) else fst9 (wh9 (vlq W (cv9 W nq sm s.1) pl 0 0 (i + 1) e) (pl (i + 1))) (if (vlq W (cv9 W nq sm s.1) pl 0 0 (k + 3) (nxq W 16 Nn (k + 3))).2.1 ≤ (vlq W (cv9 W nq sm s.1) pl 0 0 (i + 1) e).2.1 ∧ (vlq W (cv9 W nq sm s.1) pl 0 0 (i + 1) e).2.1 ≤ (vlq W (cv9 W nq sm s.1) pl 0 0 (nxq W 16 Nn (k + 3) + 1) i).2.1 then (0, 0) else (9, pl (i + 1)))) else (0, 0)) := rfl
    rw [e1]
    unfold sv9
    by_cases c : W (k + 3) = 5
    · rw [if_pos c, if_pos (eT.mp c)]
      by_cases c9 : W i = 9
      · rw [if_pos c9, if_pos c, if_neg (fun u => e7.mp u c9), if_pos (eT.mp c), hbe c9]
      · rw [if_neg c9, if_pos (e7.mpr c9)]
    · have c1 : ¬ t8 = 1 := fun u => c (eT.mpr u)
      rw [if_neg c, if_neg c1, hj c, ← hlo c, ← hhi c]
      by_cases c9 : W i = 9
      · rw [if_pos c9, if_neg c, if_neg (fun u => e7.mp u c9), if_neg c1, ← hbe c9]
      · rw [if_neg c9, if_pos (e7.mpr c9)]
  have e0 : itv W pl nq sm Nn k e s = if s.2.1.1 = 12 then (s.1, s.2.1, (5, pl k)) else if fnd9 sm s.1 (k + 1) ≠ none then (s.1, s.2.1, (2, pl (k + 1))) else if (vf9 W pl sm s.1 k e (nxq W 16 Nn (k + 3)) i).1 ≠ 0 then (s.1, s.2.1, vf9 W pl sm s.1 k e (nxq W 16 Nn (k + 3)) i) else if (vw9 W pl nq sm s.1 k e (nxq W 16 Nn (k + 3)) i).1 ≠ 0 then (s.1, s.2.1, vw9 W pl nq sm s.1 k e (nxq W 16 Nn (k + 3)) i) else (s.1 ++ [(k + 1, 3, (if W (k + 3) = 5 then 1 else 0), (0, 0, 1))], (s.2.1.1 + 1, s.2.1.2), (0, 0)) := by
    rw [← hi9]
    rfl
  rw [evf, evw] at e0
  clear evf evw hlo hhi hbe hj hX hI
  generalize sv9 t8 i7 lo hi be (pl (k + 3)) (pl (j + 1)) (pl (i + 1)) = sv at e0 ⊢
  rw [fst9_as _ X I]
  rw [e0, hV]
  by_cases c1 : nV = 12
  · rw [if_pos c1, if_neg (show ¬ nV < 12 by omega), fst9_k (show ((((5 : Int), pl k)).1 : Int) ≠ 0 by simp), fst9_k (show ((((5 : Int), pl k)).1 : Int) ≠ 0 by simp)]
    exact ⟨fun _ => rfl, fun u => absurd u (by first | decide | simp)⟩
  · rw [if_neg c1, if_pos (show nV < 12 by omega), fst9_0]
    by_cases c2 : fnd9 sm s.1 (k + 1) = none
    · rw [if_neg (fun u => u c2), kn.1 c2, fst9_0]
      generalize fst9 X I = g
      by_cases c3 : g.1 = 0
      · rw [show fst9 g (0, 0) = (0, 0) from if_pos c3, if_neg (fun u => u rfl)]
        refine ⟨fun u => absurd c3 u, fun _ => ⟨fun v1 => ?_, fun v1 => ?_⟩⟩
        · rw [if_pos v1]
        · rw [if_neg (fun u => u v1), ← ht]
          unfold svN
          rw [hV]
      · rw [show fst9 g (0, 0) = g from if_neg c3, if_pos c3]
        exact ⟨fun _ => rfl, fun u => absurd u c3⟩
    · rw [if_pos c2, kn.2 c2, fst9_k (show ((((2 : Int), pl (k + 1))).1 : Int) ≠ 0 by simp)]
      exact ⟨fun _ => rfl, fun u => absurd u (by first | decide | simp)⟩
/-- a target -/
theorem itc_t {f : Int × Int} (hf : f = rf9 W pl sm s.1 0 1 (k + 1) e) : ((fst9 (if s.2.1.2.2.2 = 0 then (0, 0) else (4, pl k)) f).1 ≠ 0 → (itt W pl sm k e s).2.2 = fst9 (if s.2.1.2.2.2 = 0 then (0, 0) else (4, pl k)) f) ∧ ((fst9 (if s.2.1.2.2.2 = 0 then (0, 0) else (4, pl k)) f).1 = 0 → itt W pl sm k e s = (s.1, (s.2.1.1, s.2.1.2.1, s.2.1.2.2.1, 1), (0, 0))) := by
  have e0 : itt W pl sm k e s = if s.2.1.2.2.2 ≠ 0 then (s.1, s.2.1, (4, pl k)) else if f.1 ≠ 0 then (s.1, s.2.1, f) else (s.1, (s.2.1.1, s.2.1.2.1, s.2.1.2.2.1, 1), (0, 0)) := by
    rw [hf]
    rfl
  rw [e0]
  by_cases c1 : s.2.1.2.2.2 = 0
  · rw [if_neg (show ¬ s.2.1.2.2.2 ≠ 0 from fun u => u c1), if_pos c1, fst9_0]
    by_cases c3 : f.1 = 0
    · rw [if_neg (fun u => u c3)]
      exact ⟨fun u => absurd c3 u, fun _ => rfl⟩
    · rw [if_pos c3]
      exact ⟨fun _ => rfl, fun u => absurd u c3⟩
  · rw [if_pos c1, if_neg c1, fst9_k (show ((((4 : Int), pl k)).1 : Int) ≠ 0 by simp)]
    exact ⟨fun _ => rfl, fun u => absurd u (by first | decide | simp)⟩
/-- a command -/
theorem itc_c {nC : Nat} {f : Int × Int} (hC : s.2.1.2.2.1 = nC) (h60 : nC ≤ 60) (hr : nxq W 17 Nn (k + 1) = ar) (hf : f = rf9 W pl sm s.1 0 1 (k + 1) ar) (hb1 : fB.1 ≠ 0 → brf W pl sm Nn s.1 e Nn (ar + 1) 0 = fB) (hb2 : fB.1 = 0 → brf W pl sm Nn s.1 e Nn (ar + 1) 0 = (0, 0)) : ((fst9 (fst9 (if nC < 60 then (0, 0) else (5, pl k)) f) fB).1 ≠ 0 → (itc W pl sm Nn 60 k e s).2.2 = fst9 (fst9 (if nC < 60 then (0, 0) else (5, pl k)) f) fB) ∧ ((fst9 (fst9 (if nC < 60 then (0, 0) else (5, pl k)) f) fB).1 = 0 → itc W pl sm Nn 60 k e s = (s.1, (s.2.1.1, s.2.1.2.1, s.2.1.2.2.1 + 1, s.2.1.2.2.2), (0, 0))) := by
  have e0 : itc W pl sm Nn 60 k e s = if s.2.1.2.2.1 = 60 then (s.1, s.2.1, (5, pl k)) else if (fst9 f (brf W pl sm Nn s.1 e Nn (ar + 1) 0)).1 ≠ 0 then (s.1, s.2.1, fst9 f (brf W pl sm Nn s.1 e Nn (ar + 1) 0)) else (s.1, (s.2.1.1, s.2.1.2.1, s.2.1.2.2.1 + 1, s.2.1.2.2.2), (0, 0)) := by
    rw [hf, ← hr]
    rfl
  rw [e0, hC]
  by_cases c1 : nC = 60
  · rw [if_pos c1, if_neg (show ¬ nC < 60 by omega), fst9_k (show ((((5 : Int), pl k)).1 : Int) ≠ 0 by simp), fst9_k (show ((((5 : Int), pl k)).1 : Int) ≠ 0 by simp)]
    exact ⟨fun _ => rfl, fun u => absurd u (by first | decide | simp)⟩
  · rw [if_neg c1, if_pos (show nC < 60 by omega), fst9_0]
    by_cases c3 : f.1 = 0
    · rw [fst9_zr c3, fst9_zr c3]
      by_cases c4 : fB.1 = 0
      · rw [hb2 c4, if_neg (fun u => u rfl)]
        exact ⟨fun u => absurd c4 u, fun _ => rfl⟩
      · rw [hb1 c4, if_pos c4]
        exact ⟨fun _ => rfl, fun u => absurd u c4⟩
    · rw [fst9_k c3, fst9_k c3, if_pos c3]
      exact ⟨fun _ => rfl, fun u => absurd u c3⟩
end TXW
end
section
/-! The class's reader of texts, exactly: an item is settled. -/
section TXX
variable {G : mG} {d z q w T A B D N C n p O P K Ab Be Cm V F c L cnt a nw k e e0 Nn L' : Nat} {M0 M M' M1 M2 : mM} {ns : Nat → Int} {sf ef : Nat → Nat} {H : Nat → Nat} {W pl nq E : Nat → Int} {Cf : Nat → Int × Int} {sm : Nat → Nat → Prop} {s s' : st9} {ft f2 : Int × Int}
/-- the state behind the item at k -/
noncomputable def sN (W pl nq : Nat → Int) (sm : Nat → Nat → Prop) (Nn k : Nat) (s : st9) : st9 := if s.2.2.1 ≠ 0 then s else ite9 W pl nq sm Nn 60 k s
theorem sN_n (h : s.2.2.1 ≠ 0) : sN W pl nq sm Nn k s = s := if_pos h
theorem sN_r (h : s.2.2.1 = 0) (hW : W k = 3 ∨ W k = 6) (he : nxq W 34 Nn k = e) : sN W pl nq sm Nn k s = itr W pl nq sm k e s := by
  unfold sN
  rw [if_neg (fun u => u h)]
  unfold ite9
  simp only [he]
  rw [if_pos hW]
theorem sN_v (h : s.2.2.1 = 0) (hW : W k = 4) (he : nxq W 34 Nn k = e) : sN W pl nq sm Nn k s = itv W pl nq sm Nn k e s := by
  unfold sN
  rw [if_neg (fun u => u h)]
  unfold ite9
  simp only [he]
  rw [if_neg (by omega), if_pos hW]
theorem sN_t (h : s.2.2.1 = 0) (hW : W k = 11) (he : nxq W 34 Nn k = e) : sN W pl nq sm Nn k s = itt W pl sm k e s := by
  unfold sN
  rw [if_neg (fun u => u h)]
  unfold ite9
  simp only [he]
  rw [if_neg (by omega), if_neg (by omega), if_pos hW]
theorem sN_c (h : s.2.2.1 = 0) (hW : W k = 7 ∨ W k = 8) (he : nxq W 34 Nn k = e) : sN W pl nq sm Nn k s = itc W pl sm Nn 60 k e s := by
  unfold sN
  rw [if_neg (fun u => u h)]
  unfold ite9
  simp only [he]
  rw [if_neg (by omega), if_neg (by omega), if_neg (by omega)]
theorem ECq.fw {nms : List nm9} {co : Int} {s0 : Nat} (h : ECq M (q + 1) p n W nq sm nms c co E Cf) (ct : CT M (q + 1) p nms) (f : txE M q p O P s0 M') : ECq M' (q + 1) p n W nq sm nms c co E Cf := by
  refine ⟨h.1, fun _ hl => ?_⟩
  have k := h.2 ct hl
  rw [f.2.2.1 7 (by decide) (by decide), f.2.2.1 8 (by decide) (by decide)]
  exact k
theorem CSm.tx {s0 : Nat} (cs : CSm M q p s) (f : txE M q p O P s0 M') : CSm M' q p s := by
  obtain ⟨c1, c2, c3, c4, c5, c6⟩ := cs
  have e := f.2.2.2.1
  exact ⟨c1.tx f, by rw [e 3 (by decide)]; exact c2, by rw [e 7 (by decide)]; exact c3, by rw [e 12 (by decide)]; exact c4, by rw [e 11 (by decide)]; exact c5, c6⟩
theorem CSm.len (cs : CSm M q p s) (h : TX M z q w T A B D N C n p O P K Ab Be Cm V F ns sf ef c cnt L) : s.1.length = c ∧ s.2.1.1 = V ∧ s.2.1.2.1 = F ∧ s.2.1.2.2.1 = cnt := by
  obtain ⟨c1, c2, c3, c4, c5, c6⟩ := cs
  have y0 := c1.1
  have y1 := h.2.1.2.2.1.1
  have y2 := h.2.1.1.1
  have y3 := h.2.1.2.1.1
  have y4 := h.2.2.1.1
  refine ⟨?_, ?_, ?_, ?_⟩ <;> omega
theorem cv_eq {x y : Nat} (hy : y ≤ n) (eo : Eo W 6 x y) : vlq W (cvn W nq sm s.1 n) pl 0 0 x y = vlq W (cv9 W nq sm s.1) pl 0 0 x y := by
  refine vl_ci0 (fun k _ k2 => ?_) eo
  unfold cvn
  rw [if_pos (by omega)]
theorem x_TR_settleNamed_bad {l1 : Int} (h4 : l1 = 4 ∨ l1 = 7) (h : TX M z q w T A B D N C n p O P K Ab Be Cm V F ns sf ef c cnt L) (hLe : L ≤ e) (hp : mI M p 2 = ((e + 1 : Nat) : Int)) (ha : mI M (q + 1) 2 = ((a : Nat) : Int)) (han : a ≤ n) (hLa : e + 1 ≤ a) (hd : mI M (q + 1) 5 = 0) (hF : FT M (q + 1) ft) (f0 : ft.1 ≠ 0) (es : s'.2.2 = ft) : Cv G y_TR_settleNamed (d + 6) [vr q, vi l1] M (fun M' => itE M z q w T A B D N C n p O P K Ab Be Cm M' ∧ itZ q p s' M' ∧ mI M' (q + 1) 2 = ((a : Nat) : Int)) := by
  obtain ⟨t0, t1, t2, t3, t4, t5⟩ := h.1.2.1
  refine k_TR_settleNamed h.1.1.1 (i32s (by omega) (by omega)) ?_
  have f3 : mI M (q + 1) 3 ≠ 0 := by rw [hF.1]; exact f0
  refine ⟨t0, by rw [t1]; exact h.1.1.2.1.1, fun y0 => absurd (by rw [t1] at y0; exact y0) f3, fun y0 => ?_⟩
  exact ⟨⟨Ab, Be, Cm, V, F, ns, sf, ef, c, cnt, e + 1, a, h.any (fun _ => Nat.le_succ_of_le hLe), hp, ha, han, hLa, hd, trF.refl⟩, itZ.bad (by rw [es]; exact hF) (by rw [es]; exact f0), ha⟩
theorem x_st_named {l1 : Int} (hFx : FMx G) (h4 : l1 = 4 ∨ l1 = 7) (hl1 : l1 = W k + 1) (h0 : TX M z q w T A B D N C n p O P K Ab Be Cm V F ns sf ef c cnt L) (h : TX M1 z q w T A B D N C n p O P K Ab Be Cm V F ns sf ef c cnt L) (y60 : 60 ≤ F → mI M1 (q + 1) 3 ≠ 0) (cd : Cod M1 O P (vco l1 V) F (nco l1 ns) L e H 1) (hp : mI M1 p 2 = ((e + 1 : Nat) : Int)) (ha : mI M1 (q + 1) 2 = ((a : Nat) : Int)) (han : a ≤ n) (hLa : e + 1 ≤ a) (hd : mI M1 (q + 1) 5 = 0) (hn : mI M1 q 3 = ((nw : Nat) : Int) ∧ nw < n ∧ mI M1 A nw = 2) (h8 : mI M1 q 8 = 0 ∨ mI M1 q 8 = 1) (h21 : mI M1 (q + 21) 0 = ((L : Nat) : Int)) (zs : itZ q p s M) (wt : WTq M1 T A B D n W pl nq sm) (hw : W (k + 1) = 1 ∧ W (k + 2) = 23) (eo : Eo W 6 (k + 3) e0) (w34 : W e0 = 34) (e0n : e0 ≤ n) (hNn : n ≤ Nn) (ec : ECq M (q + 1) p n W nq sm s.1 c (if l1 = 4 then 1 else 0) E Cf) (hkd : mI M1 q 8 = kdq W E 0 (k + 3) e0) (kn : CT M (q + 1) p s.1 → s.1.length = c → knf sm pl s.1 (k + 1) f2) (hFT : FT M1 (q + 1) (fst9 (fst9 (fst9 s.2.2 (if F < 60 then (0, 0) else (5, pl k))) f2) (fl W E pl 0 (k + 3) e0))) (pL : mI M1 p 2 = ((L' + 1 : Nat) : Int)) (oL : mI M1 O L' = 0) (hc : Cd W Cf pl (mI M1 O) (mI M1 P) 0 0 0 (k + 3) e0 L L') (tx : txF M q p O P 0 M1) (q3 : mI M1 q 3 = ((k + 1 : Nat) : Int)) : nxq W 34 Nn k = e0 ∧ Cv G y_TR_settleNamed (d + 6) [vr q, vi l1] M1 (fun M' => itE M1 z q w T A B D N C n p O P K Ab Be Cm M' ∧ itZ q p (sN W pl nq sm Nn k s) M' ∧ mI M' (q + 1) 2 = ((a : Nat) : Int)) := by
  have wk : W k = 3 ∨ W k = 6 := by omega
  have ne : no34 W k e0 := (((no34.nil.sc (by omega)).sc (by rw [hw.1]; decide)).sc (by rw [hw.2]; decide)).eo eo
  have nx : nxq W 34 Nn k = e0 := nxq_34 ne w34 (by omega)
  refine ⟨nx, ?_⟩
  have eL : L' = e := by
    rw [hp] at pL
    omega
  subst eL
  have hnw : nw = k + 1 := by
    have := hn.1
    rw [q3] at this
    omega
  by_cases f0 : s.2.2.1 = 0
  · have cs := zs.2 f0
    have ct := cs.1
    obtain ⟨hl, eV, eF, eC⟩ := cs.len h0
    have F60 : F ≤ 60 := h.2.1.2.1.2
    have cs1 := cs.tx tx.2
    have ec1 := ec.fw ct tx.2
    have e9 : E = E9 sm s.1 (if W k = 3 then 1 else 0) := by
      have u := (ec.2 ct hl).1
      by_cases w3 : W k = 3
      · rw [if_pos (show l1 = 4 by omega), if_neg (by decide)] at u
        rw [if_pos w3]
        exact u
      · rw [if_neg (show ¬ l1 = 4 by omega), if_pos rfl] at u
        rw [if_neg w3]
        exact u
    have kn := kn ct hl
    rw [fst9_zr f0] at hFT
    obtain ⟨p1, p2⟩ := itc_r (W := W) (pl := pl) (nq := nq) (sm := sm) (k := k) (e := e0) (s := s) (nF := F) (f := fl W E pl 0 (k + 3) e0) (v := vlq W (cv9 W nq sm s.1) pl 0 0 (k + 3) e0) rfl (by rw [e9]) rfl eF F60 kn
    have es := sN_r (pl := pl) (nq := nq) (sm := sm) f0 wk nx
    rw [← es, ← e9] at p2
    rw [← es] at p1
    generalize sN W pl nq sm Nn k s = s' at p1 p2 ⊢
    refine x_TR_settleNamed (k0 := k) (e0 := e0) (s := s) (s' := s') (v := vlq W (cv9 W nq sm s.1) pl 0 0 (k + 3) e0) hFx h4 h y60 cd hp ha han hLa hd hn h8 h21 wt hnw cs1 ec1 hkd eo e0n hc oL hFT (fun u => (fst9_1.mp u).2) rfl (fun u l4 => ?_) p1 (fun u l4 v1 => (p2 u).1 (by omega) v1) (fun u v0 => ?_)
    · subst l4
      have h9 : ∀ i, i < c → mI M1 (q + 1 + 9) i = 0 ∨ mI M1 (q + 1 + 9) i = 1 := fun i hi => (h.2.1.2.2.1.2.2 i hi).2.2
      have lf := lf_ex wt ec1 cs1.1 hl h9
      have g := vl_ok (pl := pl) (fun k a b => (lf k a b).1) _ 0 (k + 3) e0 (Nat.le_refl _) (Or.inl ⟨rfl, eo⟩) (fst9_1.mp u).2 (fun u => absurd u (by first | decide | simp)) 0
      rw [cv_eq e0n eo] at g
      exact g
    · by_cases w3 : W k = 3
      · have l4 : l1 = 4 := by omega
        have r := (p2 u).2 (fun _ => v0 l4)
        rw [if_pos w3, if_pos w3] at r
        rw [if_pos l4, if_pos l4]
        exact r
      · have l4 : ¬ l1 = 4 := by omega
        have r := (p2 u).2 (fun x => absurd x w3)
        rw [if_neg w3, if_neg w3] at r
        rw [if_neg l4, if_neg l4]
        exact r
  · rw [sN_n f0]
    rw [fst9_n f0, fst9_n f0, fst9_n f0] at hFT
    exact x_TR_settleNamed_bad h4 h cd.2.2.2.2.2 hp ha han hLa hd hFT f0 rfl
end TXX
end
section
/-! The class's reader of texts, exactly: a var as an item. -/
section TXY
variable {G : mG} {d z q w T A B D N C n p O P K Ab Be Cm V F c L cnt a nw k e i j b Nn sl x y : Nat} {M0 M M' M1 M2 : mM} {ns : Nat → Int} {sf ef : Nat → Nat} {H : Nat → Nat} {W pl nq E : Nat → Int} {Cf : Nat → Int × Int} {sm : Nat → Nat → Prop} {s s' : st9} {ft f2 X I : Int × Int} {tr : Int}
theorem ec_1 (ec : ECq M (q + 1) p n W nq sm s.1 c 1 E Cf) (ct : CT M (q + 1) p s.1) (hl : s.1.length = c) : E = E9 sm s.1 1 := by
  have u := (ec.2 ct hl).1
  rw [if_neg (by decide)] at u
  exact u
theorem rw_mk (wt : WTq M1 T A B D n W pl nq sm) (h : TX M1 z q w T A B D N C n p O P K Ab Be Cm V F ns sf ef c cnt L) (ec : ECq M (q + 1) p n W nq sm s.1 c 1 E Cf) (ct : CT M (q + 1) p s.1) (hl : s.1.length = c) (tx : txF M q p O P 0 M1) (rv : rvQz W pl Cf q O P k x y b M1) (eo : Eo W 6 x y) (hz : (vrf W E pl tr x y).1 = 0) : rwE W pl (cvn W nq sm s.1 n) q p O P b k x y tr M1 := by
  have h9 : ∀ i, i < c → mI M1 (q + 1 + 9) i = 0 ∨ mI M1 (q + 1 + 9) i = 1 := fun i hi => (h.2.1.2.2.1.2.2 i hi).2.2
  exact ⟨E, Cf, rv, lf_ex wt (ec.fw ct tx.2) (ct.tx tx.2) hl h9, eo, (vrf_z hz).1, (vrf_z hz).2⟩
theorem Eo.no9 {v : Int} (eo : Eo W 6 x y) (hv : v = 9 ∨ v = 16 ∨ v = 17) (h1 : x ≤ j) (h2 : j < y) : W j ≠ v := fun u => by
  have r := eo.rw9 h1 h2
  unfold rwd at r
  omega
theorem x_st_var (hFx : FMx G) (h0 : TX M z q w T A B D N C n p O P K Ab Be Cm V F ns sf ef c cnt L) (h : TX M1 z q w T A B D N C n p O P K Ab Be Cm V F ns sf ef c cnt L) (hv : vrS M1 q A n p L sl a nw V) (h8 : mI M1 q 8 = 0 → rvR M1 q O P F ns L sl 0 ∧ rvR M1 q O P F ns L sl 1) (h7 : mI M1 q 7 ≠ 0 → rvR M1 q O P F ns L sl 2) (zs : itZ q p s M) (wt : WTq M1 T A B D n W pl nq sm) (w4 : W k = 4) (hNn : n ≤ Nn) (va : vaV W pl nq sm M q p O P n c V k s.1 s.2.2 1 M1) : ∃ e, mI M1 (q + 1) 2 = ((e + 1 : Nat) : Int) ∧ Rc W [50] 0 [50] (e + 1) ∧ k ≤ e ∧ nxq W 34 Nn k = e ∧ Cv G y_TR_settleVar (d + 6) [vr q] M1 (fun M' => itE M1 z q w T A B D N C n p O P K Ab Be Cm M' ∧ itZ q p (sN W pl nq sm Nn k s) M' ∧ mI M' (q + 1) 2 = ((a : Nat) : Int)) := by
  obtain ⟨a', ea', va⟩ := va
  obtain ⟨-, ⟨w1, w33⟩, q3, rc, e, i, b, f2, X, I, ae, w34, ⟨pb, tx⟩, kn, hFT, bo, ini⟩ := va.resolve_left (fun u => absurd u.1 (by first | decide | simp))
  clear va
  have esl : sl = b := by
    have := hv.1
    rw [pb] at this
    omega
  have hnw : nw = k + 1 := by
    have := hv.2.2.2.2.2.2.1
    rw [q3] at this
    omega
  have een : e + 1 ≤ n := by
    have u1 := hv.2.2.2.1
    have u2 := hv.2.2.2.2.1
    rw [ea', ae] at u1
    clear bo ini
    omega
  subst esl
  have n3 : no34 W k (k + 3) := (((no34.nil : no34 W k k).sc (by rw [w4]; decide)).sc (by rw [w1]; decide)).sc (by rw [w33]; decide)
  have ni : no34 W k i := by
    rcases bo with ⟨w5, ei, -, -⟩ | ⟨-, -, j, E0, E1, C0, C1, eo0, w16, eo1, -⟩
    · rw [ei]
      exact n3.sc (by rw [w5]; decide)
    · exact ((n3.eo eo0).sc (by rw [w16]; decide)).eo eo1
  have ie : i ≤ e := by
    rcases ini with ⟨-, ei, -, -⟩ | ⟨-, -, E2, C2, eo2, -⟩
    · omega
    · have := eo2.pr.1
      omega
  have ne : no34 W k e := by
    rcases ini with ⟨-, ei, -, -⟩ | ⟨w9, -, E2, C2, eo2, -⟩
    · rw [← ei]
      exact ni
    · exact (ni.sc (by rw [w9]; decide)).eo eo2
  have nx : nxq W 34 Nn k = e := nxq_34 ne w34 (by
    clear bo ini
    omega)
  refine ⟨e, by rw [← ae]; exact ea', by rw [← ae]; exact rc, ne.1, nx, ?_⟩
  by_cases f0 : s.2.2.1 = 0
  · have cs := zs.2 f0
    have ct := cs.1
    obtain ⟨hl, eV, eF, eC⟩ := cs.len h0
    have V12 : V ≤ 12 := h.2.1.1.2
    have cs1 := cs.tx tx.2
    have kn := kn ct hl
    rw [fst9_zr f0] at hFT
    have bo' : ∃ j, (W (k + 3) ≠ 5 → nxq W 16 Nn (k + 3) = j) ∧ (mI M1 q 8 = if W (k + 3) = 5 then 1 else 0) ∧ (X = if W (k + 3) = 5 then (0, 0) else fst9 (rf9 W pl sm s.1 1 0 (k + 3) j) (rf9 W pl sm s.1 1 0 (j + 1) i)) ∧ ((if W (k + 3) = 5 then k + 4 else nxq W 9 (e - (k + 3)) (k + 3)) = i) ∧ (X.1 = 0 → mI M1 q 8 = 0 → rwE W pl (cvn W nq sm s.1 n) q p O P sl 0 (k + 3) j 0 M1 ∧ rwE W pl (cvn W nq sm s.1 n) q p O P sl 1 (j + 1) i 0 M1) ∧ (W (k + 3) ≠ 5 → vlq W (cvn W nq sm s.1 n) pl 0 0 (k + 3) j = vlq W (cv9 W nq sm s.1) pl 0 0 (k + 3) j ∧ vlq W (cvn W nq sm s.1 n) pl 0 0 (j + 1) i = vlq W (cv9 W nq sm s.1) pl 0 0 (j + 1) i) := by
      rcases bo with ⟨w5, ei, q8, eX⟩ | ⟨w5, q8, j, E0, E1, C0, C1, eo0, w16, eo1, ec0, ec1, eX, rv0, rv1⟩
      · exact ⟨0, fun u => absurd w5 u, by rw [if_pos w5]; exact q8, by rw [if_pos w5]; exact eX, by rw [if_pos w5]; exact ei.symm, fun _ u => by rw [q8] at u; exact absurd u (by first | decide | simp), fun u => absurd w5 u⟩
      · have a0 := eo0.pr.1
        have a1 := eo1.pr.1
        have x0 := ec_1 ec0 ct hl
        have x1 := ec_1 ec1 ct hl
        have eX' : X = fst9 (rf9 W pl sm s.1 1 0 (k + 3) j) (rf9 W pl sm s.1 1 0 (j + 1) i) := by
          rw [eX, x0, x1]
          rfl
        have no9 : ∀ t, k + 3 ≤ t → t < i → W t ≠ 9 := fun t t1 t2 => by
          by_cases c1 : t < j
          · exact eo0.no9 (Or.inl rfl) t1 c1
          · by_cases c2 : t = j
            · rw [c2, w16]; decide
            · exact eo1.no9 (Or.inl rfl) (by omega) t2
        refine ⟨j, fun _ => nxq_at (by omega) (by clear ini; omega) w16 (fun t t1 t2 => eo0.no9 (Or.inr (Or.inl rfl)) t1 t2), by rw [if_neg w5]; exact q8, by rw [if_neg w5]; exact eX', ?_, fun u _ => ?_, fun _ => ⟨cv_eq (by clear ini; omega) eo0, cv_eq (by clear ini; omega) eo1⟩⟩
        · rw [if_neg w5]
          rcases ini with ⟨-, ei, -, -⟩ | ⟨w9, -, E2, C2, eo2, -⟩
          · rw [nxq_no (fun t t1 t2 => no9 t t1 (by omega))]
            omega
          · exact nxq_at (by omega) (by omega) w9 no9
        · rw [eX] at u
          obtain ⟨u0, u1⟩ := fst9_1.mp u
          exact ⟨rw_mk wt h ec0 ct hl tx rv0 eo0 u0, rw_mk wt h ec1 ct hl tx rv1 eo1 u1⟩
    obtain ⟨j, hj, q8, eX, hi9, r01, vlo⟩ := bo'
    clear bo
    have ini' : (mI M1 q 7 = if W i = 9 then 1 else 0) ∧ (I = if W i = 9 then rf9 W pl sm s.1 1 (mI M1 q 8) (i + 1) e else (0, 0)) ∧ (I.1 = 0 → mI M1 q 7 ≠ 0 → rwE W pl (cvn W nq sm s.1 n) q p O P sl 2 (i + 1) e (mI M1 q 8) M1) ∧ (W i = 9 → vlq W (cvn W nq sm s.1 n) pl 0 0 (i + 1) e = vlq W (cv9 W nq sm s.1) pl 0 0 (i + 1) e) := by
      rcases ini with ⟨w9, ei, q7, eI⟩ | ⟨w9, q7, E2, C2, eo2, ec2, eI, rv2⟩
      · exact ⟨by rw [if_neg w9]; exact q7, by rw [if_neg w9]; exact eI, fun _ u => absurd q7 u, fun u => absurd u w9⟩
      · have x2 := ec_1 ec2 ct hl
        refine ⟨by rw [if_pos w9]; exact q7, ?_, fun u _ => ?_, fun _ => cv_eq (by omega) eo2⟩
        · rw [if_pos w9, eI, x2]
          rfl
        · rw [eI] at u
          exact rw_mk wt h ec2 ct hl tx rv2 eo2 u
    obtain ⟨q7, eI, r2, vbe⟩ := ini'
    clear ini
    obtain ⟨p1, p2⟩ := itc_v (W := W) (pl := pl) (nq := nq) (sm := sm) (Nn := Nn) (k := k) (e := e) (s := s) (nV := V) (t8 := mI M1 q 8) (i7 := mI M1 q 7) (lo := vlq W (cvn W nq sm s.1 n) pl 0 0 (k + 3) j) (hi := vlq W (cvn W nq sm s.1 n) pl 0 0 (j + 1) i) (be := vlq W (cvn W nq sm s.1 n) pl 0 0 (i + 1) e) eV V12 kn hi9 hj q8 q7 eX eI (fun u => (vlo u).1) (fun u => (vlo u).2) vbe
    have es := sN_v (pl := pl) (nq := nq) (sm := sm) f0 w4 nx
    rw [← es] at p1 p2
    generalize sN W pl nq sm Nn k s = s' at p1 p2 ⊢
    rw [← hnw] at p2
    have zX : ∀ {A B : Int × Int}, (fst9 (fst9 (fst9 A B) X) I).1 = 0 → X.1 = 0 ∧ I.1 = 0 := fun u => ⟨(fst9_1.mp (fst9_1.mp u).1).2, (fst9_1.mp u).2⟩
    exact x_TR_settleVar (x0 := k + 3) (y0 := j) (x1 := j + 1) (y1 := i) (x2 := i + 1) (y2 := e) (s := s) (s' := s') (cv := cvn W nq sm s.1 n) (W := W) (pl := pl) hFx h hv h8 h7 hFT (fun _ => cs1) (fun u v => r01 (zX u).1 v) (fun u v => r2 (zX u).2 v) rfl rfl rfl p1 (fun u v => (p2 u).1 v) (fun u v => (p2 u).2 v)
  · rw [sN_n f0]
    rw [fst9_n f0, fst9_n f0, fst9_n f0, fst9_n f0] at hFT
    exact x_TR_settleVar (x0 := 0) (y0 := 0) (x1 := 0) (y1 := 0) (x2 := 0) (y2 := 0) (s := s) (s' := s) (cv := cvn W nq sm s.1 n) (W := W) (pl := pl) hFx h hv h8 h7 hFT (fun u => absurd u f0) (fun u => absurd u f0) (fun u => absurd u f0) rfl rfl rfl (fun _ => rfl) (fun u => absurd u f0) (fun u => absurd u f0)
end TXY
end
