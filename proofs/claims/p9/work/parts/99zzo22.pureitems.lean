section
/-! The class's reader of texts, exactly: items, pure. -/
section TXW
variable {W pl nq E : Nat → Int} {sm : Nat → Nat → Prop} {Nn k e i j ar : Nat} {s s' : st9} {f2 X I fB : Int × Int}
theorem no34.nil : no34 W k k := ⟨Nat.le_refl _, fun j j1 j2 => absurd j2 (by omega)⟩
theorem nxq_34 (h : no34 W k e) (w : W e = 34) (hN : e ≤ k + Nn) : nxq W 34 Nn k = e := nxq_at h.1 hN w h.2
theorem vrf_z {tr : Int} {x y : Nat} (h : (vrf W E pl tr x y).1 = 0) : (fl W E pl 0 x y).1 = 0 ∧ kdq W E 0 x y = tr := by
  obtain ⟨h1, h2⟩ := fst9_1.mp h
  refine ⟨h1, Classical.byContradiction (fun u => ?_)⟩
  unfold kft at h2
  rw [if_neg u] at h2
  exact absurd h2 (by first | decide | simp)
/-- a fault that has been found stays -/
theorem fst9_k {a b : Int × Int} (h : a.1 ≠ 0) : fst9 a b = a := if_neg h
/-- a const or formula, its faults -/
theorem itc_r {nF : Nat} {f : Int × Int} {v : vrs} {co : Int} (hco : co = if W k = 3 then 1 else 0) (hf : f = fl W (E9 sm s.1 co) pl 0 (k + 3) e) (hv : v = vlq W (cv9 W nq sm s.1) pl 0 0 (k + 3) e) (hF : s.2.1.2.1 = nF) (h60 : nF ≤ 60) (kn : knf sm pl s.1 (k + 1) f2) : ((fst9 (fst9 (if nF < 60 then (0, 0) else (5, pl k)) f2) f).1 ≠ 0 → (itr W pl nq sm k e s).2.2 = fst9 (fst9 (if nF < 60 then (0, 0) else (5, pl k)) f2) f) ∧ ((fst9 (fst9 (if nF < 60 then (0, 0) else (5, pl k)) f2) f).1 = 0 → (W k = 3 → v.1 ≠ 0 → (itr W pl nq sm k e s).2.2 = (v.1, v.2.1)) ∧ ((W k = 3 → v.1 = 0) → itr W pl nq sm k e s = (s.1 ++ [(k + 1, (if W k = 3 then 1 else 2), kdq W (E9 sm s.1 co) 0 (k + 3) e, if W k = 3 then v else (0, 0, 1))], (s.2.1.1, s.2.1.2.1 + 1, s.2.1.2.2), (0, 0)))) := by
  have e0 : itr W pl nq sm k e s = if s.2.1.2.1 = 60 then (s.1, s.2.1, (5, pl k)) else if fnd9 sm s.1 (k + 1) ≠ none then (s.1, s.2.1, (2, pl (k + 1))) else if f.1 ≠ 0 then (s.1, s.2.1, f) else if (if W k = 3 then v else ((0, 0, 1) : vrs)).1 ≠ 0 then (s.1, s.2.1, ((if W k = 3 then v else ((0, 0, 1) : vrs)).1, (if W k = 3 then v else ((0, 0, 1) : vrs)).2.1)) else (s.1 ++ [(k + 1, (if W k = 3 then 1 else 2), kdq W (E9 sm s.1 co) 0 (k + 3) e, if W k = 3 then v else (0, 0, 1))], (s.2.1.1, s.2.1.2.1 + 1, s.2.1.2.2), (0, 0)) := by
    rw [hf, hv, hco]
    rfl
  rw [e0, hF]
  by_cases c1 : nF = 60
  · rw [if_pos c1, if_neg (show ¬ nF < 60 by omega), fst9_k (show ((((5 : Int), pl k)).1 : Int) ≠ 0 by simp), fst9_k (show ((((5 : Int), pl k)).1 : Int) ≠ 0 by simp)]
    exact ⟨fun _ => rfl, fun u => absurd u (by first | decide | simp)⟩
  · rw [if_neg c1, if_pos (show nF < 60 by omega), fst9_0]
    by_cases c2 : fnd9 sm s.1 (k + 1) = none
    · rw [if_neg (fun u => u c2), kn.1 c2, fst9_0]
      by_cases c3 : f.1 = 0
      · rw [if_neg (fun u => u c3)]
        refine ⟨fun u => absurd c3 u, fun _ => ⟨fun w3 v1 => ?_, fun u => ?_⟩⟩
        · rw [if_pos w3, if_pos v1]
        · rw [if_neg]
          intro u2
          by_cases w3 : W k = 3
          · rw [if_pos w3] at u2
            exact u2 (u w3)
          · rw [if_neg w3] at u2
            exact u2 rfl
      · rw [if_pos c3]
        exact ⟨fun _ => rfl, fun u => absurd u c3⟩
    · rw [if_pos c2, kn.2 c2, fst9_k (show ((((2 : Int), pl (k + 1))).1 : Int) ≠ 0 by simp)]
      exact ⟨fun _ => rfl, fun u => absurd u (by first | decide | simp)⟩
/-- a var -/
theorem itc_v {nV : Nat} {t8 i7 : Int} {lo hi be : vrs} (hV : s.2.1.1 = nV) (h12 : nV ≤ 12) (kn : knf sm pl s.1 (k + 1) f2) (hi9 : (if W (k + 3) = 5 then k + 4 else nxq W 9 (e - (k + 3)) (k + 3)) = i) (hj : W (k + 3) ≠ 5 → nxq W 16 Nn (k + 3) = j) (ht : t8 = if W (k + 3) = 5 then 1 else 0) (h7 : i7 = if W i = 9 then 1 else 0) (hX : X = if W (k + 3) = 5 then (0, 0) else fst9 (rf9 W pl sm s.1 1 0 (k + 3) j) (rf9 W pl sm s.1 1 0 (j + 1) i)) (hI : I = if W i = 9 then rf9 W pl sm s.1 1 t8 (i + 1) e else (0, 0)) (hlo : W (k + 3) ≠ 5 → lo = vlq W (cv9 W nq sm s.1) pl 0 0 (k + 3) j) (hhi : W (k + 3) ≠ 5 → hi = vlq W (cv9 W nq sm s.1) pl 0 0 (j + 1) i) (hbe : W i = 9 → be = vlq W (cv9 W nq sm s.1) pl 0 0 (i + 1) e) : ((fst9 (fst9 (fst9 (if nV < 12 then (0, 0) else (5, pl k)) f2) X) I).1 ≠ 0 → (itv W pl nq sm Nn k e s).2.2 = fst9 (fst9 (fst9 (if nV < 12 then (0, 0) else (5, pl k)) f2) X) I) ∧ ((fst9 (fst9 (fst9 (if nV < 12 then (0, 0) else (5, pl k)) f2) X) I).1 = 0 → ((sv9 t8 i7 lo hi be (pl (k + 3)) (pl (j + 1)) (pl (i + 1))).1 ≠ 0 → (itv W pl nq sm Nn k e s).2.2 = sv9 t8 i7 lo hi be (pl (k + 3)) (pl (j + 1)) (pl (i + 1))) ∧ ((sv9 t8 i7 lo hi be (pl (k + 3)) (pl (j + 1)) (pl (i + 1))).1 = 0 → itv W pl nq sm Nn k e s = svN s (k + 1) t8)) := by
  have eT : W (k + 3) = 5 ↔ t8 = 1 := by
    rw [ht]
    by_cases c : W (k + 3) = 5
    · rw [if_pos c]; exact ⟨fun _ => rfl, fun _ => c⟩
    · rw [if_neg c]; exact ⟨fun u => absurd u c, fun u => absurd u (by first | decide | simp)⟩
  have e7 : i7 = 0 ↔ W i ≠ 9 := by
    rw [h7]
    by_cases c : W i = 9
    · rw [if_pos c]; exact ⟨fun u => absurd u (by first | decide | simp), fun u => absurd c u⟩
    · rw [if_neg c]; exact ⟨fun _ => c, fun _ => rfl⟩
  have evf : vf9 W pl sm s.1 k e (nxq W 16 Nn (k + 3)) i = fst9 (fst9 X I) (0, 0) := by
    unfold vf9
    rw [hX, hI, ht]
    by_cases c : W (k + 3) = 5
    · rw [if_pos c, if_pos c, if_pos c]
    · rw [if_neg c, if_neg c, if_neg c, hj c]
  have evw : vw9 W pl nq sm s.1 k e (nxq W 16 Nn (k + 3)) i = sv9 t8 i7 lo hi be (pl (k + 3)) (pl (j + 1)) (pl (i + 1)) := by
    have e1 : vw9 W pl nq sm s.1 k e (nxq W 16 Nn (k + 3)) i = fst9 (if W (k + 3) = 5 then (0, 0) else fst9 (fst9 (wh9 (vlq W (cv9 W nq sm s.1) pl 0 0 (k + 3) (nxq W 16 Nn (k + 3))) (pl (k + 3))) (wh9 (vlq W (cv9 W nq sm s.1) pl 0 0 (nxq W 16 Nn (k + 3) + 1) i) (pl (nxq W 16 Nn (k + 3) + 1)))) (if (vlq W (cv9 W nq sm s.1) pl 0 0 (k + 3) (nxq W 16 Nn (k + 3))).2.1 ≤ (vlq W (cv9 W nq sm s.1) pl 0 0 (nxq W 16 Nn (k + 3) + 1) i).2.1 ∧ (vlq W (cv9 W nq sm s.1) pl 0 0 (nxq W 16 Nn (k + 3) + 1) i).2.1 - (vlq W (cv9 W nq sm s.1) pl 0 0 (k + 3) (nxq W 16 Nn (k + 3))).2.1 < 10000 then (0, 0) else (9, pl (nxq W 16 Nn (k + 3) + 1)))) (if W i = 9 then (if W (k + 3) = 5 then wh9 (vlq W (cv9 W nq sm s.1) pl 0 0 (i + 1) e) (pl (i + 1)) else fst9 (wh9 (vlq W (cv9 W nq sm s.1) pl 0 0 (i + 1) e) (pl (i + 1))) (if (vlq W (cv9 W nq sm s.1) pl 0 0 (k + 3) (nxq W 16 Nn (k + 3))).2.1 ≤ (vlq W (cv9 W nq sm s.1) pl 0 0 (i + 1) e).2.1 ∧ (vlq W (cv9 W nq sm s.1) pl 0 0 (i + 1) e).2.1 ≤ (vlq W (cv9 W nq sm s.1) pl 0 0 (nxq W 16 Nn (k + 3) + 1) i).2.1 then (0, 0) else (9, pl (i + 1)))) else (0, 0)) := rfl
    rw [e1]
    unfold sv9
    by_cases c : W (k + 3) = 5
    · rw [if_pos c, if_pos (eT.mp c)]
      by_cases c9 : W i = 9
      · rw [if_pos c9, if_pos c, if_neg (fun u => e7.mp u c9), if_pos (eT.mp c), hbe c9]
      · rw [if_neg c9, if_pos (e7.mpr c9)]
    · have c1 : ¬ t8 = 1 := fun u => c (eT.mpr u)
      rw [if_neg c, if_neg c1, hj c, ← hlo c, ← hhi c]
      by_cases c9 : W i = 9
      · rw [if_pos c9, if_neg c, if_neg (fun u => e7.mp u c9), if_neg c1, ← hbe c9]
      · rw [if_neg c9, if_pos (e7.mpr c9)]
  have e0 : itv W pl nq sm Nn k e s = if s.2.1.1 = 12 then (s.1, s.2.1, (5, pl k)) else if fnd9 sm s.1 (k + 1) ≠ none then (s.1, s.2.1, (2, pl (k + 1))) else if (vf9 W pl sm s.1 k e (nxq W 16 Nn (k + 3)) i).1 ≠ 0 then (s.1, s.2.1, vf9 W pl sm s.1 k e (nxq W 16 Nn (k + 3)) i) else if (vw9 W pl nq sm s.1 k e (nxq W 16 Nn (k + 3)) i).1 ≠ 0 then (s.1, s.2.1, vw9 W pl nq sm s.1 k e (nxq W 16 Nn (k + 3)) i) else (s.1 ++ [(k + 1, 3, (if W (k + 3) = 5 then 1 else 0), (0, 0, 1))], (s.2.1.1 + 1, s.2.1.2), (0, 0)) := by
    rw [← hi9]
    rfl
  rw [evf, evw] at e0
  clear evf evw hlo hhi hbe hj hX hI
  generalize sv9 t8 i7 lo hi be (pl (k + 3)) (pl (j + 1)) (pl (i + 1)) = sv at e0 ⊢
  rw [fst9_as _ X I]
  rw [e0, hV]
  by_cases c1 : nV = 12
  · rw [if_pos c1, if_neg (show ¬ nV < 12 by omega), fst9_k (show ((((5 : Int), pl k)).1 : Int) ≠ 0 by simp), fst9_k (show ((((5 : Int), pl k)).1 : Int) ≠ 0 by simp)]
    exact ⟨fun _ => rfl, fun u => absurd u (by first | decide | simp)⟩
  · rw [if_neg c1, if_pos (show nV < 12 by omega), fst9_0]
    by_cases c2 : fnd9 sm s.1 (k + 1) = none
    · rw [if_neg (fun u => u c2), kn.1 c2, fst9_0]
      generalize fst9 X I = g
      by_cases c3 : g.1 = 0
      · rw [show fst9 g (0, 0) = (0, 0) from if_pos c3, if_neg (fun u => u rfl)]
        refine ⟨fun u => absurd c3 u, fun _ => ⟨fun v1 => ?_, fun v1 => ?_⟩⟩
        · rw [if_pos v1]
        · rw [if_neg (fun u => u v1), ← ht]
          unfold svN
          rw [hV]
      · rw [show fst9 g (0, 0) = g from if_neg c3, if_pos c3]
        exact ⟨fun _ => rfl, fun u => absurd u c3⟩
    · rw [if_pos c2, kn.2 c2, fst9_k (show ((((2 : Int), pl (k + 1))).1 : Int) ≠ 0 by simp)]
      exact ⟨fun _ => rfl, fun u => absurd u (by first | decide | simp)⟩
/-- a target -/
theorem itc_t {f : Int × Int} (hf : f = rf9 W pl sm s.1 0 1 (k + 1) e) : ((fst9 (if s.2.1.2.2.2 = 0 then (0, 0) else (4, pl k)) f).1 ≠ 0 → (itt W pl sm k e s).2.2 = fst9 (if s.2.1.2.2.2 = 0 then (0, 0) else (4, pl k)) f) ∧ ((fst9 (if s.2.1.2.2.2 = 0 then (0, 0) else (4, pl k)) f).1 = 0 → itt W pl sm k e s = (s.1, (s.2.1.1, s.2.1.2.1, s.2.1.2.2.1, 1), (0, 0))) := by
  have e0 : itt W pl sm k e s = if s.2.1.2.2.2 ≠ 0 then (s.1, s.2.1, (4, pl k)) else if f.1 ≠ 0 then (s.1, s.2.1, f) else (s.1, (s.2.1.1, s.2.1.2.1, s.2.1.2.2.1, 1), (0, 0)) := by
    rw [hf]
    rfl
  rw [e0]
  by_cases c1 : s.2.1.2.2.2 = 0
  · rw [if_neg (show ¬ s.2.1.2.2.2 ≠ 0 from fun u => u c1), if_pos c1, fst9_0]
    by_cases c3 : f.1 = 0
    · rw [if_neg (fun u => u c3)]
      exact ⟨fun u => absurd c3 u, fun _ => rfl⟩
    · rw [if_pos c3]
      exact ⟨fun _ => rfl, fun u => absurd u c3⟩
  · rw [if_pos c1, if_neg c1, fst9_k (show ((((4 : Int), pl k)).1 : Int) ≠ 0 by simp)]
    exact ⟨fun _ => rfl, fun u => absurd u (by first | decide | simp)⟩
/-- a command -/
theorem itc_c {nC : Nat} {f : Int × Int} (hC : s.2.1.2.2.1 = nC) (h60 : nC ≤ 60) (hr : nxq W 17 Nn (k + 1) = ar) (hf : f = rf9 W pl sm s.1 0 1 (k + 1) ar) (hb1 : fB.1 ≠ 0 → brf W pl sm Nn s.1 e Nn (ar + 1) 0 = fB) (hb2 : fB.1 = 0 → brf W pl sm Nn s.1 e Nn (ar + 1) 0 = (0, 0)) : ((fst9 (fst9 (if nC < 60 then (0, 0) else (5, pl k)) f) fB).1 ≠ 0 → (itc W pl sm Nn 60 k e s).2.2 = fst9 (fst9 (if nC < 60 then (0, 0) else (5, pl k)) f) fB) ∧ ((fst9 (fst9 (if nC < 60 then (0, 0) else (5, pl k)) f) fB).1 = 0 → itc W pl sm Nn 60 k e s = (s.1, (s.2.1.1, s.2.1.2.1, s.2.1.2.2.1 + 1, s.2.1.2.2.2), (0, 0))) := by
  have e0 : itc W pl sm Nn 60 k e s = if s.2.1.2.2.1 = 60 then (s.1, s.2.1, (5, pl k)) else if (fst9 f (brf W pl sm Nn s.1 e Nn (ar + 1) 0)).1 ≠ 0 then (s.1, s.2.1, fst9 f (brf W pl sm Nn s.1 e Nn (ar + 1) 0)) else (s.1, (s.2.1.1, s.2.1.2.1, s.2.1.2.2.1 + 1, s.2.1.2.2.2), (0, 0)) := by
    rw [hf, ← hr]
    rfl
  rw [e0, hC]
  by_cases c1 : nC = 60
  · rw [if_pos c1, if_neg (show ¬ nC < 60 by omega), fst9_k (show ((((5 : Int), pl k)).1 : Int) ≠ 0 by simp), fst9_k (show ((((5 : Int), pl k)).1 : Int) ≠ 0 by simp)]
    exact ⟨fun _ => rfl, fun u => absurd u (by first | decide | simp)⟩
  · rw [if_neg c1, if_pos (show nC < 60 by omega), fst9_0]
    by_cases c3 : f.1 = 0
    · rw [fst9_zr c3, fst9_zr c3]
      by_cases c4 : fB.1 = 0
      · rw [hb2 c4, if_neg (fun u => u rfl)]
        exact ⟨fun u => absurd c4 u, fun _ => rfl⟩
      · rw [hb1 c4, if_pos c4]
        exact ⟨fun _ => rfl, fun u => absurd u c4⟩
    · rw [fst9_k c3, fst9_k c3, if_pos c3]
      exact ⟨fun _ => rfl, fun u => absurd u c3⟩
end TXW
end
section
/-! The class's reader of texts: the program tells the game so far. -/
/-- the vars' ranges and inits -/
def VlC (M : mM) (p : Nat) (nms : List nm9) (vl : List (Int × Int × Int)) : Prop := vl.length = vcn nms ∧ (∀ (v : Nat) (x : Int × Int × Int), vl[v]? = some x → mI M (p + 3) v = x.1 ∧ mI M (p + 4) v = x.2.1 ∧ mI M (p + 5) v = x.2.2 ∧ (x.1.natAbs ≤ 999999999 ∧ x.2.1.natAbs ≤ 999999999) ∧ x.1 ≤ x.2.2 ∧ x.2.2 ≤ x.2.1) ∧ ∀ l1 e l2, nms = l1 ++ e :: l2 → e.2.1 = 3 → e.2.2.1 = 1 → ∀ x, vl[vcn l1]? = some x → x.1 = 0 ∧ x.2.1 = 1
/-- the program tells the game so far -/
def CGm (M : mM) (p O P : Nat) (W pl nq : Nat → Int) (sm : Nat → Nat → Prop) (Nn n : Nat) (s : st9) (g : gm9) : Prop := ∃ (L : Nat) (ns : Nat → Int) (sf ef : Nat → Nat), mI M p 2 = ((L : Nat) : Int) ∧ NmO W pl sm Nn n s.1 ∧ FmC M p O P L W pl nq sm Nn n ns sf ef s.1 ∧ (∀ x, x < rcn s.1 → ns x = 7 → ef x < L) ∧ VlC M p s.1 g.1 ∧ ((g.2.1 = none → s.2.1.2.2.2 = 0) ∧ ∀ tg, g.2.1 = some tg → ∃ sT : Nat, mI M p 11 = ((sT : Nat) : Int) ∧ RuC M O P L W pl nq sm n ns ef s.1 tg.1 tg.2 sT) ∧ g.2.2.length = s.2.1.2.2.1 ∧ ∀ (c : Nat) (cm : cm9), g.2.2[c]? = some cm → CmC M p O P L (vcn s.1) W pl nq sm n ns ef s.1 c cm
section TXW
variable {p O P L L' V V' n Nn : Nat} {M0 M M' M1 : mM} {ns ns' : Nat → Int} {sf sf' ef ef' : Nat → Nat} {W pl nq : Nat → Int} {sm : Nat → Nat → Prop} {nms : List nm9} {e9 : nm9} {s s' : st9} {g : gm9}
theorem app_sp {l1 l2 : List nm9} {e : nm9} (h : nms ++ [e9] = l1 ++ e :: l2) : (l1 = nms ∧ e = e9 ∧ l2 = []) ∨ ∃ l2', l2 = l2' ++ [e9] ∧ nms = l1 ++ e :: l2' := by
  rcases List.eq_nil_or_concat l2 with y | ⟨l, b, y⟩
  · subst y
    obtain ⟨a1, a2⟩ := List.append_inj' h rfl
    refine Or.inl ⟨a1.symm, ?_, rfl⟩
    exact (List.cons.inj a2).1.symm
  · rw [List.concat_eq_append] at y
    subst y
    have h : nms ++ [e9] = (l1 ++ e :: l) ++ [b] := by rw [h]; simp
    obtain ⟨a1, a2⟩ := List.append_inj' h rfl
    exact Or.inr ⟨l, by rw [(List.cons.inj a2).1], a1⟩
/-- names so far -/
theorem NmO.add (h : NmO W pl sm Nn n nms) (h1 : 1 ≤ e9.2.1 ∧ e9.2.1 ≤ 3) (h2 : e9.2.2.1 = 0 ∨ e9.2.2.1 = 1) (h3 : e9.2.1 = 1 → vgd e9.2.2.1 e9.2.2.2) (h4 : e9.2.1 = 2 → Eo W 6 (e9.1 + 2) (nxq W 34 Nn e9.1) ∧ nxq W 34 Nn e9.1 ≤ n ∧ (fl W (E9 sm nms 0) pl 0 (e9.1 + 2) (nxq W 34 Nn e9.1)).1 = 0 ∧ e9.2.2.1 = kdq W (E9 sm nms 0) 0 (e9.1 + 2) (nxq W 34 Nn e9.1)) : NmO W pl sm Nn n (nms ++ [e9]) := fun l1 e l2 he => by
  rcases app_sp he with ⟨a, b, -⟩ | ⟨l2', -, b⟩
  · subst a
    subst b
    exact ⟨h1, h2, h3, h4⟩
  · exact h l1 e l2' b
theorem CmC.step {c : Nat} {cm : cm9} {l9 : List nm9} (h : CmC M p O P L V W pl nq sm n ns ef nms c cm) (e : ∀ i, 9 ≤ i → i ≤ 15 → mI M' (p + i) = mI M (p + i)) (cd : cdE O P L M M') (hL : L ≤ L') (hV : V ≤ V') (ne : ∀ x, x < rcn nms → ns' x = ns x ∧ ef' x = ef x) : CmC M' p O P L' V' W pl nq sm n ns' ef' (nms ++ l9) c cm := by
  obtain ⟨h1, h2, h3, ⟨sg, h4, h5⟩, u, v, h6, h7, h8, h9, h10⟩ := h
  refine ⟨by rw [e 9 (by omega) (by omega)]; exact h1, h2, by rw [e 10 (by omega) (by omega)]; exact h3, ⟨sg, by rw [e 11 (by omega) (by omega)]; exact h4, h5.step cd hL ne⟩, u, v, by rw [e 12 (by omega) (by omega)]; exact h6, by rw [e 12 (by omega) (by omega)]; exact h7, h8, h9, fun b x hb => ?_⟩
  obtain ⟨a1, ⟨s1, a2, a3⟩, s2, a4, a5⟩ := h10 b x hb
  exact ⟨by rw [e 13 (by omega) (by omega)]; exact a1, ⟨s1, by rw [e 14 (by omega) (by omega)]; exact a2, a3.step cd hL ne⟩, s2, by rw [e 15 (by omega) (by omega)]; exact a4, a5.step cd hL hV ne⟩
/-- consts and formulas so far -/
theorem FmC.add (h : FmC M p O P L W pl nq sm Nn n ns sf ef nms) (hL : L ≤ L') (cd : cdE O P L M M') (e6 : ∀ j, j < rcn nms → mI M' (p + 6) j = mI M (p + 6) j ∧ mI M' (p + 7) j = mI M (p + 7) j ∧ mI M' (p + 8) j = mI M (p + 8) j) (ne : ∀ x, x < rcn nms → ns' x = ns x ∧ sf' x = sf x ∧ ef' x = ef x) (hn : e9.2.1 ≠ 3 → ns' (rcn nms) = srt9 e9.2.1 ∧ (e9.2.1 = 1 → e9.2.2.2 = (0, mI M' (p + 6) (rcn nms), mI M' (p + 7) (rcn nms)) ∧ 1 ≤ mI M' (p + 7) (rcn nms) ∧ mI M' (p + 7) (rcn nms) < 1000000000) ∧ (e9.2.1 = 2 → mI M' (p + 8) (rcn nms) = ((sf' (rcn nms) : Nat) : Int) ∧ sf' (rcn nms) < ef' (rcn nms) ∧ ef' (rcn nms) < L' ∧ mI M' O (ef' (rcn nms)) = 0 ∧ (∀ y, y < rcn nms → ns' y = 7 → ef' y < sf' (rcn nms)) ∧ ∃ ec, LfC W nq sm n nms ec ∧ Cd W ec pl (mI M' O) (mI M' P) 0 0 0 (e9.1 + 2) (nxq W 34 Nn e9.1) (sf' (rcn nms)) (ef' (rcn nms)))) : FmC M' p O P L' W pl nq sm Nn n ns' sf' ef' (nms ++ [e9]) := fun l1 e l2 he e3 => by
  rcases app_sp he with ⟨a, b, -⟩ | ⟨l2', -, b⟩
  · subst a
    subst b
    exact hn e3
  · have rl : rcn nms = rcn l1 + rcn (e :: l2') := by rw [b, rcn_app]
    have r1 : rcn (e :: l2') = rcn l2' + 1 := by
      show rcn l2' + (if e.2.1 = 3 then 0 else 1) = _
      rw [if_neg e3]
    have xl : rcn l1 < rcn nms := by omega
    obtain ⟨f1, f2, f3⟩ := h l1 e l2' b e3
    obtain ⟨n1, n2, n3⟩ := ne _ xl
    obtain ⟨g6, g7, g8⟩ := e6 _ xl
    refine ⟨by rw [n1]; exact f1, fun y => by rw [g6, g7]; exact f2 y, fun y => ?_⟩
    obtain ⟨k1, k2, k3, k4, k5, ec, k6, k7⟩ := f3 y
    rw [n2, n3]
    exact ⟨by rw [g8]; exact k1, k2, by omega, by rw [(cd _ k3).1]; exact k4, fun y' hy h7 => by
      obtain ⟨m1, -, m3⟩ := ne y' (by omega)
      rw [m1] at h7
      rw [m3]
      exact k5 y' hy h7, ec, k6, k7.cg (fun t _ t2 => cd t (by omega))⟩
end TXW
end
