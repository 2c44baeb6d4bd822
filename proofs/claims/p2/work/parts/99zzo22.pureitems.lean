section
section
/-! The class's reader of texts, exactly: items, pure. -/
section TXW
variable {W pl nq E : Nat → Int} {sm : Nat → Nat → Prop} {Nn k e i j ar : Nat} {s s' : st9} {f2 X I fB : Int × Int}
theorem no34.nil : no34 W k k := ⟨Nat.le_refl _, fun j j1 j2 => absurd j2 (by omega)⟩
theorem nxq_34 (h : no34 W k e) (w : W e = 34) (hN : e ≤ k + Nn) : nxq W 34 Nn k = e := nxq_at h.1 hN w h.2
theorem vrf_z {tr : Int} {x y : Nat} (h : (vrf W E pl tr x y).1 = 0) : (fl W E pl 0 x y).1 = 0 ∧ kdq W E 0 x y = tr := by
  obtain ⟨h1, h2⟩ := fst9_1.mp h
  refine ⟨h1, Classical.byContradiction (fun u => ?_)⟩
  unfold kft at h2
  rw [if_neg u] at h2
  exact absurd h2 (by first | decide | simp)
/-- a fault that has been found stays -/
theorem fst9_k {a b : Int × Int} (h : a.1 ≠ 0) : fst9 a b = a := if_neg h
/-- a const or formula, its faults -/
theorem itc_r {nF : Nat} {f : Int × Int} {v : vrs} {co : Int} (hco : co = if W k = 3 then 1 else 0) (hf : f = fl W (E9 sm s.1 co) pl 0 (k + 3) e) (hv : v = vlq W (cv9 W nq sm s.1) pl 0 0 (k + 3) e) (hF : s.2.1.2.1 = nF) (h60 : nF ≤ 60) (kn : knf sm pl s.1 (k + 1) f2) : ((fst9 (fst9 (if nF < 60 then (0, 0) else (5, pl k)) f2) f).1 ≠ 0 → (itr W pl nq sm k e s).2.2 = fst9 (fst9 (if nF < 60 then (0, 0) else (5, pl k)) f2) f) ∧ ((fst9 (fst9 (if nF < 60 then (0, 0) else (5, pl k)) f2) f).1 = 0 → (W k = 3 → v.1 ≠ 0 → (itr W pl nq sm k e s).2.2 = (v.1, v.2.1)) ∧ ((W k = 3 → v.1 = 0) → itr W pl nq sm k e s = (s.1 ++ [(k + 1, (if W k = 3 then 1 else 2), kdq W (E9 sm s.1 co) 0 (k + 3) e, if W k = 3 then v else (0, 0, 1))], (s.2.1.1, s.2.1.2.1 + 1, s.2.1.2.2), (0, 0)))) := by
  have e0 : itr W pl nq sm k e s = if s.2.1.2.1 = 60 then (s.1, s.2.1, (5, pl k)) else if fnd9 sm s.1 (k + 1) ≠ none then (s.1, s.2.1, (2, pl (k + 1))) else if f.1 ≠ 0 then (s.1, s.2.1, f) else if (if W k = 3 then v else ((0, 0, 1) : vrs)).1 ≠ 0 then (s.1, s.2.1, ((if W k = 3 then v else ((0, 0, 1) : vrs)).1, (if W k = 3 then v else ((0, 0, 1) : vrs)).2.1)) else (s.1 ++ [(k + 1, (if W k = 3 then 1 else 2), kdq W (E9 sm s.1 co) 0 (k + 3) e, if W k = 3 then v else (0, 0, 1))], (s.2.1.1, s.2.1.2.1 + 1, s.2.1.2.2), (0, 0)) := by
    rw [hf, hv, hco]
    rfl
  rw [e0, hF]
  by_cases c1 : nF = 60
  · rw [if_pos c1, if_neg (show ¬ nF < 60 by omega), fst9_k (show ((((5 : Int), pl k)).1 : Int) ≠ 0 by simp), fst9_k (show ((((5 : Int), pl k)).1 : Int) ≠ 0 by simp)]
    exact ⟨fun _ => rfl, fun u => absurd u (by first | decide | simp)⟩
  · rw [if_neg c1, if_pos (show nF < 60 by omega), fst9_0]
    by_cases c2 : fnd9 sm s.1 (k + 1) = none
    · rw [if_neg (fun u => u c2), kn.1 c2, fst9_0]
      by_cases c3 : f.1 = 0
      · rw [if_neg (fun u => u c3)]
        refine ⟨fun u => absurd c3 u, fun _ => ⟨fun w3 v1 => ?_, fun u => ?_⟩⟩
        · rw [if_pos w3, if_pos v1]
        · rw [if_neg]
          intro u2
          by_cases w3 : W k = 3
          · rw [if_pos w3] at u2
            exact u2 (u w3)
          · rw [if_neg w3] at u2
            exact u2 rfl
      · rw [if_pos c3]
        exact ⟨fun _ => rfl, fun u => absurd u c3⟩
    · rw [if_pos c2, kn.2 c2, fst9_k (show ((((2 : Int), pl (k + 1))).1 : Int) ≠ 0 by simp)]
      exact ⟨fun _ => rfl, fun u => absurd u (by first | decide | simp)⟩
/-- a var -/
theorem itc_v {nV : Nat} {t8 i7 : Int} {lo hi be : vrs} (hV : s.2.1.1 = nV) (h12 : nV ≤ 12) (kn : knf sm pl s.1 (k + 1) f2) (hi9 : (if W (k + 3) = 5 then k + 4 else nxq W 9 (e - (k + 3)) (k + 3)) = i) (hj : W (k + 3) ≠ 5 → nxq W 16 Nn (k + 3) = j) (ht : t8 = if W (k + 3) = 5 then 1 else 0) (h7 : i7 = if W i = 9 then 1 else 0) (hX : X = if W (k + 3) = 5 then (0, 0) else fst9 (rf9 W pl sm s.1 1 0 (k + 3) j) (rf9 W pl sm s.1 1 0 (j + 1) i)) (hI : I = if W i = 9 then rf9 W pl sm s.1 1 t8 (i + 1) e else (0, 0)) (hlo : W (k + 3) ≠ 5 → lo = vlq W (cv9 W nq sm s.1) pl 0 0 (k + 3) j) (hhi : W (k + 3) ≠ 5 → hi = vlq W (cv9 W nq sm s.1) pl 0 0 (j + 1) i) (hbe : W i = 9 → be = vlq W (cv9 W nq sm s.1) pl 0 0 (i + 1) e) : ((fst9 (fst9 (fst9 (if nV < 12 then (0, 0) else (5, pl k)) f2) X) I).1 ≠ 0 → (itv W pl nq sm Nn k e s).2.2 = fst9 (fst9 (fst9 (if nV < 12 then (0, 0) else (5, pl k)) f2) X) I) ∧ ((fst9 (fst9 (fst9 (if nV < 12 then (0, 0) else (5, pl k)) f2) X) I).1 = 0 → ((sv9 t8 i7 lo hi be (pl (k + 3)) (pl (j + 1)) (pl (i + 1))).1 ≠ 0 → (itv W pl nq sm Nn k e s).2.2 = sv9 t8 i7 lo hi be (pl (k + 3)) (pl (j + 1)) (pl (i + 1))) ∧ ((sv9 t8 i7 lo hi be (pl (k + 3)) (pl (j + 1)) (pl (i + 1))).1 = 0 → itv W pl nq sm Nn k e s = svN s (k + 1) t8)) := by
  have eT : W (k + 3) = 5 ↔ t8 = 1 := by
    rw [ht]
    by_cases c : W (k + 3) = 5
    · rw [if_pos c]; exact ⟨fun _ => rfl, fun _ => c⟩
    · rw [if_neg c]; exact ⟨fun u => absurd u c, fun u => absurd u (by first | decide | simp)⟩
  have e7 : i7 = 0 ↔ W i ≠ 9 := by
    rw [h7]
    by_cases c : W i = 9
    · rw [if_pos c]; exact ⟨fun u => absurd u (by first | decide | simp), fun u => absurd c u⟩
    · rw [if_neg c]; exact ⟨fun _ => c, fun _ => rfl⟩
  have evf : vf9 W pl sm s.1 k e (nxq W 16 Nn (k + 3)) i = fst9 (fst9 X I) (0, 0) := by
    unfold vf9
    rw [hX, hI, ht]
    by_cases c : W (k + 3) = 5
    · rw [if_pos c, if_pos c, if_pos c]
    · rw [if_neg c, if_neg c, if_neg c, hj c]
  have evw : vw9 W pl nq sm s.1 k e (nxq W 16 Nn (k + 3)) i = sv9 t8 i7 lo hi be (pl (k + 3)) (pl (j + 1)) (pl (i + 1)) := by
    have e1 : vw9 W pl nq sm s.1 k e (nxq W 16 Nn (k + 3)) i = fst9 (if W (k + 3) = 5 then (0, 0) else fst9 (fst9 (wh9 (vlq W (cv9 W nq sm s.1) pl 0 0 (k + 3) (nxq W 16 Nn (k + 3))) (pl (k + 3))) (wh9 (vlq W (cv9 W nq sm s.1) pl 0 0 (nxq W 16 Nn (k + 3) + 1) i) (pl (nxq W 16 Nn (k + 3) + 1)))) (if (vlq W (cv9 W nq sm s.1) pl 0 0 (k + 3) (nxq W 16 Nn (k + 3))).2.1 ≤ (vlq W (cv9 W nq sm s.1) pl 0 0 (nxq W 16 Nn (k + 3) + 1) i).2.1 ∧ (vlq W (cv9 W nq sm s.1) pl 0 0 (nxq W 16 Nn (k + 3) + 1) i).2.1 - (vlq W (cv9 W nq sm s.1) pl 0 0 (k + 3) (nxq W 16 Nn (k + 3))).2.1 < 10000 then (0, 0) else (9, pl (nxq W 16 Nn (k + 3) + 1)))) (if W i = 9 then (if W (k + 3) = 5 then wh9 (vlq W (cv9 W nq sm s.1) pl 0 0 (i + 1) e) (pl (i + 1)) else fst9 (wh9 (vlq W (cv9 W nq sm s.1) pl 0 0 (i + 1) e) (pl (i + 1))) (if (vlq W (cv9 W nq sm s.1) pl 0 0 (k + 3) (nxq W 16 Nn (k + 3))).2.1 ≤ (vlq W (cv9 W nq sm s.1) pl 0 0 (i + 1) e).2.1 ∧ (vlq W (cv9 W nq sm s.1) pl 0 0 (i + 1) e).2.1 ≤ (vlq W (cv9 W nq sm s.1) pl 0 0 (nxq W 16 Nn (k + 3) + 1) i).2.1 then (0, 0) else (9, pl (i + 1)))) else (0, 0)) := rfl
    rw [e1]
    unfold sv9
    by_cases c : W (k + 3) = 5
    · rw [if_pos c, if_pos (eT.mp c)]
      by_cases c9 : W i = 9
      · rw [if_pos c9, if_pos c, if_neg (fun u => e7.mp u c9), if_pos (eT.mp c), hbe c9]
      · rw [if_neg c9, if_pos (e7.mpr c9)]
    · have c1 : ¬ t8 = 1 := fun u => c (eT.mpr u)
      rw [if_neg c, if_neg c1, hj c, ← hlo c, ← hhi c]
      by_cases c9 : W i = 9
      · rw [if_pos c9, if_neg c, if_neg (fun u => e7.mp u c9), if_neg c1, ← hbe c9]
      · rw [if_neg c9, if_pos (e7.mpr c9)]
  have e0 : itv W pl nq sm Nn k e s = if s.2.1.1 = 12 then (s.1, s.2.1, (5, pl k)) else if fnd9 sm s.1 (k + 1) ≠ none then (s.1, s.2.1, (2, pl (k + 1))) else if (vf9 W pl sm s.1 k e (nxq W 16 Nn (k + 3)) i).1 ≠ 0 then (s.1, s.2.1, vf9 W pl sm s.1 k e (nxq W 16 Nn (k + 3)) i) else if (vw9 W pl nq sm s.1 k e (nxq W 16 Nn (k + 3)) i).1 ≠ 0 then (s.1, s.2.1, vw9 W pl nq sm s.1 k e (nxq W 16 Nn (k + 3)) i) else (s.1 ++ [(k + 1, 3, (if W (k + 3) = 5 then 1 else 0), (0, 0, 1))], (s.2.1.1 + 1, s.2.1.2), (0, 0)) := by
    rw [← hi9]
    rfl
  rw [evf, evw] at e0
  clear evf evw hlo hhi hbe hj hX hI
  generalize sv9 t8 i7 lo hi be (pl (k + 3)) (pl (j + 1)) (pl (i + 1)) = sv at e0 ⊢
  rw [fst9_as _ X I]
  rw [e0, hV]
  by_cases c1 : nV = 12
  · rw [if_pos c1, if_neg (show ¬ nV < 12 by omega), fst9_k (show ((((5 : Int), pl k)).1 : Int) ≠ 0 by simp), fst9_k (show ((((5 : Int), pl k)).1 : Int) ≠ 0 by simp)]
    exact ⟨fun _ => rfl, fun u => absurd u (by first | decide | simp)⟩
  · rw [if_neg c1, if_pos (show nV < 12 by omega), fst9_0]
    by_cases c2 : fnd9 sm s.1 (k + 1) = none
    · rw [if_neg (fun u => u c2), kn.1 c2, fst9_0]
      generalize fst9 X I = g
      by_cases c3 : g.1 = 0
      · rw [show fst9 g (0, 0) = (0, 0) from if_pos c3, if_neg (fun u => u rfl)]
        refine ⟨fun u => absurd c3 u, fun _ => ⟨fun v1 => ?_, fun v1 => ?_⟩⟩
        · rw [if_pos v1]
        · rw [if_neg (fun u => u v1), ← ht]
          unfold svN
          rw [hV]
      · rw [show fst9 g (0, 0) = g from if_neg c3, if_pos c3]
        exact ⟨fun _ => rfl, fun u => absurd u c3⟩
    · rw [if_pos c2, kn.2 c2, fst9_k (show ((((2 : Int), pl (k + 1))).1 : Int) ≠ 0 by simp)]
      exact ⟨fun _ => rfl, fun u => absurd u (by first | decide | simp)⟩
/-- a target -/
theorem itc_t {f : Int × Int} (hf : f = rf9 W pl sm s.1 0 1 (k + 1) e) : ((fst9 (if s.2.1.2.2.2 = 0 then (0, 0) else (4, pl k)) f).1 ≠ 0 → (itt W pl sm k e s).2.2 = fst9 (if s.2.1.2.2.2 = 0 then (0, 0) else (4, pl k)) f) ∧ ((fst9 (if s.2.1.2.2.2 = 0 then (0, 0) else (4, pl k)) f).1 = 0 → itt W pl sm k e s = (s.1, (s.2.1.1, s.2.1.2.1, s.2.1.2.2.1, 1), (0, 0))) := by
  have e0 : itt W pl sm k e s = if s.2.1.2.2.2 ≠ 0 then (s.1, s.2.1, (4, pl k)) else if f.1 ≠ 0 then (s.1, s.2.1, f) else (s.1, (s.2.1.1, s.2.1.2.1, s.2.1.2.2.1, 1), (0, 0)) := by
    rw [hf]
    rfl
  rw [e0]
  by_cases c1 : s.2.1.2.2.2 = 0
  · rw [if_neg (show ¬ s.2.1.2.2.2 ≠ 0 from fun u => u c1), if_pos c1, fst9_0]
    by_cases c3 : f.1 = 0
    · rw [if_neg (fun u => u c3)]
      exact ⟨fun u => absurd c3 u, fun _ => rfl⟩
    · rw [if_pos c3]
      exact ⟨fun _ => rfl, fun u => absurd u c3⟩
  · rw [if_pos c1, if_neg c1, fst9_k (show ((((4 : Int), pl k)).1 : Int) ≠ 0 by simp)]
    exact ⟨fun _ => rfl, fun u => absurd u (by first | decide | simp)⟩
/-- a command -/
theorem itc_c {nC : Nat} {f : Int × Int} (hC : s.2.1.2.2.1 = nC) (h60 : nC ≤ 60) (hr : nxq W 17 Nn (k + 1) = ar) (hf : f = rf9 W pl sm s.1 0 1 (k + 1) ar) (hb1 : fB.1 ≠ 0 → brf W pl sm Nn s.1 e Nn (ar + 1) 0 = fB) (hb2 : fB.1 = 0 → brf W pl sm Nn s.1 e Nn (ar + 1) 0 = (0, 0)) : ((fst9 (fst9 (if nC < 60 then (0, 0) else (5, pl k)) f) fB).1 ≠ 0 → (itc W pl sm Nn 60 k e s).2.2 = fst9 (fst9 (if nC < 60 then (0, 0) else (5, pl k)) f) fB) ∧ ((fst9 (fst9 (if nC < 60 then (0, 0) else (5, pl k)) f) fB).1 = 0 → itc W pl sm Nn 60 k e s = (s.1, (s.2.1.1, s.2.1.2.1, s.2.1.2.2.1 + 1, s.2.1.2.2.2), (0, 0))) := by
  have e0 : itc W pl sm Nn 60 k e s = if s.2.1.2.2.1 = 60 then (s.1, s.2.1, (5, pl k)) else if (fst9 f (brf W pl sm Nn s.1 e Nn (ar + 1) 0)).1 ≠ 0 then (s.1, s.2.1, fst9 f (brf W pl sm Nn s.1 e Nn (ar + 1) 0)) else (s.1, (s.2.1.1, s.2.1.2.1, s.2.1.2.2.1 + 1, s.2.1.2.2.2), (0, 0)) := by
    rw [hf, ← hr]
    rfl
  rw [e0, hC]
  by_cases c1 : nC = 60
  · rw [if_pos c1, if_neg (show ¬ nC < 60 by omega), fst9_k (show ((((5 : Int), pl k)).1 : Int) ≠ 0 by simp), fst9_k (show ((((5 : Int), pl k)).1 : Int) ≠ 0 by simp)]
    exact ⟨fun _ => rfl, fun u => absurd u (by first | decide | simp)⟩
  · rw [if_neg c1, if_pos (show nC < 60 by omega), fst9_0]
    by_cases c3 : f.1 = 0
    · rw [fst9_zr c3, fst9_zr c3]
      by_cases c4 : fB.1 = 0
      · rw [hb2 c4, if_neg (fun u => u rfl)]
        exact ⟨fun u => absurd c4 u, fun _ => rfl⟩
      · rw [hb1 c4, if_pos c4]
        exact ⟨fun _ => rfl, fun u => absurd u c4⟩
    · rw [fst9_k c3, fst9_k c3, if_pos c3]
      exact ⟨fun _ => rfl, fun u => absurd u c3⟩
end TXW
end
section
/-! The class's reader of texts: the program tells the game so far. -/
/-- the vars' ranges and inits -/
def VlC (M : mM) (p : Nat) (nms : List nm9) (vl : List (Int × Int × Int)) : Prop := vl.length = vcn nms ∧ (∀ (v : Nat) (x : Int × Int × Int), vl[v]? = some x → mI M (p + 3) v = x.1 ∧ mI M (p + 4) v = x.2.1 ∧ mI M (p + 5) v = x.2.2 ∧ (x.1.natAbs ≤ 999999999 ∧ x.2.1.natAbs ≤ 999999999) ∧ x.1 ≤ x.2.2 ∧ x.2.2 ≤ x.2.1) ∧ ∀ l1 e l2, nms = l1 ++ e :: l2 → e.2.1 = 3 → e.2.2.1 = 1 → ∀ x, vl[vcn l1]? = some x → x.1 = 0 ∧ x.2.1 = 1
/-- the program tells the game so far -/
def CGm (M : mM) (p O P : Nat) (W pl nq : Nat → Int) (sm : Nat → Nat → Prop) (Nn n : Nat) (s : st9) (g : gm9) : Prop := ∃ (L : Nat) (ns : Nat → Int) (sf ef : Nat → Nat), mI M p 2 = ((L : Nat) : Int) ∧ NmO W pl sm Nn n s.1 ∧ FmC M p O P L W pl nq sm Nn n ns sf ef s.1 ∧ (∀ x, x < rcn s.1 → ns x = 7 → ef x < L) ∧ VlC M p s.1 g.1 ∧ ((g.2.1 = none → s.2.1.2.2.2 = 0) ∧ ∀ tg, g.2.1 = some tg → ∃ sT : Nat, mI M p 11 = ((sT : Nat) : Int) ∧ RuC M O P L W pl nq sm n ns ef s.1 tg.1 tg.2 sT) ∧ g.2.2.length = s.2.1.2.2.1 ∧ ∀ (c : Nat) (cm : cm9), g.2.2[c]? = some cm → CmC M p O P L (vcn s.1) W pl nq sm n ns ef s.1 c cm
section TXW
variable {p O P L L' V V' n Nn : Nat} {M0 M M' M1 : mM} {ns ns' : Nat → Int} {sf sf' ef ef' : Nat → Nat} {W pl nq : Nat → Int} {sm : Nat → Nat → Prop} {nms : List nm9} {e9 : nm9} {s s' : st9} {g : gm9}
theorem app_sp {l1 l2 : List nm9} {e : nm9} (h : nms ++ [e9] = l1 ++ e :: l2) : (l1 = nms ∧ e = e9 ∧ l2 = []) ∨ ∃ l2', l2 = l2' ++ [e9] ∧ nms = l1 ++ e :: l2' := by
  rcases List.eq_nil_or_concat l2 with y | ⟨l, b, y⟩
  · subst y
    obtain ⟨a1, a2⟩ := List.append_inj' h rfl
    refine Or.inl ⟨a1.symm, ?_, rfl⟩
    exact (List.cons.inj a2).1.symm
  · rw [List.concat_eq_append] at y
    subst y
    have h : nms ++ [e9] = (l1 ++ e :: l) ++ [b] := by rw [h]; simp
    obtain ⟨a1, a2⟩ := List.append_inj' h rfl
    exact Or.inr ⟨l, by rw [(List.cons.inj a2).1], a1⟩
/-- names so far -/
theorem NmO.add (h : NmO W pl sm Nn n nms) (h1 : 1 ≤ e9.2.1 ∧ e9.2.1 ≤ 3) (h2 : e9.2.2.1 = 0 ∨ e9.2.2.1 = 1) (h3 : e9.2.1 = 1 → vgd e9.2.2.1 e9.2.2.2) (h4 : e9.2.1 = 2 → Eo W 6 (e9.1 + 2) (nxq W 34 Nn e9.1) ∧ nxq W 34 Nn e9.1 ≤ n ∧ (fl W (E9 sm nms 0) pl 0 (e9.1 + 2) (nxq W 34 Nn e9.1)).1 = 0 ∧ e9.2.2.1 = kdq W (E9 sm nms 0) 0 (e9.1 + 2) (nxq W 34 Nn e9.1)) : NmO W pl sm Nn n (nms ++ [e9]) := fun l1 e l2 he => by
  rcases app_sp he with ⟨a, b, -⟩ | ⟨l2', -, b⟩
  · subst a
    subst b
    exact ⟨h1, h2, h3, h4⟩
  · exact h l1 e l2' b
theorem CmC.step {c : Nat} {cm : cm9} {l9 : List nm9} (h : CmC M p O P L V W pl nq sm n ns ef nms c cm) (e : ∀ i, 9 ≤ i → i ≤ 15 → mI M' (p + i) = mI M (p + i)) (cd : cdE O P L M M') (hL : L ≤ L') (hV : V ≤ V') (ne : ∀ x, x < rcn nms → ns' x = ns x ∧ ef' x = ef x) : CmC M' p O P L' V' W pl nq sm n ns' ef' (nms ++ l9) c cm := by
  obtain ⟨h1, h2, h3, ⟨sg, h4, h5⟩, u, v, h6, h7, h8, h9, h10⟩ := h
  refine ⟨by rw [e 9 (by omega) (by omega)]; exact h1, h2, by rw [e 10 (by omega) (by omega)]; exact h3, ⟨sg, by rw [e 11 (by omega) (by omega)]; exact h4, h5.step cd hL ne⟩, u, v, by rw [e 12 (by omega) (by omega)]; exact h6, by rw [e 12 (by omega) (by omega)]; exact h7, h8, h9, fun b x hb => ?_⟩
  obtain ⟨a1, ⟨s1, a2, a3⟩, s2, a4, a5⟩ := h10 b x hb
  exact ⟨by rw [e 13 (by omega) (by omega)]; exact a1, ⟨s1, by rw [e 14 (by omega) (by omega)]; exact a2, a3.step cd hL ne⟩, s2, by rw [e 15 (by omega) (by omega)]; exact a4, a5.step cd hL hV ne⟩
/-- consts and formulas so far -/
theorem FmC.add (h : FmC M p O P L W pl nq sm Nn n ns sf ef nms) (hL : L ≤ L') (cd : cdE O P L M M') (e6 : ∀ j, j < rcn nms → mI M' (p + 6) j = mI M (p + 6) j ∧ mI M' (p + 7) j = mI M (p + 7) j ∧ mI M' (p + 8) j = mI M (p + 8) j) (ne : ∀ x, x < rcn nms → ns' x = ns x ∧ sf' x = sf x ∧ ef' x = ef x) (hn : e9.2.1 ≠ 3 → ns' (rcn nms) = srt9 e9.2.1 ∧ (e9.2.1 = 1 → e9.2.2.2 = (0, mI M' (p + 6) (rcn nms), mI M' (p + 7) (rcn nms)) ∧ 1 ≤ mI M' (p + 7) (rcn nms) ∧ mI M' (p + 7) (rcn nms) < 1000000000) ∧ (e9.2.1 = 2 → mI M' (p + 8) (rcn nms) = ((sf' (rcn nms) : Nat) : Int) ∧ sf' (rcn nms) < ef' (rcn nms) ∧ ef' (rcn nms) < L' ∧ mI M' O (ef' (rcn nms)) = 0 ∧ (∀ y, y < rcn nms → ns' y = 7 → ef' y < sf' (rcn nms)) ∧ ∃ ec, LfC W nq sm n nms ec ∧ Cd W ec pl (mI M' O) (mI M' P) 0 0 0 (e9.1 + 2) (nxq W 34 Nn e9.1) (sf' (rcn nms)) (ef' (rcn nms)))) : FmC M' p O P L' W pl nq sm Nn n ns' sf' ef' (nms ++ [e9]) := fun l1 e l2 he e3 => by
  rcases app_sp he with ⟨a, b, -⟩ | ⟨l2', -, b⟩
  · subst a
    subst b
    exact hn e3
  · have rl : rcn nms = rcn l1 + rcn (e :: l2') := by rw [b, rcn_app]
    have r1 : rcn (e :: l2') = rcn l2' + 1 := by
      show rcn l2' + (if e.2.1 = 3 then 0 else 1) = _
      rw [if_neg e3]
    have xl : rcn l1 < rcn nms := by omega
    obtain ⟨f1, f2, f3⟩ := h l1 e l2' b e3
    obtain ⟨n1, n2, n3⟩ := ne _ xl
    obtain ⟨g6, g7, g8⟩ := e6 _ xl
    refine ⟨by rw [n1]; exact f1, fun y => by rw [g6, g7]; exact f2 y, fun y => ?_⟩
    obtain ⟨k1, k2, k3, k4, k5, ec, k6, k7⟩ := f3 y
    rw [n2, n3]
    exact ⟨by rw [g8]; exact k1, k2, by omega, by rw [(cd _ k3).1]; exact k4, fun y' hy h7 => by
      obtain ⟨m1, -, m3⟩ := ne y' (by omega)
      rw [m1] at h7
      rw [m3]
      exact k5 y' hy h7, ec, k6, k7.cg (fun t _ t2 => cd t (by omega))⟩
end TXW
end
end
section
section
/-! The class's reader of texts: consts, formulas, vars and targets keep the game. -/
section TXV2
variable {q p O P L L' V F n c Nn k e e0 r : Nat} {M0 M M' M1 M2 : mM} {ns : Nat → Int} {sf ef : Nat → Nat} {W pl nq E : Nat → Int} {Cf : Nat → Int × Int} {sm : Nat → Nat → Prop} {nms : List nm9} {s s' : st9} {g : gm9} {v : vrs}
/-- a const or a formula keeps the game -/
theorem CGm.named {l1 kq : Int} (cg : CGm M p O P W pl nq sm Nn n s g) (hp : mI M p 2 = ((L : Nat) : Int)) (tx : txE M q p O P L M1) (sz : snZ p O P F L e l1 v M1 M2) (hF : rcn s.1 = F) (h4 : l1 = 4 ∨ l1 = 7) (eo : Eo W 6 (k + 3) e0) (e0n : e0 ≤ n) (nx : nxq W 34 Nn (k + 1) = e0) (hk : kq = 0 ∨ kq = 1) (gv : l1 = 4 → vgd kq v ∧ v.1 = 0) (hf : l1 = 7 → LfC W nq sm n s.1 Cf ∧ Cd W Cf pl (mI M1 O) (mI M1 P) 0 0 0 (k + 3) e0 L e ∧ mI M1 O e = 0 ∧ (fl W (E9 sm s.1 0) pl 0 (k + 3) e0).1 = 0 ∧ kq = kdq W (E9 sm s.1 0) 0 (k + 3) e0) : CGm M2 p O P W pl nq sm Nn n (s.1 ++ [(k + 1, (if l1 = 4 then 1 else 2), kq, if l1 = 4 then v else (0, 0, 1))], (s.2.1.1, s.2.1.2.1 + 1, s.2.1.2.2), (0, 0)) g := by
  obtain ⟨L0, ns, sf, ef, g1, g2, g3, g4, g5, g6, g7, g8⟩ := cg
  have eL : L0 = L := by rw [hp] at g1; omega
  subst eL
  obtain ⟨⟨d1, d2, d3, d4, d5⟩, z4, z7, z9⟩ := sz
  have tp := tx.2.2.2.2.1
  have to := tx.2.2.2.2.2
  have p9 : ∀ i, 9 ≤ i → i ≤ 15 → mI M2 (p + i) = mI M (p + i) := fun i i9 i15 => by rw [d1 i i9 i15, tp i (by omega) i15]
  have cd : cdE O P L0 M M2 := fun i hi => by rw [d4, d5]; exact to i hi
  have t6 : ∀ j, j < rcn s.1 → mI M2 (p + 6) j = mI M (p + 6) j ∧ mI M2 (p + 7) j = mI M (p + 7) j ∧ mI M2 (p + 8) j = mI M (p + 8) j := fun j hj => by
    obtain ⟨a, b, c⟩ := d3 j (by omega)
    rw [a, b, c, tp 6 (by omega) (by omega), tp 7 (by omega) (by omega), tp 8 (by omega) (by omega)]
    exact ⟨rfl, rfl, rfl⟩
  have p11 : mI M2 p 11 = mI M p 11 := by rw [z9, tx.2.2.2.1 11 (by decide)]
  have vl : ∀ e9 : nm9, e9.2.1 ≠ 3 → VlC M2 p (s.1 ++ [e9]) g.1 := fun e9 h3 => by
    obtain ⟨v1, v2, v3⟩ := g5
    refine ⟨?_, fun v x hx => ?_, fun l1 e l2 he e3 e1 x hx => ?_⟩
    · rw [vcn_app, v1]
      show _ = vcn s.1 + (0 + (if e9.2.1 = 3 then 1 else 0))
      rw [if_neg h3]
      rfl
    · rw [d2 3 (by omega) (by omega), d2 4 (by omega) (by omega), d2 5 (by omega) (by omega), tp 3 (by omega) (by omega), tp 4 (by omega) (by omega), tp 5 (by omega) (by omega)]
      exact v2 v x hx
    · rcases app_sp he with ⟨-, b, -⟩ | ⟨l2', -, b⟩
      · rw [b] at e3
        exact absurd e3 h3
      · exact v3 l1 e l2' b e3 e1 x hx
  have rc1 : ∀ e9 : nm9, e9.2.1 ≠ 3 → rcn (s.1 ++ [e9]) = rcn s.1 + 1 ∧ vcn (s.1 ++ [e9]) = vcn s.1 := fun e9 h3 => by
    rw [rcn_app, vcn_app]
    show rcn s.1 + (0 + (if e9.2.1 = 3 then 0 else 1)) = _ ∧ vcn s.1 + (0 + (if e9.2.1 = 3 then 1 else 0)) = _
    rw [if_neg h3, if_neg h3]
    exact ⟨rfl, rfl⟩
  rcases h4 with h4 | h4
  · subst h4
    obtain ⟨gv1, gv2⟩ := gv rfl
    obtain ⟨⟨y1, y2⟩, y3⟩ := z4 rfl
    rw [if_pos rfl, if_pos rfl]
    have n3 : ((k + 1, 1, kq, v) : nm9).2.1 ≠ 3 := by simp
    obtain ⟨r1, r2⟩ := rc1 (k + 1, 1, kq, v) n3
    have ne : ∀ x, x < rcn s.1 → (fun x => if x = rcn s.1 then (4 : Int) else ns x) x = ns x ∧ ef x = ef x := fun x hx => ⟨if_neg (by omega), rfl⟩
    have gd := gv1.resolve_right (fun u => by omega)
    refine ⟨L0, fun x => if x = rcn s.1 then (4 : Int) else ns x, sf, ef, y3, g2.add ⟨by simp, by simp⟩ hk (fun _ => gv1) (fun u => absurd u (by simp)), g3.add (Nat.le_refl _) cd t6 (fun x hx => ⟨if_neg (by omega), rfl, rfl⟩) (fun _ => ⟨if_pos rfl, fun _ => ⟨?_, ?_⟩, fun u => absurd u (by simp)⟩), fun x hx h7 => ?_, vl _ n3, ⟨g6.1, fun tg ht => ?_⟩, g7, fun c cm hc => ?_⟩
    · show v = (0, mI M2 (p + 6) (rcn s.1), mI M2 (p + 7) (rcn s.1))
      rw [hF, y1, y2, ← gv2]
    · rw [hF, y2]
      omega
    · rw [r1] at hx
      by_cases y : x = rcn s.1
      · have h7 : (if x = rcn s.1 then (4 : Int) else ns x) = 7 := h7
        rw [if_pos y] at h7
        exact absurd h7 (by decide)
      · have h7 : (if x = rcn s.1 then (4 : Int) else ns x) = 7 := h7
        rw [if_neg y] at h7
        exact g4 x (by omega) h7
    · obtain ⟨sT, a1, a2⟩ := g6.2 tg ht
      exact ⟨sT, by rw [p11]; exact a1, a2.step cd (Nat.le_refl _) ne⟩
    · exact (g8 c cm hc).step p9 cd (Nat.le_refl _) (by rw [r2]; exact Nat.le_refl _) ne
  · subst h4
    obtain ⟨f1, f2, f3, f4, f5⟩ := hf rfl
    obtain ⟨y1, y3⟩ := z7 rfl
    rw [if_neg (by decide), if_neg (by decide)]
    have n3 : ((k + 1, 2, kq, ((0 : Int), (0 : Int), (1 : Int))) : nm9).2.1 ≠ 3 := by simp
    obtain ⟨r1, r2⟩ := rc1 (k + 1, 2, kq, (0, 0, 1)) n3
    have lt := f2.lt
    have ne : ∀ x, x < rcn s.1 → (fun x => if x = rcn s.1 then (7 : Int) else ns x) x = ns x ∧ (fun x => if x = rcn s.1 then e else ef x) x = ef x := fun x hx => ⟨if_neg (by omega), if_neg (by omega)⟩
    refine ⟨e + 1, fun x => if x = rcn s.1 then (7 : Int) else ns x, fun x => if x = rcn s.1 then L0 else sf x, fun x => if x = rcn s.1 then e else ef x, y3, g2.add ⟨by simp, by simp⟩ hk (fun u => absurd u (by simp)) (fun _ => ?_), g3.add (by omega) cd t6 (fun x hx => ⟨if_neg (by omega), if_neg (by omega), if_neg (by omega)⟩) (fun _ => ⟨if_pos rfl, fun u => absurd u (by simp), fun _ => ⟨?_, ?_, ?_, ?_, fun y hy h7 => ?_, Cf, f1, ?_⟩⟩), fun x hx h7 => ?_, vl _ n3, ⟨g6.1, fun tg ht => ?_⟩, g7, fun c cm hc => ?_⟩
    · show Eo W 6 (k + 1 + 2) (nxq W 34 Nn (k + 1)) ∧ nxq W 34 Nn (k + 1) ≤ n ∧ _ ∧ _
      rw [nx]
      exact ⟨eo, e0n, f4, f5⟩
    · show mI M2 (p + 8) (rcn s.1) = (((if rcn s.1 = rcn s.1 then L0 else sf (rcn s.1) : Nat)) : Int)
      rw [if_pos rfl, hF]
      exact y1
    · show (if rcn s.1 = rcn s.1 then L0 else sf (rcn s.1)) < (if rcn s.1 = rcn s.1 then e else ef (rcn s.1))
      rw [if_pos rfl, if_pos rfl]
      exact lt
    · show (if rcn s.1 = rcn s.1 then e else ef (rcn s.1)) < e + 1
      rw [if_pos rfl]
      omega
    · show mI M2 O (if rcn s.1 = rcn s.1 then e else ef (rcn s.1)) = 0
      rw [if_pos rfl, d4]
      exact f3
    · have h7 : (if y = rcn s.1 then (7 : Int) else ns y) = 7 := h7
      show (if y = rcn s.1 then e else ef y) < (if rcn s.1 = rcn s.1 then L0 else sf (rcn s.1))
      rw [if_neg (by omega), if_pos rfl]
      rw [if_neg (by omega)] at h7
      exact g4 y hy h7
    · show Cd W Cf pl (mI M2 O) (mI M2 P) 0 0 0 (k + 1 + 2) (nxq W 34 Nn (k + 1)) (if rcn s.1 = rcn s.1 then L0 else sf (rcn s.1)) (if rcn s.1 = rcn s.1 then e else ef (rcn s.1))
      rw [if_pos rfl, if_pos rfl, nx, d4, d5]
      exact f2
    · rw [r1] at hx
      have h7 : (if x = rcn s.1 then (7 : Int) else ns x) = 7 := h7
      show (if x = rcn s.1 then e else ef x) < e + 1
      by_cases y : x = rcn s.1
      · rw [if_pos y]
        omega
      · rw [if_neg y] at h7 ⊢
        have := g4 x (by omega) h7
        omega
    · obtain ⟨sT, a1, a2⟩ := g6.2 tg ht
      exact ⟨sT, by rw [p11]; exact a1, a2.step cd (by omega) ne⟩
    · exact (g8 c cm hc).step p9 cd (by omega) (by rw [r2]; exact Nat.le_refl _) ne
/-- a var's range and init are put behind the others -/
theorem CGm.var {kq t1 t2 t3 : Int} (cg : CGm M p O P W pl nq sm Nn n s g) (hp : mI M p 2 = ((L : Nat) : Int)) (tx : ∀ i, 3 ≤ i → i ≤ 15 → mI M1 (p + i) = mI M (p + i)) (t11 : mI M1 p 11 = mI M p 11) (to : cdE O P L M M1) (sz : svD p O P V L t1 t2 t3 M1 M2) (hV : vcn s.1 = V) (hk : kq = 0 ∨ kq = 1) (hb : t1.natAbs ≤ 999999999 ∧ t2.natAbs ≤ 999999999) (hi : t1 ≤ t3 ∧ t3 ≤ t2) (h1 : kq = 1 → t1 = 0 ∧ t2 = 1) : CGm M2 p O P W pl nq sm Nn n (s.1 ++ [(k + 1, 3, kq, (0, 0, 1))], (s.2.1.1 + 1, s.2.1.2), (0, 0)) (g.1 ++ [(t1, t2, t3)], g.2) := by
  obtain ⟨L0, ns, sf, ef, g1, g2, g3, g4, g5, g6, g7, g8⟩ := cg
  have eL : L0 = L := by rw [hp] at g1; omega
  subst eL
  obtain ⟨d1, d2, ⟨d3, d4⟩, d5, d6⟩ := sz
  have p9 : ∀ i, 6 ≤ i → i ≤ 15 → mI M2 (p + i) = mI M (p + i) := fun i i6 i15 => by rw [d1 i i6 i15, tx i (by omega) i15]
  have cd : cdE O P L0 M M2 := fun i hi => by rw [d3, d4]; exact to i hi
  have r1 : rcn (s.1 ++ [(k + 1, 3, kq, ((0 : Int), (0 : Int), (1 : Int)))]) = rcn s.1 ∧ vcn (s.1 ++ [(k + 1, 3, kq, ((0 : Int), (0 : Int), (1 : Int)))]) = vcn s.1 + 1 := by
    rw [rcn_app, vcn_app]
    exact ⟨rfl, rfl⟩
  have ne : ∀ x, x < rcn s.1 → ns x = ns x ∧ ef x = ef x := fun x _ => ⟨rfl, rfl⟩
  refine ⟨L0, ns, sf, ef, d5, g2.add ⟨by simp, by simp⟩ hk (fun u => absurd u (by simp)) (fun u => absurd u (by simp)), g3.add (Nat.le_refl _) cd (fun j _ => by rw [p9 6 (by omega) (by omega), p9 7 (by omega) (by omega), p9 8 (by omega) (by omega)]; exact ⟨rfl, rfl, rfl⟩) (fun x _ => ⟨rfl, rfl, rfl⟩) (fun u => absurd rfl u), fun x hx h7 => g4 x (by rw [r1.1] at hx; exact hx) h7, ?_, ⟨g6.1, fun tg ht => ?_⟩, g7, fun c cm hc => (g8 c cm hc).step (fun i i9 i15 => p9 i (by omega) i15) cd (Nat.le_refl _) (by rw [r1.2]; omega) ne⟩
  · obtain ⟨v1, v2, v3⟩ := g5
    have at9 : ∀ {v : Nat} {x : Int × Int × Int}, (g.1 ++ [(t1, t2, t3)])[v]? = some x → (v = V ∧ x = (t1, t2, t3)) ∨ (v ≠ V ∧ v < V ∧ g.1[v]? = some x) := fun {v x} hx => by
      by_cases y : v < g.1.length
      · rw [List.getElem?_append_left y] at hx
        exact Or.inr ⟨by omega, by omega, hx⟩
      · rw [List.getElem?_append_right (by omega)] at hx
        by_cases y2 : v - g.1.length = 0
        · rw [y2] at hx
          exact Or.inl ⟨by omega, (Option.some.inj hx).symm⟩
        · rw [List.getElem?_eq_none (by simp; omega)] at hx
          exact absurd hx (by simp)
    refine ⟨by rw [List.length_append, v1, r1.2]; rfl, fun v x hx => ?_, fun l1 e l2 he e3 e1 x hx => ?_⟩
    · rw [(d2 v).1, (d2 v).2.1, (d2 v).2.2]
      rcases at9 hx with ⟨a, b⟩ | ⟨a, a', b⟩
      · rw [if_pos a, if_pos a, if_pos a, b]
        exact ⟨rfl, rfl, rfl, hb, hi⟩
      · rw [if_neg a, if_neg a, if_neg a, tx 3 (by omega) (by omega), tx 4 (by omega) (by omega), tx 5 (by omega) (by omega)]
        exact v2 v x b
    · rcases app_sp he with ⟨a, b, -⟩ | ⟨l2', -, b⟩
      · rw [a] at hx
        rcases at9 hx with ⟨-, c⟩ | ⟨c, -⟩
        · rw [c]
          rw [b] at e1
          exact h1 e1
        · exact absurd hV c
      · have vl : vcn l1 < V := by
          have e9 : vcn (e :: l2') = vcn l2' + 1 := by
            show vcn l2' + (if e.2.1 = 3 then 1 else 0) = _
            rw [if_pos e3]
          rw [← hV, b, vcn_app, e9]
          omega
        rcases at9 hx with ⟨c, -⟩ | ⟨-, -, c⟩
        · omega
        · exact v3 l1 e l2' b e3 e1 x c
  · obtain ⟨sT, a1, a2⟩ := g6.2 tg ht
    exact ⟨sT, by rw [d6, t11]; exact a1, a2.step cd (Nat.le_refl _) ne⟩
/-- a target is put down -/
theorem CGm.target (cg : CGm M p O P W pl nq sm Nn n s g) (hp : mI M p 2 = ((L : Nat) : Int)) (eo : Eo W 6 (k + 1) e) (en : e ≤ n) (lf : LfC W nq sm n s.1 Cf) (hfl : (fl W (E9 sm s.1 0) pl 0 (k + 1) e).1 = 0) (td : tgD W pl Cf p O P L k e M M2) : CGm M2 p O P W pl nq sm Nn n (s.1, (s.2.1.1, s.2.1.2.1, s.2.1.2.2.1, 1), (0, 0)) (g.1, some (k + 1, e), g.2.2) := by
  obtain ⟨L0, ns, sf, ef, g1, g2, g3, g4, g5, g6, g7, g8⟩ := cg
  have eL : L0 = L := by rw [hp] at g1; omega
  subst eL
  obtain ⟨t1, t2, L', t3, t4, t5, t6⟩ := td
  have lt := t5.lt
  have ne : ∀ x, x < rcn s.1 → ns x = ns x ∧ ef x = ef x := fun x _ => ⟨rfl, rfl⟩
  have nil : s.1 = s.1 ++ [] := (List.append_nil _).symm
  refine ⟨L' + 1, ns, sf, ef, t3, g2, ?_, fun x hx h7 => by have := g4 x hx h7; omega, ?_, ⟨fun u => absurd u (by simp), fun tg ht => ?_⟩, g7, fun c cm hc => ?_⟩
  · intro l1 e' l2 he e3
    have rl : rcn s.1 = rcn l1 + rcn (e' :: l2) := by rw [he, rcn_app]
    obtain ⟨f1, f2, f3⟩ := g3 l1 e' l2 he e3
    refine ⟨f1, fun y => by rw [t2 6 (by omega) (by omega), t2 7 (by omega) (by omega)]; exact f2 y, fun y => ?_⟩
    obtain ⟨k1, k2, k3, k4, k5, ec, k6, k7⟩ := f3 y
    exact ⟨by rw [t2 8 (by omega) (by omega)]; exact k1, k2, by omega, by rw [(t6 _ k3).1]; exact k4, k5, ec, k6, k7.cg (fun t _ h2 => t6 t (by omega))⟩
  · obtain ⟨v1, v2, v3⟩ := g5
    exact ⟨v1, fun v x hx => by rw [t2 3 (by omega) (by omega), t2 4 (by omega) (by omega), t2 5 (by omega) (by omega)]; exact v2 v x hx, v3⟩
  · have ht : some (k + 1, e) = some tg := ht
    have ht := Option.some.inj ht
    subst ht
    refine ⟨L0, t1, s.1, [], Cf, L', nil, eo, en, hfl, lf, fun x hx h7 => g4 x hx h7, t5, by omega, t4⟩
  · have := (g8 c cm hc).step (l9 := []) (ns' := ns) (ef' := ef) (V' := vcn s.1) (fun i i9 i15 => t2 i (by omega) i15) t6 (show L0 ≤ L' + 1 by omega) (Nat.le_refl _) ne
    rw [List.append_nil] at this
    exact this
theorem brs_e {f i : Nat} (h : e ≤ i) : brs9 W pl sm Nn nms e f i = [] := by
  cases f with
  | zero => rfl
  | succ f => rw [brs9, if_pos h]
/-- a command is put behind the others -/
theorem CGm.cmd {cnt ar b L0 : Nat} (cg : CGm M p O P W pl nq sm Nn n s g) (hp : mI M p 2 = ((L0 : Nat) : Int)) (hcnt : s.2.1.2.2.1 = cnt) (hV : vcn s.1 = V) (cr : cmR9 W pl nq sm Nn n V q p O P L0 c cnt k ar s.1 M (e + 1) b M1) (ct : CT M (q + 1) p s.1) (hl : s.1.length = c) (z : mI M1 (q + 1) 3 = 0) (ne : no34 W k e) (we : W e = 34) (hr : nxq W 17 Nn (k + 1) = ar) (b8 : b ≤ 8) (v480 : ∀ v : Nat, mI M1 (p + 12) (cnt + 1) = ((v : Nat) : Int) → v ≤ 480) : CGm M1 p O P W pl nq sm Nn n (s.1, (s.2.1.1, s.2.1.2.1, s.2.1.2.2.1 + 1, s.2.1.2.2.2), (0, 0)) (g.1, g.2.1, g.2.2 ++ [cmd9 W pl sm Nn s.1 k e]) := by
  obtain ⟨L9, ns, sf, ef, g1, g2, g3, g4, g5, g6, g7, g8⟩ := cg
  have eL : L9 = L0 := by rw [hp] at g1; omega
  subst eL
  obtain ⟨L, u, bl, ⟨a1, a1'⟩, a2, ⟨f1, f2, f3, f4, f5, f6⟩, ⟨a4, a5⟩, ⟨sg, a6, a7⟩, a8, a9, a10, a11⟩ := cr ct hl z
  have ebl := a10 e ne we
  rw [brs_e (Nat.le_succ e), List.append_nil] at ebl
  have glen : g.2.2.length = cnt := by rw [g7, hcnt]
  have nil : s.1 = s.1 ++ [] := (List.append_nil _).symm
  have nn : ∀ x, x < rcn s.1 → ns x = ns x ∧ ef x = ef x := fun x _ => ⟨rfl, rfl⟩
  have ru : ∀ {i j sx : Nat}, RuC M O P L9 W pl nq sm n ns ef s.1 i j sx → RuC M1 O P L W pl nq sm n ns ef s.1 i j sx := fun {i j sx} h => by
    have := h.step (l9 := []) (ns' := ns) (ef' := ef) f5 a1' nn
    rw [List.append_nil] at this
    exact this
  have se : ∀ {l : List (Nat × Nat × Nat × Nat)} {sx : Nat}, SeC M O P L9 V W pl nq sm n ns ef s.1 l sx → SeC M1 O P L V W pl nq sm n ns ef s.1 l sx := fun {l sx} h => by
    have := h.step (l9 := []) (ns' := ns) (ef' := ef) f5 a1' (Nat.le_refl _) nn
    rw [List.append_nil] at this
    exact this
  have rw1 : ∀ {i j sx : Nat}, RwC M1 O P L9 L W pl nq sm n s.1 i j sx → RuC M1 O P L W pl nq sm n ns ef s.1 i j sx := fun {i j sx} h => by
    obtain ⟨Cf, e9, b1, b2, b3, b4, b5, b6, b7, b8⟩ := h
    exact ⟨s.1, [], Cf, e9, nil, b2, b3, b4, b1, fun x hx h7 => by have := g4 x hx h7; omega, b6, b7, b8⟩
  have sw1 : ∀ {l : List (Nat × Nat × Nat × Nat)} {sx : Nat}, SwC M1 O P L9 L V W pl nq sm n s.1 l sx → SeC M1 O P L V W pl nq sm n ns ef s.1 l sx := fun {l sx} h => by
    obtain ⟨e9, b1, b2, b3, b4, b5⟩ := h
    exact ⟨s.1, [], e9, nil, b1, fun x hx h7 => by have := g4 x hx h7; omega, b3, b4, b5⟩
  rw [hV] at g8
  have mono : ∀ d c' : Nat, c' + 1 + d = cnt → ∀ v : Nat, mI M (p + 12) (c' + 1) = ((v : Nat) : Int) → v ≤ u := by
    intro d
    induction d with
    | zero =>
      intro c' hc v hv
      rw [show c' + 1 = cnt by omega, a2] at hv
      omega
    | succ d ih =>
      intro c' hc v hv
      obtain ⟨cm, hcm⟩ : ∃ cm, g.2.2[c' + 1]? = some cm := ⟨g.2.2[c' + 1], List.getElem?_eq_getElem (by omega)⟩
      obtain ⟨-, -, -, -, u', v', h6, h7, ⟨h8, -, -⟩, -⟩ := g8 (c' + 1) cm hcm
      rw [h6] at hv
      have := ih (c' + 1) (by omega) v' h7
      omega
  have e3 : ∀ i, 3 ≤ i → i ≤ 8 → mI M1 (p + i) = mI M (p + i) := f1
  refine ⟨L, ns, sf, ef, a1, g2, ?_, fun x hx h7 => by have := g4 x hx h7; omega, ?_, ⟨g6.1, fun tg ht => ?_⟩, ?_, fun c' cm hc => ?_⟩
  · intro l1 e' l2 he h3
    obtain ⟨k1, k2, k3⟩ := g3 l1 e' l2 he h3
    refine ⟨k1, fun y => by rw [e3 6 (by omega) (by omega), e3 7 (by omega) (by omega)]; exact k2 y, fun y => ?_⟩
    obtain ⟨m1, m2, m3, m4, m5, ec, m6, m7⟩ := k3 y
    exact ⟨by rw [e3 8 (by omega) (by omega)]; exact m1, m2, by omega, by rw [(f5 _ m3).1]; exact m4, m5, ec, m6, m7.cg (fun t _ h2 => f5 t (by omega))⟩
  · obtain ⟨v1, v2, v3⟩ := g5
    exact ⟨v1, fun v x hx => by rw [e3 3 (by omega) (by omega), e3 4 (by omega) (by omega), e3 5 (by omega) (by omega)]; exact v2 v x hx, v3⟩
  · obtain ⟨sT, b1, b2⟩ := g6.2 tg ht
    exact ⟨sT, by rw [f6]; exact b1, ru b2⟩
  · show (g.2.2 ++ [cmd9 W pl sm Nn s.1 k e]).length = s.2.1.2.2.1 + 1
    rw [List.length_append, g7]
    rfl
  · have hc : (g.2.2 ++ [cmd9 W pl sm Nn s.1 k e])[c']? = some cm := hc
    show CmC M1 p O P L (vcn s.1) W pl nq sm n ns ef s.1 c' cm
    rw [hV]
    by_cases cl : c' < g.2.2.length
    · rw [List.getElem?_append_left cl] at hc
      obtain ⟨h1, h2, h3, ⟨sg', h4, h5⟩, u', v', h6, h7, h8, h9, h10⟩ := g8 c' cm hc
      have vu := mono (cnt - (c' + 1)) c' (by omega) v' h7
      obtain ⟨y9, y10, y11⟩ := f2 c' (by omega)
      refine ⟨by rw [y9]; exact h1, h2, by rw [y10]; exact h3, ⟨sg', by rw [y11]; exact h4, ru h5⟩, u', v', by rw [f3 _ (by omega)]; exact h6, by rw [f3 _ (by omega)]; exact h7, h8, h9, fun t x hx => ?_⟩
      have tl : t < cm.2.2.2.length := (List.getElem?_eq_some_iff.mp hx).1
      obtain ⟨y13, y14, y15⟩ := f4 (u' + t) (by omega)
      obtain ⟨m1, ⟨s1, m2, m3⟩, s2, m4, m5⟩ := h10 t x hx
      exact ⟨by rw [y13]; exact m1, ⟨s1, by rw [y14]; exact m2, ru m3⟩, s2, by rw [y15]; exact m4, se m5⟩
    · have cle := (List.getElem?_eq_some_iff.mp hc).1
      rw [List.length_append] at cle
      have ce : c' = cnt := by simp at cle; omega
      rw [List.getElem?_append_right (by omega), show c' - g.2.2.length = 0 by omega] at hc
      have hc : cmd9 W pl sm Nn s.1 k e = cm := Option.some.inj hc
      subst hc
      subst ce
      have v8 := v480 _ a8
      refine ⟨a4, ?_, a5, ⟨sg, a6, ?_⟩, u, u + bl.length, by rw [f3 _ (Nat.le_refl _)]; exact a2, a8, by omega, ?_, fun t x hx => ?_⟩
      · show (if W k = 7 then (1 : Int) else 2) = 1 ∨ (if W k = 7 then (1 : Int) else 2) = 2
        split
        · exact Or.inl rfl
        · exact Or.inr rfl
      · show RuC M1 O P L W pl nq sm n ns ef s.1 (k + 1) (nxq W 17 Nn (k + 1)) sg
        rw [hr]
        exact rw1 a7
      · show (brs9 W pl sm Nn s.1 e Nn (nxq W 17 Nn (k + 1) + 1)).length = _
        rw [hr, ebl]
        omega
      · have hx : (brs9 W pl sm Nn s.1 e Nn (nxq W 17 Nn (k + 1) + 1))[t]? = some x := hx
        rw [hr, ebl] at hx
        obtain ⟨m1, ⟨s1, m2, m3⟩, s2, m4, m5⟩ := a11 t x hx
        exact ⟨m1, ⟨s1, m2, rw1 m3⟩, s2, m4, sw1 m5⟩
end TXV2
end
section
/-! The class's reader of texts, exactly: an item is settled. -/
section TXX
variable {G : mG} {d z q w T A B D N C n p O P K Ab Be Cm V F c L cnt a nw k e e0 Nn L' : Nat} {M0 M M' M1 M2 : mM} {ns : Nat → Int} {sf ef : Nat → Nat} {H : Nat → Nat} {W pl nq E : Nat → Int} {Cf : Nat → Int × Int} {sm : Nat → Nat → Prop} {s s' : st9} {ft f2 : Int × Int} {g : gm9}
/-- the state behind the item at k -/
noncomputable def sN (W pl nq : Nat → Int) (sm : Nat → Nat → Prop) (Nn k : Nat) (s : st9) : st9 := if s.2.2.1 ≠ 0 then s else ite9 W pl nq sm Nn 60 k s
theorem sN_n (h : s.2.2.1 ≠ 0) : sN W pl nq sm Nn k s = s := if_pos h
theorem sN_r (h : s.2.2.1 = 0) (hW : W k = 3 ∨ W k = 6) (he : nxq W 34 Nn k = e) : sN W pl nq sm Nn k s = itr W pl nq sm k e s := by
  unfold sN
  rw [if_neg (fun u => u h)]
  unfold ite9
  simp only [he]
  rw [if_pos hW]
theorem sN_v (h : s.2.2.1 = 0) (hW : W k = 4) (he : nxq W 34 Nn k = e) : sN W pl nq sm Nn k s = itv W pl nq sm Nn k e s := by
  unfold sN
  rw [if_neg (fun u => u h)]
  unfold ite9
  simp only [he]
  rw [if_neg (by omega), if_pos hW]
theorem sN_t (h : s.2.2.1 = 0) (hW : W k = 11) (he : nxq W 34 Nn k = e) : sN W pl nq sm Nn k s = itt W pl sm k e s := by
  unfold sN
  rw [if_neg (fun u => u h)]
  unfold ite9
  simp only [he]
  rw [if_neg (by omega), if_neg (by omega), if_pos hW]
theorem sN_c (h : s.2.2.1 = 0) (hW : W k = 7 ∨ W k = 8) (he : nxq W 34 Nn k = e) : sN W pl nq sm Nn k s = itc W pl sm Nn 60 k e s := by
  unfold sN
  rw [if_neg (fun u => u h)]
  unfold ite9
  simp only [he]
  rw [if_neg (by omega), if_neg (by omega), if_neg (by omega)]
theorem ECq.fw {nms : List nm9} {co : Int} {s0 : Nat} (h : ECq M (q + 1) p n W nq sm nms c co E Cf) (ct : CT M (q + 1) p nms) (f : txE M q p O P s0 M') : ECq M' (q + 1) p n W nq sm nms c co E Cf := by
  refine ⟨h.1, fun _ hl => ?_⟩
  have k := h.2 ct hl
  rw [f.2.2.1 7 (by decide) (by decide), f.2.2.1 8 (by decide) (by decide)]
  exact k
theorem CSm.tx {s0 : Nat} (cs : CSm M q p s) (f : txE M q p O P s0 M') : CSm M' q p s := by
  obtain ⟨c1, c2, c3, c4, c5, c6⟩ := cs
  have e := f.2.2.2.1
  exact ⟨c1.tx f, by rw [e 3 (by decide)]; exact c2, by rw [e 7 (by decide)]; exact c3, by rw [e 12 (by decide)]; exact c4, by rw [e 11 (by decide)]; exact c5, c6⟩
theorem CSm.len (cs : CSm M q p s) (h : TX M z q w T A B D N C n p O P K Ab Be Cm V F ns sf ef c cnt L) : s.1.length = c ∧ s.2.1.1 = V ∧ s.2.1.2.1 = F ∧ s.2.1.2.2.1 = cnt := by
  obtain ⟨c1, c2, c3, c4, c5, c6⟩ := cs
  have y0 := c1.1
  have y1 := h.2.1.2.2.1.1
  have y2 := h.2.1.1.1
  have y3 := h.2.1.2.1.1
  have y4 := h.2.2.1.1
  refine ⟨?_, ?_, ?_, ?_⟩ <;> omega
theorem cv_eq {x y : Nat} (hy : y ≤ n) (eo : Eo W 6 x y) : vlq W (cvn W nq sm s.1 n) pl 0 0 x y = vlq W (cv9 W nq sm s.1) pl 0 0 x y := by
  refine vl_ci0 (fun k _ k2 => ?_) eo
  unfold cvn
  rw [if_pos (by omega)]
theorem x_TR_settleNamed_bad {Y : mM → Prop} {l1 : Int} (h4 : l1 = 4 ∨ l1 = 7) (h : TX M z q w T A B D N C n p O P K Ab Be Cm V F ns sf ef c cnt L) (hLe : L ≤ e) (hp : mI M p 2 = ((e + 1 : Nat) : Int)) (ha : mI M (q + 1) 2 = ((a : Nat) : Int)) (han : a ≤ n) (hLa : e + 1 ≤ a) (hd : mI M (q + 1) 5 = 0) (hF : FT M (q + 1) ft) (f0 : ft.1 ≠ 0) (es : s'.2.2 = ft) : Cv G y_TR_settleNamed (d + 6) [vr q, vi l1] M (fun M' => itE M z q w T A B D N C n p O P K Ab Be Cm M' ∧ itZ q p s' M' ∧ mI M' (q + 1) 2 = ((a : Nat) : Int) ∧ (s'.2.2.1 = 0 → Y M')) := by
  obtain ⟨t0, t1, t2, t3, t4, t5⟩ := h.1.2.1
  refine k_TR_settleNamed h.1.1.1 (i32s (by omega) (by omega)) ?_
  have f3 : mI M (q + 1) 3 ≠ 0 := by rw [hF.1]; exact f0
  refine ⟨t0, by rw [t1]; exact h.1.1.2.1.1, fun y0 => absurd (by rw [t1] at y0; exact y0) f3, fun y0 => ?_⟩
  exact ⟨⟨Ab, Be, Cm, V, F, ns, sf, ef, c, cnt, e + 1, a, h.any (fun _ => Nat.le_succ_of_le hLe), hp, ha, han, hLa, hd, trF.refl⟩, itZ.bad (by rw [es]; exact hF) (by rw [es]; exact f0), ha, fun t => absurd t (by rw [es]; exact f0)⟩
theorem x_st_named {l1 : Int} (hFx : FMx G) (h4 : l1 = 4 ∨ l1 = 7) (hl1 : l1 = W k + 1) (h0 : TX M z q w T A B D N C n p O P K Ab Be Cm V F ns sf ef c cnt L) (h : TX M1 z q w T A B D N C n p O P K Ab Be Cm V F ns sf ef c cnt L) (y60 : 60 ≤ F → mI M1 (q + 1) 3 ≠ 0) (cd : Cod M1 O P (vco l1 V) F (nco l1 ns) L e H 1) (hp : mI M1 p 2 = ((e + 1 : Nat) : Int)) (ha : mI M1 (q + 1) 2 = ((a : Nat) : Int)) (han : a ≤ n) (hLa : e + 1 ≤ a) (hd : mI M1 (q + 1) 5 = 0) (hn : mI M1 q 3 = ((nw : Nat) : Int) ∧ nw < n ∧ mI M1 A nw = 2) (h8 : mI M1 q 8 = 0 ∨ mI M1 q 8 = 1) (h21 : mI M1 (q + 21) 0 = ((L : Nat) : Int)) (zs : itZ q p s M) (wt : WTq M1 T A B D n W pl nq sm) (hw : W (k + 1) = 1 ∧ W (k + 2) = 23) (eo : Eo W 6 (k + 3) e0) (w34 : W e0 = 34) (e0n : e0 ≤ n) (hNn : n ≤ Nn) (ec : ECq M (q + 1) p n W nq sm s.1 c (if l1 = 4 then 1 else 0) E Cf) (hkd : mI M1 q 8 = kdq W E 0 (k + 3) e0) (kn : CT M (q + 1) p s.1 → s.1.length = c → knf sm pl s.1 (k + 1) f2) (hFT : FT M1 (q + 1) (fst9 (fst9 (fst9 s.2.2 (if F < 60 then (0, 0) else (5, pl k))) f2) (fl W E pl 0 (k + 3) e0))) (pL : mI M1 p 2 = ((L' + 1 : Nat) : Int)) (oL : mI M1 O L' = 0) (hc : Cd W Cf pl (mI M1 O) (mI M1 P) 0 0 0 (k + 3) e0 L L') (tx : txF M q p O P L M1) (q3 : mI M1 q 3 = ((k + 1 : Nat) : Int)) (hp0 : mI M p 2 = ((L : Nat) : Int)) (cg : s.2.2.1 = 0 → CGm M p O P W pl nq sm Nn n s g) : nxq W 34 Nn k = e0 ∧ Cv G y_TR_settleNamed (d + 6) [vr q, vi l1] M1 (fun M' => itE M1 z q w T A B D N C n p O P K Ab Be Cm M' ∧ itZ q p (sN W pl nq sm Nn k s) M' ∧ mI M' (q + 1) 2 = ((a : Nat) : Int) ∧ ((sN W pl nq sm Nn k s).2.2.1 = 0 → CGm M' p O P W pl nq sm Nn n (sN W pl nq sm Nn k s) g)) := by
  have wk : W k = 3 ∨ W k = 6 := by omega
  have ne : no34 W k e0 := (((no34.nil.sc (by omega)).sc (by rw [hw.1]; decide)).sc (by rw [hw.2]; decide)).eo eo
  have nx : nxq W 34 Nn k = e0 := nxq_34 ne w34 (by omega)
  refine ⟨nx, ?_⟩
  have eL : L' = e := by
    rw [hp] at pL
    omega
  subst eL
  have hnw : nw = k + 1 := by
    have := hn.1
    rw [q3] at this
    omega
  by_cases f0 : s.2.2.1 = 0
  · have cs := zs.2 f0
    have ct := cs.1
    obtain ⟨hl, eV, eF, eC⟩ := cs.len h0
    have F60 : F ≤ 60 := h.2.1.2.1.2
    have cs1 := cs.tx tx.2
    have ec1 := ec.fw ct tx.2
    have e9 : E = E9 sm s.1 (if W k = 3 then 1 else 0) := by
      have u := (ec.2 ct hl).1
      by_cases w3 : W k = 3
      · rw [if_pos (show l1 = 4 by omega), if_neg (by decide)] at u
        rw [if_pos w3]
        exact u
      · rw [if_neg (show ¬ l1 = 4 by omega), if_pos rfl] at u
        rw [if_neg w3]
        exact u
    have kn := kn ct hl
    rw [fst9_zr f0] at hFT
    obtain ⟨p1, p2⟩ := itc_r (W := W) (pl := pl) (nq := nq) (sm := sm) (k := k) (e := e0) (s := s) (nF := F) (f := fl W E pl 0 (k + 3) e0) (v := vlq W (cv9 W nq sm s.1) pl 0 0 (k + 3) e0) rfl (by rw [e9]) rfl eF F60 kn
    have es := sN_r (pl := pl) (nq := nq) (sm := sm) f0 wk nx
    rw [← es, ← e9] at p2
    rw [← es] at p1
    generalize sN W pl nq sm Nn k s = s' at p1 p2 ⊢
    have gvd : (fst9 (fst9 (if F < 60 then (0, 0) else (5, pl k)) f2) (fl W E pl 0 (k + 3) e0)).1 = 0 → l1 = 4 → vgd (kdq W E 0 (k + 3) e0) (vlq W (cv9 W nq sm s.1) pl 0 0 (k + 3) e0) := fun u l4 => ?_
    refine (x_TR_settleNamed (k0 := k) (e0 := e0) (s := s) (s' := s') (v := vlq W (cv9 W nq sm s.1) pl 0 0 (k + 3) e0) hFx h4 h y60 cd hp ha han hLa hd hn h8 h21 wt hnw cs1 ec1 hkd eo e0n hc oL hFT (fun u => (fst9_1.mp u).2) rfl gvd p1 (fun u l4 v1 => (p2 u).1 (by omega) v1) (fun u v0 => ?_)).mono (fun M' kk => ⟨kk.1, kk.2.1, kk.2.2.1, fun z => ?_⟩)
    rotate_left 2
    · subst l4
      have h9 : ∀ i, i < c → mI M1 (q + 1 + 9) i = 0 ∨ mI M1 (q + 1 + 9) i = 1 := fun i hi => (h.2.1.2.2.1.2.2 i hi).2.2
      have lf := lf_ex wt ec1 cs1.1 hl h9
      have g := vl_ok (pl := pl) (fun k a b => (lf k a b).1) _ 0 (k + 3) e0 (Nat.le_refl _) (Or.inl ⟨rfl, eo⟩) (fst9_1.mp u).2 (fun u => absurd u (by first | decide | simp)) 0
      rw [cv_eq e0n eo] at g
      exact g
    · by_cases w3 : W k = 3
      · have l4 : l1 = 4 := by omega
        have r := (p2 u).2 (fun _ => v0 l4)
        rw [if_pos w3, if_pos w3] at r
        rw [if_pos l4, if_pos l4]
        exact r
      · have l4 : ¬ l1 = 4 := by omega
        have r := (p2 u).2 (fun x => absurd x w3)
        rw [if_neg w3, if_neg w3] at r
        rw [if_neg l4, if_neg l4]
        exact r
    · have u : (fst9 (fst9 (if F < 60 then (0, 0) else (5, pl k)) f2) (fl W E pl 0 (k + 3) e0)).1 = 0 := Classical.byContradiction (fun u => u (by rw [← p1 u]; exact z))
      have sz := kk.2.2.2 z
      have f0' := (fst9_1.mp u).2
      have nx1 : nxq W 34 Nn (k + 1) = e0 := nxq_34 ⟨by have := eo.pr.1; omega, fun j j1 j2 => ne.2 j (by omega) j2⟩ w34 (by omega)
      have hk01 : kdq W E 0 (k + 3) e0 = 0 ∨ kdq W E 0 (k + 3) e0 = 1 := kd_01
      have hv4 : l1 = 4 → (vlq W (cv9 W nq sm s.1) pl 0 0 (k + 3) e0).1 = 0 := fun l4 => Classical.byContradiction (fun v1 => v1 (by
        have q := (p2 u).1 (by omega) v1
        rw [q] at z
        exact z))
      have res := CGm.named (k := k) (e0 := e0) (kq := kdq W E 0 (k + 3) e0) (Cf := Cf) (cg f0) hp0 tx.2 sz (by rw [cs.2.2.2.2.2.2.2, eF]) h4 eo e0n nx1 hk01 (fun l4 => ⟨gvd u l4, hv4 l4⟩) (fun l7 => by
        have n4 : ¬ l1 = 4 := by omega
        rw [if_neg (show ¬ W k = 3 by omega)] at e9
        rw [if_neg n4] at ec
        rw [e9] at f0' ⊢
        exact ⟨ec.lf ct hl (fun i hi => (h0.2.1.2.2.1.2.2 i hi).2.2), hc, oL, f0', rfl⟩)
      by_cases w3 : W k = 3
      · have l4 : l1 = 4 := by omega
        have r := (p2 u).2 (fun _ => hv4 l4)
        rw [if_pos w3, if_pos w3] at r
        rw [if_pos l4, if_pos l4] at res
        rw [r]
        exact res
      · have l4 : ¬ l1 = 4 := by omega
        have r := (p2 u).2 (fun x => absurd x w3)
        rw [if_neg w3, if_neg w3] at r
        rw [if_neg l4, if_neg l4] at res
        rw [r]
        exact res
  · rw [sN_n f0]
    rw [fst9_n f0, fst9_n f0, fst9_n f0] at hFT
    exact x_TR_settleNamed_bad h4 h cd.2.2.2.2.2 hp ha han hLa hd hFT f0 rfl
end TXX
end
end
section
section
/-! The class's reader of texts, exactly: a var as an item. -/
section TXY
variable {G : mG} {d z q w T A B D N C n p O P K Ab Be Cm V F c L cnt a nw k e i j b Nn sl x y : Nat} {M0 M M' M1 M2 : mM} {ns : Nat → Int} {sf ef : Nat → Nat} {H : Nat → Nat} {W pl nq E : Nat → Int} {Cf : Nat → Int × Int} {sm : Nat → Nat → Prop} {s s' : st9} {ft f2 X I : Int × Int} {tr : Int} {g : gm9}
theorem ec_1 (ec : ECq M (q + 1) p n W nq sm s.1 c 1 E Cf) (ct : CT M (q + 1) p s.1) (hl : s.1.length = c) : E = E9 sm s.1 1 := by
  have u := (ec.2 ct hl).1
  rw [if_neg (by decide)] at u
  exact u
theorem rw_mk (wt : WTq M1 T A B D n W pl nq sm) (h : TX M1 z q w T A B D N C n p O P K Ab Be Cm V F ns sf ef c cnt L) (ec : ECq M (q + 1) p n W nq sm s.1 c 1 E Cf) (ct : CT M (q + 1) p s.1) (hl : s.1.length = c) (tx : txF M q p O P 0 M1) (rv : rvQz W pl Cf q O P k x y b M1) (eo : Eo W 6 x y) (hz : (vrf W E pl tr x y).1 = 0) : rwE W pl (cvn W nq sm s.1 n) q p O P b k x y tr M1 := by
  have h9 : ∀ i, i < c → mI M1 (q + 1 + 9) i = 0 ∨ mI M1 (q + 1 + 9) i = 1 := fun i hi => (h.2.1.2.2.1.2.2 i hi).2.2
  exact ⟨E, Cf, rv, lf_ex wt (ec.fw ct tx.2) (ct.tx tx.2) hl h9, eo, (vrf_z hz).1, (vrf_z hz).2⟩
theorem Eo.no9 {v : Int} (eo : Eo W 6 x y) (hv : v = 9 ∨ v = 16 ∨ v = 17) (h1 : x ≤ j) (h2 : j < y) : W j ≠ v := fun u => by
  have r := eo.rw9 h1 h2
  unfold rwd at r
  omega
/-- what a var's values keep to, if none is at fault -/
theorem sv9_bd {t8 i7 p0 p1 p2 : Int} {lo hi be : vrs} (h8 : t8 = 0 ∨ t8 = 1) (h : (sv9 t8 i7 lo hi be p0 p1 p2).1 = 0) (g01 : t8 = 0 → vgd 0 lo ∧ vgd 0 hi) (g2 : i7 ≠ 0 → vgd t8 be) : ((if t8 = 1 then (0 : Int) else lo.2.1).natAbs ≤ 999999999 ∧ (if t8 = 1 then (1 : Int) else hi.2.1).natAbs ≤ 999999999) ∧ ((if t8 = 1 then (0 : Int) else lo.2.1) ≤ (if i7 = 0 then (if t8 = 1 then (0 : Int) else lo.2.1) else be.2.1) ∧ (if i7 = 0 then (if t8 = 1 then (0 : Int) else lo.2.1) else be.2.1) ≤ (if t8 = 1 then (1 : Int) else hi.2.1)) ∧ (t8 = 1 → (if t8 = 1 then (0 : Int) else lo.2.1) = 0 ∧ (if t8 = 1 then (1 : Int) else hi.2.1) = 1) := by
  unfold sv9 at h
  obtain ⟨h1, h2⟩ := fst9_1.mp h
  rcases h8 with e | e
  · have n1 : ¬ t8 = 1 := by omega
    rw [if_neg n1] at h1 h2
    rw [if_neg n1, if_neg n1]
    obtain ⟨h3, h4⟩ := fst9_1.mp h1
    obtain ⟨h5, h6⟩ := fst9_1.mp h3
    have l0 := (wh9_z h5).1
    have h0 := (wh9_z h6).1
    obtain ⟨g0, g1⟩ := g01 e
    have b0 := (g0.resolve_right (fun u => by omega)).2.1
    have b1 := (g1.resolve_right (fun u => by omega)).2.1
    have c1 : lo.2.1 ≤ hi.2.1 := Classical.byContradiction (fun u => by
      rw [if_neg (fun v => u v.1)] at h4
      exact absurd h4 (by simp))
    refine ⟨⟨b0, b1⟩, ?_, fun u => absurd u n1⟩
    by_cases i0 : i7 = 0
    · rw [if_pos i0]
      exact ⟨Int.le_refl _, c1⟩
    · rw [if_neg i0] at h2 ⊢
      obtain ⟨-, h8⟩ := fst9_1.mp h2
      exact Classical.byContradiction (fun u => by
        rw [if_neg u] at h8
        exact absurd h8 (by simp))
  · rw [if_pos e] at h2
    rw [if_pos e, if_pos e]
    refine ⟨⟨by decide, by decide⟩, ?_, fun _ => ⟨rfl, rfl⟩⟩
    by_cases i0 : i7 = 0
    · rw [if_pos i0]
      exact ⟨by decide, by decide⟩
    · rw [if_neg i0] at h2 ⊢
      have z := wh9_z h2
      have g := (g2 i0).resolve_right (fun u => by omega)
      have t := (g.2.2.2.2 e).1
      omega
theorem x_st_var (hFx : FMx G) (h0 : TX M z q w T A B D N C n p O P K Ab Be Cm V F ns sf ef c cnt L) (h : TX M1 z q w T A B D N C n p O P K Ab Be Cm V F ns sf ef c cnt L) (hv : vrS M1 q A n p L sl a nw V) (h8 : mI M1 q 8 = 0 → rvR M1 q O P F ns L sl 0 ∧ rvR M1 q O P F ns L sl 1) (h7 : mI M1 q 7 ≠ 0 → rvR M1 q O P F ns L sl 2) (zs : itZ q p s M) (wt : WTq M1 T A B D n W pl nq sm) (w4 : W k = 4) (hNn : n ≤ Nn) (va : vaV W pl nq sm M q p O P n c V k s.1 s.2.2 1 M1) (hp0 : mI M p 2 = ((L : Nat) : Int)) (cg : s.2.2.1 = 0 → CGm M p O P W pl nq sm Nn n s g) : ∃ e, mI M1 (q + 1) 2 = ((e + 1 : Nat) : Int) ∧ Rc W [50] 0 [50] (e + 1) ∧ k ≤ e ∧ nxq W 34 Nn k = e ∧ Cv G y_TR_settleVar (d + 6) [vr q] M1 (fun M' => itE M1 z q w T A B D N C n p O P K Ab Be Cm M' ∧ itZ q p (sN W pl nq sm Nn k s) M' ∧ mI M' (q + 1) 2 = ((a : Nat) : Int) ∧ ((sN W pl nq sm Nn k s).2.2.1 = 0 → CGm M' p O P W pl nq sm Nn n (sN W pl nq sm Nn k s) (igm9 W pl nq sm Nn s.1 k g))) := by
  obtain ⟨a', ea', va⟩ := va
  obtain ⟨-, ⟨w1, w33⟩, q3, rc, e, i, b, f2, X, I, ae, w34, ⟨pb, tx, txO⟩, kn, hFT, bo, ini⟩ := va.resolve_left (fun u => absurd u.1 (by first | decide | simp))
  clear va
  have esl : sl = b := by
    have := hv.1
    rw [pb] at this
    omega
  have hnw : nw = k + 1 := by
    have := hv.2.2.2.2.2.2.1
    rw [q3] at this
    omega
  have een : e + 1 ≤ n := by
    have u1 := hv.2.2.2.1
    have u2 := hv.2.2.2.2.1
    rw [ea', ae] at u1
    clear bo ini
    omega
  subst esl
  have n3 : no34 W k (k + 3) := (((no34.nil : no34 W k k).sc (by rw [w4]; decide)).sc (by rw [w1]; decide)).sc (by rw [w33]; decide)
  have ni : no34 W k i := by
    rcases bo with ⟨w5, ei, -, -⟩ | ⟨-, -, j, E0, E1, C0, C1, eo0, w16, eo1, -⟩
    · rw [ei]
      exact n3.sc (by rw [w5]; decide)
    · exact ((n3.eo eo0).sc (by rw [w16]; decide)).eo eo1
  have ie : i ≤ e := by
    rcases ini with ⟨-, ei, -, -⟩ | ⟨-, -, E2, C2, eo2, -⟩
    · omega
    · have := eo2.pr.1
      omega
  have ne : no34 W k e := by
    rcases ini with ⟨-, ei, -, -⟩ | ⟨w9, -, E2, C2, eo2, -⟩
    · rw [← ei]
      exact ni
    · exact (ni.sc (by rw [w9]; decide)).eo eo2
  have nx : nxq W 34 Nn k = e := nxq_34 ne w34 (by
    clear bo ini
    omega)
  refine ⟨e, by rw [← ae]; exact ea', by rw [← ae]; exact rc, ne.1, nx, ?_⟩
  by_cases f0 : s.2.2.1 = 0
  · have cs := zs.2 f0
    have ct := cs.1
    obtain ⟨hl, eV, eF, eC⟩ := cs.len h0
    have V12 : V ≤ 12 := h.2.1.1.2
    have cs1 := cs.tx tx.2
    have kn := kn ct hl
    rw [fst9_zr f0] at hFT
    have bo' : ∃ j, (W (k + 3) ≠ 5 → nxq W 16 Nn (k + 3) = j) ∧ (mI M1 q 8 = if W (k + 3) = 5 then 1 else 0) ∧ (X = if W (k + 3) = 5 then (0, 0) else fst9 (rf9 W pl sm s.1 1 0 (k + 3) j) (rf9 W pl sm s.1 1 0 (j + 1) i)) ∧ ((if W (k + 3) = 5 then k + 4 else nxq W 9 (e - (k + 3)) (k + 3)) = i) ∧ (X.1 = 0 → mI M1 q 8 = 0 → rwE W pl (cvn W nq sm s.1 n) q p O P sl 0 (k + 3) j 0 M1 ∧ rwE W pl (cvn W nq sm s.1 n) q p O P sl 1 (j + 1) i 0 M1) ∧ (W (k + 3) ≠ 5 → vlq W (cvn W nq sm s.1 n) pl 0 0 (k + 3) j = vlq W (cv9 W nq sm s.1) pl 0 0 (k + 3) j ∧ vlq W (cvn W nq sm s.1 n) pl 0 0 (j + 1) i = vlq W (cv9 W nq sm s.1) pl 0 0 (j + 1) i) := by
      rcases bo with ⟨w5, ei, q8, eX⟩ | ⟨w5, q8, j, E0, E1, C0, C1, eo0, w16, eo1, ec0, ec1, eX, rv0, rv1⟩
      · exact ⟨0, fun u => absurd w5 u, by rw [if_pos w5]; exact q8, by rw [if_pos w5]; exact eX, by rw [if_pos w5]; exact ei.symm, fun _ u => by rw [q8] at u; exact absurd u (by first | decide | simp), fun u => absurd w5 u⟩
      · have a0 := eo0.pr.1
        have a1 := eo1.pr.1
        have x0 := ec_1 ec0 ct hl
        have x1 := ec_1 ec1 ct hl
        have eX' : X = fst9 (rf9 W pl sm s.1 1 0 (k + 3) j) (rf9 W pl sm s.1 1 0 (j + 1) i) := by
          rw [eX, x0, x1]
          rfl
        have no9 : ∀ t, k + 3 ≤ t → t < i → W t ≠ 9 := fun t t1 t2 => by
          by_cases c1 : t < j
          · exact eo0.no9 (Or.inl rfl) t1 c1
          · by_cases c2 : t = j
            · rw [c2, w16]; decide
            · exact eo1.no9 (Or.inl rfl) (by omega) t2
        refine ⟨j, fun _ => nxq_at (by omega) (by clear ini; omega) w16 (fun t t1 t2 => eo0.no9 (Or.inr (Or.inl rfl)) t1 t2), by rw [if_neg w5]; exact q8, by rw [if_neg w5]; exact eX', ?_, fun u _ => ?_, fun _ => ⟨cv_eq (by clear ini; omega) eo0, cv_eq (by clear ini; omega) eo1⟩⟩
        · rw [if_neg w5]
          rcases ini with ⟨-, ei, -, -⟩ | ⟨w9, -, E2, C2, eo2, -⟩
          · rw [nxq_no (fun t t1 t2 => no9 t t1 (by omega))]
            omega
          · exact nxq_at (by omega) (by omega) w9 no9
        · rw [eX] at u
          obtain ⟨u0, u1⟩ := fst9_1.mp u
          exact ⟨rw_mk wt h ec0 ct hl tx rv0 eo0 u0, rw_mk wt h ec1 ct hl tx rv1 eo1 u1⟩
    obtain ⟨j, hj, q8, eX, hi9, r01, vlo⟩ := bo'
    clear bo
    have ini' : (mI M1 q 7 = if W i = 9 then 1 else 0) ∧ (I = if W i = 9 then rf9 W pl sm s.1 1 (mI M1 q 8) (i + 1) e else (0, 0)) ∧ (I.1 = 0 → mI M1 q 7 ≠ 0 → rwE W pl (cvn W nq sm s.1 n) q p O P sl 2 (i + 1) e (mI M1 q 8) M1) ∧ (W i = 9 → vlq W (cvn W nq sm s.1 n) pl 0 0 (i + 1) e = vlq W (cv9 W nq sm s.1) pl 0 0 (i + 1) e) := by
      rcases ini with ⟨w9, ei, q7, eI⟩ | ⟨w9, q7, E2, C2, eo2, ec2, eI, rv2⟩
      · exact ⟨by rw [if_neg w9]; exact q7, by rw [if_neg w9]; exact eI, fun _ u => absurd q7 u, fun u => absurd u w9⟩
      · have x2 := ec_1 ec2 ct hl
        refine ⟨by rw [if_pos w9]; exact q7, ?_, fun u _ => ?_, fun _ => cv_eq (by omega) eo2⟩
        · rw [if_pos w9, eI, x2]
          rfl
        · rw [eI] at u
          exact rw_mk wt h ec2 ct hl tx rv2 eo2 u
    obtain ⟨q7, eI, r2, vbe⟩ := ini'
    clear ini
    obtain ⟨p1, p2⟩ := itc_v (W := W) (pl := pl) (nq := nq) (sm := sm) (Nn := Nn) (k := k) (e := e) (s := s) (nV := V) (t8 := mI M1 q 8) (i7 := mI M1 q 7) (lo := vlq W (cvn W nq sm s.1 n) pl 0 0 (k + 3) j) (hi := vlq W (cvn W nq sm s.1 n) pl 0 0 (j + 1) i) (be := vlq W (cvn W nq sm s.1 n) pl 0 0 (i + 1) e) eV V12 kn hi9 hj q8 q7 eX eI (fun u => (vlo u).1) (fun u => (vlo u).2) vbe
    have es := sN_v (pl := pl) (nq := nq) (sm := sm) f0 w4 nx
    rw [← es] at p1 p2
    generalize sN W pl nq sm Nn k s = s' at p1 p2 ⊢
    rw [← hnw] at p2
    have zX : ∀ {A B : Int × Int}, (fst9 (fst9 (fst9 A B) X) I).1 = 0 → X.1 = 0 ∧ I.1 = 0 := fun u => ⟨(fst9_1.mp (fst9_1.mp u).1).2, (fst9_1.mp u).2⟩
    refine (x_TR_settleVar (x0 := k + 3) (y0 := j) (x1 := j + 1) (y1 := i) (x2 := i + 1) (y2 := e) (s := s) (s' := s') (cv := cvn W nq sm s.1 n) (W := W) (pl := pl) hFx h hv h8 h7 hFT (fun _ => cs1) (fun u v => r01 (zX u).1 v) (fun u v => r2 (zX u).2 v) rfl rfl rfl p1 (fun u v => (p2 u).1 v) (fun u v => (p2 u).2 v)).mono (fun M' kk => ⟨kk.1, kk.2.1, kk.2.2.1, fun z => ?_⟩)
    have u := Classical.byContradiction (fun u => u (by have q := p1 u; rw [q] at z; exact z))
    have zz := zX u
    have r01 := r01 zz.1
    have r2 := r2 zz.2
    have s0 := Classical.byContradiction (fun v => v (by have q := (p2 u).1 v; rw [q] at z; exact z))
    have es' := (p2 u).2 s0
    have sz := kk.2.2.2 z
    have ig : igm9 W pl nq sm Nn s.1 k g = (g.1 ++ [var9 W pl nq sm Nn s.1 k e], g.2) := by
      unfold igm9
      rw [if_neg (by omega), if_pos w4, nx]
    have h801 : mI M1 q 8 = 0 ∨ mI M1 q 8 = 1 := hv.2.2.2.2.2.2.2.2.2.2.1
    have vr : var9 W pl nq sm Nn s.1 k e = ((if mI M1 q 8 = 1 then 0 else (vlq W (cvn W nq sm s.1 n) pl 0 0 (k + 3) j).2.1), (if mI M1 q 8 = 1 then 1 else (vlq W (cvn W nq sm s.1 n) pl 0 0 (j + 1) i).2.1), (if mI M1 q 7 = 0 then (if mI M1 q 8 = 1 then 0 else (vlq W (cvn W nq sm s.1 n) pl 0 0 (k + 3) j).2.1) else (vlq W (cvn W nq sm s.1 n) pl 0 0 (i + 1) e).2.1)) := by
      unfold var9
      simp only [hi9]
      by_cases w5 : W (k + 3) = 5
      · rw [if_pos w5] at q8
        simp only [w5, q8, if_true]
        by_cases w9 : W i = 9
        · rw [if_pos w9] at q7
          rw [if_pos w9, if_neg (by rw [q7]; decide), vbe w9]
        · rw [if_neg w9] at q7
          rw [if_neg w9, if_pos q7]
      · rw [if_neg w5] at q8
        have n8 : ¬ mI M1 q 8 = 1 := by omega
        obtain ⟨vl1, vl2⟩ := vlo w5
        rw [if_neg w5, if_neg w5, if_neg n8, if_neg n8, hj w5, vl1, vl2]
        by_cases w9 : W i = 9
        · rw [if_pos w9] at q7
          rw [if_pos w9, if_neg (by rw [q7]; decide), vbe w9]
        · rw [if_neg w9] at q7
          rw [if_neg w9, if_pos q7]
    rw [ig, vr]
    rw [es']
    unfold svN
    rw [hnw]
    have bd := sv9_bd h801 s0 (fun y => ⟨(r01 y).1.gd, (r01 y).2.gd⟩) (fun y => (r2 y).gd)
    exact CGm.var (cg f0) hp0 tx.2.2.2.2.2.1 (tx.2.2.2.2.1 11 (by decide)) (fun t ht => txO t (by rw [hp0]; omega)) sz (by rw [cs.2.2.2.2.2.2.1, eV]) h801 bd.1 bd.2.1 bd.2.2
  · rw [sN_n f0]
    rw [fst9_n f0, fst9_n f0, fst9_n f0, fst9_n f0] at hFT
    exact (x_TR_settleVar (x0 := 0) (y0 := 0) (x1 := 0) (y1 := 0) (x2 := 0) (y2 := 0) (s := s) (s' := s) (cv := cvn W nq sm s.1 n) (W := W) (pl := pl) hFx h hv h8 h7 hFT (fun u => absurd u f0) (fun u => absurd u f0) (fun u => absurd u f0) rfl rfl rfl (fun _ => rfl) (fun u => absurd u f0) (fun u => absurd u f0)).mono (fun M' kk => ⟨kk.1, kk.2.1, kk.2.2.1, fun z => absurd z f0⟩)
end TXY
end
section
/-! The class's reader of texts, exactly: a target and a command as items. -/
section TXZ
variable {G : mG} {d z q w T A B D N C n p O P K Ab Be Cm V F c L cnt a k e i j b Nn : Nat} {M0 M M' M1 M2 : mM} {ns : Nat → Int} {sf ef : Nat → Nat} {W pl nq E : Nat → Int} {Cf : Nat → Int × Int} {sm : Nat → Nat → Prop} {s s' : st9} {ft : Int × Int} {g : gm9} {cnt1 L1 : Nat}
theorem itZ.mk (hF : FT M (q + 1) ft) (h1 : ft.1 ≠ 0 → s'.2.2 = ft) (h2 : ft.1 = 0 → s'.2.2 = (0, 0) ∧ CSm M q p s') : itZ q p s' M := by
  by_cases f0 : ft.1 = 0
  · obtain ⟨e1, e2⟩ := h2 f0
    refine ⟨?_, fun _ => e2⟩
    rw [e1]
    exact FT.zz (by rw [hF.1]; exact f0)
  · exact itZ.bad (by rw [h1 f0]; exact hF) (by rw [h1 f0]; exact f0)
theorem x_st_target (h0 : TX M z q w T A B D N C n p O P K Ab Be Cm V F ns sf ef c cnt L) (zs : itZ q p s M) (w11 : W k = 11) (hNn : n ≤ Nn) (ha : mI M1 (q + 1) 2 = ((a : Nat) : Int)) (han : a ≤ n) (tg : tgV W pl nq sm M q p O P n c L k s.1 (fst9 s.2.2 (if mI M p 11 = -1 then (0, 0) else (4, pl k))) 1 M1) (hp0 : mI M p 2 = ((L : Nat) : Int)) (cg : s.2.2.1 = 0 → CGm M p O P W pl nq sm Nn n s g) : ∃ e, mI M1 (q + 1) 2 = ((e + 1 : Nat) : Int) ∧ Rc W [50] 0 [50] (e + 1) ∧ k ≤ e ∧ nxq W 34 Nn k = e ∧ itZ q p (sN W pl nq sm Nn k s) M1 ∧ ((sN W pl nq sm Nn k s).2.2.1 = 0 → CGm M1 p O P W pl nq sm Nn n (sN W pl nq sm Nn k s) (igm9 W pl nq sm Nn s.1 k g)) := by
  obtain ⟨a', ea', tg⟩ := tg
  obtain ⟨-, p11, e, E, Cf, ae, eo, w34, rc, ec, hFT, tk, td⟩ := tg.resolve_left (fun u => absurd u.1 (by first | decide | simp))
  clear tg
  have een : e + 1 ≤ n := by
    rw [ea', ae] at ha
    omega
  have ne : no34 W k e := ((no34.nil : no34 W k k).sc (by rw [w11]; decide)).eo eo
  have nx : nxq W 34 Nn k = e := nxq_34 ne w34 (by omega)
  refine ⟨e, by rw [← ae]; exact ea', rc, ne.1, nx, ?_⟩
  rw [fst9_as] at hFT
  by_cases f0 : s.2.2.1 = 0
  · have cs := zs.2 f0
    have ct := cs.1
    obtain ⟨hl, eV, eF, eC⟩ := cs.len h0
    have e9 : E = E9 sm s.1 0 := by
      have u := (ec.2 ct hl).1
      rw [if_pos rfl] at u
      exact u
    rw [fst9_zr f0, e9] at hFT
    have et : (if mI M p 11 = -1 then ((0 : Int), (0 : Int)) else (4, pl k)) = if s.2.1.2.2.2 = 0 then (0, 0) else (4, pl k) := by
      by_cases c1 : s.2.1.2.2.2 = 0
      · rw [if_pos c1, if_pos (cs.2.2.2.2.1.mpr c1)]
      · rw [if_neg c1, if_neg (fun u => c1 (cs.2.2.2.2.1.mp u))]
    rw [et] at hFT
    obtain ⟨p1, p2⟩ := itc_t (W := W) (pl := pl) (sm := sm) (k := k) (e := e) (s := s) rfl
    have es := sN_t (pl := pl) (nq := nq) (sm := sm) f0 w11 nx
    rw [es]
    have ig : igm9 W pl nq sm Nn s.1 k g = (g.1, some (k + 1, e), g.2.2) := by
      unfold igm9
      rw [if_neg (by omega), if_neg (by omega), if_pos w11, nx]
    rw [ig]
    refine ⟨itZ.mk hFT p1 (fun u => ?_), fun z => ?_⟩
    rotate_left
    · have u := Classical.byContradiction (fun u => u (by have q := p1 u; rw [q] at z; exact z))
      rw [p2 u]
      have fz := (fst9_1.mp u).2
      rw [e9] at ec
      exact CGm.target (cg f0) hp0 eo (by omega) (ec.lf ct hl (fun i hi => (h0.2.1.2.2.1.2.2 i hi).2.2)) (fst9_1.mp fz).1 td
    rw [p2 u]
    obtain ⟨c1, c2, c3, c4, c5, c6⟩ := cs
    refine ⟨rfl, c1.tg tk, ?_, ?_, ?_, ⟨fun v => absurd v p11, fun v => absurd v (by first | decide | simp)⟩, c6⟩
    · rw [tk.2.2.1 3 (by decide) (by decide)]; exact c2
    · rw [tk.2.2.1 7 (by decide) (by decide)]; exact c3
    · rw [tk.2.2.1 12 (by decide) (by decide)]; exact c4
  · rw [sN_n f0]
    rw [fst9_n f0, fst9_n f0] at hFT
    exact ⟨itZ.bad hFT f0, fun z => absurd z f0⟩
theorem x_st_cmd (h0 : TX M z q w T A B D N C n p O P K Ab Be Cm V F ns sf ef c cnt L) (zs : itZ q p s M) (w7 : W k = 7 ∨ W k = 8) (hNn : n ≤ Nn) (ha : mI M1 (q + 1) 2 = ((a : Nat) : Int)) (han : a ≤ n) (cc : ccV W pl nq sm Nn n V O P L M q p c cnt k s.1 (fst9 s.2.2 (if cnt < 60 then (0, 0) else (5, pl k))) 1 M1) (hp0 : mI M p 2 = ((L : Nat) : Int)) (h1' : TX M1 z q w T A B D N C n p O P K Ab Be Cm V F ns sf ef c cnt1 L1) (cg : s.2.2.1 = 0 → CGm M p O P W pl nq sm Nn n s g) : ∃ e, mI M1 (q + 1) 2 = ((e + 1 : Nat) : Int) ∧ Rc W [50] 0 [50] (e + 1) ∧ k ≤ e ∧ nxq W 34 Nn k = e ∧ itZ q p (sN W pl nq sm Nn k s) M1 ∧ ((sN W pl nq sm Nn k s).2.2.1 = 0 → CGm M1 p O P W pl nq sm Nn n (sN W pl nq sm Nn k s) (igm9 W pl nq sm Nn s.1 k g)) := by
  obtain ⟨a', ea', cc⟩ := cc
  obtain ⟨-, ar, ix, E, hix, eo, w17, hE, a2, ea2, cm⟩ := cc.resolve_left (fun u => absurd u.1 (by first | decide | simp))
  clear cc
  obtain ⟨-, e, fB, ae, w34, ne, rc, hFT, hB, k19, k69, kp, k6, k7, bN, hb8, cr⟩ := cm.resolve_left (fun u => absurd u.1 (by first | decide | simp))
  clear cm
  have een : e + 1 ≤ n := by
    rw [ea2, ae] at ha
    omega
  have nx : nxq W 34 Nn k = e := nxq_34 ne w34 (by
    clear hB
    omega)
  have ale : ar ≤ e := by
    have u := eo.pr.1
    by_cases c : ar ≤ e
    · exact c
    · have v := eo.rw9 (j := e) (by
        have := ne.1
        by_cases c2 : k = e
        · rw [← c2] at w34
          rcases w7 with x | x <;> rw [w34] at x <;> exact absurd x (by first | decide | simp)
        · omega) (by omega)
      unfold rwd at v
      rw [w34] at v
      clear hB
      omega
  have hr : nxq W 17 Nn (k + 1) = ar := nxq_at (Nat.le_of_lt eo.pr.1) (by
    clear hB
    omega) w17 (fun t t1 t2 => eo.no9 (Or.inr (Or.inr rfl)) t1 t2)
  refine ⟨e, by rw [← ae]; exact ea2, rc, ne.1, nx, ?_⟩
  by_cases f0 : s.2.2.1 = 0
  · have cs := zs.2 f0
    have ct := cs.1
    obtain ⟨hl, eV, eF, eC⟩ := cs.len h0
    have c60 : cnt ≤ 60 := h0.2.2.1.2
    have e9 := hE ct hl
    obtain ⟨b1, b2⟩ := hB ct hl
    rw [fst9_zr f0, e9] at hFT
    obtain ⟨p1, p2⟩ := itc_c (W := W) (pl := pl) (sm := sm) (Nn := Nn) (k := k) (e := e) (ar := ar) (s := s) (nC := cnt) (f := vrf W (E9 sm s.1 0) pl 1 (k + 1) ar) (fB := fB) eC c60 hr rfl b1 b2
    have es := sN_c (pl := pl) (nq := nq) (sm := sm) f0 w7 nx
    rw [es]
    have ig : igm9 W pl nq sm Nn s.1 k g = (g.1, g.2.1, g.2.2 ++ [cmd9 W pl sm Nn s.1 k e]) := by
      unfold igm9
      rw [if_neg (by omega), if_neg (by omega), if_neg (by omega), nx]
    rw [ig]
    refine ⟨itZ.mk hFT p1 (fun u => ?_), fun z => ?_⟩
    rotate_left
    · have u := Classical.byContradiction (fun u => u (by have q := p1 u; rw [q] at z; exact z))
      rw [p2 u]
      have z3 : mI M1 (q + 1) 3 = 0 := by rw [hFT.1]; exact u
      exact CGm.cmd (cg f0) hp0 eC (by rw [cs.2.2.2.2.2.2.1, eV]) cr ct hl z3 ne w34 hr (hb8 (fst9_1.mp u).2) (fun v hv => by
        have v9 := (fst9_1.mp (fst9_1.mp u).1).1
        have c6' : cnt < 60 := by
          by_cases c1 : cnt < 60
          · exact c1
          · rw [if_neg c1] at v9
            exact absurd v9 (by first | decide | simp)
        have eix := hix c6'
        obtain ⟨u', hu', pg⟩ := h1'.2.2.2 z3
        obtain ⟨uu, e1, -, e3⟩ := pg.2.2.2.2.2.1
        have a9 := h1'.2.2.1.1
        rw [kp 12 (by decide), if_pos rfl] at a9
        have c1 : cnt1 = cnt + 1 := by omega
        rw [c1, hv] at e1
        omega)
    rw [p2 u]
    have c6' : cnt < 60 := by
      have v := (fst9_1.mp (fst9_1.mp u).1).1
      by_cases c1 : cnt < 60
      · exact c1
      · rw [if_neg c1] at v
        exact absurd v (by first | decide | simp)
    have eix := hix c6'
    obtain ⟨c1, c2, c3, c4, c5, c6⟩ := cs
    refine ⟨rfl, c1.cg k19 (k69 6 (by decide) (by decide)) (k69 7 (by decide) (by decide)) (k69 8 (by decide) (by decide)) (k69 9 (by decide) (by decide)) k6 k7, ?_, ?_, ?_, ?_, c6⟩
    · rw [kp 3 (by decide), if_neg (by decide)]; exact c2
    · rw [kp 7 (by decide), if_neg (by decide)]; exact c3
    · rw [kp 12 (by decide), if_pos rfl]
      show (ix : Int) + 1 = ((s.2.1.2.2.1 + 1 : Nat) : Int)
      clear hB hix c5
      omega
    · rw [kp 11 (by decide), if_neg (by decide)]; exact c5
  · rw [sN_n f0]
    rw [fst9_n f0, fst9_n f0, fst9_n f0] at hFT
    exact ⟨itZ.bad hFT f0, fun z => absurd z f0⟩
end TXZ
end
end
section
/-! The class's reader of texts, exactly: translate. -/
section TYA
variable {G : mG} {d z q w T A B D N C n p O P K Ab Be Cm V F c s0 L cnt a k e i f Nn Ab0 Be0 Cm0 : Nat} {M0 M M' M1 M2 : mM} {ns : Nat → Int} {sf ef : Nat → Nat} {W pl nq : Nat → Int} {sm : Nat → Nat → Prop} {s s' R : st9} {g Rg : gm9}
theorem TP.wtr (h : TP M z q w T A B D N C n p O P K Ab Be Cm) (f : FA (trS q p O P Ab Be) (fun x => x = q + 11) M M') (wt : WTq M T A B D n W pl nq sm) : WTq M' T A B D n W pl nq sm := by
  have key : ∀ x, (x = w ∨ x = T ∨ x = A ∨ x = B ∨ x = D) → mI M' x = mI M x := fun x hx => by
    have ap := h.apart
    obtain ⟨⟨-, -, -, -, -, b6, -⟩, -, -, -, -, ⟨-, -, s3⟩, -⟩ := h
    obtain ⟨u1, u2, u3, u4⟩ := s3 x hx
    have v := b6.2.2 x hx
    refine (f.2 x u4).2.2.2.2 (fun y => ?_)
    rcases y with y | y
    · exact t6a u1 v y
    · exact u7e u1 u2 u3 y
  exact wt.cg (key T (Or.inr (Or.inl rfl))) (key A (Or.inr (Or.inr (Or.inl rfl)))) (key B (Or.inr (Or.inr (Or.inr (Or.inl rfl))))) (key D (Or.inr (Or.inr (Or.inr (Or.inr rfl)))))
theorem itE.fa (h : itE M0 z q w T A B D N C n p O P K Ab0 Be0 Cm0 M') : FA (trS q p O P Ab0 Be0) (fun x => x = q + 11) M0 M' := by
  obtain ⟨_, _, _, _, _, _, _, _, _, _, _, _, -, -, -, -, -, -, h⟩ := h
  exact h.1
theorem rc50 (h : W a = 0) : Rc W [50] a [] (a + 1) := Rc.one (mst_n (by decide) (by decide) (ys := []) (t := 1) (by
  show ex50 (W a) = _
  unfold ex50
  rw [if_pos h]) (Or.inl (by decide)))
theorem rf50 (h : 0 ≤ W a ∧ W a ≤ 39) (h0 : W a ≠ 0) (h4 : W a ≠ 4) (h11 : W a ≠ 11) (h7 : ¬ (W a = 7 ∨ W a = 8)) (h3 : ¬ (W a = 3 ∨ W a = 6)) : Rf W [50] a a := Rf.of (mst_no (by decide) (by decide) (by
  show ex50 (W a) = _
  unfold ex50
  rw [if_neg h0, if_neg h3, if_neg h4, if_neg h7, if_neg h11]))
/-- the items so far: i of them, the next begins at a -/
def tlJ (T A B D n O P : Nat) (W pl nq : Nat → Int) (sm : Nat → Nat → Prop) (Nn q p : Nat) (R : st9) (Rg : gm9) (i a : Nat) (M : mM) : Prop := WTq M T A B D n W pl nq sm ∧ Rc W [50] 0 [50] a ∧ i ≤ a ∧ ∃ (s : st9) (g : gm9), itZ q p s M ∧ (s.2.2.1 = 0 → R = its9 W pl nq sm Nn 60 (Nn - i) a s) ∧ (s.2.2.1 ≠ 0 → R.2.2 = s.2.2) ∧ (s.2.2.1 = 0 → CGm M p O P W pl nq sm Nn n s g) ∧ (s.2.2.1 = 0 → Rg = igs9 W pl nq sm Nn 60 (Nn - i) a s g)
theorem igs_next (f0 : s.2.2.1 = 0) (h1 : s.2.2.1 = 0 → Rg = igs9 W pl nq sm Nn 60 (Nn - i) a s g) (wa : W a ≠ 0) (nx : nxq W 34 Nn a = e) (hi : i < Nn) (hz : (sN W pl nq sm Nn a s).2.2.1 = 0) : Rg = igs9 W pl nq sm Nn 60 (Nn - (i + 1)) (e + 1) (sN W pl nq sm Nn a s) (igm9 W pl nq sm Nn s.1 a g) := by
  have r := h1 f0
  obtain ⟨f, hf⟩ : ∃ f, Nn - i = f + 1 := ⟨Nn - i - 1, by omega⟩
  have hf2 : Nn - (i + 1) = f := by omega
  have es : sN W pl nq sm Nn a s = ite9 W pl nq sm Nn 60 a s := if_neg (fun u => u f0)
  rw [hf, igs9, if_neg (fun u => u f0), if_neg wa, nx, ← es, if_neg (fun u => u hz)] at r
  rw [hf2]
  exact r
theorem igs_over (h1 : s.2.2.1 = 0 → Rg = igs9 W pl nq sm Nn 60 (Nn - i) a s g) (f0 : s.2.2.1 = 0) (wa : W a = 0) (hi : i < Nn) : Rg = g := by
  have r := h1 f0
  obtain ⟨f, hf⟩ : ∃ f, Nn - i = f + 1 := ⟨Nn - i - 1, by omega⟩
  rw [hf, igs9, if_neg (fun u => u f0), if_pos wa] at r
  exact r
theorem its_next (h1 : s.2.2.1 = 0 → R = its9 W pl nq sm Nn 60 (Nn - i) a s) (h2 : s.2.2.1 ≠ 0 → R.2.2 = s.2.2) (wa : W a ≠ 0) (nx : nxq W 34 Nn a = e) (hi : i < Nn) : ((sN W pl nq sm Nn a s).2.2.1 = 0 → R = its9 W pl nq sm Nn 60 (Nn - (i + 1)) (e + 1) (sN W pl nq sm Nn a s)) ∧ ((sN W pl nq sm Nn a s).2.2.1 ≠ 0 → R.2.2 = (sN W pl nq sm Nn a s).2.2) := by
  by_cases f0 : s.2.2.1 = 0
  · have r := h1 f0
    obtain ⟨f, hf⟩ : ∃ f, Nn - i = f + 1 := ⟨Nn - i - 1, by omega⟩
    have hf2 : Nn - (i + 1) = f := by omega
    have es : sN W pl nq sm Nn a s = ite9 W pl nq sm Nn 60 a s := if_neg (fun u => u f0)
    rw [hf, its9, if_neg (fun u => u f0), if_neg wa, nx, ← es] at r
    rw [hf2]
    refine ⟨fun _ => r, fun u => ?_⟩
    have r2 : its9 W pl nq sm Nn 60 f (e + 1) (sN W pl nq sm Nn a s) = sN W pl nq sm Nn a s := by
      cases f with
      | zero => rfl
      | succ f => rw [its9, if_pos u]
    rw [r, r2]
  · rw [sN_n f0]
    exact ⟨fun u => absurd u f0, fun _ => h2 f0⟩
theorem its_over (h1 : s.2.2.1 = 0 → R = its9 W pl nq sm Nn 60 (Nn - i) a s) (f0 : s.2.2.1 = 0) (wa : W a = 0) (hi : i < Nn) : R = if s.2.1.2.2.2 = 0 then (s.1, s.2.1, (10, pl a)) else s := by
  have r := h1 f0
  obtain ⟨f, hf⟩ : ∃ f, Nn - i = f + 1 := ⟨Nn - i - 1, by omega⟩
  rw [hf, its9, if_neg (fun u => u f0), if_pos wa] at r
  exact r
/-- what translate comes to, exactly -/
def tlV (W pl nq : Nat → Int) (sm : Nat → Nat → Prop) (Nn n q p : Nat) (R : st9) (Rg : gm9) (x : Int) (M' : mM) : Prop := (x = 1 ∧ ∃ q9 : Nat, Rf W [50] 0 q9 ∧ q9 ≤ n ∧ mI M' (q + 1) 4 = pl q9) ∨ ((∃ a, Rc W [50] 0 [] (a + 1)) ∧ FT M' (q + 1) R.2.2 ∧ (R.2.2.1 = 0 → CSm M' q p R ∧ CGm M' p (mR M' p 0) (mR M' p 1) W pl nq sm Nn n R Rg))
/-- an item does not stand -/
theorem x_tl_not (h : nstQ z q w T A B D N C n p O P K Ab Be Cm V F ns sf ef c cnt L M) (hf : trF M0 q p O P Ab0 Be0 Cm0 M Ab Be Cm) (wt : WTq M T A B D n W pl nq sm) {q9 : Nat} (e9 : mI M (q + 1) 2 = ((q9 : Nat) : Int)) (rf : Rf W [50] 0 q9) : mK M q = 3 ∧ mK M (mR M q 0) = 4 ∧ ∀ M93, M93 = mUI M (mR M q 0) 3 1 → mK M93 (mR M93 q 0) = 4 ∧ Ci G y_RR_here d [vr (mR M93 q 0)] M93 (fun x97 M96 => i32 x97 ∧ mOk M96 ∧ (mK M96 (mR M93 q 0) = 4 ∧ ∀ M100, M100 = mUI M96 (mR M93 q 0) 4 x97 → (tlQ M0 z q w T A B D N C n p O P K Ab0 Be0 Cm0 1 M100 ∧ tlV W pl nq sm Nn n q p R Rg 1 M100))) := by
  obtain ⟨h1, a, a1, a2⟩ := h
  obtain ⟨t0, t1, t2, t3, t4, t5⟩ := h1.1.2.1
  have ap := h1.1.apart
  have qp := h1.1.2.2.2.2.2.1.2.1
  have ne1 : O ≠ q + 1 ∧ P ≠ q + 1 ∧ p ≠ q + 1 ∧ ∀ i, 3 ≤ i → i ≤ 15 → p + i ≠ q + 1 := by
    exact ⟨u7c ap.2.1 (by decide), u7c ap.2.2.1 (by decide), fun e => u7d (i := 0) qp (x := q + 1) (by omega) (by omega) (by decide) e.symm, fun i _ i15 e => u7d qp (x := q + 1) (by omega) (by omega) i15 e.symm⟩
  clear ap qp
  rw [t1]
  have gen : ∀ {Mx My : mM} {j : Nat} {x : Int}, TX Mx z q w T A B D N C n p O P K Ab Be Cm V F ns sf ef c cnt L → i32 x → My = mUI Mx (q + 1) j x → (j = 3 ∧ x ≠ 0) ∨ j = 4 → TX My z q w T A B D N C n p O P K Ab Be Cm V F ns sf ef c cnt L ∧ FI (txS q p O P) Mx My ∧ (∀ i, mI My (q + 1) i = if i = j then x else mI Mx (q + 1) i) := fun {Mx My j x} hx ix e hj => by
    have f : FI (fun y => y = q + 1) Mx My := by rw [e]; exact FI.ui rfl
    have nb : ∀ y, y ≠ q + 1 → mI My y = mI Mx y := fun y hy => f.2.2.2.2.2.2 y hy
    have ir : ∀ i, mI My (q + 1) i = if i = j then x else mI Mx (q + 1) i := fun i => by
      rw [mI_ui _ i e]
      by_cases y : i = j
      · rw [if_pos ⟨rfl, y⟩, if_pos y]
      · rw [if_neg (fun t => y t.2), if_neg y]
    have fx : FI (txS q p O P) Mx My := f.mono (fun y hy => Or.inl (by have hy' : y = q + 1 := hy; omega))
    have o : mOk My := by rw [e]; exact mOk_UI hx.1.1.1 ix
    refine ⟨hx.tx o ⟨fx, fun i _ i3 i4 _ _ _ _ _ => by rw [ir, if_neg (by omega)], fun y => ?_, fun i _ _ => nb _ (by omega), fun i _ => by rw [nb p ne1.2.2.1], fun i h3 h15 => nb _ (ne1.2.2.2 i h3 h15), fun i _ => ⟨by rw [nb O ne1.1], by rw [nb P ne1.2.1]⟩⟩ (fun y => by rw [nb _ (by omega)]; exact hx.2.1.2.2.2 y), fx, ir⟩
    rw [ir]
    rcases hj with ⟨j3, x0⟩ | j4
    · rw [if_pos j3.symm]; exact x0
    · rw [if_neg (by omega)]; exact y
  refine ⟨t0, h1.1.1.2.1.1, fun M93 e93 => ?_⟩
  obtain ⟨h93, f93, i93⟩ := gen h1 ⟨by decide, by decide⟩ e93 (Or.inl ⟨rfl, by decide⟩)
  rw [h93.1.2.1.2.1]
  refine ⟨h93.1.1.2.1.1, (s_RR_here h93.1.1 (a := a) (by rw [i93, if_neg (by decide)]; exact a1) a2).mono (fun x97 M96 k => ?_)⟩
  obtain ⟨e96, ex97, x0, x1⟩ := k
  have a9 : a = q9 := by
    rw [a1] at e9
    omega
  have eB : x97 = pl q9 := by rw [ex97, ((wt.fi h1.1 f93).1 a a2).2.2, a9]
  subst e96
  refine ⟨i32s (by omega) (by omega), h93.1.1.1, h93.1.1.2.1.1, fun M100 e100 => ?_⟩
  obtain ⟨h100, f100, i100⟩ := gen h93 (i32s (by omega) (by omega)) e100 (Or.inr rfl)
  exact ⟨⟨Ab, Be, Cm, V, F, ns, sf, ef, c, cnt, L, h100, (hf.trans (trF.fi f93)).trans (trF.fi f100), by rw [i100, if_neg (by decide), i93, if_pos rfl], fun u => absurd u (by first | decide | simp)⟩, Or.inl ⟨rfl, q9, rf, by omega, by rw [i100, if_pos rfl]; exact eB⟩⟩
/-- the loop over the items -/
theorem x_tl41 (hF : FMx G) (hNn : n + 1 ≤ Nn) : ∀ (t i : Nat) (M : mM) (Ab Be Cm V F : Nat) (ns : Nat → Int) (sf ef : Nat → Nat) (c cnt L a : Nat), n + 1 ≤ i + t → i ≤ n + 1 → TX M z q w T A B D N C n p O P K Ab Be Cm V F ns sf ef c cnt L → mI M p 2 = ((L : Nat) : Int) → mI M (q + 1) 2 = ((a : Nat) : Int) → a ≤ n → L ≤ a → mI M (q + 1) 5 = 0 → trF M0 q p O P Ab0 Be0 Cm0 M Ab Be Cm → tlJ T A B D n O P W pl nq sm Nn q p R Rg i a M → h_TR_translate_41 G (d + 7) q w i M (fun x M' => tlQ M0 z q w T A B D N C n p O P K Ab0 Be0 Cm0 x M' ∧ tlV W pl nq sm Nn n q p R Rg x M') := by
  intro t
  induction t with
  | zero =>
    intro i M Ab Be Cm V F ns sf ef c cnt L a ht hi h hp ha han hLa hd hf J
    exact absurd J.2.2.1 (by omega)
  | succ t ih =>
    intro i M Ab Be Cm V F ns sf ef c cnt L a ht hi h hp ha han hLa hd hf J
    obtain ⟨wt, hR, hia, s, g, zs, js1, js2, cg, jg⟩ := J
    have hN : n ≤ 16384 := by have := h.1.1.2.2.2.1.2.2.1; have := h.1.1.2.2.2.1.1.2.2.2.2.2.2.1; omega
    obtain ⟨t0, t1, t2, t3, t4, t5⟩ := h.1.2.1
    obtain ⟨⟨w1, ⟨p0, p3, -⟩, -, ⟨kA, -⟩, ⟨cA, -⟩, w6, w7, w8, -⟩, w2, hnN, hw, hA, hB⟩ := id h.1.1.2.2.2.1
    refine k_TR_translate_41 h.1.1.1 (i32s (by omega) (by omega)) ?_
    rw [w2, t1, t3, w6, p3, cA, ha, Int.toNat_natCast]
    have fin : i < n + 1 → ∀ {M1 : mM}, itE M0 z q w T A B D N C n p O P K Ab0 Be0 Cm0 M1 → (∃ a', mI M1 (q + 1) 2 = ((a' : Nat) : Int) ∧ tlJ T A B D n O P W pl nq sm Nn q p R Rg (i + 1) a' M1) → h_TR_translate_218 G (d + 7) q w i M1 (fun x M' => tlQ M0 z q w T A B D N C n p O P K Ab0 Be0 Cm0 x M' ∧ tlV W pl nq sm Nn n q p R Rg x M') := fun hi1 {M1} hE hJ => by
      obtain ⟨Ab1, Be1, Cm1, V1, F1, ns1, sf1, ef1, c1, cnt1, L1, a1, e1, e2, e3, e4, e5, e6, e7⟩ := hE
      obtain ⟨a', ea', hJ⟩ := hJ
      have eaa : a' = a1 := by
        rw [e3] at ea'
        omega
      subst eaa
      refine k_TR_translate_218 e1.1.1.1 (i32s (by omega) (by omega)) ?_
      rw [show ((i : Int) + 1) = ((i + 1 : Nat) : Int) by omega]
      exact ih (i + 1) M1 Ab1 Be1 Cm1 V1 F1 ns1 sf1 ef1 c1 cnt1 L1 a' (by omega) (by omega) e1 e2 e3 e4 e5 e6 e7 hJ
    have nst : ∀ {l4 : Int} {M1 : mM} {cnt1 L1 : Nat}, i32 l4 → nstQ z q w T A B D N C n p O P K Ab Be Cm V F ns sf ef c cnt1 L1 M1 → FI (txS q p O P) M M1 → (∃ q9 : Nat, mI M1 (q + 1) 2 = q9 ∧ Rf W [50] 0 q9) → h_TR_translate_155 G (d + 7) q w i l4 0 M1 (fun x M' => tlQ M0 z q w T A B D N C n p O P K Ab0 Be0 Cm0 x M' ∧ tlV W pl nq sm Nn n q p R Rg x M') := fun {l4 M1 cnt1 L1} il hn fi ⟨q9, e9, rf9'⟩ => k_TR_translate_155 hn.1.1.1.1 (i32s (by omega) (by omega)) il (i32s (by omega) (by omega)) ⟨fun _ => x_tl_not hn (hf.trans (trF.fi fi)) (wt.fi h.1 fi) e9 rf9', fun y => absurd rfl y⟩
    have itr' : ∀ {M1 M2 : mM}, FI (txS q p O P) M M1 → itE M1 z q w T A B D N C n p O P K Ab Be Cm M2 → itE M0 z q w T A B D N C n p O P K Ab0 Be0 Cm0 M2 := fun {M1 M2} fi hE => by
      obtain ⟨Ab1, Be1, Cm1, V1, F1, ns1, sf1, ef1, c1, cnt1, L1, a1, e1, e2, e3, e4, e5, e6, e7⟩ := hE
      exact ⟨Ab1, Be1, Cm1, V1, F1, ns1, sf1, ef1, c1, cnt1, L1, a1, e1, e2, e3, e4, e5, e6, (hf.trans (trF.fi fi)).trans e7⟩
    have wE : mI M A a = 0 → a = n ∧ W a = 0 := fun u => by
      refine ⟨?_, ?_⟩
      · by_cases c1 : a = n
        · exact c1
        · have := (hw a (by omega)).1.1
          omega
      · obtain ⟨v1, v2, -⟩ := wt.1 a han
        exact (csq_w v1).2.1.mp (by rw [← v2]; exact u)
    have nxt : ∀ {e : Nat} {M2 : mM}, W a ≠ 0 → nxq W 34 Nn a = e → a ≤ e → Rc W [50] 0 [50] (e + 1) → WTq M2 T A B D n W pl nq sm → itZ q p (sN W pl nq sm Nn a s) M2 → ((sN W pl nq sm Nn a s).2.2.1 = 0 → CGm M2 p O P W pl nq sm Nn n (sN W pl nq sm Nn a s) (igm9 W pl nq sm Nn s.1 a g)) → tlJ T A B D n O P W pl nq sm Nn q p R Rg (i + 1) (e + 1) M2 := fun {e M2} wa nx ae rc wt2 z2 cg2 => by
      obtain ⟨g1, g2⟩ := its_next (pl := pl) (nq := nq) (sm := sm) js1 js2 wa nx (show i < Nn by omega)
      refine ⟨wt2, rc, by omega, _, igm9 W pl nq sm Nn s.1 a g, z2, g1, g2, cg2, fun hz => ?_⟩
      have f0 : s.2.2.1 = 0 := Classical.byContradiction (fun u => u (by rw [sN_n u] at hz; exact hz))
      exact igs_next f0 jg wa nx (show i < Nn by omega) hz
    refine ⟨w1, fun _ => ⟨t0, h.1.1.2.1.1, kA, by omega⟩, fun yE => ⟨t0, h.1.1.2.2.2.2.1.1, fun y => ⟨h.1.1.2.1.1, (x_tx_note (x := 10) (i32s (by omega) (by omega)) (by omega) (i32s (by omega) (by omega)) h).mono (fun M32 k => ?_)⟩, fun y => ?_⟩, fun y => ?_⟩
    · obtain ⟨o32, h32, x32, u3, u4, u5, u6⟩ := k
      obtain ⟨an, wa⟩ := wE (yE.resolve_left (by omega))
      have F32 := u6 _ zs.1
      rw [show ((N : Nat) : Int) = pl a by rw [← (wt.1 a han).2.2, an]; exact hB.symm] at F32
      have Rf9 : FT M32 (q + 1) R.2.2 ∧ R.2.2.1 ≠ 0 := by
        by_cases f0 : s.2.2.1 = 0
        · have ct := (zs.2 f0).2.2.2.2.1.mp y
          have r := its_over js1 f0 wa (show i < Nn by omega)
          rw [if_pos ct] at r
          rw [fst9_zr f0] at F32
          rw [r]
          exact ⟨F32, by simp⟩
        · rw [fst9_n f0] at F32
          rw [js2 f0]
          exact ⟨F32, f0⟩
      refine ⟨o32, k_TR_translate_248 o32 ⟨h32.1.2.1.1, by rw [h32.1.2.1.2.1]; exact h32.1.1.2.1.1, ?_⟩⟩
      rw [h32.1.2.1.2.1]
      exact ⟨⟨Ab, Be, Cm, V, F, ns, sf, ef, c, cnt, L, h32, hf.trans (trF.fi x32.1), rfl, fun u => absurd u u3⟩, Or.inr ⟨⟨a, hR.trans (rc50 wa)⟩, Rf9.1, fun u => absurd u Rf9.2⟩⟩
    · obtain ⟨an, wa⟩ := wE (yE.resolve_left (by omega))
      refine k_TR_translate_248 h.1.1.1 ⟨t0, by rw [t1]; exact h.1.1.2.1.1, ?_⟩
      rw [t1]
      refine ⟨⟨Ab, Be, Cm, V, F, ns, sf, ef, c, cnt, L, h, hf, rfl, fun _ => ⟨y, hp, by omega⟩⟩, Or.inr ⟨⟨a, hR.trans (rc50 wa)⟩, ?_⟩⟩
      by_cases f0 : s.2.2.1 = 0
      · have r := its_over js1 f0 wa (show i < Nn by omega)
        rw [if_neg (fun u => y ((zs.2 f0).2.2.2.2.1.mpr u))] at r
        rw [r, igs_over jg f0 wa (show i < Nn by omega)]
        have ro := h.1.1.2.2.2.2.1.2.1
        rw [ro.1, ro.2]
        exact ⟨zs.1, fun u => ⟨zs.2 u, cg u⟩⟩
      · rw [js2 f0]
        exact ⟨zs.1, fun u => absurd u f0⟩
    · have i1n : i < n + 1 := by
        by_cases u : ((n : Int) + 1 ≤ i)
        · exact absurd (Or.inl u) y
        · omega
      have y0 : mI M A a ≠ 0 := fun u => y (Or.inr u)
      have wA := wt.1 a han
      have wa : W a ≠ 0 := fun u => y0 (by rw [wA.2.1, u]; rfl)
      have an : a < n := by
        have : a ≠ n := fun u => y0 (by rw [u]; exact hA)
        omega
      have il := (h.1.1.1 A a).1
      have fin' := fun {M1 : mM} => fin i1n (M1 := M1)
      clear fin y
      have eS : ∀ {y : Int}, 1 ≤ y → y ≤ 38 → mI M A a = y + 1 → W a = y := fun h1 h2 u => (wt.is han h1 h2).mp u
      refine ⟨t0, h.1.1.2.1.1, kA, by omega, fun y5 => ?_, fun y5 => ⟨fun y12 => ?_, fun y12 => ⟨fun y8 => ?_, fun y8 => ⟨fun y4 => ?_, fun y4 => ?_⟩⟩⟩⟩
      · have w4 : W a = 4 := eS (by decide) (by decide) y5
        refine (x_TR_readVar (nms := s.1) h ha an hp hLa hd wt zs.1 w4 hR).mono (fun x M1 k => ?_)
        obtain ⟨⟨f1, k1⟩, va⟩ := k
        have wt1 : WTq M1 T A B D n W pl nq sm := wt.fi h.1 f1
        rcases k1 with ⟨e, u⟩ | ⟨e, h1, sl, a', nw, u1, u2, u3⟩
        · rw [e] at va ⊢
          exact ⟨⟨by decide, by decide⟩, u.1.1.1.1, nst il u f1 (by obtain ⟨b, eb, v⟩ := va; exact ⟨b, eb, (v.resolve_right (fun t => absurd t.1 (by first | decide | simp))).2⟩)⟩
        · rw [e] at va ⊢
          obtain ⟨e9, ee9, rc9, ae9, nx9, cv9'⟩ := x_st_var (G := G) (d := d + 1) hF h h1 u1 u2 u3 zs wt1 w4 (show n ≤ Nn by omega) va hp cg
          have ea9 : a' = e9 + 1 := by
            have t := u1.2.2.2.1
            rw [ee9] at t
            omega
          refine ⟨⟨by decide, by decide⟩, h1.1.1.1, k_TR_translate_155 h1.1.1.1 (i32s (by omega) (by omega)) il (i32s (by omega) (by omega)) ⟨fun t => absurd t (by first | decide | simp), fun _ => ⟨fun _ => ⟨h1.1.2.1.1, cv9'.mono (fun M2 k => ?_)⟩, fun t => absurd y5 t⟩⟩⟩
          have hE := itr' f1 k.1
          exact ⟨by obtain ⟨_, _, _, _, _, _, _, _, _, _, _, _, e1, -⟩ := hE; exact e1.1.1.1, fin' hE ⟨e9 + 1, by rw [← ea9]; exact k.2.2.1, nxt wa nx9 ae9 rc9 (h1.1.wtr k.1.fa wt1) k.2.1 k.2.2.2⟩⟩
      · have w11 : W a = 11 := eS (by decide) (by decide) y12
        refine (x_TR_readTarget (nms := s.1) h ha an hp hLa hd wt zs.1 w11 hR).mono (fun x M1 k => ?_)
        obtain ⟨⟨f1, k1⟩, tv⟩ := k
        have wt1 : WTq M1 T A B D n W pl nq sm := wt.fi h.1 f1
        rcases k1 with ⟨e, L1, u⟩ | ⟨e, L1, a', h1, u1, u2, u3, u4, u5⟩
        · rw [e] at tv ⊢
          exact ⟨⟨by decide, by decide⟩, u.1.1.1.1, nst il u f1 (by obtain ⟨b, eb, v⟩ := tv; exact ⟨b, eb, (v.resolve_right (fun t => absurd t.1 (by first | decide | simp))).2⟩)⟩
        · rw [e] at tv ⊢
          obtain ⟨e9, ee9, rc9, ae9, nx9, z9, c9⟩ := x_st_target (nq := nq) h zs w11 (show n ≤ Nn by omega) u2 u3 tv hp cg
          exact ⟨⟨by decide, by decide⟩, h1.1.1.1, k_TR_translate_155 h1.1.1.1 (i32s (by omega) (by omega)) il (i32s (by omega) (by omega)) ⟨fun t => absurd t (by first | decide | simp), fun _ => ⟨fun t => absurd t y5, fun _ => ⟨fun t => absurd t (by omega), fun _ => fin' ⟨Ab, Be, Cm, V, F, ns, sf, ef, c, cnt, L1, a', h1, u1, u2, u3, u4, u5, hf.trans (trF.fi f1)⟩ ⟨e9 + 1, ee9, nxt wa nx9 ae9 rc9 wt1 z9 c9⟩⟩⟩⟩⟩
      · have w7 : W a = 7 ∨ W a = 8 := y8.imp (fun u => eS (by decide) (by decide) u) (fun u => eS (by decide) (by decide) u)
        refine (x_TR_readCommand (Nn := Nn) (nms := s.1) ⟨fun u => eS (y := 7) (by decide) (by decide) u, fun u => by rw [wA.2.1, u]; rfl⟩ il h ha an hp hLa hd (show n ≤ Nn by omega) wt zs.1 w7 hR).mono (fun x M1 k => ?_)
        obtain ⟨⟨f1, k1⟩, tv⟩ := k
        have wt1 : WTq M1 T A B D n W pl nq sm := wt.fi h.1 f1
        rcases k1 with ⟨e, L1, cnt1, u⟩ | ⟨e, L1, cnt1, a', h1, u1, u2, u3, u4, u5⟩
        · rw [e] at tv ⊢
          exact ⟨⟨by decide, by decide⟩, u.1.1.1.1, nst il u f1 (by obtain ⟨b, eb, v⟩ := tv; exact ⟨b, eb, (v.resolve_right (fun t => absurd t.1 (by first | decide | simp))).2⟩)⟩
        · rw [e] at tv ⊢
          obtain ⟨e9, ee9, rc9, ae9, nx9, z9, c9⟩ := x_st_cmd h zs w7 (show n ≤ Nn by omega) u2 u3 tv hp h1 cg
          exact ⟨⟨by decide, by decide⟩, h1.1.1.1, k_TR_translate_155 h1.1.1.1 (i32s (by omega) (by omega)) il (i32s (by omega) (by omega)) ⟨fun t => absurd t (by first | decide | simp), fun _ => ⟨fun t => absurd t y5, fun _ => ⟨fun t => absurd t (by omega), fun _ => fin' ⟨Ab, Be, Cm, V, F, ns, sf, ef, c, cnt1, L1, a', h1, u1, u2, u3, u4, u5, hf.trans (trF.fi f1)⟩ ⟨e9 + 1, ee9, nxt wa nx9 ae9 rc9 wt1 z9 c9⟩⟩⟩⟩⟩
      · have w36 : W a = 3 ∨ W a = 6 := y4.imp (fun u => eS (by decide) (by decide) u) (fun u => eS (by decide) (by decide) u)
        have hl1 : mI M A a = W a + 1 := by
          rcases y4 with u | u
          · rw [u, eS (y := 3) (by decide) (by decide) u]; rfl
          · rw [u, eS (y := 6) (by decide) (by decide) u]; rfl
        refine (x_TR_readNamed (nms := s.1) y4 h ha an hp hLa hd wt zs.1 w36 hR).mono (fun x M1 k => ?_)
        obtain ⟨⟨f1, k1⟩, nv⟩ := k
        have wt1 : WTq M1 T A B D n W pl nq sm := wt.fi h.1 f1
        rcases k1 with ⟨e, u⟩ | ⟨e, h1, u0, e', a', nw, H, u1, u2, u3, u4, u5, u6, u7, u8, u9, u10, u11⟩
        · rw [e] at nv ⊢
          exact ⟨⟨by decide, by decide⟩, u.1.1.1.1, fun _ => nst il u f1 (by obtain ⟨b, eb, v⟩ := nv; exact ⟨b, eb, (v.resolve_right (fun t => absurd t.1 (by first | decide | simp))).2⟩), fun t => absurd rfl t⟩
        · rw [e] at nv ⊢
          obtain ⟨b9, eb9, nv⟩ := nv
          obtain ⟨-, nw2, e9, E9', C9, L9, f9, v1, v2, v3, v4, v5, v6, v7, v8, v9, v10, v11, v12, v13⟩ := nv.resolve_left (fun t => absurd t.1 (by first | decide | simp))
          clear nv
          have ea9 : a' = e9 + 1 := by
            rw [u3, v1] at eb9
            omega
          obtain ⟨nx9, cv9'⟩ := x_st_named (G := G) (d := d + 1) hF y4 hl1 h h1 u0 u1 u2 u3 u4 u5 u6 ⟨u7, u8, u9⟩ u10 u11 zs wt1 nw2 v2 v3 (by omega) (show n ≤ Nn by omega) v5 v6 v7 v8 v9 v10 v11 v12 v13 hp cg
          have ae9 : a ≤ e9 := by
            have := v2.pr.1
            omega
          refine ⟨⟨by decide, by decide⟩, h1.1.1.1, fun t => absurd t (by first | decide | simp), fun _ => k_TR_translate_155 h1.1.1.1 (i32s (by omega) (by omega)) il (i32s (by omega) (by omega)) ⟨fun t => absurd t (by first | decide | simp), fun _ => ⟨fun t => absurd t y5, fun _ => ⟨fun _ => ⟨h1.1.2.1.1, cv9'.mono (fun M2 k => ?_)⟩, fun t => absurd y4 t⟩⟩⟩⟩
          have hE := itr' f1 k.1
          exact ⟨by obtain ⟨_, _, _, _, _, _, _, _, _, _, _, _, e1, -⟩ := hE; exact e1.1.1.1, fin' hE ⟨e9 + 1, by rw [← ea9]; exact k.2.2.1, nxt wa nx9 ae9 v4 (h1.1.wtr k.1.fa wt1) k.2.1 (fun z => by
            have ig : igm9 W pl nq sm Nn s.1 a g = g := if_pos w36
            rw [ig]
            exact k.2.2.2 z)⟩⟩
      · exact nst il ⟨h, a, ha, han⟩ FI.refl ⟨a, ha, hR.rf (rf50 wA.1 wa (fun u => y5 (by rw [wA.2.1, u]; rfl)) (fun u => y12 (by rw [wA.2.1, u]; rfl)) (fun u => y8 (u.imp (fun v => by rw [wA.2.1, v]; rfl) (fun v => by rw [wA.2.1, v]; rfl))) (fun u => y4 (u.imp (fun v => by rw [wA.2.1, v]; rfl) (fun v => by rw [wA.2.1, v]; rfl))))⟩
end TYA
end
