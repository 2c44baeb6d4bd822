/-! What a text's items make: the names are sound. Pure. -/
section PNM
variable {w pl nq : Nat → Int} {sm : Nat → Nat → Prop} {N n k e i j : Nat} {s : st9} {nms : List nm9}
/-- what consts are worth is sound -/
theorem cvc_ok (hq : NqO w nq n) (hn : NmO w pl sm N n nms) : ∀ k, (w k = 1 ∨ w k = 2 ∨ w k = 12 ∨ w k = 13) → (w k = 1 → E9 sm nms 1 k ≠ -1) → vgd (if w k = 12 ∨ w k = 13 ∨ (w k = 1 ∧ E9 sm nms 1 k = 1) then 1 else 0) (if k < n then cv9 w nq sm nms k else (0, 0, 1)) := by
  intro k hk hne
  by_cases kn : k < n
  · rw [if_pos kn]
    by_cases h1 : w k = 1
    · have h := hne h1
      unfold cv9
      rw [if_pos h1]
      unfold E9 at h ⊢
      generalize hf : fnd9 sm nms k = o at h ⊢
      cases o with
      | none => exact absurd rfl h
      | some e =>
        obtain ⟨l1, l2, q1, q2, q3⟩ := fnd_sp hf
        obtain ⟨a1, a2, a3, a4⟩ := hn l1 e l2 q1
        have h' : (if (1 : Int) = 1 ∧ e.2.1 ≠ 1 then (-1 : Int) else e.2.2.1) ≠ -1 := h
        by_cases y : e.2.1 = 1
        · have g := a3 y
          show vgd (if w k = 12 ∨ w k = 13 ∨ (w k = 1 ∧ (if (1 : Int) = 1 ∧ e.2.1 ≠ 1 then (-1 : Int) else e.2.2.1) = 1) then 1 else 0) e.2.2.2
          have ee : (if (1 : Int) = 1 ∧ e.2.1 ≠ 1 then (-1 : Int) else e.2.2.1) = e.2.2.1 := if_neg (fun u => u.2 y)
          rw [ee]
          rcases a2 with z | z
          · rw [if_neg (by omega)]
            rw [z] at g
            exact g
          · rw [if_pos (Or.inr (Or.inr ⟨h1, z⟩))]
            rw [z] at g
            exact g
        · rw [if_pos ⟨rfl, y⟩] at h'
          exact absurd rfl h'
    · unfold cv9
      rw [if_neg h1]
      by_cases h2 : w k = 2
      · rw [if_pos h2, if_neg (by omega)]
        exact vgd_w (hq k kn h2)
      · rw [if_neg h2]
        by_cases h3 : w k = 12
        · rw [if_pos h3, if_pos (Or.inl h3)]
          exact vgd_01.1
        · rw [if_neg h3, if_pos (Or.inr (Or.inl (by omega)))]
          exact vgd_01.2
  · rw [if_neg kn]
    exact vgd_01.2
theorem vlc_ok (hq : NqO w nq n) (hn : NmO w pl sm N n nms) (he : Eo w 6 i j) (hj : j ≤ n) (hf : (fl w (E9 sm nms 1) pl 0 i j).1 = 0) : vgd (kdq w (E9 sm nms 1) 0 i j) (vlq w (cv9 w nq sm nms) pl 0 0 i j) := by
  have e9 : vlq w (cv9 w nq sm nms) pl 0 0 i j = vlq w (fun k => if k < n then cv9 w nq sm nms k else (0, 0, 1)) pl 0 0 i j := vl_ci0 (fun k _ h => (if_pos (show k < n by omega)).symm) he
  rw [e9]
  exact vl_ok (cvc_ok hq hn) _ 0 _ _ (Nat.le_refl _) (Or.inl ⟨rfl, he⟩) hf (fun u => absurd u (by decide)) 0
theorem itr_nmo (hq : NqO w nq n) (hn : NmO w pl sm N n s.1) (he : e ≤ n) (eo : Eo w 6 (k + 3) e) (nx : nxq w 34 N (k + 1) = e) : NmO w pl sm N n (itr w pl nq sm k e s).1 := by
  unfold itr
  simp only []
  by_cases c1 : s.2.1.2.1 = 60
  · rw [if_pos c1]; exact hn
  rw [if_neg c1]
  by_cases c2 : fnd9 sm s.1 (k + 1) ≠ none
  · rw [if_pos c2]; exact hn
  rw [if_neg c2]
  by_cases c5 : w k = 3
  · simp only [if_pos c5]
    by_cases c3 : (fl w (E9 sm s.1 1) pl 0 (k + 3) e).1 ≠ 0
    · rw [if_pos c3]; exact hn
    rw [if_neg c3]
    have c3 := Decidable.not_not.mp c3
    by_cases c4 : (vlq w (cv9 w nq sm s.1) pl 0 0 (k + 3) e).1 ≠ 0
    · rw [if_pos c4]; exact hn
    rw [if_neg c4]
    exact NmO.add hn (show (1 : Nat) ≤ 1 ∧ 1 ≤ 3 by decide) kd_01 (fun _ => vlc_ok hq hn eo he c3) (fun u => absurd u (show ¬ (1 : Nat) = 2 by decide))
  · simp only [if_neg c5]
    by_cases c3 : (fl w (E9 sm s.1 0) pl 0 (k + 3) e).1 ≠ 0
    · rw [if_pos c3]; exact hn
    rw [if_neg c3]
    have c3 := Decidable.not_not.mp c3
    have z0 : ¬ ((0 : Int) ≠ 0) := fun u => u rfl
    rw [if_neg z0]
    refine NmO.add hn (show (1 : Nat) ≤ 2 ∧ 2 ≤ 3 by decide) kd_01 (fun u => absurd u (show ¬ (2 : Nat) = 1 by decide)) (fun _ => ?_)
    show Eo w 6 (k + 1 + 2) (nxq w 34 N (k + 1)) ∧ nxq w 34 N (k + 1) ≤ n ∧ (fl w (E9 sm s.1 0) pl 0 (k + 1 + 2) (nxq w 34 N (k + 1))).1 = 0 ∧ kdq w (E9 sm s.1 0) 0 (k + 3) e = kdq w (E9 sm s.1 0) 0 (k + 1 + 2) (nxq w 34 N (k + 1))
    rw [nx]
    exact ⟨eo, he, c3, rfl⟩
theorem ite_nmo (hq : NqO w nq n) (hn : NmO w pl sm N n s.1) (nN : n + 1 = N) (it : It w k e) (nx : nxq w 34 N k = e) (he : e < N) : NmO w pl sm N n (ite9 w pl nq sm N 60 k s).1 := by
  have lt := it.2.1
  have nx1 : nxq w 34 N (k + 1) = e := nxq_at (by omega) (by omega) it.1 (fun m m1 m2 => it.sg.2.2.2 m (by omega) m2)
  have hv : ∀ x : Int, (x = 0 ∨ x = 1) → NmO w pl sm N n (s.1 ++ [(k + 1, 3, x, ((0, 0, 1) : vrs))]) := fun x hx => NmO.add hn (show (1 : Nat) ≤ 3 ∧ 3 ≤ 3 by decide) hx (fun u => absurd u (show ¬ (3 : Nat) = 1 by decide)) (fun u => absurd u (show ¬ (3 : Nat) = 2 by decide))
  unfold ite9
  simp only [nx]
  rcases it.2.2 with ⟨h0, h1, h2, eo⟩ | ⟨h0, h1, h2, i, vs, hi⟩ | ⟨h0, j, f1, eo, w17, br⟩ | ⟨h0, eo⟩
  · rw [if_pos h0]
    exact itr_nmo hq hn (by omega) eo nx1
  · rw [if_neg (show ¬ (w k = 3 ∨ w k = 6) by omega), if_pos h0]
    unfold itv
    simp only []
    repeat' split
    all_goals first | exact hn | exact hv 1 (Or.inr rfl) | exact hv 0 (Or.inl rfl)
  · rw [if_neg (show ¬ (w k = 3 ∨ w k = 6) by omega), if_neg (show ¬ (w k = 4) by omega), if_neg (show ¬ (w k = 11) by omega)]
    unfold itc
    simp only []
    repeat' split
    all_goals exact hn
  · rw [if_neg (show ¬ (w k = 3 ∨ w k = 6) by omega), if_neg (show ¬ (w k = 4) by omega), if_pos h0]
    unfold itt
    simp only []
    repeat' split
    all_goals exact hn
theorem its_nmo (hq : NqO w nq n) (nN : n + 1 = N) : ∀ (f f' k : Nat) (s : st9), Ac w N f [50] k → NmO w pl sm N n s.1 → NmO w pl sm N n (its9 w pl nq sm N 60 f' k s).1 := by
  intro f
  induction f using Nat.strongRecOn with
  | ind f ih =>
    intro f' k s hac hn
    cases f' with
    | zero => exact hn
    | succ f' =>
      rw [its9]
      by_cases f0 : s.2.2.1 = 0
      · rw [if_neg (show ¬ s.2.2.1 ≠ 0 from fun u => u f0)]
        rcases ac_item hac with ⟨c0, c1⟩ | ⟨c0, e, g, hg, hit, hac'⟩
        · rw [if_pos c0]
          split
          · exact hn
          · exact hn
        · have eN := ac_le hac'
          have lt := hit.2.1
          have nx : nxq w 34 N k = e := nxq_at (by omega) (by omega) hit.1 (fun m m1 m2 => hit.sg.2.2.2 m m1 m2)
          rw [if_neg c0, nx]
          exact ih g hg f' (e + 1) _ hac' (ite_nmo hq hn nN hit nx (by omega))
      · rw [if_pos f0]
        exact hn
theorem nmo_nil : NmO w pl sm N n [] := fun l1 e l2 h => absurd h (by simp)
end PNM
section PNN
theorem numq_b {c : Nat → Int} {p : Nat} : ∀ l, (∀ j, p ≤ j → j < p + l → 48 ≤ c j ∧ c j ≤ 57) → 0 ≤ numq c p l ∧ numq c p l < 10 ^ l
  | 0, _ => ⟨Int.le_refl 0, by show (0 : Int) < 10 ^ 0; decide⟩
  | l + 1, h => by
    obtain ⟨h1, h2⟩ := numq_b l (fun j a b => h j a (by omega))
    have d := h (p + l) (by omega) (by omega)
    have e : (10 : Int) ^ (l + 1) = 10 ^ l * 10 := Int.pow_succ 10 l
    show 0 ≤ 10 * numq c p l + (c (p + l) - 48) ∧ 10 * numq c p l + (c (p + l) - 48) < 10 ^ (l + 1)
    rw [e]
    generalize (10 : Int) ^ l = t at h2 ⊢
    omega
theorem numq_9 {c : Nat → Int} {p l : Nat} (hl : l ≤ 9) (h : ∀ j, p ≤ j → j < p + l → 48 ≤ c j ∧ c j ≤ 57) : (numq c p l).natAbs ≤ 999999999 := by
  obtain ⟨h1, h2⟩ := numq_b l h
  have h3 : (10 : Int) ^ l ≤ 10 ^ 9 := by
    have : l = 0 ∨ l = 1 ∨ l = 2 ∨ l = 3 ∨ l = 4 ∨ l = 5 ∨ l = 6 ∨ l = 7 ∨ l = 8 ∨ l = 9 := by omega
    rcases this with y | y | y | y | y | y | y | y | y | y <;> subst y <;> decide
  have h4 : (10 : Int) ^ 9 = 1000000000 := by decide
  omega
/-- the numbers of the reference's words are small -/
theorem nqo_wx {M : mM} {a N n : Nat} (h : Wx M a N) (hn : n ≤ N) : NqO (wk M a) (nuq M a) n := fun k hk h2 => by
  obtain ⟨-, -, -, wo, -⟩ := h
  obtain ⟨-, ⟨b1, b2, b3⟩, -, b4, -⟩ := wo k (by omega)
  obtain ⟨c1, c2⟩ := b4 h2
  unfold nuq
  refine numq_9 (by omega) (fun j j1 j2 => c2 j (by omega) (by omega))
end PNN
/-- the vars' ranges and inits are sound -/
def VlO (nms : List nm9) (vl : List (Int × Int × Int)) : Prop := vl.length = vcn nms ∧ (∀ (v : Nat) (x : Int × Int × Int), vl[v]? = some x → (x.1.natAbs ≤ 999999999 ∧ x.2.1.natAbs ≤ 999999999) ∧ x.1 ≤ x.2.2 ∧ x.2.2 ≤ x.2.1) ∧ ∀ l1 e l2, nms = l1 ++ e :: l2 → e.2.1 = 3 → e.2.2.1 = 1 → ∀ x, vl[vcn l1]? = some x → x.1 = 0 ∧ x.2.1 = 1
/-- a text's names and numbers are sound -/
def GaO (γ : gW9) : Prop := NqO γ.1 γ.2.2.1 (γ.2.2.2.2.1 - 1) ∧ NmO γ.1 γ.2.1 γ.2.2.2.1 γ.2.2.2.2.1 (γ.2.2.2.2.1 - 1) γ.2.2.2.2.2.1 ∧ VlO γ.2.2.2.2.2.1 γ.2.2.2.2.2.2.1
section PNO
theorem vlo_get {nms : List nm9} {vl : List (Int × Int × Int)} (h : VlO nms vl) {l1 l2 : List nm9} {e : nm9} (he : nms = l1 ++ e :: l2) (h3 : e.2.1 = 3) : ∃ x, vl[vcn l1]? = some x ∧ vl.getD (vcn l1) (0, 0, 0) = x ∧ (x.1.natAbs ≤ 999999999 ∧ x.2.1.natAbs ≤ 999999999) ∧ (x.1 ≤ x.2.2 ∧ x.2.2 ≤ x.2.1) ∧ (e.2.2.1 = 1 → x.1 = 0 ∧ x.2.1 = 1) := by
  have e9 : vcn (e :: l2) = vcn l2 + 1 := by
    show vcn l2 + (if e.2.1 = 3 then 1 else 0) = _
    rw [if_pos h3]
  have lt : vcn l1 < vl.length := by
    rw [h.1, he, vcn_app, e9]
    omega
  have hx := List.getElem?_eq_getElem lt
  obtain ⟨h2, h4⟩ := h.2.1 _ _ hx
  exact ⟨_, hx, by rw [List.getD_eq_getElem?_getD, hx]; rfl, h2, h4, fun u => h.2.2 l1 e l2 he h3 u _ hx⟩
theorem vlo_vr {nms : List nm9} {vl : List (Int × Int × Int)} (h : VlO nms vl) : VrO nms (fun v => (vl.getD v (0, 0, 0)).1) (fun v => (vl.getD v (0, 0, 0)).2.1) := fun l1 e l2 he h3 => by
  obtain ⟨x, -, hd, h1, -, h4⟩ := vlo_get h he h3
  show ((vl.getD (vcn l1) (0, 0, 0)).1.natAbs ≤ 999999999 ∧ (vl.getD (vcn l1) (0, 0, 0)).2.1.natAbs ≤ 999999999) ∧ (e.2.2.1 = 1 → (vl.getD (vcn l1) (0, 0, 0)).1 = 0 ∧ (vl.getD (vcn l1) (0, 0, 0)).2.1 = 1)
  rw [hd]
  exact ⟨h1, h4⟩
theorem vlo_s0 {nms : List nm9} {vl : List (Int × Int × Int)} (h : VlO nms vl) : SgO (fun v => (vl.map (fun x : Int × Int × Int => x.2.2)).getD v 0) nms := fun l1 e l2 he h3 => by
  obtain ⟨x, hx, -, h1, h2, h4⟩ := vlo_get h he h3
  have e0 : (vl.map (fun x : Int × Int × Int => x.2.2)).getD (vcn l1) 0 = x.2.2 := by
    rw [List.getD_eq_getElem?_getD, List.getElem?_map, hx]
    rfl
  show ((vl.map (fun x : Int × Int × Int => x.2.2)).getD (vcn l1) 0).natAbs ≤ 999999999 ∧ (e.2.2.1 = 1 → (vl.map (fun x : Int × Int × Int => x.2.2)).getD (vcn l1) 0 = 0 ∨ (vl.map (fun x : Int × Int × Int => x.2.2)).getD (vcn l1) 0 = 1)
  rw [e0]
  exact ⟨by omega, fun u => by have := h4 u; omega⟩
/-- the reference's draft: its vars are sound -/
theorem vlo_dg {M : mM} {a g K R W C Z T : Nat} {E : Eg9} {tg : Int} (hD : Dg M g R W C Z T E tg) (hS : RSq M a g K E.2.2.2.2.2.2.1) : VlO E.2.2.2.2.2.2.1 E.2.2.2.2.2.2.2.1 := by
  obtain ⟨-, -, -, hV, -, -, -, ⟨hr, hw⟩, -, ⟨hv, hv'⟩, -⟩ := hD
  refine ⟨hv.trans hw.symm, fun v x hx => ?_, fun l1 e l2 he h3 h1 x hx => ?_⟩
  · have lt := (List.getElem?_eq_some_iff.mp hx).1
    obtain ⟨y1, y2, y3⟩ := hv' v x hx
    obtain ⟨-, z2, z3, z4, z5, -⟩ := hV v (by omega)
    rw [y1, y3] at z2
    rw [y2, y3] at z3
    rw [y1] at z4
    rw [y2] at z5
    exact ⟨⟨by omega, by omega⟩, z2, z3⟩
  · have lt := (List.getElem?_eq_some_iff.mp hx).1
    obtain ⟨y1, y2, y3⟩ := hv' _ x hx
    obtain ⟨z1, -⟩ := hV (vcn l1) (by omega)
    have ge : E.2.2.2.2.2.2.1[l1.length]? = some e := by
      rw [he, List.getElem?_append_right (Nat.le_refl _), Nat.sub_self]
      rfl
    have lq : l1.length < K := by
      rw [← hS.1]
      exact (List.getElem?_eq_some_iff.mp ge).1
    obtain ⟨e', q1, q2, q3, q4, q5, q6, q7⟩ := hS.2.1 l1.length lq
    rw [ge] at q1
    have ee : e = e' := Option.some.inj q1
    subst ee
    rw [if_pos h3] at q7
    have tk : E.2.2.2.2.2.2.1.take l1.length = l1 := by
      rw [he, List.take_left']
      rfl
    rw [tk] at q7
    have q33 : nt M (a + 87) l1.length = 3 := by
      rw [q3, h3]
      rfl
    rw [h1, if_pos q33, q7] at q5
    unfold tn at q5
    rw [if_pos (show (100 : Int) ≤ 100 + ((vcn l1 : Nat) : Int) by omega), show (100 + ((vcn l1 : Nat) : Int) - 100).toNat = vcn l1 by omega] at q5
    have := z1 (fun u => by rw [if_pos u] at q5; exact absurd q5 (by decide))
    rw [← y1, ← y2]
    exact this
end PNO
