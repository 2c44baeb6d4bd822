/-! The class's answer where it is not refused for the number of unknown states. -/
section NCQ
variable {T : xt9} {x : Int × List sc9} {s g cn cc bc k lo hi un : Nat} {M : mM} {r : Int}
theorem gm_iff {gr : Int} (h : ClT M s g cn T) (hx : T[k]? = some x) (h1 : mI M (s + 122) k = ((lo : Nat) : Int)) (h2 : mI M (s + 123) k = ((hi : Nat) : Int)) (hg : gmC M g lo hi gr) (g1 : 1 ≤ gr) : gmA9 x.2 gr := by
  obtain ⟨-, -, l, a3, a4, a5⟩ := h.2 k x hx
  have el : l = lo := by rw [h1] at a3; omega
  subst el
  have eh : hi = l + x.2.length := by rw [h2] at a4; omega
  subst eh
  refine ⟨g1, fun c hc => ?_, ?_⟩
  · obtain ⟨i, hi9⟩ := List.getElem?_of_mem hc
    have lt := lt_some hi9
    rw [← (a5 i c hi9).1]
    exact hg.1 (l + i) (by omega) (by omega)
  · rcases hg.2 with y | ⟨c, c1, c2, c3⟩
    · exact Or.inl y
    · have g9 := List.getElem?_eq_getElem (l := x.2) (i := c - l) (by omega)
      have e : l + (c - l) = c := by omega
      have q := (a5 (c - l) _ g9).1
      rw [e] at q
      exact Or.inr ⟨_, List.mem_of_getElem? g9, q.symm.trans c3⟩
theorem wsu_sm {f : Nat → Nat} : ∀ n, ((wsu f n : Nat) : Int) = sm (fun i => ((f i : Nat) : Int)) n
  | 0 => rfl
  | n + 1 => by
    show ((wsu f n + f n : Nat) : Int) = sm (fun i => ((f i : Nat) : Int)) n + ((f n : Nat) : Int)
    rw [← wsu_sm n]
    omega
theorem cl_few {wt : Nat → Nat} (h : ClT M s g cn T) (hs : Slo M s un) (c5 : cn ≤ 512) (u40 : un ≤ 40) (hb : mkB M s g cn) (hm : smU M s cn un) (hn : noM M s g cn 0) (hk : ∀ i, i < un → ∃ k, mI M (s + 125) i = ((k : Nat) : Int) ∧ k < cn) (hw : ∀ i, i < un → weC M s g i (wt i)) (hr : (480 < ((wsu wt un : Nat) : Int) ∧ r = 6) ∨ (((wsu wt un : Nat) : Int) ≤ 480 ∧ r = 0)) : svA9 T r := by
  have ex : ∀ k : Nat, ∃ v : Int, (mI M (s + 124) k = -1 → v = 0) ∧ (mI M (s + 124) k ≠ -1 → ∀ x, T[k]? = some x → weA9 x v) := fun k => by
    by_cases z : mI M (s + 124) k = -1
    · exact ⟨0, fun _ => rfl, fun u => absurd z u⟩
    by_cases lt : k < cn
    · obtain ⟨i, i1, i2⟩ := un_of hm lt z
      obtain ⟨k', lo, hi, gr, w1, w2, w3, w4, w5, w6⟩ := hw i i1
      have ek : k' = k := by rw [w1, Int.toNat_natCast] at i2; exact i2
      subst ek
      exact ⟨((wt i : Nat) : Int), fun u => absurd u z, fun _ x hx => ⟨gr, wt i, gm_iff h hx w2 w3 w4 w5, w6, rfl⟩⟩
    · exact ⟨0, fun u => absurd u z, fun _ x hx => absurd (by rw [← h.1]; exact lt_some hx) lt⟩
  obtain ⟨w, hw9⟩ := Classical.axiomOfChoice ex
  have es : sm (fun k => if mI M (s + 124) k = -1 then (0 : Int) else 1) cn = ((un : Nat) : Int) := by rw [← hm (fun _ => 1), sm_one]
  have ws : sm w cn = ((wsu wt un : Nat) : Int) := by
    have a : sm (fun k => if mI M (s + 124) k = -1 then 0 else w k) cn = sm w cn := sm_congr cn (fun k _ => by
      show (if mI M (s + 124) k = -1 then 0 else w k) = w k
      by_cases z : mI M (s + 124) k = -1
      · rw [if_pos z, (hw9 k).1 z]
      · rw [if_neg z])
    rw [wsu_sm, ← a, ← hm w]
    refine sm_congr un (fun i hi => ?_)
    obtain ⟨k', lo, hi', gr, w1, w2, w3, w4, w5, w6⟩ := hw i hi
    obtain ⟨k2, q1, q2⟩ := hk i hi
    have e2 : k2 = k' := by rw [w1] at q1; omega
    subst e2
    show w (mI M (s + 125) i).toNat = ((wt i : Nat) : Int)
    rw [w1, Int.toNat_natCast]
    obtain ⟨x, hx⟩ : ∃ x, T[k2]? = some x := ⟨_, List.getElem?_eq_getElem (by rw [h.1]; exact q2)⟩
    have nz : mI M (s + 124) k2 ≠ -1 := fun z => by
      have e := hm (fun j => if j = k2 then 1 else 0)
      have p := sm_ge (f := fun i => if (mI M (s + 125) i).toNat = k2 then (1 : Int) else 0) (k := i) (fun j => by
        show 0 ≤ (if (mI M (s + 125) j).toNat = k2 then (1 : Int) else 0)
        split <;> omega) un hi
      have p2 : (if (mI M (s + 125) i).toNat = k2 then (1 : Int) else 0) ≤ sm (fun i => if (mI M (s + 125) i).toNat = k2 then (1 : Int) else 0) un := p
      rw [w1, Int.toNat_natCast, if_pos rfl, e] at p2
      obtain ⟨j, j1, j2⟩ := sm_pos cn (show 0 < sm (fun k => if mI M (s + 124) k = -1 then 0 else if k = k2 then (1 : Int) else 0) cn by omega)
      refine j2 ?_
      show (if mI M (s + 124) j = -1 then 0 else if j = k2 then (1 : Int) else 0) = 0
      by_cases c9 : j = k2
      · rw [c9, if_pos z]
      · rw [if_neg c9]
        split <;> rfl
    exact ((hw9 k2).2 nz x hx).same ⟨gr, wt i, gm_iff h hx w2 w3 w4 w5, w6, rfl⟩
  refine ⟨_, _, cl_ls h hs c5 hb hn, cl_un h hb, Or.inr ⟨by rw [h.1, es]; omega, w, fun k x hx => ⟨fun u => ?_, fun u => ?_⟩, by rw [h.1, ws]; exact hr⟩⟩
  · refine (hw9 k).2 (fun z => ?_) x hx
    have u' : (if mI M (s + 124) k = -1 then (0 : Int) else 1) = 1 := u
    rw [if_pos z] at u'
    exact absurd u' (by decide)
  · refine (hw9 k).1 (Classical.byContradiction (fun z => ?_))
    have u' : (if mI M (s + 124) k = -1 then (0 : Int) else 1) = 0 := u
    rw [if_neg z] at u'
    exact absurd u' (by decide)
end NCQ
