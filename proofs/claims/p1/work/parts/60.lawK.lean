theorem k1_41 : (Jvm.Cond.instantiable "ChanceArena" (19 : Nat)) ∈ lw_R := zR (zk_1 _ (List.mem_of_getElem? (i := 41) (by decide +kernel))) rfl
theorem k8_235 : (Jvm.Cond.instantiable "ChanceArenaModel" (49 : Nat)) ∈ lw_R := zR (zk_8 _ (List.mem_of_getElem? (i := 235) (by decide +kernel))) rfl
theorem law_K {s : State} {args : Array Value} (hg : ∀ w ∈ lw_R, w.before args s = true) : ∃ (D : va_G) (tA : Nat → ClassId), va_K D vwCl (zT tA) s := by
  have hc : ∀ k : Nat, ∃ (c : ClassId) (i : Nat → Nat), ∀ q : vw_C, vwCl[k]? = some q → u_Kn s q.1 q.2.1 q.2.2 c i := by
    intro k
    match k with
    | 0 =>
      obtain ⟨c, i, h⟩ := u_known (C := R_CA) (T := T_CA) (N := 19) (n := 19) hg i_CA (hg _ k1_41)
      exact ⟨c, i, fun q hq => by cases hq; exact h⟩
    | 1 =>
      obtain ⟨c, i, h⟩ := u_known (C := R_Wo) (T := T_Wo) (N := 6) (n := 6) hg i_Wo (hg _ k1_49)
      exact ⟨c, i, fun q hq => by cases hq; exact h⟩
    | 2 =>
      obtain ⟨c, i, h⟩ := u_known (C := R_TR) (T := T_TR) (N := 9) (n := 9) hg i_TR (hg _ k1_84)
      exact ⟨c, i, fun q hq => by cases hq; exact h⟩
    | 3 =>
      obtain ⟨c, i, h⟩ := u_known (C := R_RR) (T := T_RR) (N := 20) (n := 20) hg i_RR (hg _ k1_90)
      exact ⟨c, i, fun q hq => by cases hq; exact h⟩
    | 4 =>
      obtain ⟨c, i, h⟩ := u_known (C := R_Ma) (T := T_Ma) (N := 16) (n := 16) hg i_Ma (hg _ k1_164)
      exact ⟨c, i, fun q hq => by cases hq; exact h⟩
    | 5 =>
      obtain ⟨c, i, h⟩ := u_known (C := R_Pr) (T := T_Pr) (N := 20) (n := 20) hg i_Pr (hg _ k2_18)
      exact ⟨c, i, fun q hq => by cases hq; exact h⟩
    | 6 =>
      obtain ⟨c, i, h⟩ := u_known (C := R_Ga) (T := T_Ga) (N := 19) (n := 19) hg i_Ga (hg _ k2_127)
      exact ⟨c, i, fun q hq => by cases hq; exact h⟩
    | 7 =>
      obtain ⟨c, i, h⟩ := u_known (C := R_So) (T := T_So) (N := 18) (n := 18) hg i_So (hg _ k2_222)
      exact ⟨c, i, fun q hq => by cases hq; exact h⟩
    | 8 =>
      obtain ⟨c, i, h⟩ := u_known (C := R_Sc) (T := T_Sc) (N := 11) (n := 11) hg i_Sc (hg _ k2_228)
      exact ⟨c, i, fun q hq => by cases hq; exact h⟩
    | 9 =>
      obtain ⟨c, i, h⟩ := u_known (C := R_Na) (T := T_Na) (N := 2) (n := 2) hg i_Na (hg _ k2_234)
      exact ⟨c, i, fun q hq => by cases hq; exact h⟩
    | 10 =>
      obtain ⟨c, i, h⟩ := u_known (C := R_Fr) (T := T_Fr) (N := 3) (n := 3) hg i_Fr (hg _ k3_11)
      exact ⟨c, i, fun q hq => by cases hq; exact h⟩
    | 11 =>
      obtain ⟨c, i, h⟩ := u_known (C := R_Re) (T := T_Re) (N := 7) (n := 7) hg i_Re (hg _ k3_71)
      exact ⟨c, i, fun q hq => by cases hq; exact h⟩
    | 12 =>
      obtain ⟨c, i, h⟩ := u_known (C := R_Fs) (T := T_Fs) (N := 2) (n := 2) hg i_Fs (hg _ k3_164)
      exact ⟨c, i, fun q hq => by cases hq; exact h⟩
    | 13 =>
      obtain ⟨c, i, h⟩ := u_known (C := R_MM) (T := T_MM) (N := 49) (n := 49) hg i_MM (hg _ k8_235)
      exact ⟨c, i, fun q hq => by cases hq; exact h⟩
    | 14 =>
      obtain ⟨c, i, h⟩ := u_known (C := R_MN) (T := T_MN) (N := 2) (n := 2) hg i_MN (hg _ k9_1)
      exact ⟨c, i, fun q hq => by cases hq; exact h⟩
    | 15 =>
      obtain ⟨c, i, h⟩ := u_known (C := R_MG) (T := T_MG) (N := 30) (n := 30) hg i_MG (hg _ k9_17)
      exact ⟨c, i, fun q hq => by cases hq; exact h⟩
    | 16 =>
      obtain ⟨c, i, h⟩ := u_known (C := R_MS) (T := T_MS) (N := 32) (n := 32) hg i_MS (hg _ k9_146)
      exact ⟨c, i, fun q hq => by cases hq; exact h⟩
    | 17 =>
      obtain ⟨c, i, h⟩ := u_known (C := R_MU) (T := T_MU) (N := 7) (n := 7) hg i_MU (hg _ k9_152)
      exact ⟨c, i, fun q hq => by cases hq; exact h⟩
    | 18 =>
      obtain ⟨c, i, h⟩ := u_known (C := R_MF) (T := T_MF) (N := 3) (n := 3) hg i_MF (hg _ k9_158)
      exact ⟨c, i, fun q hq => by cases hq; exact h⟩
    | 19 =>
      obtain ⟨c, i, h⟩ := u_known (C := R_MW) (T := T_MW) (N := 2) (n := 2) hg i_MW (hg _ k9_164)
      exact ⟨c, i, fun q hq => by cases hq; exact h⟩
    | k + 20 =>
      obtain ⟨c, i, -⟩ := u_known (C := R_CA) (T := T_CA) (N := 19) (n := 19) hg i_CA (hg _ k1_41)
      exact ⟨c, i, fun q hq => by simp [vwCl] at hq⟩
  obtain ⟨t0, h0⟩ := zAp (hg _ k1_82) (fun _ h => by cases h)
  obtain ⟨t1, h1⟩ := zAp (hg _ k1_162) (fun _ h => by cases h)
  obtain ⟨t2, h2⟩ := zAp (hg _ k1_81) (fun _ h => by cases h)
  obtain ⟨t3, h3⟩ := zAp (hg _ k3_35) (fun _ h => by cases h)
  obtain ⟨t4, h4⟩ := zAo (hg _ k3_77)
  obtain ⟨t5, h5⟩ := zAo (hg _ k3_170)
  obtain ⟨t6, h6⟩ := zAo (hg _ k9_222)
  refine ⟨(fun k => Classical.choose (hc k), fun k => Classical.choose (Classical.choose_spec (hc k))), fun k => match k with | 0 => t0 | 1 => t1 | 2 => t2 | 3 => t3 | 4 => t4 | 5 => t5 | _ => t6, fun k q hq => Classical.choose_spec (Classical.choose_spec (hc k)) q hq, ?_⟩
  intro k q hq
  match k, hq with
  | 0, hq => cases hq; exact h0
  | 1, hq => cases hq; exact h1
  | 2, hq => cases hq; exact h2
  | 3, hq => cases hq; exact h3
  | 4, hq => cases hq; exact h4
  | 5, hq => cases hq; exact h5
  | 6, hq => cases hq; exact h6
  | k + 7, hq => simp [zT] at hq
