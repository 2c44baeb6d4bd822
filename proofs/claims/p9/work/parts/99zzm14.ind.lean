section
/-! Induction over a rule's words; a rule of consts has a sound value. -/
section EIN
variable {w : Nat → Int}
/-- c = 0 a rule, c = 1 a list of rules -/
def Eoc (w : Nat → Int) (c i j : Nat) : Prop := (c = 0 ∧ Eo w 6 i j) ∨ (c = 1 ∧ Eo w 7 i j)
theorem Eo_ind {P : Nat → Nat → Nat → Prop}
    (ask : ∀ i m q j : Nat, lo w i j = (m : Int) → i ≤ m → m < j → m < q → q < j → w m = 32 → w q = 33 → clq w m j = q → Eo w 6 i m → Eo w 6 (m + 1) q → Eo w 6 (q + 1) j → P 0 i m → P 0 (m + 1) q → P 0 (q + 1) j → P 0 i j)
    (bin : ∀ i m j : Nat, lo w i j = (m : Int) → i ≤ m → m < j → (18 ≤ w m ∧ w m ≤ 30) → Eo w 6 i m → Eo w 6 (m + 1) j → P 0 i m → P 0 (m + 1) j → P 0 i j)
    (par : ∀ i j : Nat, lo w i j = -1 → i < j → w i = 36 → w (j - 1) = 37 → Eo w 6 (i + 1) (j - 1) → P 0 (i + 1) (j - 1) → P 0 i j)
    (pre : ∀ i j : Nat, lo w i j = -1 → i < j → (w i = 25 ∨ w i = 31) → Eo w 6 (i + 1) j → P 0 (i + 1) j → P 0 i j)
    (leaf : ∀ i : Nat, lo w i (i + 1) = -1 → (w i = 1 ∨ w i = 2 ∨ w i = 12 ∨ w i = 13) → P 0 i (i + 1))
    (lst : ∀ i j : Nat, lo w i j = -1 → i < j → (w i = 14 ∨ w i = 15) → w (j - 1) = 37 → Eo w 7 (i + 2) (j - 1) → P 1 (i + 2) (j - 1) → P 0 i j)
    (one : ∀ i j : Nat, i < j → lcq w i (j - i) = 0 → Eo w 6 i j → P 0 i j → P 1 i j)
    (more : ∀ i m j : Nat, i < j → i ≤ m → m < j → lcq w i (j - i) = m - i + 1 → w m = 35 → Eo w 7 i m → Eo w 6 (m + 1) j → P 1 i m → P 0 (m + 1) j → P 1 i j) : ∀ (n c i j : Nat), 2 * (j - i) + c ≤ n → Eoc w c i j → P c i j := by
  intro n
  induction n with
  | zero =>
    intro c i j hn h
    rcases h with ⟨-, h⟩ | ⟨-, h⟩
    · have := h.pr.1; omega
    · have := h.pr.1; omega
  | succ n ih =>
    intro c i j hn h
    rcases h with ⟨rfl, h⟩ | ⟨rfl, h⟩
    · have hij := h.pr.1
      rcases h.sp with ⟨m, q, a1, a2, a3, a4, a5, a6⟩ | ⟨m, a1, a2, a3, a4⟩ | ⟨a1, a2, a3, a4⟩ | ⟨a1, a2, a3⟩ | ⟨a1, a2, a3⟩ | ⟨a1, a2, a3, a4, a5⟩
      · have l1 := a4.pr.1
        have l2 := a5.pr.1
        have l3 := a6.pr.1
        exact ask i m q j a1 (by omega) (by omega) (by omega) (by omega) a2 a3 (clq_eo a5 a3 (by omega)) (a4.one (by omega)) a5 a6 (ih 0 i m (by omega) (Or.inl ⟨rfl, a4.one (by omega)⟩)) (ih 0 (m + 1) q (by omega) (Or.inl ⟨rfl, a5⟩)) (ih 0 (q + 1) j (by omega) (Or.inl ⟨rfl, a6⟩))
      · have l1 := a3.pr.1
        have l2 := a4.pr.1
        exact bin i m j a1 (by omega) (by omega) (by omega) a3 a4 (ih 0 i m (by omega) (Or.inl ⟨rfl, a3⟩)) (ih 0 (m + 1) j (by omega) (Or.inl ⟨rfl, a4⟩))
      · have l1 := a4.pr.1
        exact par i j a1 hij a2 a3 a4 (ih 0 (i + 1) (j - 1) (by omega) (Or.inl ⟨rfl, a4⟩))
      · have l1 := a3.pr.1
        exact pre i j a1 hij a2 a3 (ih 0 (i + 1) j (by omega) (Or.inl ⟨rfl, a3⟩))
      · subst a2
        exact leaf i a1 a3
      · have l1 := a5.pr.1
        exact lst i j a1 hij a2 a4 a5 (ih 1 (i + 2) (j - 1) (by omega) (Or.inr ⟨rfl, a5⟩))
    · have hij := h.pr.1
      rcases h.lst with h6 | ⟨m, a1, a2, a3⟩
      · exact one i j hij (lcq_eo h6 (by omega)) h6 (ih 0 i j (by omega) (Or.inl ⟨rfl, h6⟩))
      · have l1 := a2.pr.1
        have l2 := a3.pr.1
        exact more i m j hij (by omega) (by omega) (lcq_7 a2 a1 a3) a1 a2 a3 (ih 1 i m (by omega) (Or.inr ⟨rfl, a2⟩)) (ih 0 (m + 1) j (by omega) (Or.inl ⟨rfl, a3⟩))
theorem fst9_1 {a b : Int × Int} : (fst9 a b).1 = 0 ↔ a.1 = 0 ∧ b.1 = 0 := by
  unfold fst9
  by_cases c : a.1 = 0
  · rw [if_pos c]; exact ⟨fun h => ⟨c, h⟩, fun h => h.2⟩
  · rw [if_neg c]; exact ⟨fun h => absurd h c, fun h => h.1⟩
theorem kft_1 {p : Prop} {x : Int} : (kft p x).1 = 0 ↔ p := by
  unfold kft
  by_cases c : p
  · rw [if_pos c]; exact ⟨fun _ => c, fun _ => rfl⟩
  · rw [if_neg c]; exact ⟨fun h => absurd h (by simp), fun h => absurd h c⟩
end EIN
/-- a sound result: k = 1 a truth -/
def vgd (k : Int) (v : vrs) : Prop := (v.1 = 0 ∧ v.2.1.natAbs ≤ 999999999 ∧ (1 ≤ v.2.2 ∧ v.2.2 ≤ 999999999) ∧ Int.gcd v.2.1 v.2.2 = 1 ∧ (k = 1 → (v.2.1 = 0 ∨ v.2.1 = 1) ∧ v.2.2 = 1)) ∨ (6 ≤ v.1 ∧ v.1 ≤ 8)
section VGD
theorem vgd_01 {k : Int} : vgd k (0, 1, 1) ∧ vgd k (0, 0, 1) := ⟨Or.inl ⟨rfl, by decide, by decide, by decide, fun _ => ⟨Or.inr rfl, rfl⟩⟩, Or.inl ⟨rfl, by decide, by decide, by decide, fun _ => ⟨Or.inl rfl, rfl⟩⟩⟩
theorem vgd_st {a b p : Int} (hb : 1 ≤ b) : vgd 0 (vst a b p) := by
  unfold vst
  have g0 : 0 < (Int.gcd a b : Int) := by
    have : 0 < Int.gcd a b := Int.gcd_pos_of_ne_zero_right _ (by omega)
    omega
  have gb : (Int.gcd a b : Int) ∣ b := Int.gcd_dvd_right a b
  have b1 : 1 ≤ b / (Int.gcd a b : Int) := (Int.le_ediv_iff_mul_le g0).mpr (by rw [Int.one_mul]; exact Int.le_of_dvd (by omega) gb)
  have gg : Int.gcd (a / (Int.gcd a b : Int)) (b / (Int.gcd a b : Int)) = 1 := Int.gcd_ediv_gcd_ediv_gcd_of_ne_zero_right (by omega)
  split
  · exact Or.inr ⟨by simp, by simp⟩
  · refine Or.inl ⟨rfl, ?_, ⟨b1, ?_⟩, gg, fun k => absurd k (by decide)⟩
    · show (a / (Int.gcd a b : Int)).natAbs ≤ 999999999
      omega
    · show b / (Int.gcd a b : Int) ≤ 999999999
      omega
theorem vgd_tr {k : Int} {p : Prop} [Decidable p] : vgd k (vtr p) := by
  unfold vtr
  split
  · exact vgd_01.1
  · exact vgd_01.2
theorem vgd_op {x a b c d p k : Int} (hb : 1 ≤ b ∧ b ≤ 999999999) (hd : 1 ≤ d ∧ d ≤ 999999999) (ha : a.natAbs ≤ 999999999) (hc : c.natAbs ≤ 999999999) (hk : k = 1 → x < 24 ∨ 28 < x) : vgd k (vop x a b c d p) := by
  have k0 : ∀ {v : vrs}, (24 ≤ x ∧ x ≤ 28) → vgd 0 v → vgd k v := fun {v} hx h => h.imp (fun q => ⟨q.1, q.2.1, q.2.2.1, q.2.2.2.1, fun e => by have := hk e; omega⟩) id
  have bd : 1 ≤ b * d := Int.mul_pos (show 0 < b by omega) (show 0 < d by omega)
  unfold vop
  by_cases c1 : x = 24
  · rw [if_pos c1]; exact k0 (by omega) (vgd_st bd)
  rw [if_neg c1]
  by_cases c2 : x = 25
  · rw [if_pos c2]; exact k0 (by omega) (vgd_st bd)
  rw [if_neg c2]
  by_cases c3 : x = 26
  · rw [if_pos c3]; exact k0 (by omega) (vgd_st bd)
  rw [if_neg c3]
  by_cases c4 : x = 27
  · rw [if_pos c4]
    by_cases e0 : c = 0
    · rw [if_pos e0]; exact Or.inr ⟨by simp, by simp⟩
    rw [if_neg e0]
    by_cases e1 : 0 < c
    · rw [if_pos e1]
      exact k0 (by omega) (vgd_st (Int.mul_pos (show 0 < b by omega) e1))
    · rw [if_neg e1]
      refine k0 (by omega) (vgd_st ?_)
      have := Int.mul_pos (show 0 < b by omega) (show 0 < -c by omega)
      rw [Int.mul_neg] at this
      omega
  rw [if_neg c4]
  by_cases c5 : x = 28
  · rw [if_pos c5]
    by_cases e0 : b ≠ 1 ∨ d ≠ 1
    · rw [if_pos e0]; exact Or.inr ⟨by simp, by simp⟩
    rw [if_neg e0]
    by_cases e1 : c ≤ 0
    · rw [if_pos e1]; exact Or.inr ⟨by simp, by simp⟩
    · rw [if_neg e1]
      have m1 := Int.emod_nonneg a (show c ≠ 0 by omega)
      have m2 := Int.emod_lt_of_pos a (show 0 < c by omega)
      refine k0 (by omega) (Or.inl ⟨rfl, ?_, ⟨Int.le_refl _, by simp⟩, ?_, fun u => absurd u (by decide)⟩)
      · show (a % c).natAbs ≤ 999999999
        omega
      · show Int.gcd (a % c) 1 = 1
        exact Int.gcd_one_right _
  rw [if_neg c5]
  split
  · exact vgd_tr
  split
  · exact vgd_tr
  split
  · exact vgd_tr
  split
  · exact vgd_tr
  split
  · exact vgd_tr
  · exact vgd_tr
theorem vgd_bs {k x a b c d : Int} (h1 : vgd k (0, a, b)) (h2 : vgd k (0, c, d)) : vgd k (vbs x a b c d) := by
  unfold vbs
  split <;> split
  · exact h2
  · exact h1
  · exact h2
  · exact h1
theorem vgd.bd {k : Int} {v : vrs} {f : Int → Int → vrs} {k' : Int} (h : vgd k v) (hf : ∀ a b, v = (0, a, b) → vgd k (0, a, b) → vgd k' (f a b)) : vgd k' (vbd v f) := by
  unfold vbd
  by_cases c : v.1 = 0
  · rw [if_pos c]
    refine hf _ _ (by rw [← c]) ?_
    rw [show (0, v.2.1, v.2.2) = v by rw [← c]]
    exact h
  · rw [if_neg c]
    rcases h with h | h
    · exact absurd h.1 c
    · exact Or.inr h
theorem vgd.n0 {k : Int} {v : vrs} (h : vgd k v) (k' : Int) (hk : k' ≠ 1) : vgd k' v := h.imp (fun q => ⟨q.1, q.2.1, q.2.2.1, q.2.2.2.1, fun e => absurd e hk⟩) id
/-- the value of a rule of consts is sound -/
theorem vl_ok {w E pl : Nat → Int} {cv : Nat → vrs} (hlf : ∀ k, (w k = 1 ∨ w k = 2 ∨ w k = 12 ∨ w k = 13) → (w k = 1 → E k ≠ -1) → vgd (if w k = 12 ∨ w k = 13 ∨ (w k = 1 ∧ E k = 1) then 1 else 0) (cv k)) : ∀ (n c i j : Nat), 2 * (j - i) + c ≤ n → Eoc w c i j → (fl w E pl c i j).1 = 0 → (c = 1 → kdq w E 1 i j ≠ 1) → ∀ x, vgd (kdq w E c i j) (vlq w cv pl c x i j) := by
  have n0 : ∀ {i j : Nat}, (0 : Nat) = 1 → kdq w E 1 i j ≠ 1 := fun u => absurd u (by decide)
  refine Eo_ind (P := fun c i j => (fl w E pl c i j).1 = 0 → (c = 1 → kdq w E 1 i j ≠ 1) → ∀ x, vgd (kdq w E c i j) (vlq w cv pl c x i j)) ?_ ?_ ?_ ?_ ?_ ?_ ?_ ?_
  · intro i m q j h1 h2 h3 h4 h5 h6 h7 h8 _ _ _ i1 i2 i3 hf hz x
    rw [fl_ask h1 h2 h3 h6 h8, fst9_1, fst9_1, fst9_1, kft_1] at hf
    obtain ⟨⟨⟨f1, f2⟩, f3⟩, k1, k2⟩ := hf
    rw [kd_ask h1 h2 h3 h6 h8, vl_ask h1 h2 h3 h6 h8]
    refine (i1 f1 n0 0).bd (fun a b _ _ => ?_)
    split
    · exact i3 f3 n0 0
    · rw [← k2]; exact i2 f2 n0 0
  · intro i m j h1 h2 h3 h4 _ _ i1 i2 hf hz x
    rw [fl_bin h1 h2 h3 (by omega), fst9_1, fst9_1, kft_1] at hf
    obtain ⟨⟨f1, f2⟩, k1⟩ := hf
    rw [kd_bin h1 h2 h3 (by omega)]
    have t1 : (w m = 29 ∨ w m = 30) → kdq w E 0 i m = 1 ∧ kdq w E 0 (m + 1) j = 1 := fun u => by unfold okq at k1; rw [if_pos u] at k1; exact k1
    have tr : (w m = 29 ∨ w m = 30) → tru (w m) := fun u => by unfold tru; omega
    by_cases c1 : w m = 29
    · rw [vl_and h1 h2 h3 c1, if_pos (tr (Or.inl c1))]
      obtain ⟨k1, k2⟩ := t1 (Or.inl c1)
      rw [k1] at i1
      rw [k2] at i2
      refine (i1 f1 n0 0).bd (fun a b _ g => ?_)
      split
      · exact g
      · exact i2 f2 n0 0
    by_cases c2 : w m = 30
    · rw [vl_or h1 h2 h3 c2, if_pos (tr (Or.inr c2))]
      obtain ⟨k1, k2⟩ := t1 (Or.inr c2)
      rw [k1] at i1
      rw [k2] at i2
      refine (i1 f1 n0 0).bd (fun a b _ g => ?_)
      split
      · exact i2 f2 n0 0
      · exact g
    · rw [vl_bin h1 h2 h3 (by omega) c1 c2]
      refine (i1 f1 n0 0).bd (fun a b _ g1 => (i2 f2 n0 0).bd (fun e f _ g2 => ?_))
      rcases g1 with ⟨-, a1, a2, -⟩ | ⟨a1, -⟩
      · rcases g2 with ⟨-, b1, b2, -⟩ | ⟨b1, -⟩
        · refine vgd_op a2 b2 a1 b1 (fun u => ?_)
          split at u
          · rename_i tt
            unfold tru at tt
            omega
          · exact absurd u (by decide)
        · exact absurd b1 (by simp)
      · exact absurd a1 (by simp)
  · intro i j h1 h2 h3 _ _ i1 hf hz x
    rw [fl_par h1 h2 h3] at hf
    rw [kd_par h1 h2 h3, vl_par h1 h2 h3]
    exact i1 hf n0 0
  · intro i j h1 h2 h3 _ i1 hf hz x
    rcases h3 with h3 | h3
    · rw [fl_neg h1 h2 h3, fst9_1, kft_1] at hf
      rw [kd_num h1 h2 (Or.inl h3), vl_neg h1 h2 h3]
      refine (i1 hf.1 n0 0).bd (fun a b _ g => ?_)
      rcases g with ⟨-, a1, a2, a3, -⟩ | ⟨a1, -⟩
      · refine Or.inl ⟨rfl, ?_, a2, ?_, fun u => absurd u (by decide)⟩
        · show (-a).natAbs ≤ 999999999
          rw [Int.natAbs_neg]; exact a1
        · show Int.gcd (-a) b = 1
          rw [Int.neg_gcd]; exact a3
      · exact absurd a1 (by simp)
    · rw [fl_not h1 h2 h3, fst9_1, kft_1] at hf
      rw [kd_tru h1 h2 (Or.inl h3), vl_not h1 h2 h3]
      rw [hf.2] at i1
      refine (i1 hf.1 n0 0).bd (fun a b _ g => ?_)
      rcases g with ⟨-, -, -, -, a3⟩ | ⟨a1, -⟩
      · obtain ⟨a4, a5⟩ := a3 rfl
        have a4 : a = 0 ∨ a = 1 := a4
        have a5 : b = 1 := a5
        subst a5
        rcases a4 with rfl | rfl
        · exact vgd_01.1
        · exact vgd_01.2
      · exact absurd a1 (by simp)
  · intro i h1 h3 hf hz x
    rw [fl_leaf h1 (by omega) h3] at hf
    have hne : w i = 1 → E i ≠ -1 := fun a b => by rw [if_pos ⟨a, b⟩] at hf; exact absurd hf (by simp)
    have hl := hlf i h3 hne
    rw [vl_leaf h1 (by omega) h3]
    rcases h3 with h3 | h3 | h3
    · rw [kd_nam h1 (by omega) h3]
      by_cases c : E i = 1
      · rw [if_pos (Or.inr (Or.inr ⟨h3, c⟩))] at hl
        rw [if_pos c]; exact hl
      · rw [if_neg (by omega)] at hl
        rw [if_neg c]; exact hl
    · rw [kd_num h1 (by omega) (Or.inr (Or.inl h3))]
      rw [if_neg (by omega)] at hl
      exact hl
    · rw [kd_tru h1 (by omega) (Or.inr h3)]
      rw [if_pos (by omega)] at hl
      exact hl
  · intro i j h1 h2 h3 _ _ i1 hf hz x
    rw [fl_lst h1 h2 h3, fst9_1, kft_1] at hf
    rw [kd_num h1 h2 (Or.inr (Or.inr h3)), vl_lst h1 h2 h3]
    have := i1 hf.1 (fun _ => by rw [hf.2]; decide) (w i)
    rw [hf.2] at this
    exact this
  · intro i j h1 h2 _ i1 hf hz x
    rw [fl_l1 h1 h2] at hf
    rw [kd_l1 h1 h2, vl_l1 h1 h2]
    exact i1 hf n0 0
  · intro i m j h1 h2 h3 h4 h5 _ _ i1 i2 hf hz x
    rw [fl_ln h1 h4 h2, fst9_1] at hf
    rw [kd_ln h1 h4 h2, vl_ln h1 h4 h2]
    have c : ¬ (kdq w E 1 i m = 1 ∨ kdq w E 0 (m + 1) j = 1) := fun c => hz rfl (by rw [kd_ln h1 h4 h2, if_pos c])
    rw [if_neg c]
    exact ((i1 hf.1 (fun _ u => c (Or.inl u)) x).n0 0 (by decide)).bd (fun a b _ g1 => ((i2 hf.2 n0 0).n0 0 (by decide)).bd (fun e f _ g2 => vgd_bs g1 g2))
end VGD
end
section
/-! The class's machine, exactly: the steps of run. -/
section RUX
variable {G : mG} {d z m U Ab0 Be0 C0 t c p O P K L i pc tt : Nat} {M0 M : mM} {Q : Int → mM → Prop} {a b : Int}
/-- program and machine of a run -/
def Rnv (M0 : mM) (z m Ab0 Be0 p O P K L : Nat) : Prop := PK M0 z p O P K ∧ mR M0 m 0 = p ∧ Mpr M0 z m p O P Ab0 Be0 ∧ mI M0 p 2 = L ∧ L ≤ K ∧ L ≤ 16384
theorem run_num (hE : Rnv M0 z m Ab0 Be0 p O P K L) (hpc : pc < L) (hi : i < 1000000) (hM : MS M0 z m U Ab0 Be0 C0 M t c) (ht : t ≤ 16384) (o : mI M0 O pc = 3) (next : ∀ M', MS M0 z m U Ab0 Be0 C0 M' (t + 1) c → mtq m M M' → plq M M' m t → ptq M' m t (mI M0 P pc) 1 → h_Ma_run_14 G (d + 3) m ((pc + 1 : Nat) : Int) ((i + 1 : Nat) : Int) M' Q) : h_Ma_run_14 G (d + 3) m (pc : Int) (i : Int) M Q := by
  obtain ⟨hp, hm0, ha, hL, hLK, hLn⟩ := hE
  obtain ⟨ok, k0, h8, kA, kB, tA, tB, bA, bB, hb, ⟨mA, mB⟩, ne⟩ := hM.pile
  obtain ⟨hp1, hr0, iO, iP, iT⟩ := hM.prog hp hm0 ha
  obtain ⟨pk, ⟨pr0, pr1⟩, ⟨kO, kP, nO, nP⟩, -, -, -, ⟨⟨-, -, -, p8, p9, -⟩, ⟨-, -, -, pk8, pk9, -⟩, ⟨-, -, -, pn8, pn9, -⟩⟩⟩ := id hp1
  have l2 : mI M p 2 = L := by rw [show p = p + 0 by omega, iT 0 (by omega)]; exact hL
  have no : ¬ ((1000000 : Int) ≤ (i : Int) ∨ ((pc : Int) < 0 ∨ mI M (mR M m 0) 2 ≤ (pc : Int))) := by rw [hr0, l2]; omega
  refine k_Ma_run_14 ok (i32s (by omega) (by omega)) ⟨by omega, by omega⟩ ⟨fun _ _ => ⟨k0, by rw [hr0]; exact pk⟩, fun y => absurd y no, fun _ => ?_⟩
  rw [hr0, pr0, pr1, p8, p9, pn8, pn9, nO, nP, iO, iP, Int.toNat_natCast, show ((i : Int) + 1) = ((i + 1 : Nat) : Int) by omega, show ((pc : Int) + 1) = ((pc + 1 : Nat) : Int) by omega]
  have i0 : i32 (mI M0 P pc) := by rw [← iP]; exact (ok _ _).1
  refine ⟨k0, pk, kO, by omega, kP, by omega, fun o0 => absurd o0 (by rw [o]; decide), fun _ => ⟨fun _ => (x_Ma_push hM ht i0 ⟨by omega, by omega⟩).mono (fun M' q => ⟨q.1.pile.1, next M' q.1 q.2.1 q.2.2.1 q.2.2.2⟩), fun o3 => absurd o o3⟩⟩
theorem run_cst {x : Nat} (hE : Rnv M0 z m Ab0 Be0 p O P K L) (hpc : pc < L) (hi : i < 1000000) (hM : MS M0 z m U Ab0 Be0 C0 M t c) (ht : t ≤ 16384) (o : mI M0 O pc = 4) (ox : mI M0 P pc = x) (hx : x < 60) (hv : 1 ≤ mI M0 (p + 7) x ∧ mI M0 (p + 7) x < 1000000000) (next : ∀ M', MS M0 z m U Ab0 Be0 C0 M' (t + 1) c → mtq m M M' → plq M M' m t → ptq M' m t (mI M0 (p + 6) x) (mI M0 (p + 7) x) → h_Ma_run_14 G (d + 3) m ((pc + 1 : Nat) : Int) ((i + 1 : Nat) : Int) M' Q) : h_Ma_run_14 G (d + 3) m (pc : Int) (i : Int) M Q := by
  obtain ⟨hp, hm0, ha, hL, hLK, hLn⟩ := hE
  obtain ⟨ok, k0, h8, kA, kB, tA, tB, bA, bB, hb, ⟨mA, mB⟩, ne⟩ := hM.pile
  obtain ⟨hp1, hr0, iO, iP, iT⟩ := hM.prog hp hm0 ha
  obtain ⟨pk, ⟨pr0, pr1⟩, ⟨kO, kP, nO, nP⟩, -, -, -, ⟨⟨-, -, -, p8, p9, -⟩, ⟨-, -, -, pk8, pk9, -⟩, ⟨-, -, -, pn8, pn9, -⟩⟩⟩ := id hp1
  have l2 : mI M p 2 = L := by rw [show p = p + 0 by omega, iT 0 (by omega)]; exact hL
  have no : ¬ ((1000000 : Int) ≤ (i : Int) ∨ ((pc : Int) < 0 ∨ mI M (mR M m 0) 2 ≤ (pc : Int))) := by rw [hr0, l2]; omega
  refine k_Ma_run_14 ok (i32s (by omega) (by omega)) ⟨by omega, by omega⟩ ⟨fun _ _ => ⟨k0, by rw [hr0]; exact pk⟩, fun y => absurd y no, fun _ => ?_⟩
  rw [hr0, pr0, pr1, p8, p9, pn8, pn9, nO, nP, iO, iP, Int.toNat_natCast, show ((i : Int) + 1) = ((i + 1 : Nat) : Int) by omega, show ((pc : Int) + 1) = ((pc + 1 : Nat) : Int) by omega]
  rw [ox, iT 6 (by omega), iT 7 (by omega), Int.toNat_natCast]
  have i0 : i32 (mI M0 (p + 6) x) := by rw [← iT 6 (by omega)]; exact (ok _ _).1
  refine ⟨k0, pk, kO, by omega, kP, by omega, fun o0 => absurd o0 (by rw [o]; decide), fun _ => ⟨fun o3 => absurd o3 (by rw [o]; decide), fun _ => ⟨fun _ => ⟨pk8, by omega, pk9, by omega, (x_Ma_push hM ht i0 hv).mono (fun M' q => ⟨q.1.pile.1, next M' q.1 q.2.1 q.2.2.1 q.2.2.2⟩)⟩, fun o4 => absurd o o4⟩⟩⟩
theorem run_jmp (hE : Rnv M0 z m Ab0 Be0 p O P K L) (hpc : pc < L) (hi : i < 1000000) (hM : MS M0 z m U Ab0 Be0 C0 M (t + 1) c) (o : mI M0 O pc = 30 ∨ mI M0 O pc = 31) (ot : mI M0 P pc = tt) (pt : ptq M m t a b) (yes : (mI M0 O pc = 30 ↔ a = 0) → ∀ M', MS M0 z m U Ab0 Be0 C0 M' (t + 1) c → mtq m M M' → plq M M' m (t + 1) → h_Ma_run_14 G (d + 3) m ((tt : Nat) : Int) ((i + 1 : Nat) : Int) M' Q) (nay : ¬ (mI M0 O pc = 30 ↔ a = 0) → ∀ M', MS M0 z m U Ab0 Be0 C0 M' t c → mtq m M M' → plq M M' m t → h_Ma_run_14 G (d + 3) m ((pc + 1 : Nat) : Int) ((i + 1 : Nat) : Int) M' Q) : h_Ma_run_14 G (d + 3) m (pc : Int) (i : Int) M Q := by
  obtain ⟨hp, hm0, ha, hL, hLK, hLn⟩ := hE
  obtain ⟨ok, k0, h8, kA, kB, tA, tB, bA, bB, hb, ⟨mA, mB⟩, ne⟩ := hM.pile
  obtain ⟨hp1, hr0, iO, iP, iT⟩ := hM.prog hp hm0 ha
  obtain ⟨pk, ⟨pr0, pr1⟩, ⟨kO, kP, nO, nP⟩, -, -, -, ⟨⟨-, -, -, p8, p9, -⟩, ⟨-, -, -, pk8, pk9, -⟩, ⟨-, -, -, pn8, pn9, -⟩⟩⟩ := id hp1
  have l2 : mI M p 2 = L := by rw [show p = p + 0 by omega, iT 0 (by omega)]; exact hL
  have no : ¬ ((1000000 : Int) ≤ (i : Int) ∨ ((pc : Int) < 0 ∨ mI M (mR M m 0) 2 ≤ (pc : Int))) := by rw [hr0, l2]; omega
  refine k_Ma_run_14 ok (i32s (by omega) (by omega)) ⟨by omega, by omega⟩ ⟨fun _ _ => ⟨k0, by rw [hr0]; exact pk⟩, fun y => absurd y no, fun _ => ?_⟩
  rw [hr0, pr0, pr1, p8, p9, pn8, pn9, nO, nP, iO, iP, Int.toNat_natCast, show ((i : Int) + 1) = ((i + 1 : Nat) : Int) by omega, show ((pc : Int) + 1) = ((pc + 1 : Nat) : Int) by omega]
  have q1 : Int.toNat (mI M m 8 - 1) = t := by omega
  rw [q1, pt.1, ot]
  refine ⟨k0, pk, kO, by omega, kP, by omega, fun o0 => absurd o0 (by omega), fun _ => ⟨fun o3 => absurd o3 (by omega), fun _ => ⟨fun o4 => absurd o4 (by omega), fun _ => ⟨fun o5 => absurd o5 (by omega), fun _ => ⟨fun o7 => absurd o7 (by omega), fun _ => ⟨fun _ => ⟨kA, by omega, fun v61 e61 v67 e67 v73 e73 v79 e79 v83 e83 => ?_⟩, fun o30 => absurd o o30⟩⟩⟩⟩⟩⟩
  have hv : v73 = 0 ↔ ¬ (mI M0 O pc = 30 ↔ a = 0) := by
    by_cases u : a = 0 <;> by_cases v : mI M0 O pc = 30 <;> simp only [u, v, if_true, if_false] at e61 e67 <;> subst e61 e67 <;> simp [u, v, e73]
  clear e73 e61 e67
  by_cases y : v73 = 0
  · rw [if_pos y] at e79 e83
    refine ⟨by rw [e83]; exact ⟨by omega, by omega⟩, fun M87 e87 => ?_⟩
    have w := ms_top (t' := t) hM (by omega) (by omega) e87
    rw [e79]
    exact nay (hv.mp y) M87 w.1 (mtq.fi w.2.2) (plq.fi w.2.2 ⟨mA, mB⟩)
  · rw [if_neg y] at e79 e83
    refine ⟨by rw [e83]; exact ⟨by omega, by omega⟩, fun M87 e87 => ?_⟩
    have w := ms_top (t' := t + 1) hM (by omega) (by omega) e87
    rw [e79]
    exact yes (Classical.byContradiction (fun u => y (hv.mpr u))) M87 w.1 (mtq.fi w.2.2) (plq.fi w.2.2 ⟨mA, mB⟩)
theorem run_ask (hE : Rnv M0 z m Ab0 Be0 p O P K L) (hpc : pc < L) (hi : i < 1000000) (hM : MS M0 z m U Ab0 Be0 C0 M (t + 1) c) (o : mI M0 O pc = 33) (ot : mI M0 P pc = tt) (pt : ptq M m t a b) (yes : a = 0 → ∀ M', MS M0 z m U Ab0 Be0 C0 M' t c → mtq m M M' → plq M M' m t → h_Ma_run_14 G (d + 3) m ((tt : Nat) : Int) ((i + 1 : Nat) : Int) M' Q) (nay : a ≠ 0 → ∀ M', MS M0 z m U Ab0 Be0 C0 M' t c → mtq m M M' → plq M M' m t → h_Ma_run_14 G (d + 3) m ((pc + 1 : Nat) : Int) ((i + 1 : Nat) : Int) M' Q) : h_Ma_run_14 G (d + 3) m (pc : Int) (i : Int) M Q := by
  obtain ⟨hp, hm0, ha, hL, hLK, hLn⟩ := hE
  obtain ⟨ok, k0, h8, kA, kB, tA, tB, bA, bB, hb, ⟨mA, mB⟩, ne⟩ := hM.pile
  obtain ⟨hp1, hr0, iO, iP, iT⟩ := hM.prog hp hm0 ha
  obtain ⟨pk, ⟨pr0, pr1⟩, ⟨kO, kP, nO, nP⟩, -, -, -, ⟨⟨-, -, -, p8, p9, -⟩, ⟨-, -, -, pk8, pk9, -⟩, ⟨-, -, -, pn8, pn9, -⟩⟩⟩ := id hp1
  have l2 : mI M p 2 = L := by rw [show p = p + 0 by omega, iT 0 (by omega)]; exact hL
  have no : ¬ ((1000000 : Int) ≤ (i : Int) ∨ ((pc : Int) < 0 ∨ mI M (mR M m 0) 2 ≤ (pc : Int))) := by rw [hr0, l2]; omega
  refine k_Ma_run_14 ok (i32s (by omega) (by omega)) ⟨by omega, by omega⟩ ⟨fun _ _ => ⟨k0, by rw [hr0]; exact pk⟩, fun y => absurd y no, fun _ => ?_⟩
  rw [hr0, pr0, pr1, p8, p9, pn8, pn9, nO, nP, iO, iP, Int.toNat_natCast, show ((i : Int) + 1) = ((i + 1 : Nat) : Int) by omega, show ((pc : Int) + 1) = ((pc + 1 : Nat) : Int) by omega]
  rw [ot]
  refine ⟨k0, pk, kO, by omega, kP, by omega, fun o0 => absurd o0 (by omega), fun _ => ⟨fun o3 => absurd o3 (by omega), fun _ => ⟨fun o4 => absurd o4 (by omega), fun _ => ⟨fun o5 => absurd o5 (by omega), fun _ => ⟨fun o7 => absurd o7 (by omega), fun _ => ⟨fun o30 => absurd o30 (by omega), fun _ => ⟨fun _ => ⟨⟨by omega, by omega⟩, fun M96 e96 => ?_⟩, fun o33 => absurd o o33⟩⟩⟩⟩⟩⟩⟩
  have w := ms_top (t' := t) hM (by omega) (by omega) e96
  have pq : plq M M96 m (t + 1) := plq.fi w.2.2 ⟨mA, mB⟩
  have pt' := pq.pt (by omega) pt
  obtain ⟨ok6, k06, h86, kA6, kB6, tA6, -⟩ := w.1.pile
  have lA : mN M96 (mR M96 m 6) = mN M (mR M m 6) := by rw [w.2.2.2.1, w.2.2.2.2.1]
  rw [h86, lA, Int.toNat_natCast, pt'.1]
  refine ⟨kA6, by omega, fun v101 e101 => ?_⟩
  by_cases y : a = 0
  · rw [if_pos y] at e101
    rw [e101]
    exact yes y M96 w.1 (mtq.fi w.2.2) (pq.mono (by omega))
  · rw [if_neg y] at e101
    rw [e101]
    exact nay y M96 w.1 (mtq.fi w.2.2) (pq.mono (by omega))
theorem run_els (hE : Rnv M0 z m Ab0 Be0 p O P K L) (hpc : pc < L) (hi : i < 1000000) (hM : MS M0 z m U Ab0 Be0 C0 M t c) (o : mI M0 O pc = 42) (ot : mI M0 P pc = tt) (next : h_Ma_run_14 G (d + 3) m ((tt : Nat) : Int) ((i + 1 : Nat) : Int) M Q) : h_Ma_run_14 G (d + 3) m (pc : Int) (i : Int) M Q := by
  obtain ⟨hp, hm0, ha, hL, hLK, hLn⟩ := hE
  obtain ⟨ok, k0, h8, kA, kB, tA, tB, bA, bB, hb, ⟨mA, mB⟩, ne⟩ := hM.pile
  obtain ⟨hp1, hr0, iO, iP, iT⟩ := hM.prog hp hm0 ha
  obtain ⟨pk, ⟨pr0, pr1⟩, ⟨kO, kP, nO, nP⟩, -, -, -, ⟨⟨-, -, -, p8, p9, -⟩, ⟨-, -, -, pk8, pk9, -⟩, ⟨-, -, -, pn8, pn9, -⟩⟩⟩ := id hp1
  have l2 : mI M p 2 = L := by rw [show p = p + 0 by omega, iT 0 (by omega)]; exact hL
  have no : ¬ ((1000000 : Int) ≤ (i : Int) ∨ ((pc : Int) < 0 ∨ mI M (mR M m 0) 2 ≤ (pc : Int))) := by rw [hr0, l2]; omega
  refine k_Ma_run_14 ok (i32s (by omega) (by omega)) ⟨by omega, by omega⟩ ⟨fun _ _ => ⟨k0, by rw [hr0]; exact pk⟩, fun y => absurd y no, fun _ => ?_⟩
  rw [hr0, pr0, pr1, p8, p9, pn8, pn9, nO, nP, iO, iP, Int.toNat_natCast, show ((i : Int) + 1) = ((i + 1 : Nat) : Int) by omega, show ((pc : Int) + 1) = ((pc + 1 : Nat) : Int) by omega]
  rw [ot]
  exact ⟨k0, pk, kO, by omega, kP, by omega, fun o0 => absurd o0 (by omega), fun _ => ⟨fun o3 => absurd o3 (by omega), fun _ => ⟨fun o4 => absurd o4 (by omega), fun _ => ⟨fun o5 => absurd o5 (by omega), fun _ => ⟨fun o7 => absurd o7 (by omega), fun _ => ⟨fun o30 => absurd o30 (by omega), fun _ => ⟨fun o33 => absurd o33 (by omega), fun _ => ⟨fun _ => next, fun o42 => absurd o o42⟩⟩⟩⟩⟩⟩⟩⟩
theorem run_cmp {v : vrs} {k : Nat} (hE : Rnv M0 z m Ab0 Be0 p O P K L) (hpc : pc < L) (hi : i < 1000000) (hM : MS M0 z m U Ab0 Be0 C0 M t c) (o : mI M0 O pc = 15 ∨ mI M0 O pc = 16 ∨ (19 ≤ mI M0 O pc ∧ mI M0 O pc ≤ 29) ∨ mI M0 O pc = 40 ∨ mI M0 O pc = 41) (hc : i32 (mI M0 O pc) → i32 (mI M0 P pc) → Ci G y_Ma_compute (d + 3) [vr m, vi (mI M0 O pc), vi (mI M0 P pc)] M (cpx M0 z m U Ab0 Be0 C0 M k c v)) (next : v.1 = 0 → ∀ M', MS M0 z m U Ab0 Be0 C0 M' (k + 1) c → mtq m M M' → plq M M' m k → ptq M' m k v.2.1 v.2.2 → h_Ma_run_14 G (d + 3) m ((pc + 1 : Nat) : Int) ((i + 1 : Nat) : Int) M' Q) (flt : v.1 ≠ 0 → ∀ M', mI M' m 1 = v.1 → mI M' m 2 = v.2.1 → (∃ t2, MS M0 z m U Ab0 Be0 C0 M' t2 c) → mtq m M M' → Q 0 M') : h_Ma_run_14 G (d + 3) m (pc : Int) (i : Int) M Q := by
  obtain ⟨hp, hm0, ha, hL, hLK, hLn⟩ := hE
  obtain ⟨ok, k0, h8, kA, kB, tA, tB, bA, bB, hb, ⟨mA, mB⟩, ne⟩ := hM.pile
  obtain ⟨hp1, hr0, iO, iP, iT⟩ := hM.prog hp hm0 ha
  obtain ⟨pk, ⟨pr0, pr1⟩, ⟨kO, kP, nO, nP⟩, -, -, -, ⟨⟨-, -, -, p8, p9, -⟩, ⟨-, -, -, pk8, pk9, -⟩, ⟨-, -, -, pn8, pn9, -⟩⟩⟩ := id hp1
  have l2 : mI M p 2 = L := by rw [show p = p + 0 by omega, iT 0 (by omega)]; exact hL
  have no : ¬ ((1000000 : Int) ≤ (i : Int) ∨ ((pc : Int) < 0 ∨ mI M (mR M m 0) 2 ≤ (pc : Int))) := by rw [hr0, l2]; omega
  refine k_Ma_run_14 ok (i32s (by omega) (by omega)) ⟨by omega, by omega⟩ ⟨fun _ _ => ⟨k0, by rw [hr0]; exact pk⟩, fun y => absurd y no, fun _ => ?_⟩
  rw [hr0, pr0, pr1, p8, p9, pn8, pn9, nO, nP, iO, iP, Int.toNat_natCast, show ((i : Int) + 1) = ((i + 1 : Nat) : Int) by omega, show ((pc : Int) + 1) = ((pc + 1 : Nat) : Int) by omega]
  have io : i32 (mI M0 O pc) := by rw [← iO]; exact (ok _ _).1
  have ix : i32 (mI M0 P pc) := by rw [← iP]; exact (ok _ _).1
  refine ⟨k0, pk, kO, by omega, kP, by omega, fun o0 => absurd o0 (by omega), fun _ => ⟨fun o3 => absurd o3 (by omega), fun _ => ⟨fun o4 => absurd o4 (by omega), fun _ => ⟨fun o5 => absurd o5 (by omega), fun _ => ⟨fun o7 => absurd o7 (by omega), fun _ => ⟨fun o30 => absurd o30 (by omega), fun _ => ⟨fun o33 => absurd o33 (by omega), fun _ => ⟨fun o42 => absurd o42 (by omega), fun _ => (hc io ix).mono (fun r M' q => ?_)⟩⟩⟩⟩⟩⟩⟩⟩
  obtain ⟨q1, q2⟩ := q
  rcases q1 with ⟨e1, w0, w1, w2, t2, w3⟩ | ⟨e1, w0, w1, w2, w3⟩
  · rw [e1]
    exact ⟨i32s (by omega) (by omega), w3.pile.1, fun _ => flt w0 M' w1 w2 ⟨t2, w3⟩ q2, fun u => absurd rfl u⟩
  · rw [e1]
    exact ⟨i32s (by omega) (by omega), w1.pile.1, fun u => absurd u (by decide), fun _ => next w0 M' w1 q2 w2 w3⟩
end RUX
end
